theorem dX9_init_0 : decode cX9_init 0 = .ok (.aload_n 0, 1) := by decide +kernel
theorem dX9_init_1 : decode cX9_init 1 = .ok (.invokespecial 3, 3) := by decide +kernel
theorem dX9_init_4 : decode cX9_init 4 = .ok (.aload_n 0, 1) := by decide +kernel
theorem dX9_init_5 : decode cX9_init 5 = .ok (.sipush 917, 3) := by decide +kernel
theorem dX9_init_8 : decode cX9_init 8 = .ok (.newarray .int, 2) := by decide +kernel
theorem dX9_init_10 : decode cX9_init 10 = .ok (.putfield 9, 3) := by decide +kernel
theorem dX9_init_13 : decode cX9_init 13 = .ok (.aload_n 0, 1) := by decide +kernel
theorem dX9_init_14 : decode cX9_init 14 = .ok (.sipush 917, 3) := by decide +kernel
theorem dX9_init_17 : decode cX9_init 17 = .ok (.newarray .int, 2) := by decide +kernel
theorem dX9_init_19 : decode cX9_init 19 = .ok (.putfield 13, 3) := by decide +kernel
theorem dX9_init_22 : decode cX9_init 22 = .ok (.aload_n 0, 1) := by decide +kernel
theorem dX9_init_23 : decode cX9_init 23 = .ok (.sipush 917, 3) := by decide +kernel
theorem dX9_init_26 : decode cX9_init 26 = .ok (.newarray .int, 2) := by decide +kernel
theorem dX9_init_28 : decode cX9_init 28 = .ok (.putfield 16, 3) := by decide +kernel
theorem dX9_init_31 : decode cX9_init 31 = .ok (.aload_n 0, 1) := by decide +kernel
theorem dX9_init_32 : decode cX9_init 32 = .ok (.sipush 7336, 3) := by decide +kernel
theorem dX9_init_35 : decode cX9_init 35 = .ok (.newarray .int, 2) := by decide +kernel
theorem dX9_init_37 : decode cX9_init 37 = .ok (.putfield 19, 3) := by decide +kernel
theorem dX9_init_40 : decode cX9_init 40 = .ok (.aload_n 0, 1) := by decide +kernel
theorem dX9_init_41 : decode cX9_init 41 = .ok (.sipush 1834, 3) := by decide +kernel
theorem dX9_init_44 : decode cX9_init 44 = .ok (.newarray .int, 2) := by decide +kernel
theorem dX9_init_46 : decode cX9_init 46 = .ok (.putfield 22, 3) := by decide +kernel
theorem dX9_init_49 : decode cX9_init 49 = .ok (.aload_n 0, 1) := by decide +kernel
theorem dX9_init_50 : decode cX9_init 50 = .ok (.iconst 2, 1) := by decide +kernel
theorem dX9_init_51 : decode cX9_init 51 = .ok (.newarray .boolean, 2) := by decide +kernel
theorem dX9_init_53 : decode cX9_init 53 = .ok (.putfield 25, 3) := by decide +kernel
theorem dX9_init_56 : decode cX9_init 56 = .ok (.aload_n 0, 1) := by decide +kernel
theorem dX9_init_57 : decode cX9_init 57 = .ok (.getfield 9, 3) := by decide +kernel
theorem dX9_init_60 : decode cX9_init 60 = .ok (.iconst 0, 1) := by decide +kernel
theorem dX9_init_61 : decode cX9_init 61 = .ok (.iconst 4, 1) := by decide +kernel
theorem dX9_init_62 : decode cX9_init 62 = .ok (.iastore, 1) := by decide +kernel
theorem dX9_init_63 : decode cX9_init 63 = .ok (.aload_n 0, 1) := by decide +kernel
theorem dX9_init_64 : decode cX9_init 64 = .ok (.bipush 60, 2) := by decide +kernel
theorem dX9_init_66 : decode cX9_init 66 = .ok (.newarray .int, 2) := by decide +kernel
theorem dX9_init_68 : decode cX9_init 68 = .ok (.putfield 29, 3) := by decide +kernel
theorem dX9_init_71 : decode cX9_init 71 = .ok (.aload_n 0, 1) := by decide +kernel
theorem dX9_init_72 : decode cX9_init 72 = .ok (.bipush 60, 2) := by decide +kernel
theorem dX9_init_74 : decode cX9_init 74 = .ok (.newarray .boolean, 2) := by decide +kernel
theorem dX9_init_76 : decode cX9_init 76 = .ok (.putfield 32, 3) := by decide +kernel
theorem dX9_init_79 : decode cX9_init 79 = .ok (.aload_n 0, 1) := by decide +kernel
theorem dX9_init_80 : decode cX9_init 80 = .ok (.sipush 500, 3) := by decide +kernel
theorem dX9_init_83 : decode cX9_init 83 = .ok (.newarray .byte, 2) := by decide +kernel
theorem dX9_init_85 : decode cX9_init 85 = .ok (.putfield 35, 3) := by decide +kernel
theorem dX9_init_88 : decode cX9_init 88 = .ok (.aload_n 0, 1) := by decide +kernel
theorem dX9_init_89 : decode cX9_init 89 = .ok (.iconst (-1), 1) := by decide +kernel
theorem dX9_init_90 : decode cX9_init 90 = .ok (.putfield 39, 3) := by decide +kernel
theorem dX9_init_93 : decode cX9_init 93 = .ok (.aload_n 0, 1) := by decide +kernel
theorem dX9_init_94 : decode cX9_init 94 = .ok (.bipush 64, 2) := by decide +kernel
theorem dX9_init_96 : decode cX9_init 96 = .ok (.newarray .byte, 2) := by decide +kernel
theorem dX9_init_98 : decode cX9_init 98 = .ok (.putfield 43, 3) := by decide +kernel
theorem dX9_init_101 : decode cX9_init 101 = .ok (.return_, 1) := by decide +kernel
theorem dX9_thrown_0 : decode cX9_thrown 0 = .ok (.aload_n 0, 1) := by decide +kernel
theorem dX9_thrown_1 : decode cX9_thrown 1 = .ok (.getfield 46, 3) := by decide +kernel
theorem dX9_thrown_4 : decode cX9_thrown 4 = .ok (.ireturn, 1) := by decide +kernel
theorem dX9_throwsIf_0 : decode cX9_throwsIf 0 = .ok (.iload_n 1, 1) := by decide +kernel
theorem dX9_throwsIf_1 : decode cX9_throwsIf 1 = .ok (.ifCond .eq 15, 3) := by decide +kernel
theorem dX9_throwsIf_4 : decode cX9_throwsIf 4 = .ok (.aload_n 0, 1) := by decide +kernel
theorem dX9_throwsIf_5 : decode cX9_throwsIf 5 = .ok (.getfield 46, 3) := by decide +kernel
theorem dX9_throwsIf_8 : decode cX9_throwsIf 8 = .ok (.ifCond .ne 8, 3) := by decide +kernel
theorem dX9_throwsIf_11 : decode cX9_throwsIf 11 = .ok (.aload_n 0, 1) := by decide +kernel
theorem dX9_throwsIf_12 : decode cX9_throwsIf 12 = .ok (.iload_n 2, 1) := by decide +kernel
theorem dX9_throwsIf_13 : decode cX9_throwsIf 13 = .ok (.putfield 46, 3) := by decide +kernel
theorem dX9_throwsIf_16 : decode cX9_throwsIf 16 = .ok (.aload_n 0, 1) := by decide +kernel
theorem dX9_throwsIf_17 : decode cX9_throwsIf 17 = .ok (.getfield 46, 3) := by decide +kernel
theorem dX9_throwsIf_20 : decode cX9_throwsIf 20 = .ok (.ifCond .eq 7, 3) := by decide +kernel
theorem dX9_throwsIf_23 : decode cX9_throwsIf 23 = .ok (.iconst 1, 1) := by decide +kernel
theorem dX9_throwsIf_24 : decode cX9_throwsIf 24 = .ok (.goto 4, 3) := by decide +kernel
theorem dX9_throwsIf_27 : decode cX9_throwsIf 27 = .ok (.iconst 0, 1) := by decide +kernel
theorem dX9_throwsIf_28 : decode cX9_throwsIf 28 = .ok (.ireturn, 1) := by decide +kernel
theorem dX9_in_0 : decode cX9_in 0 = .ok (.lload_n 0, 1) := by decide +kernel
theorem dX9_in_1 : decode cX9_in 1 = .ok (.lload_n 2, 1) := by decide +kernel
theorem dX9_in_2 : decode cX9_in 2 = .ok (.lcmp, 1) := by decide +kernel
theorem dX9_in_3 : decode cX9_in 3 = .ok (.ifCond .lt 14, 3) := by decide +kernel
theorem dX9_in_6 : decode cX9_in 6 = .ok (.lload_n 0, 1) := by decide +kernel
theorem dX9_in_7 : decode cX9_in 7 = .ok (.lload 4, 2) := by decide +kernel
theorem dX9_in_9 : decode cX9_in 9 = .ok (.lcmp, 1) := by decide +kernel
theorem dX9_in_10 : decode cX9_in 10 = .ok (.ifCond .gt 7, 3) := by decide +kernel
theorem dX9_in_13 : decode cX9_in 13 = .ok (.iconst 1, 1) := by decide +kernel
theorem dX9_in_14 : decode cX9_in 14 = .ok (.goto 4, 3) := by decide +kernel
theorem dX9_in_17 : decode cX9_in 17 = .ok (.iconst 0, 1) := by decide +kernel
theorem dX9_in_18 : decode cX9_in 18 = .ok (.ireturn, 1) := by decide +kernel
theorem dX9_wide_0 : decode cX9_wide 0 = .ok (.aload_n 0, 1) := by decide +kernel
theorem dX9_wide_1 : decode cX9_wide 1 = .ok (.getfield 9, 3) := by decide +kernel
theorem dX9_wide_4 : decode cX9_wide 4 = .ok (.iconst 0, 1) := by decide +kernel
theorem dX9_wide_5 : decode cX9_wide 5 = .ok (.iaload, 1) := by decide +kernel
theorem dX9_wide_6 : decode cX9_wide 6 = .ok (.ireturn, 1) := by decide +kernel
theorem dX9_many_0 : decode cX9_many 0 = .ok (.aload_n 0, 1) := by decide +kernel
theorem dX9_many_1 : decode cX9_many 1 = .ok (.getfield 9, 3) := by decide +kernel
theorem dX9_many_4 : decode cX9_many 4 = .ok (.iconst 1, 1) := by decide +kernel
theorem dX9_many_5 : decode cX9_many 5 = .ok (.iaload, 1) := by decide +kernel
theorem dX9_many_6 : decode cX9_many 6 = .ok (.ireturn, 1) := by decide +kernel
theorem dX9_sign_0 : decode cX9_sign 0 = .ok (.aload_n 0, 1) := by decide +kernel
theorem dX9_sign_1 : decode cX9_sign 1 = .ok (.getfield 9, 3) := by decide +kernel
theorem dX9_sign_4 : decode cX9_sign 4 = .ok (.iconst 2, 1) := by decide +kernel
theorem dX9_sign_5 : decode cX9_sign 5 = .ok (.iload_n 1, 1) := by decide +kernel
theorem dX9_sign_6 : decode cX9_sign 6 = .ok (.bipush 12, 2) := by decide +kernel
theorem dX9_sign_8 : decode cX9_sign 8 = .ok (.imul, 1) := by decide +kernel
theorem dX9_sign_9 : decode cX9_sign 9 = .ok (.iadd, 1) := by decide +kernel
theorem dX9_sign_10 : decode cX9_sign 10 = .ok (.iload_n 2, 1) := by decide +kernel
theorem dX9_sign_11 : decode cX9_sign 11 = .ok (.iadd, 1) := by decide +kernel
theorem dX9_sign_12 : decode cX9_sign 12 = .ok (.iaload, 1) := by decide +kernel
theorem dX9_sign_13 : decode cX9_sign 13 = .ok (.ireturn, 1) := by decide +kernel
theorem dX9_puts_0 : decode cX9_puts 0 = .ok (.aload_n 0, 1) := by decide +kernel
theorem dX9_puts_1 : decode cX9_puts 1 = .ok (.getfield 9, 3) := by decide +kernel
theorem dX9_puts_4 : decode cX9_puts 4 = .ok (.iconst 2, 1) := by decide +kernel
theorem dX9_puts_5 : decode cX9_puts 5 = .ok (.iload_n 1, 1) := by decide +kernel
theorem dX9_puts_6 : decode cX9_puts 6 = .ok (.bipush 12, 2) := by decide +kernel
theorem dX9_puts_8 : decode cX9_puts 8 = .ok (.imul, 1) := by decide +kernel
theorem dX9_puts_9 : decode cX9_puts 9 = .ok (.iadd, 1) := by decide +kernel
theorem dX9_puts_10 : decode cX9_puts 10 = .ok (.iload_n 2, 1) := by decide +kernel
theorem dX9_puts_11 : decode cX9_puts 11 = .ok (.iadd, 1) := by decide +kernel
theorem dX9_puts_12 : decode cX9_puts 12 = .ok (.iload_n 3, 1) := by decide +kernel
theorem dX9_puts_13 : decode cX9_puts 13 = .ok (.iastore, 1) := by decide +kernel
theorem dX9_puts_14 : decode cX9_puts 14 = .ok (.return_, 1) := by decide +kernel
theorem dX9_copies_0 : decode cX9_copies 0 = .ok (.iconst 0, 1) := by decide +kernel
theorem dX9_copies_1 : decode cX9_copies 1 = .ok (.istore 4, 2) := by decide +kernel
theorem dX9_copies_3 : decode cX9_copies 3 = .ok (.iload 4, 2) := by decide +kernel
theorem dX9_copies_5 : decode cX9_copies 5 = .ok (.sipush 917, 3) := by decide +kernel
theorem dX9_copies_8 : decode cX9_copies 8 = .ok (.if_icmp .ge 29, 3) := by decide +kernel
theorem dX9_copies_11 : decode cX9_copies 11 = .ok (.aload_n 2, 1) := by decide +kernel
theorem dX9_copies_12 : decode cX9_copies 12 = .ok (.iload_n 3, 1) := by decide +kernel
theorem dX9_copies_13 : decode cX9_copies 13 = .ok (.sipush 917, 3) := by decide +kernel
theorem dX9_copies_16 : decode cX9_copies 16 = .ok (.imul, 1) := by decide +kernel
theorem dX9_copies_17 : decode cX9_copies 17 = .ok (.iload 4, 2) := by decide +kernel
theorem dX9_copies_19 : decode cX9_copies 19 = .ok (.iadd, 1) := by decide +kernel
theorem dX9_copies_20 : decode cX9_copies 20 = .ok (.aload_n 0, 1) := by decide +kernel
theorem dX9_copies_21 : decode cX9_copies 21 = .ok (.iload_n 1, 1) := by decide +kernel
theorem dX9_copies_22 : decode cX9_copies 22 = .ok (.sipush 917, 3) := by decide +kernel
theorem dX9_copies_25 : decode cX9_copies 25 = .ok (.imul, 1) := by decide +kernel
theorem dX9_copies_26 : decode cX9_copies 26 = .ok (.iload 4, 2) := by decide +kernel
theorem dX9_copies_28 : decode cX9_copies 28 = .ok (.iadd, 1) := by decide +kernel
theorem dX9_copies_29 : decode cX9_copies 29 = .ok (.iaload, 1) := by decide +kernel
theorem dX9_copies_30 : decode cX9_copies 30 = .ok (.iastore, 1) := by decide +kernel
theorem dX9_copies_31 : decode cX9_copies 31 = .ok (.iinc 4 1, 3) := by decide +kernel
theorem dX9_copies_34 : decode cX9_copies 34 = .ok (.goto (-31), 3) := by decide +kernel
theorem dX9_copies_37 : decode cX9_copies 37 = .ok (.return_, 1) := by decide +kernel
set_option maxRecDepth 20000 in
theorem ggX9_keeps_X9_copies : GoodIn wsX9_keeps wsX9_copies := goodIn_r _ [6] rfl (by decide +kernel)
set_option maxRecDepth 20000 in
theorem gX9_keeps_X9_copies : GoodIn wsX9_keeps (va_wsS RX9 49 yX9_copies wsX9_copies) := goodIn_app (goodIn_r _ [3, 4, 5] rfl (by decide +kernel)) ggX9_keeps_X9_copies
theorem dX9_keeps_0 : decode cX9_keeps 0 = .ok (.aload_n 0, 1) := by decide +kernel
theorem dX9_keeps_1 : decode cX9_keeps 1 = .ok (.getfield 9, 3) := by decide +kernel
theorem dX9_keeps_4 : decode cX9_keeps 4 = .ok (.iconst 0, 1) := by decide +kernel
theorem dX9_keeps_5 : decode cX9_keeps 5 = .ok (.aload_n 0, 1) := by decide +kernel
theorem dX9_keeps_6 : decode cX9_keeps 6 = .ok (.getfield 13, 3) := by decide +kernel
theorem dX9_keeps_9 : decode cX9_keeps 9 = .ok (.iconst 0, 1) := by decide +kernel
theorem dX9_keeps_10 : decode cX9_keeps 10 = .ok (.invokestatic 49, 3) := by decide +kernel
theorem dX9_keeps_13 : decode cX9_keeps 13 = .ok (.return_, 1) := by decide +kernel
set_option maxRecDepth 20000 in
theorem ggX9_records_X9_copies : GoodIn wsX9_records wsX9_copies := goodIn_r _ [7] rfl (by decide +kernel)
set_option maxRecDepth 20000 in
theorem gX9_records_X9_copies : GoodIn wsX9_records (va_wsS RX9 49 yX9_copies wsX9_copies) := goodIn_app (goodIn_r _ [4, 5, 6] rfl (by decide +kernel)) ggX9_records_X9_copies
theorem dX9_records_0 : decode cX9_records 0 = .ok (.aload_n 0, 1) := by decide +kernel
theorem dX9_records_1 : decode cX9_records 1 = .ok (.getfield 53, 3) := by decide +kernel
theorem dX9_records_4 : decode cX9_records 4 = .ok (.bipush 8, 2) := by decide +kernel
theorem dX9_records_6 : decode cX9_records 6 = .ok (.if_icmp .ne 42, 3) := by decide +kernel
theorem dX9_records_9 : decode cX9_records 9 = .ok (.iconst 1, 1) := by decide +kernel
theorem dX9_records_10 : decode cX9_records 10 = .ok (.istore_n 2, 1) := by decide +kernel
theorem dX9_records_11 : decode cX9_records 11 = .ok (.iload_n 2, 1) := by decide +kernel
theorem dX9_records_12 : decode cX9_records 12 = .ok (.bipush 8, 2) := by decide +kernel
theorem dX9_records_14 : decode cX9_records 14 = .ok (.if_icmp .ge 24, 3) := by decide +kernel
theorem dX9_records_17 : decode cX9_records 17 = .ok (.aload_n 0, 1) := by decide +kernel
theorem dX9_records_18 : decode cX9_records 18 = .ok (.getfield 19, 3) := by decide +kernel
theorem dX9_records_21 : decode cX9_records 21 = .ok (.iload_n 2, 1) := by decide +kernel
theorem dX9_records_22 : decode cX9_records 22 = .ok (.aload_n 0, 1) := by decide +kernel
theorem dX9_records_23 : decode cX9_records 23 = .ok (.getfield 19, 3) := by decide +kernel
theorem dX9_records_26 : decode cX9_records 26 = .ok (.iload_n 2, 1) := by decide +kernel
theorem dX9_records_27 : decode cX9_records 27 = .ok (.iconst 1, 1) := by decide +kernel
theorem dX9_records_28 : decode cX9_records 28 = .ok (.isub, 1) := by decide +kernel
theorem dX9_records_29 : decode cX9_records 29 = .ok (.invokestatic 49, 3) := by decide +kernel
theorem dX9_records_32 : decode cX9_records 32 = .ok (.iinc 2 1, 3) := by decide +kernel
theorem dX9_records_35 : decode cX9_records 35 = .ok (.goto (-24), 3) := by decide +kernel
theorem dX9_records_38 : decode cX9_records 38 = .ok (.aload_n 0, 1) := by decide +kernel
theorem dX9_records_39 : decode cX9_records 39 = .ok (.dup, 1) := by decide +kernel
theorem dX9_records_40 : decode cX9_records 40 = .ok (.getfield 53, 3) := by decide +kernel
theorem dX9_records_43 : decode cX9_records 43 = .ok (.iconst 1, 1) := by decide +kernel
theorem dX9_records_44 : decode cX9_records 44 = .ok (.isub, 1) := by decide +kernel
theorem dX9_records_45 : decode cX9_records 45 = .ok (.putfield 53, 3) := by decide +kernel
theorem dX9_records_48 : decode cX9_records 48 = .ok (.aload_n 0, 1) := by decide +kernel
theorem dX9_records_49 : decode cX9_records 49 = .ok (.getfield 13, 3) := by decide +kernel
theorem dX9_records_52 : decode cX9_records 52 = .ok (.iconst 0, 1) := by decide +kernel
theorem dX9_records_53 : decode cX9_records 53 = .ok (.aload_n 0, 1) := by decide +kernel
theorem dX9_records_54 : decode cX9_records 54 = .ok (.getfield 19, 3) := by decide +kernel
theorem dX9_records_57 : decode cX9_records 57 = .ok (.aload_n 0, 1) := by decide +kernel
theorem dX9_records_58 : decode cX9_records 58 = .ok (.getfield 53, 3) := by decide +kernel
theorem dX9_records_61 : decode cX9_records 61 = .ok (.invokestatic 49, 3) := by decide +kernel
theorem dX9_records_64 : decode cX9_records 64 = .ok (.aload_n 0, 1) := by decide +kernel
theorem dX9_records_65 : decode cX9_records 65 = .ok (.dup, 1) := by decide +kernel
theorem dX9_records_66 : decode cX9_records 66 = .ok (.getfield 53, 3) := by decide +kernel
theorem dX9_records_69 : decode cX9_records 69 = .ok (.iconst 1, 1) := by decide +kernel
theorem dX9_records_70 : decode cX9_records 70 = .ok (.iadd, 1) := by decide +kernel
theorem dX9_records_71 : decode cX9_records 71 = .ok (.putfield 53, 3) := by decide +kernel
theorem dX9_records_74 : decode cX9_records 74 = .ok (.iload_n 1, 1) := by decide +kernel
theorem dX9_records_75 : decode cX9_records 75 = .ok (.ireturn, 1) := by decide +kernel
set_option maxRecDepth 20000 in
theorem ggX9_lays_X9_many : GoodIn wsX9_lays wsX9_many := goodIn_r _ [5, 6, 11, 12, 13, 14, 15, 16, 17, 18, 19, 20, 21, 22, 23, 24, 25, 26, 27, 28, 29, 30, 31, 32, 33, 34, 35, 36, 37] rfl (by decide +kernel)
set_option maxRecDepth 20000 in
theorem gX9_lays_X9_many : GoodIn wsX9_lays (wsV RX9 56 RX9 yX9_many wsX9_many) := goodIn_app (goodIn_r _ [1, 2, 3, 4] rfl (by decide +kernel)) ggX9_lays_X9_many
set_option maxRecDepth 20000 in
theorem ggX9_lays_X9_puts : GoodIn wsX9_lays wsX9_puts := goodIn_r _ [10, 6, 11, 12, 13, 14, 15, 16, 17, 18, 19, 20, 21, 22, 23, 24, 25, 26, 27, 28, 29, 30, 31, 32, 33, 34, 35, 36, 37] rfl (by decide +kernel)
set_option maxRecDepth 20000 in
theorem gX9_lays_X9_puts : GoodIn wsX9_lays (wsV RX9 60 RX9 yX9_puts wsX9_puts) := goodIn_app (goodIn_r _ [7, 8, 9, 4] rfl (by decide +kernel)) ggX9_lays_X9_puts
theorem dX9_lays_0 : decode cX9_lays 0 = .ok (.iconst 0, 1) := by decide +kernel
theorem dX9_lays_1 : decode cX9_lays 1 = .ok (.istore_n 3, 1) := by decide +kernel
theorem dX9_lays_2 : decode cX9_lays 2 = .ok (.iload_n 3, 1) := by decide +kernel
theorem dX9_lays_3 : decode cX9_lays 3 = .ok (.bipush 12, 2) := by decide +kernel
theorem dX9_lays_5 : decode cX9_lays 5 = .ok (.if_icmp .ge 49, 3) := by decide +kernel
theorem dX9_lays_8 : decode cX9_lays 8 = .ok (.iload_n 1, 1) := by decide +kernel
theorem dX9_lays_9 : decode cX9_lays 9 = .ok (.iload_n 3, 1) := by decide +kernel
theorem dX9_lays_10 : decode cX9_lays 10 = .ok (.ishr, 1) := by decide +kernel
theorem dX9_lays_11 : decode cX9_lays 11 = .ok (.iconst 1, 1) := by decide +kernel
theorem dX9_lays_12 : decode cX9_lays 12 = .ok (.iand, 1) := by decide +kernel
theorem dX9_lays_13 : decode cX9_lays 13 = .ok (.iconst 1, 1) := by decide +kernel
theorem dX9_lays_14 : decode cX9_lays 14 = .ok (.if_icmp .ne 7, 3) := by decide +kernel
theorem dX9_lays_17 : decode cX9_lays 17 = .ok (.iconst 1, 1) := by decide +kernel
theorem dX9_lays_18 : decode cX9_lays 18 = .ok (.goto 17, 3) := by decide +kernel
theorem dX9_lays_21 : decode cX9_lays 21 = .ok (.iload_n 2, 1) := by decide +kernel
theorem dX9_lays_22 : decode cX9_lays 22 = .ok (.iload_n 3, 1) := by decide +kernel
theorem dX9_lays_23 : decode cX9_lays 23 = .ok (.ishr, 1) := by decide +kernel
theorem dX9_lays_24 : decode cX9_lays 24 = .ok (.iconst 1, 1) := by decide +kernel
theorem dX9_lays_25 : decode cX9_lays 25 = .ok (.iand, 1) := by decide +kernel
theorem dX9_lays_26 : decode cX9_lays 26 = .ok (.iconst 1, 1) := by decide +kernel
theorem dX9_lays_27 : decode cX9_lays 27 = .ok (.if_icmp .ne 7, 3) := by decide +kernel
theorem dX9_lays_30 : decode cX9_lays 30 = .ok (.iconst 2, 1) := by decide +kernel
theorem dX9_lays_31 : decode cX9_lays 31 = .ok (.goto 4, 3) := by decide +kernel
theorem dX9_lays_34 : decode cX9_lays 34 = .ok (.iconst 0, 1) := by decide +kernel
theorem dX9_lays_35 : decode cX9_lays 35 = .ok (.istore 4, 2) := by decide +kernel
theorem dX9_lays_37 : decode cX9_lays 37 = .ok (.aload_n 0, 1) := by decide +kernel
theorem dX9_lays_38 : decode cX9_lays 38 = .ok (.aload_n 0, 1) := by decide +kernel
theorem dX9_lays_39 : decode cX9_lays 39 = .ok (.invokevirtual 56, 3) := by decide +kernel
theorem dX9_lays_42 : decode cX9_lays 42 = .ok (.iload_n 3, 1) := by decide +kernel
theorem dX9_lays_43 : decode cX9_lays 43 = .ok (.iload 4, 2) := by decide +kernel
theorem dX9_lays_45 : decode cX9_lays 45 = .ok (.invokevirtual 60, 3) := by decide +kernel
theorem dX9_lays_48 : decode cX9_lays 48 = .ok (.iinc 3 1, 3) := by decide +kernel
theorem dX9_lays_51 : decode cX9_lays 51 = .ok (.goto (-49), 3) := by decide +kernel
theorem dX9_lays_54 : decode cX9_lays 54 = .ok (.return_, 1) := by decide +kernel
set_option maxRecDepth 20000 in
theorem ggX9_adds_X9_many : GoodIn wsX9_adds wsX9_many := goodIn_r _ [6, 1, 7, 8, 9, 10, 11, 12, 13, 14, 15, 16, 17, 18, 19, 20, 21, 22, 23, 24, 25, 26, 27, 28, 29, 30, 31, 32, 33] rfl (by decide +kernel)
set_option maxRecDepth 20000 in
theorem gX9_adds_X9_many : GoodIn wsX9_adds (wsV RX9 56 RX9 yX9_many wsX9_many) := goodIn_app (goodIn_r _ [2, 3, 4, 5] rfl (by decide +kernel)) ggX9_adds_X9_many
theorem dX9_adds_0 : decode cX9_adds 0 = .ok (.aload_n 0, 1) := by decide +kernel
theorem dX9_adds_1 : decode cX9_adds 1 = .ok (.getfield 9, 3) := by decide +kernel
theorem dX9_adds_4 : decode cX9_adds 4 = .ok (.sipush 734, 3) := by decide +kernel
theorem dX9_adds_7 : decode cX9_adds 7 = .ok (.aload_n 0, 1) := by decide +kernel
theorem dX9_adds_8 : decode cX9_adds 8 = .ok (.invokevirtual 56, 3) := by decide +kernel
theorem dX9_adds_11 : decode cX9_adds 11 = .ok (.iadd, 1) := by decide +kernel
theorem dX9_adds_12 : decode cX9_adds 12 = .ok (.iload_n 1, 1) := by decide +kernel
theorem dX9_adds_13 : decode cX9_adds 13 = .ok (.iastore, 1) := by decide +kernel
theorem dX9_adds_14 : decode cX9_adds 14 = .ok (.aload_n 0, 1) := by decide +kernel
theorem dX9_adds_15 : decode cX9_adds 15 = .ok (.getfield 9, 3) := by decide +kernel
theorem dX9_adds_18 : decode cX9_adds 18 = .ok (.sipush 795, 3) := by decide +kernel
theorem dX9_adds_21 : decode cX9_adds 21 = .ok (.aload_n 0, 1) := by decide +kernel
theorem dX9_adds_22 : decode cX9_adds 22 = .ok (.invokevirtual 56, 3) := by decide +kernel
theorem dX9_adds_25 : decode cX9_adds 25 = .ok (.iadd, 1) := by decide +kernel
theorem dX9_adds_26 : decode cX9_adds 26 = .ok (.iload_n 2, 1) := by decide +kernel
theorem dX9_adds_27 : decode cX9_adds 27 = .ok (.iastore, 1) := by decide +kernel
theorem dX9_adds_28 : decode cX9_adds 28 = .ok (.aload_n 0, 1) := by decide +kernel
theorem dX9_adds_29 : decode cX9_adds 29 = .ok (.getfield 9, 3) := by decide +kernel
theorem dX9_adds_32 : decode cX9_adds 32 = .ok (.sipush 856, 3) := by decide +kernel
theorem dX9_adds_35 : decode cX9_adds 35 = .ok (.aload_n 0, 1) := by decide +kernel
theorem dX9_adds_36 : decode cX9_adds 36 = .ok (.invokevirtual 56, 3) := by decide +kernel
theorem dX9_adds_39 : decode cX9_adds 39 = .ok (.iadd, 1) := by decide +kernel
theorem dX9_adds_40 : decode cX9_adds 40 = .ok (.iload_n 3, 1) := by decide +kernel
theorem dX9_adds_41 : decode cX9_adds 41 = .ok (.iastore, 1) := by decide +kernel
theorem dX9_adds_42 : decode cX9_adds 42 = .ok (.aload_n 0, 1) := by decide +kernel
theorem dX9_adds_43 : decode cX9_adds 43 = .ok (.getfield 9, 3) := by decide +kernel
theorem dX9_adds_46 : decode cX9_adds 46 = .ok (.iconst 1, 1) := by decide +kernel
theorem dX9_adds_47 : decode cX9_adds 47 = .ok (.dup2, 1) := by decide +kernel
theorem dX9_adds_48 : decode cX9_adds 48 = .ok (.iaload, 1) := by decide +kernel
theorem dX9_adds_49 : decode cX9_adds 49 = .ok (.iconst 1, 1) := by decide +kernel
theorem dX9_adds_50 : decode cX9_adds 50 = .ok (.iadd, 1) := by decide +kernel
theorem dX9_adds_51 : decode cX9_adds 51 = .ok (.iastore, 1) := by decide +kernel
theorem dX9_adds_52 : decode cX9_adds 52 = .ok (.aload_n 0, 1) := by decide +kernel
theorem dX9_adds_53 : decode cX9_adds 53 = .ok (.invokevirtual 56, 3) := by decide +kernel
theorem dX9_adds_56 : decode cX9_adds 56 = .ok (.iconst 1, 1) := by decide +kernel
theorem dX9_adds_57 : decode cX9_adds 57 = .ok (.isub, 1) := by decide +kernel
theorem dX9_adds_58 : decode cX9_adds 58 = .ok (.ireturn, 1) := by decide +kernel
set_option maxRecDepth 20000 in
theorem ggX9_mask_X9_wide : GoodIn wsX9_mask wsX9_wide := goodIn_r _ [5, 6, 11, 12, 13, 14, 15, 16, 17, 18, 19, 20, 21, 22, 23, 24, 25, 26, 27, 28, 29, 30, 31, 32, 33, 34, 35, 36, 37] rfl (by decide +kernel)
set_option maxRecDepth 20000 in
theorem gX9_mask_X9_wide : GoodIn wsX9_mask (wsV RX9 64 RX9 yX9_wide wsX9_wide) := goodIn_app (goodIn_r _ [1, 2, 3, 4] rfl (by decide +kernel)) ggX9_mask_X9_wide
set_option maxRecDepth 20000 in
theorem ggX9_mask_X9_sign : GoodIn wsX9_mask wsX9_sign := goodIn_r _ [10, 6, 11, 12, 13, 14, 15, 16, 17, 18, 19, 20, 21, 22, 23, 24, 25, 26, 27, 28, 29, 30, 31, 32, 33, 34, 35, 36, 37] rfl (by decide +kernel)
set_option maxRecDepth 20000 in
theorem gX9_mask_X9_sign : GoodIn wsX9_mask (wsV RX9 67 RX9 yX9_sign wsX9_sign) := goodIn_app (goodIn_r _ [7, 8, 9, 4] rfl (by decide +kernel)) ggX9_mask_X9_sign
theorem dX9_mask_0 : decode cX9_mask 0 = .ok (.iconst 0, 1) := by decide +kernel
theorem dX9_mask_1 : decode cX9_mask 1 = .ok (.istore_n 3, 1) := by decide +kernel
theorem dX9_mask_2 : decode cX9_mask 2 = .ok (.iconst 0, 1) := by decide +kernel
theorem dX9_mask_3 : decode cX9_mask 3 = .ok (.istore 4, 2) := by decide +kernel
theorem dX9_mask_5 : decode cX9_mask 5 = .ok (.iload 4, 2) := by decide +kernel
theorem dX9_mask_7 : decode cX9_mask 7 = .ok (.aload_n 0, 1) := by decide +kernel
theorem dX9_mask_8 : decode cX9_mask 8 = .ok (.invokevirtual 64, 3) := by decide +kernel
theorem dX9_mask_11 : decode cX9_mask 11 = .ok (.if_icmp .ge 31, 3) := by decide +kernel
theorem dX9_mask_14 : decode cX9_mask 14 = .ok (.iload_n 3, 1) := by decide +kernel
theorem dX9_mask_15 : decode cX9_mask 15 = .ok (.aload_n 0, 1) := by decide +kernel
theorem dX9_mask_16 : decode cX9_mask 16 = .ok (.iload_n 1, 1) := by decide +kernel
theorem dX9_mask_17 : decode cX9_mask 17 = .ok (.iload 4, 2) := by decide +kernel
theorem dX9_mask_19 : decode cX9_mask 19 = .ok (.invokevirtual 67, 3) := by decide +kernel
theorem dX9_mask_22 : decode cX9_mask 22 = .ok (.iload_n 2, 1) := by decide +kernel
theorem dX9_mask_23 : decode cX9_mask 23 = .ok (.if_icmp .ne 10, 3) := by decide +kernel
theorem dX9_mask_26 : decode cX9_mask 26 = .ok (.iconst 1, 1) := by decide +kernel
theorem dX9_mask_27 : decode cX9_mask 27 = .ok (.iload 4, 2) := by decide +kernel
theorem dX9_mask_29 : decode cX9_mask 29 = .ok (.ishl, 1) := by decide +kernel
theorem dX9_mask_30 : decode cX9_mask 30 = .ok (.goto 4, 3) := by decide +kernel
theorem dX9_mask_33 : decode cX9_mask 33 = .ok (.iconst 0, 1) := by decide +kernel
theorem dX9_mask_34 : decode cX9_mask 34 = .ok (.ior, 1) := by decide +kernel
theorem dX9_mask_35 : decode cX9_mask 35 = .ok (.istore_n 3, 1) := by decide +kernel
theorem dX9_mask_36 : decode cX9_mask 36 = .ok (.iinc 4 1, 3) := by decide +kernel
theorem dX9_mask_39 : decode cX9_mask 39 = .ok (.goto (-34), 3) := by decide +kernel
theorem dX9_mask_42 : decode cX9_mask 42 = .ok (.iload_n 3, 1) := by decide +kernel
theorem dX9_mask_43 : decode cX9_mask 43 = .ok (.ireturn, 1) := by decide +kernel
set_option maxRecDepth 20000 in
theorem ggX9_literals_X9_wide : GoodIn wsX9_literals wsX9_wide := goodIn_r _ [5, 6, 11, 12, 13, 14, 15, 16, 17, 18, 19, 20, 21, 22, 23, 24, 25, 26, 27, 28, 29, 30, 31, 32, 33, 34, 35, 36, 37] rfl (by decide +kernel)
set_option maxRecDepth 20000 in
theorem gX9_literals_X9_wide : GoodIn wsX9_literals (wsV RX9 64 RX9 yX9_wide wsX9_wide) := goodIn_app (goodIn_r _ [1, 2, 3, 4] rfl (by decide +kernel)) ggX9_literals_X9_wide
set_option maxRecDepth 20000 in
theorem ggX9_literals_X9_sign : GoodIn wsX9_literals wsX9_sign := goodIn_r _ [10, 6, 11, 12, 13, 14, 15, 16, 17, 18, 19, 20, 21, 22, 23, 24, 25, 26, 27, 28, 29, 30, 31, 32, 33, 34, 35, 36, 37] rfl (by decide +kernel)
set_option maxRecDepth 20000 in
theorem gX9_literals_X9_sign : GoodIn wsX9_literals (wsV RX9 67 RX9 yX9_sign wsX9_sign) := goodIn_app (goodIn_r _ [7, 8, 9, 4] rfl (by decide +kernel)) ggX9_literals_X9_sign
theorem dX9_literals_0 : decode cX9_literals 0 = .ok (.iconst 0, 1) := by decide +kernel
theorem dX9_literals_1 : decode cX9_literals 1 = .ok (.istore_n 2, 1) := by decide +kernel
theorem dX9_literals_2 : decode cX9_literals 2 = .ok (.iconst 0, 1) := by decide +kernel
theorem dX9_literals_3 : decode cX9_literals 3 = .ok (.istore_n 3, 1) := by decide +kernel
theorem dX9_literals_4 : decode cX9_literals 4 = .ok (.iload_n 3, 1) := by decide +kernel
theorem dX9_literals_5 : decode cX9_literals 5 = .ok (.aload_n 0, 1) := by decide +kernel
theorem dX9_literals_6 : decode cX9_literals 6 = .ok (.invokevirtual 64, 3) := by decide +kernel
theorem dX9_literals_9 : decode cX9_literals 9 = .ok (.if_icmp .ge 26, 3) := by decide +kernel
theorem dX9_literals_12 : decode cX9_literals 12 = .ok (.iload_n 2, 1) := by decide +kernel
theorem dX9_literals_13 : decode cX9_literals 13 = .ok (.aload_n 0, 1) := by decide +kernel
theorem dX9_literals_14 : decode cX9_literals 14 = .ok (.iload_n 1, 1) := by decide +kernel
theorem dX9_literals_15 : decode cX9_literals 15 = .ok (.iload_n 3, 1) := by decide +kernel
theorem dX9_literals_16 : decode cX9_literals 16 = .ok (.invokevirtual 67, 3) := by decide +kernel
theorem dX9_literals_19 : decode cX9_literals 19 = .ok (.ifCond .ne 7, 3) := by decide +kernel
theorem dX9_literals_22 : decode cX9_literals 22 = .ok (.iconst 0, 1) := by decide +kernel
theorem dX9_literals_23 : decode cX9_literals 23 = .ok (.goto 4, 3) := by decide +kernel
theorem dX9_literals_26 : decode cX9_literals 26 = .ok (.iconst 1, 1) := by decide +kernel
theorem dX9_literals_27 : decode cX9_literals 27 = .ok (.iadd, 1) := by decide +kernel
theorem dX9_literals_28 : decode cX9_literals 28 = .ok (.istore_n 2, 1) := by decide +kernel
theorem dX9_literals_29 : decode cX9_literals 29 = .ok (.iinc 3 1, 3) := by decide +kernel
theorem dX9_literals_32 : decode cX9_literals 32 = .ok (.goto (-28), 3) := by decide +kernel
theorem dX9_literals_35 : decode cX9_literals 35 = .ok (.iload_n 2, 1) := by decide +kernel
theorem dX9_literals_36 : decode cX9_literals 36 = .ok (.ireturn, 1) := by decide +kernel
set_option maxRecDepth 20000 in
theorem ggX9_isWithin_X9_wide : GoodIn wsX9_isWithin wsX9_wide := goodIn_r _ [5, 6, 11, 12, 13, 14, 15, 16, 17, 18, 19, 20, 21, 22, 23, 24, 25, 26, 27, 28, 29, 30, 31, 32, 33, 34, 35, 36, 37] rfl (by decide +kernel)
set_option maxRecDepth 20000 in
theorem gX9_isWithin_X9_wide : GoodIn wsX9_isWithin (wsV RX9 64 RX9 yX9_wide wsX9_wide) := goodIn_app (goodIn_r _ [1, 2, 3, 4] rfl (by decide +kernel)) ggX9_isWithin_X9_wide
set_option maxRecDepth 20000 in
theorem ggX9_isWithin_X9_sign : GoodIn wsX9_isWithin wsX9_sign := goodIn_r _ [10, 6, 11, 12, 13, 14, 15, 16, 17, 18, 19, 20, 21, 22, 23, 24, 25, 26, 27, 28, 29, 30, 31, 32, 33, 34, 35, 36, 37] rfl (by decide +kernel)
set_option maxRecDepth 20000 in
theorem gX9_isWithin_X9_sign : GoodIn wsX9_isWithin (wsV RX9 67 RX9 yX9_sign wsX9_sign) := goodIn_app (goodIn_r _ [7, 8, 9, 4] rfl (by decide +kernel)) ggX9_isWithin_X9_sign
theorem dX9_isWithin_0 : decode cX9_isWithin 0 = .ok (.iconst 0, 1) := by decide +kernel
theorem dX9_isWithin_1 : decode cX9_isWithin 1 = .ok (.istore_n 3, 1) := by decide +kernel
theorem dX9_isWithin_2 : decode cX9_isWithin 2 = .ok (.iload_n 3, 1) := by decide +kernel
theorem dX9_isWithin_3 : decode cX9_isWithin 3 = .ok (.aload_n 0, 1) := by decide +kernel
theorem dX9_isWithin_4 : decode cX9_isWithin 4 = .ok (.invokevirtual 64, 3) := by decide +kernel
theorem dX9_isWithin_7 : decode cX9_isWithin 7 = .ok (.if_icmp .ge 35, 3) := by decide +kernel
theorem dX9_isWithin_10 : decode cX9_isWithin 10 = .ok (.aload_n 0, 1) := by decide +kernel
theorem dX9_isWithin_11 : decode cX9_isWithin 11 = .ok (.iload_n 1, 1) := by decide +kernel
theorem dX9_isWithin_12 : decode cX9_isWithin 12 = .ok (.iload_n 3, 1) := by decide +kernel
theorem dX9_isWithin_13 : decode cX9_isWithin 13 = .ok (.invokevirtual 67, 3) := by decide +kernel
theorem dX9_isWithin_16 : decode cX9_isWithin 16 = .ok (.ifCond .eq 20, 3) := by decide +kernel
theorem dX9_isWithin_19 : decode cX9_isWithin 19 = .ok (.aload_n 0, 1) := by decide +kernel
theorem dX9_isWithin_20 : decode cX9_isWithin 20 = .ok (.iload_n 1, 1) := by decide +kernel
theorem dX9_isWithin_21 : decode cX9_isWithin 21 = .ok (.iload_n 3, 1) := by decide +kernel
theorem dX9_isWithin_22 : decode cX9_isWithin 22 = .ok (.invokevirtual 67, 3) := by decide +kernel
theorem dX9_isWithin_25 : decode cX9_isWithin 25 = .ok (.aload_n 0, 1) := by decide +kernel
theorem dX9_isWithin_26 : decode cX9_isWithin 26 = .ok (.iload_n 2, 1) := by decide +kernel
theorem dX9_isWithin_27 : decode cX9_isWithin 27 = .ok (.iload_n 3, 1) := by decide +kernel
theorem dX9_isWithin_28 : decode cX9_isWithin 28 = .ok (.invokevirtual 67, 3) := by decide +kernel
theorem dX9_isWithin_31 : decode cX9_isWithin 31 = .ok (.if_icmp .eq 5, 3) := by decide +kernel
theorem dX9_isWithin_34 : decode cX9_isWithin 34 = .ok (.iconst 0, 1) := by decide +kernel
theorem dX9_isWithin_35 : decode cX9_isWithin 35 = .ok (.ireturn, 1) := by decide +kernel
theorem dX9_isWithin_36 : decode cX9_isWithin 36 = .ok (.iinc 3 1, 3) := by decide +kernel
theorem dX9_isWithin_39 : decode cX9_isWithin 39 = .ok (.goto (-37), 3) := by decide +kernel
theorem dX9_isWithin_42 : decode cX9_isWithin 42 = .ok (.iconst 1, 1) := by decide +kernel
theorem dX9_isWithin_43 : decode cX9_isWithin 43 = .ok (.ireturn, 1) := by decide +kernel
set_option maxRecDepth 20000 in
theorem ggX9_same_X9_many : GoodIn wsX9_same wsX9_many := goodIn_r _ [5, 6, 19, 20, 21, 22, 23, 24, 25, 26, 27, 28, 29, 30, 31, 32, 33, 34, 35, 36, 37, 38, 39, 40, 41, 42, 43, 44, 45] rfl (by decide +kernel)
set_option maxRecDepth 20000 in
theorem gX9_same_X9_many : GoodIn wsX9_same (wsV RX9 56 RX9 yX9_many wsX9_many) := goodIn_app (goodIn_r _ [1, 2, 3, 4] rfl (by decide +kernel)) ggX9_same_X9_many
set_option maxRecDepth 20000 in
theorem ggX9_same_X9_isWithin : GoodIn wsX9_same wsX9_isWithin := goodIn_r _ [10, 11, 12, 13, 4, 14, 6, 15, 16, 17, 18, 19, 20, 21, 22, 23, 24, 25, 26, 27, 28, 29, 30, 31, 32, 33, 34, 35, 36, 37, 38, 39, 40, 41, 42, 43, 44, 45] rfl (by decide +kernel)
set_option maxRecDepth 20000 in
theorem gX9_same_X9_isWithin : GoodIn wsX9_same (wsV RX9 71 RX9 yX9_isWithin wsX9_isWithin) := goodIn_app (goodIn_r _ [7, 8, 9, 4] rfl (by decide +kernel)) ggX9_same_X9_isWithin
theorem dX9_same_0 : decode cX9_same 0 = .ok (.iconst 0, 1) := by decide +kernel
theorem dX9_same_1 : decode cX9_same 1 = .ok (.istore_n 1, 1) := by decide +kernel
theorem dX9_same_2 : decode cX9_same 2 = .ok (.iload_n 1, 1) := by decide +kernel
theorem dX9_same_3 : decode cX9_same 3 = .ok (.aload_n 0, 1) := by decide +kernel
theorem dX9_same_4 : decode cX9_same 4 = .ok (.invokevirtual 56, 3) := by decide +kernel
theorem dX9_same_7 : decode cX9_same 7 = .ok (.if_icmp .ge 35, 3) := by decide +kernel
theorem dX9_same_10 : decode cX9_same 10 = .ok (.aload_n 0, 1) := by decide +kernel
theorem dX9_same_11 : decode cX9_same 11 = .ok (.iload_n 1, 1) := by decide +kernel
theorem dX9_same_12 : decode cX9_same 12 = .ok (.aload_n 0, 1) := by decide +kernel
theorem dX9_same_13 : decode cX9_same 13 = .ok (.invokevirtual 56, 3) := by decide +kernel
theorem dX9_same_16 : decode cX9_same 16 = .ok (.invokevirtual 71, 3) := by decide +kernel
theorem dX9_same_19 : decode cX9_same 19 = .ok (.ifCond .eq 17, 3) := by decide +kernel
theorem dX9_same_22 : decode cX9_same 22 = .ok (.aload_n 0, 1) := by decide +kernel
theorem dX9_same_23 : decode cX9_same 23 = .ok (.aload_n 0, 1) := by decide +kernel
theorem dX9_same_24 : decode cX9_same 24 = .ok (.invokevirtual 56, 3) := by decide +kernel
theorem dX9_same_27 : decode cX9_same 27 = .ok (.iload_n 1, 1) := by decide +kernel
theorem dX9_same_28 : decode cX9_same 28 = .ok (.invokevirtual 71, 3) := by decide +kernel
theorem dX9_same_31 : decode cX9_same 31 = .ok (.ifCond .eq 5, 3) := by decide +kernel
theorem dX9_same_34 : decode cX9_same 34 = .ok (.iload_n 1, 1) := by decide +kernel
theorem dX9_same_35 : decode cX9_same 35 = .ok (.ireturn, 1) := by decide +kernel
theorem dX9_same_36 : decode cX9_same 36 = .ok (.iinc 1 1, 3) := by decide +kernel
theorem dX9_same_39 : decode cX9_same 39 = .ok (.goto (-37), 3) := by decide +kernel
theorem dX9_same_42 : decode cX9_same 42 = .ok (.iconst (-1), 1) := by decide +kernel
theorem dX9_same_43 : decode cX9_same 43 = .ok (.ireturn, 1) := by decide +kernel
set_option maxRecDepth 20000 in
theorem ggX9_isAnyWithinTried_X9_many : GoodIn wsX9_isAnyWithinTried wsX9_many := goodIn_r _ [5, 6, 19, 20, 21, 22, 23, 24, 25, 26, 27, 28, 29, 30, 31, 32, 33, 34, 35, 36, 37, 38, 39, 40, 41, 42, 43, 44, 45] rfl (by decide +kernel)
set_option maxRecDepth 20000 in
theorem gX9_isAnyWithinTried_X9_many : GoodIn wsX9_isAnyWithinTried (wsV RX9 56 RX9 yX9_many wsX9_many) := goodIn_app (goodIn_r _ [1, 2, 3, 4] rfl (by decide +kernel)) ggX9_isAnyWithinTried_X9_many
set_option maxRecDepth 20000 in
theorem ggX9_isAnyWithinTried_X9_isWithin : GoodIn wsX9_isAnyWithinTried wsX9_isWithin := goodIn_r _ [10, 11, 12, 13, 4, 14, 6, 15, 16, 17, 18, 19, 20, 21, 22, 23, 24, 25, 26, 27, 28, 29, 30, 31, 32, 33, 34, 35, 36, 37, 38, 39, 40, 41, 42, 43, 44, 45] rfl (by decide +kernel)
set_option maxRecDepth 20000 in
theorem gX9_isAnyWithinTried_X9_isWithin : GoodIn wsX9_isAnyWithinTried (wsV RX9 71 RX9 yX9_isWithin wsX9_isWithin) := goodIn_app (goodIn_r _ [7, 8, 9, 4] rfl (by decide +kernel)) ggX9_isAnyWithinTried_X9_isWithin
theorem dX9_isAnyWithinTried_0 : decode cX9_isAnyWithinTried 0 = .ok (.iconst 0, 1) := by decide +kernel
theorem dX9_isAnyWithinTried_1 : decode cX9_isAnyWithinTried 1 = .ok (.istore_n 1, 1) := by decide +kernel
theorem dX9_isAnyWithinTried_2 : decode cX9_isAnyWithinTried 2 = .ok (.iload_n 1, 1) := by decide +kernel
theorem dX9_isAnyWithinTried_3 : decode cX9_isAnyWithinTried 3 = .ok (.aload_n 0, 1) := by decide +kernel
theorem dX9_isAnyWithinTried_4 : decode cX9_isAnyWithinTried 4 = .ok (.invokevirtual 56, 3) := by decide +kernel
theorem dX9_isAnyWithinTried_7 : decode cX9_isAnyWithinTried 7 = .ok (.if_icmp .ge 23, 3) := by decide +kernel
theorem dX9_isAnyWithinTried_10 : decode cX9_isAnyWithinTried 10 = .ok (.aload_n 0, 1) := by decide +kernel
theorem dX9_isAnyWithinTried_11 : decode cX9_isAnyWithinTried 11 = .ok (.iload_n 1, 1) := by decide +kernel
theorem dX9_isAnyWithinTried_12 : decode cX9_isAnyWithinTried 12 = .ok (.aload_n 0, 1) := by decide +kernel
theorem dX9_isAnyWithinTried_13 : decode cX9_isAnyWithinTried 13 = .ok (.invokevirtual 56, 3) := by decide +kernel
theorem dX9_isAnyWithinTried_16 : decode cX9_isAnyWithinTried 16 = .ok (.invokevirtual 71, 3) := by decide +kernel
theorem dX9_isAnyWithinTried_19 : decode cX9_isAnyWithinTried 19 = .ok (.ifCond .eq 5, 3) := by decide +kernel
theorem dX9_isAnyWithinTried_22 : decode cX9_isAnyWithinTried 22 = .ok (.iconst 1, 1) := by decide +kernel
theorem dX9_isAnyWithinTried_23 : decode cX9_isAnyWithinTried 23 = .ok (.ireturn, 1) := by decide +kernel
theorem dX9_isAnyWithinTried_24 : decode cX9_isAnyWithinTried 24 = .ok (.iinc 1 1, 3) := by decide +kernel
theorem dX9_isAnyWithinTried_27 : decode cX9_isAnyWithinTried 27 = .ok (.goto (-25), 3) := by decide +kernel
theorem dX9_isAnyWithinTried_30 : decode cX9_isAnyWithinTried 30 = .ok (.iconst 0, 1) := by decide +kernel
theorem dX9_isAnyWithinTried_31 : decode cX9_isAnyWithinTried 31 = .ok (.ireturn, 1) := by decide +kernel
set_option maxRecDepth 20000 in
theorem ggX9_clashing_X9_wide : GoodIn wsX9_clashing wsX9_wide := goodIn_r _ [5, 6, 11, 12, 13, 14, 15, 16, 17, 18, 19, 20, 21, 22, 23, 24, 25, 26, 27, 28, 29, 30, 31, 32, 33, 34, 35, 36, 37] rfl (by decide +kernel)
set_option maxRecDepth 20000 in
theorem gX9_clashing_X9_wide : GoodIn wsX9_clashing (wsV RX9 64 RX9 yX9_wide wsX9_wide) := goodIn_app (goodIn_r _ [1, 2, 3, 4] rfl (by decide +kernel)) ggX9_clashing_X9_wide
set_option maxRecDepth 20000 in
theorem ggX9_clashing_X9_sign : GoodIn wsX9_clashing wsX9_sign := goodIn_r _ [10, 6, 11, 12, 13, 14, 15, 16, 17, 18, 19, 20, 21, 22, 23, 24, 25, 26, 27, 28, 29, 30, 31, 32, 33, 34, 35, 36, 37] rfl (by decide +kernel)
set_option maxRecDepth 20000 in
theorem gX9_clashing_X9_sign : GoodIn wsX9_clashing (wsV RX9 67 RX9 yX9_sign wsX9_sign) := goodIn_app (goodIn_r _ [7, 8, 9, 4] rfl (by decide +kernel)) ggX9_clashing_X9_sign
theorem dX9_clashing_0 : decode cX9_clashing 0 = .ok (.iconst 0, 1) := by decide +kernel
theorem dX9_clashing_1 : decode cX9_clashing 1 = .ok (.istore_n 3, 1) := by decide +kernel
theorem dX9_clashing_2 : decode cX9_clashing 2 = .ok (.iconst 0, 1) := by decide +kernel
theorem dX9_clashing_3 : decode cX9_clashing 3 = .ok (.istore 4, 2) := by decide +kernel
theorem dX9_clashing_5 : decode cX9_clashing 5 = .ok (.iload 4, 2) := by decide +kernel
theorem dX9_clashing_7 : decode cX9_clashing 7 = .ok (.aload_n 0, 1) := by decide +kernel
theorem dX9_clashing_8 : decode cX9_clashing 8 = .ok (.invokevirtual 64, 3) := by decide +kernel
theorem dX9_clashing_11 : decode cX9_clashing 11 = .ok (.if_icmp .ge 56, 3) := by decide +kernel
theorem dX9_clashing_14 : decode cX9_clashing 14 = .ok (.iload_n 3, 1) := by decide +kernel
theorem dX9_clashing_15 : decode cX9_clashing 15 = .ok (.aload_n 0, 1) := by decide +kernel
theorem dX9_clashing_16 : decode cX9_clashing 16 = .ok (.iload_n 1, 1) := by decide +kernel
theorem dX9_clashing_17 : decode cX9_clashing 17 = .ok (.iload 4, 2) := by decide +kernel
theorem dX9_clashing_19 : decode cX9_clashing 19 = .ok (.invokevirtual 67, 3) := by decide +kernel
theorem dX9_clashing_22 : decode cX9_clashing 22 = .ok (.aload_n 0, 1) := by decide +kernel
theorem dX9_clashing_23 : decode cX9_clashing 23 = .ok (.iload_n 2, 1) := by decide +kernel
theorem dX9_clashing_24 : decode cX9_clashing 24 = .ok (.iload 4, 2) := by decide +kernel
theorem dX9_clashing_26 : decode cX9_clashing 26 = .ok (.invokevirtual 67, 3) := by decide +kernel
theorem dX9_clashing_29 : decode cX9_clashing 29 = .ok (.iadd, 1) := by decide +kernel
theorem dX9_clashing_30 : decode cX9_clashing 30 = .ok (.iconst 3, 1) := by decide +kernel
theorem dX9_clashing_31 : decode cX9_clashing 31 = .ok (.if_icmp .ne 27, 3) := by decide +kernel
theorem dX9_clashing_34 : decode cX9_clashing 34 = .ok (.aload_n 0, 1) := by decide +kernel
theorem dX9_clashing_35 : decode cX9_clashing 35 = .ok (.iload_n 1, 1) := by decide +kernel
theorem dX9_clashing_36 : decode cX9_clashing 36 = .ok (.iload 4, 2) := by decide +kernel
theorem dX9_clashing_38 : decode cX9_clashing 38 = .ok (.invokevirtual 67, 3) := by decide +kernel
theorem dX9_clashing_41 : decode cX9_clashing 41 = .ok (.ifCond .eq 17, 3) := by decide +kernel
theorem dX9_clashing_44 : decode cX9_clashing 44 = .ok (.aload_n 0, 1) := by decide +kernel
theorem dX9_clashing_45 : decode cX9_clashing 45 = .ok (.iload_n 2, 1) := by decide +kernel
theorem dX9_clashing_46 : decode cX9_clashing 46 = .ok (.iload 4, 2) := by decide +kernel
theorem dX9_clashing_48 : decode cX9_clashing 48 = .ok (.invokevirtual 67, 3) := by decide +kernel
theorem dX9_clashing_51 : decode cX9_clashing 51 = .ok (.ifCond .eq 7, 3) := by decide +kernel
theorem dX9_clashing_54 : decode cX9_clashing 54 = .ok (.iconst 1, 1) := by decide +kernel
theorem dX9_clashing_55 : decode cX9_clashing 55 = .ok (.goto 4, 3) := by decide +kernel
theorem dX9_clashing_58 : decode cX9_clashing 58 = .ok (.iconst 0, 1) := by decide +kernel
theorem dX9_clashing_59 : decode cX9_clashing 59 = .ok (.iadd, 1) := by decide +kernel
theorem dX9_clashing_60 : decode cX9_clashing 60 = .ok (.istore_n 3, 1) := by decide +kernel
theorem dX9_clashing_61 : decode cX9_clashing 61 = .ok (.iinc 4 1, 3) := by decide +kernel
theorem dX9_clashing_64 : decode cX9_clashing 64 = .ok (.goto (-59), 3) := by decide +kernel
theorem dX9_clashing_67 : decode cX9_clashing 67 = .ok (.iload_n 3, 1) := by decide +kernel
theorem dX9_clashing_68 : decode cX9_clashing 68 = .ok (.ireturn, 1) := by decide +kernel
set_option maxRecDepth 20000 in
theorem ggX9_clashOf_X9_sign : GoodIn wsX9_clashOf wsX9_sign := goodIn_r _ [5, 6, 7, 8, 9, 10, 11, 12, 13, 14, 15, 16, 17, 18, 19, 20, 21, 22, 23, 24, 25, 26, 27, 28, 29, 30, 31, 32, 33] rfl (by decide +kernel)
set_option maxRecDepth 20000 in
theorem gX9_clashOf_X9_sign : GoodIn wsX9_clashOf (wsV RX9 67 RX9 yX9_sign wsX9_sign) := goodIn_app (goodIn_r _ [1, 2, 3, 4] rfl (by decide +kernel)) ggX9_clashOf_X9_sign
theorem dX9_clashOf_0 : decode cX9_clashOf 0 = .ok (.iconst 0, 1) := by decide +kernel
theorem dX9_clashOf_1 : decode cX9_clashOf 1 = .ok (.istore_n 3, 1) := by decide +kernel
theorem dX9_clashOf_2 : decode cX9_clashOf 2 = .ok (.aload_n 0, 1) := by decide +kernel
theorem dX9_clashOf_3 : decode cX9_clashOf 3 = .ok (.iload_n 1, 1) := by decide +kernel
theorem dX9_clashOf_4 : decode cX9_clashOf 4 = .ok (.iload_n 3, 1) := by decide +kernel
theorem dX9_clashOf_5 : decode cX9_clashOf 5 = .ok (.invokevirtual 67, 3) := by decide +kernel
theorem dX9_clashOf_8 : decode cX9_clashOf 8 = .ok (.aload_n 0, 1) := by decide +kernel
theorem dX9_clashOf_9 : decode cX9_clashOf 9 = .ok (.iload_n 2, 1) := by decide +kernel
theorem dX9_clashOf_10 : decode cX9_clashOf 10 = .ok (.iload_n 3, 1) := by decide +kernel
theorem dX9_clashOf_11 : decode cX9_clashOf 11 = .ok (.invokevirtual 67, 3) := by decide +kernel
theorem dX9_clashOf_14 : decode cX9_clashOf 14 = .ok (.iadd, 1) := by decide +kernel
theorem dX9_clashOf_15 : decode cX9_clashOf 15 = .ok (.iconst 3, 1) := by decide +kernel
theorem dX9_clashOf_16 : decode cX9_clashOf 16 = .ok (.if_icmp .ne 21, 3) := by decide +kernel
theorem dX9_clashOf_19 : decode cX9_clashOf 19 = .ok (.aload_n 0, 1) := by decide +kernel
theorem dX9_clashOf_20 : decode cX9_clashOf 20 = .ok (.iload_n 1, 1) := by decide +kernel
theorem dX9_clashOf_21 : decode cX9_clashOf 21 = .ok (.iload_n 3, 1) := by decide +kernel
theorem dX9_clashOf_22 : decode cX9_clashOf 22 = .ok (.invokevirtual 67, 3) := by decide +kernel
theorem dX9_clashOf_25 : decode cX9_clashOf 25 = .ok (.ifCond .eq 12, 3) := by decide +kernel
theorem dX9_clashOf_28 : decode cX9_clashOf 28 = .ok (.aload_n 0, 1) := by decide +kernel
theorem dX9_clashOf_29 : decode cX9_clashOf 29 = .ok (.iload_n 2, 1) := by decide +kernel
theorem dX9_clashOf_30 : decode cX9_clashOf 30 = .ok (.iload_n 3, 1) := by decide +kernel
theorem dX9_clashOf_31 : decode cX9_clashOf 31 = .ok (.invokevirtual 67, 3) := by decide +kernel
theorem dX9_clashOf_34 : decode cX9_clashOf 34 = .ok (.ifCond .ne 9, 3) := by decide +kernel
theorem dX9_clashOf_37 : decode cX9_clashOf 37 = .ok (.iinc 3 1, 3) := by decide +kernel
theorem dX9_clashOf_40 : decode cX9_clashOf 40 = .ok (.goto (-38), 3) := by decide +kernel
theorem dX9_clashOf_43 : decode cX9_clashOf 43 = .ok (.iload_n 3, 1) := by decide +kernel
theorem dX9_clashOf_44 : decode cX9_clashOf 44 = .ok (.ireturn, 1) := by decide +kernel
set_option maxRecDepth 20000 in
theorem ggX9_resolves_X9_clashOf : GoodIn wsX9_resolves wsX9_clashOf := goodIn_r _ [5, 6, 7, 8, 4, 9, 10, 23, 24, 25, 26, 27, 28, 29, 30, 31, 32, 33, 34, 35, 36, 37, 38, 39, 40, 41, 42, 43, 44, 45, 46, 47, 48, 49] rfl (by decide +kernel)
set_option maxRecDepth 20000 in
theorem gX9_resolves_X9_clashOf : GoodIn wsX9_resolves (wsV RX9 75 RX9 yX9_clashOf wsX9_clashOf) := goodIn_app (goodIn_r _ [1, 2, 3, 4] rfl (by decide +kernel)) ggX9_resolves_X9_clashOf
set_option maxRecDepth 20000 in
theorem ggX9_resolves_X9_wide : GoodIn wsX9_resolves wsX9_wide := goodIn_r _ [14, 10, 23, 24, 25, 26, 27, 28, 29, 30, 31, 32, 33, 34, 35, 36, 37, 38, 39, 40, 41, 42, 43, 44, 45, 46, 47, 48, 49] rfl (by decide +kernel)
set_option maxRecDepth 20000 in
theorem gX9_resolves_X9_wide : GoodIn wsX9_resolves (wsV RX9 64 RX9 yX9_wide wsX9_wide) := goodIn_app (goodIn_r _ [11, 12, 13, 4] rfl (by decide +kernel)) ggX9_resolves_X9_wide
set_option maxRecDepth 20000 in
theorem ggX9_resolves_X9_sign : GoodIn wsX9_resolves wsX9_sign := goodIn_r _ [9, 10, 23, 24, 25, 26, 27, 28, 29, 30, 31, 32, 33, 34, 35, 36, 37, 38, 39, 40, 41, 42, 43, 44, 45, 46, 47, 48, 49] rfl (by decide +kernel)
set_option maxRecDepth 20000 in
theorem gX9_resolves_X9_sign : GoodIn wsX9_resolves (wsV RX9 67 RX9 yX9_sign wsX9_sign) := goodIn_app (goodIn_r _ [6, 7, 8, 4] rfl (by decide +kernel)) ggX9_resolves_X9_sign
set_option maxRecDepth 20000 in
theorem ggX9_resolves_X9_many : GoodIn wsX9_resolves wsX9_many := goodIn_r _ [18, 10, 23, 24, 25, 26, 27, 28, 29, 30, 31, 32, 33, 34, 35, 36, 37, 38, 39, 40, 41, 42, 43, 44, 45, 46, 47, 48, 49] rfl (by decide +kernel)
set_option maxRecDepth 20000 in
theorem gX9_resolves_X9_many : GoodIn wsX9_resolves (wsV RX9 56 RX9 yX9_many wsX9_many) := goodIn_app (goodIn_r _ [15, 16, 17, 4] rfl (by decide +kernel)) ggX9_resolves_X9_many
set_option maxRecDepth 20000 in
theorem ggX9_resolves_X9_puts : GoodIn wsX9_resolves wsX9_puts := goodIn_r _ [22, 10, 23, 24, 25, 26, 27, 28, 29, 30, 31, 32, 33, 34, 35, 36, 37, 38, 39, 40, 41, 42, 43, 44, 45, 46, 47, 48, 49] rfl (by decide +kernel)
set_option maxRecDepth 20000 in
theorem gX9_resolves_X9_puts : GoodIn wsX9_resolves (wsV RX9 60 RX9 yX9_puts wsX9_puts) := goodIn_app (goodIn_r _ [19, 20, 21, 4] rfl (by decide +kernel)) ggX9_resolves_X9_puts
theorem dX9_resolves_0 : decode cX9_resolves 0 = .ok (.aload_n 0, 1) := by decide +kernel
theorem dX9_resolves_1 : decode cX9_resolves 1 = .ok (.iload_n 1, 1) := by decide +kernel
theorem dX9_resolves_2 : decode cX9_resolves 2 = .ok (.iload_n 2, 1) := by decide +kernel
theorem dX9_resolves_3 : decode cX9_resolves 3 = .ok (.invokevirtual 75, 3) := by decide +kernel
theorem dX9_resolves_6 : decode cX9_resolves 6 = .ok (.istore_n 3, 1) := by decide +kernel
theorem dX9_resolves_7 : decode cX9_resolves 7 = .ok (.iconst 0, 1) := by decide +kernel
theorem dX9_resolves_8 : decode cX9_resolves 8 = .ok (.istore 4, 2) := by decide +kernel
theorem dX9_resolves_10 : decode cX9_resolves 10 = .ok (.iload 4, 2) := by decide +kernel
theorem dX9_resolves_12 : decode cX9_resolves 12 = .ok (.bipush 12, 2) := by decide +kernel
theorem dX9_resolves_14 : decode cX9_resolves 14 = .ok (.if_icmp .ge 57, 3) := by decide +kernel
theorem dX9_resolves_17 : decode cX9_resolves 17 = .ok (.iload 4, 2) := by decide +kernel
theorem dX9_resolves_19 : decode cX9_resolves 19 = .ok (.aload_n 0, 1) := by decide +kernel
theorem dX9_resolves_20 : decode cX9_resolves 20 = .ok (.invokevirtual 64, 3) := by decide +kernel
theorem dX9_resolves_23 : decode cX9_resolves 23 = .ok (.if_icmp .ge 9, 3) := by decide +kernel
theorem dX9_resolves_26 : decode cX9_resolves 26 = .ok (.iload 4, 2) := by decide +kernel
theorem dX9_resolves_28 : decode cX9_resolves 28 = .ok (.iload_n 3, 1) := by decide +kernel
theorem dX9_resolves_29 : decode cX9_resolves 29 = .ok (.if_icmp .ne 7, 3) := by decide +kernel
theorem dX9_resolves_32 : decode cX9_resolves 32 = .ok (.iconst 0, 1) := by decide +kernel
theorem dX9_resolves_33 : decode cX9_resolves 33 = .ok (.goto 18, 3) := by decide +kernel
theorem dX9_resolves_36 : decode cX9_resolves 36 = .ok (.aload_n 0, 1) := by decide +kernel
theorem dX9_resolves_37 : decode cX9_resolves 37 = .ok (.iload_n 1, 1) := by decide +kernel
theorem dX9_resolves_38 : decode cX9_resolves 38 = .ok (.iload 4, 2) := by decide +kernel
theorem dX9_resolves_40 : decode cX9_resolves 40 = .ok (.invokevirtual 67, 3) := by decide +kernel
theorem dX9_resolves_43 : decode cX9_resolves 43 = .ok (.aload_n 0, 1) := by decide +kernel
theorem dX9_resolves_44 : decode cX9_resolves 44 = .ok (.iload_n 2, 1) := by decide +kernel
theorem dX9_resolves_45 : decode cX9_resolves 45 = .ok (.iload 4, 2) := by decide +kernel
theorem dX9_resolves_47 : decode cX9_resolves 47 = .ok (.invokevirtual 67, 3) := by decide +kernel
theorem dX9_resolves_50 : decode cX9_resolves 50 = .ok (.ior, 1) := by decide +kernel
theorem dX9_resolves_51 : decode cX9_resolves 51 = .ok (.istore 5, 2) := by decide +kernel
theorem dX9_resolves_53 : decode cX9_resolves 53 = .ok (.aload_n 0, 1) := by decide +kernel
theorem dX9_resolves_54 : decode cX9_resolves 54 = .ok (.aload_n 0, 1) := by decide +kernel
theorem dX9_resolves_55 : decode cX9_resolves 55 = .ok (.invokevirtual 56, 3) := by decide +kernel
theorem dX9_resolves_58 : decode cX9_resolves 58 = .ok (.iload 4, 2) := by decide +kernel
theorem dX9_resolves_60 : decode cX9_resolves 60 = .ok (.iload 5, 2) := by decide +kernel
theorem dX9_resolves_62 : decode cX9_resolves 62 = .ok (.invokevirtual 60, 3) := by decide +kernel
theorem dX9_resolves_65 : decode cX9_resolves 65 = .ok (.iinc 4 1, 3) := by decide +kernel
theorem dX9_resolves_68 : decode cX9_resolves 68 = .ok (.goto (-58), 3) := by decide +kernel
theorem dX9_resolves_71 : decode cX9_resolves 71 = .ok (.return_, 1) := by decide +kernel
set_option maxRecDepth 20000 in
theorem ggX9_addsResolvent_X9_clashOf : GoodIn wsX9_addsResolvent wsX9_clashOf := goodIn_r _ [5, 6, 7, 8, 4, 9, 10, 31, 32, 33, 34, 35, 36, 37, 38, 39, 40, 41, 42, 43, 44, 45, 46, 47, 48, 49, 50, 51, 52, 53, 54, 55, 56, 57] rfl (by decide +kernel)
set_option maxRecDepth 20000 in
theorem gX9_addsResolvent_X9_clashOf : GoodIn wsX9_addsResolvent (wsV RX9 75 RX9 yX9_clashOf wsX9_clashOf) := goodIn_app (goodIn_r _ [1, 2, 3, 4] rfl (by decide +kernel)) ggX9_addsResolvent_X9_clashOf
set_option maxRecDepth 20000 in
theorem ggX9_addsResolvent_X9_sign : GoodIn wsX9_addsResolvent wsX9_sign := goodIn_r _ [9, 10, 31, 32, 33, 34, 35, 36, 37, 38, 39, 40, 41, 42, 43, 44, 45, 46, 47, 48, 49, 50, 51, 52, 53, 54, 55, 56, 57] rfl (by decide +kernel)
set_option maxRecDepth 20000 in
theorem gX9_addsResolvent_X9_sign : GoodIn wsX9_addsResolvent (wsV RX9 67 RX9 yX9_sign wsX9_sign) := goodIn_app (goodIn_r _ [6, 7, 8, 4] rfl (by decide +kernel)) ggX9_addsResolvent_X9_sign
set_option maxRecDepth 20000 in
theorem ggX9_addsResolvent_X9_resolves : GoodIn wsX9_addsResolvent wsX9_resolves := goodIn_r _ [14, 1, 2, 3, 4, 5, 6, 7, 8, 9, 10, 15, 16, 17, 18, 19, 20, 21, 22, 23, 24, 25, 26, 31, 32, 33, 34, 35, 36, 37, 38, 39, 40, 41, 42, 43, 44, 45, 46, 47, 48, 49, 50, 51, 52, 53, 54, 55, 56, 57] rfl (by decide +kernel)
set_option maxRecDepth 20000 in
theorem gX9_addsResolvent_X9_resolves : GoodIn wsX9_addsResolvent (wsV RX9 78 RX9 yX9_resolves wsX9_resolves) := goodIn_app (goodIn_r _ [11, 12, 13, 4] rfl (by decide +kernel)) ggX9_addsResolvent_X9_resolves
set_option maxRecDepth 20000 in
theorem ggX9_addsResolvent_X9_adds : GoodIn wsX9_addsResolvent wsX9_adds := goodIn_r _ [30, 10, 19, 20, 21, 4, 22, 31, 32, 33, 34, 35, 36, 37, 38, 39, 40, 41, 42, 43, 44, 45, 46, 47, 48, 49, 50, 51, 52, 53, 54, 55, 56, 57] rfl (by decide +kernel)
set_option maxRecDepth 20000 in
theorem gX9_addsResolvent_X9_adds : GoodIn wsX9_addsResolvent (wsV RX9 82 RX9 yX9_adds wsX9_adds) := goodIn_app (goodIn_r _ [27, 28, 29, 4] rfl (by decide +kernel)) ggX9_addsResolvent_X9_adds
theorem dX9_addsResolvent_0 : decode cX9_addsResolvent 0 = .ok (.aload_n 0, 1) := by decide +kernel
theorem dX9_addsResolvent_1 : decode cX9_addsResolvent 1 = .ok (.iload_n 1, 1) := by decide +kernel
theorem dX9_addsResolvent_2 : decode cX9_addsResolvent 2 = .ok (.iload_n 2, 1) := by decide +kernel
theorem dX9_addsResolvent_3 : decode cX9_addsResolvent 3 = .ok (.invokevirtual 75, 3) := by decide +kernel
theorem dX9_addsResolvent_6 : decode cX9_addsResolvent 6 = .ok (.istore_n 3, 1) := by decide +kernel
theorem dX9_addsResolvent_7 : decode cX9_addsResolvent 7 = .ok (.aload_n 0, 1) := by decide +kernel
theorem dX9_addsResolvent_8 : decode cX9_addsResolvent 8 = .ok (.iload_n 1, 1) := by decide +kernel
theorem dX9_addsResolvent_9 : decode cX9_addsResolvent 9 = .ok (.iload_n 3, 1) := by decide +kernel
theorem dX9_addsResolvent_10 : decode cX9_addsResolvent 10 = .ok (.invokevirtual 67, 3) := by decide +kernel
theorem dX9_addsResolvent_13 : decode cX9_addsResolvent 13 = .ok (.iconst 1, 1) := by decide +kernel
theorem dX9_addsResolvent_14 : decode cX9_addsResolvent 14 = .ok (.if_icmp .ne 7, 3) := by decide +kernel
theorem dX9_addsResolvent_17 : decode cX9_addsResolvent 17 = .ok (.iconst 1, 1) := by decide +kernel
theorem dX9_addsResolvent_18 : decode cX9_addsResolvent 18 = .ok (.goto 4, 3) := by decide +kernel
theorem dX9_addsResolvent_21 : decode cX9_addsResolvent 21 = .ok (.iconst 0, 1) := by decide +kernel
theorem dX9_addsResolvent_22 : decode cX9_addsResolvent 22 = .ok (.istore 4, 2) := by decide +kernel
theorem dX9_addsResolvent_24 : decode cX9_addsResolvent 24 = .ok (.aload_n 0, 1) := by decide +kernel
theorem dX9_addsResolvent_25 : decode cX9_addsResolvent 25 = .ok (.iload_n 1, 1) := by decide +kernel
theorem dX9_addsResolvent_26 : decode cX9_addsResolvent 26 = .ok (.iload_n 2, 1) := by decide +kernel
theorem dX9_addsResolvent_27 : decode cX9_addsResolvent 27 = .ok (.invokevirtual 78, 3) := by decide +kernel
theorem dX9_addsResolvent_30 : decode cX9_addsResolvent 30 = .ok (.aload_n 0, 1) := by decide +kernel
theorem dX9_addsResolvent_31 : decode cX9_addsResolvent 31 = .ok (.iload 4, 2) := by decide +kernel
theorem dX9_addsResolvent_33 : decode cX9_addsResolvent 33 = .ok (.ifCond .eq 7, 3) := by decide +kernel
theorem dX9_addsResolvent_36 : decode cX9_addsResolvent 36 = .ok (.iload_n 1, 1) := by decide +kernel
theorem dX9_addsResolvent_37 : decode cX9_addsResolvent 37 = .ok (.goto 4, 3) := by decide +kernel
theorem dX9_addsResolvent_40 : decode cX9_addsResolvent 40 = .ok (.iload_n 2, 1) := by decide +kernel
theorem dX9_addsResolvent_41 : decode cX9_addsResolvent 41 = .ok (.iload 4, 2) := by decide +kernel
theorem dX9_addsResolvent_43 : decode cX9_addsResolvent 43 = .ok (.ifCond .eq 7, 3) := by decide +kernel
theorem dX9_addsResolvent_46 : decode cX9_addsResolvent 46 = .ok (.iload_n 2, 1) := by decide +kernel
theorem dX9_addsResolvent_47 : decode cX9_addsResolvent 47 = .ok (.goto 4, 3) := by decide +kernel
theorem dX9_addsResolvent_50 : decode cX9_addsResolvent 50 = .ok (.iload_n 1, 1) := by decide +kernel
theorem dX9_addsResolvent_51 : decode cX9_addsResolvent 51 = .ok (.iload_n 3, 1) := by decide +kernel
theorem dX9_addsResolvent_52 : decode cX9_addsResolvent 52 = .ok (.invokevirtual 82, 3) := by decide +kernel
theorem dX9_addsResolvent_55 : decode cX9_addsResolvent 55 = .ok (.ireturn, 1) := by decide +kernel
set_option maxRecDepth 20000 in
theorem ggX9_empty_X9_many : GoodIn wsX9_empty wsX9_many := goodIn_r _ [5, 6, 19, 20, 21, 22, 23, 24, 25, 26, 27, 28, 29, 30, 31, 32, 33, 34, 35, 36, 37, 38, 39, 40, 41, 42, 43, 44, 45] rfl (by decide +kernel)
set_option maxRecDepth 20000 in
theorem gX9_empty_X9_many : GoodIn wsX9_empty (wsV RX9 56 RX9 yX9_many wsX9_many) := goodIn_app (goodIn_r _ [1, 2, 3, 4] rfl (by decide +kernel)) ggX9_empty_X9_many
set_option maxRecDepth 20000 in
theorem ggX9_empty_X9_literals : GoodIn wsX9_empty wsX9_literals := goodIn_r _ [10, 11, 12, 13, 4, 14, 6, 15, 16, 17, 18, 19, 20, 21, 22, 23, 24, 25, 26, 27, 28, 29, 30, 31, 32, 33, 34, 35, 36, 37, 38, 39, 40, 41, 42, 43, 44, 45] rfl (by decide +kernel)
set_option maxRecDepth 20000 in
theorem gX9_empty_X9_literals : GoodIn wsX9_empty (wsV RX9 86 RX9 yX9_literals wsX9_literals) := goodIn_app (goodIn_r _ [7, 8, 9, 4] rfl (by decide +kernel)) ggX9_empty_X9_literals
theorem dX9_empty_0 : decode cX9_empty 0 = .ok (.iconst 0, 1) := by decide +kernel
theorem dX9_empty_1 : decode cX9_empty 1 = .ok (.istore_n 1, 1) := by decide +kernel
theorem dX9_empty_2 : decode cX9_empty 2 = .ok (.iload_n 1, 1) := by decide +kernel
theorem dX9_empty_3 : decode cX9_empty 3 = .ok (.aload_n 0, 1) := by decide +kernel
theorem dX9_empty_4 : decode cX9_empty 4 = .ok (.invokevirtual 56, 3) := by decide +kernel
theorem dX9_empty_7 : decode cX9_empty 7 = .ok (.if_icmp .ge 19, 3) := by decide +kernel
theorem dX9_empty_10 : decode cX9_empty 10 = .ok (.aload_n 0, 1) := by decide +kernel
theorem dX9_empty_11 : decode cX9_empty 11 = .ok (.iload_n 1, 1) := by decide +kernel
theorem dX9_empty_12 : decode cX9_empty 12 = .ok (.invokevirtual 86, 3) := by decide +kernel
theorem dX9_empty_15 : decode cX9_empty 15 = .ok (.ifCond .ne 5, 3) := by decide +kernel
theorem dX9_empty_18 : decode cX9_empty 18 = .ok (.iload_n 1, 1) := by decide +kernel
theorem dX9_empty_19 : decode cX9_empty 19 = .ok (.ireturn, 1) := by decide +kernel
theorem dX9_empty_20 : decode cX9_empty 20 = .ok (.iinc 1 1, 3) := by decide +kernel
theorem dX9_empty_23 : decode cX9_empty 23 = .ok (.goto (-21), 3) := by decide +kernel
theorem dX9_empty_26 : decode cX9_empty 26 = .ok (.iconst (-1), 1) := by decide +kernel
theorem dX9_empty_27 : decode cX9_empty 27 = .ok (.ireturn, 1) := by decide +kernel
set_option maxRecDepth 20000 in
theorem ggX9_hasStep_X9_empty : GoodIn wsX9_hasStep wsX9_empty := goodIn_r _ [7, 8, 9, 10, 6, 11, 12, 13, 14, 15, 16, 17, 18, 19, 20, 21, 22, 23, 24, 49, 50, 51, 52, 53, 54, 55, 56, 57, 58, 59, 60, 61, 62, 63, 64, 65, 66, 67, 68, 69, 70, 71, 72, 73, 74, 75] rfl (by decide +kernel)
set_option maxRecDepth 20000 in
theorem gX9_hasStep_X9_empty : GoodIn wsX9_hasStep (wsV RX9 96 RX9 yX9_empty wsX9_empty) := goodIn_app (goodIn_r _ [3, 4, 5, 6] rfl (by decide +kernel)) ggX9_hasStep_X9_empty
set_option maxRecDepth 20000 in
theorem ggX9_hasStep_X9_many : GoodIn wsX9_hasStep wsX9_many := goodIn_r _ [11, 12, 49, 50, 51, 52, 53, 54, 55, 56, 57, 58, 59, 60, 61, 62, 63, 64, 65, 66, 67, 68, 69, 70, 71, 72, 73, 74, 75] rfl (by decide +kernel)
set_option maxRecDepth 20000 in
theorem gX9_hasStep_X9_many : GoodIn wsX9_hasStep (wsV RX9 56 RX9 yX9_many wsX9_many) := goodIn_app (goodIn_r _ [8, 9, 10, 6] rfl (by decide +kernel)) ggX9_hasStep_X9_many
set_option maxRecDepth 20000 in
theorem ggX9_hasStep_X9_clashing : GoodIn wsX9_hasStep wsX9_clashing := goodIn_r _ [28, 17, 18, 19, 6, 20, 12, 21, 22, 23, 24, 49, 50, 51, 52, 53, 54, 55, 56, 57, 58, 59, 60, 61, 62, 63, 64, 65, 66, 67, 68, 69, 70, 71, 72, 73, 74, 75] rfl (by decide +kernel)
set_option maxRecDepth 20000 in
theorem gX9_hasStep_X9_clashing : GoodIn wsX9_hasStep (wsV RX9 99 RX9 yX9_clashing wsX9_clashing) := goodIn_app (goodIn_r _ [25, 26, 27, 6] rfl (by decide +kernel)) ggX9_hasStep_X9_clashing
set_option maxRecDepth 20000 in
theorem ggX9_hasStep_X9_resolves : GoodIn wsX9_hasStep wsX9_resolves := goodIn_r _ [32, 33, 34, 35, 6, 36, 21, 22, 23, 24, 12, 17, 18, 19, 20, 8, 9, 10, 11, 37, 38, 39, 40, 49, 50, 51, 52, 53, 54, 55, 56, 57, 58, 59, 60, 61, 62, 63, 64, 65, 66, 67, 68, 69, 70, 71, 72, 73, 74, 75] rfl (by decide +kernel)
set_option maxRecDepth 20000 in
theorem gX9_hasStep_X9_resolves : GoodIn wsX9_hasStep (wsV RX9 78 RX9 yX9_resolves wsX9_resolves) := goodIn_app (goodIn_r _ [29, 30, 31, 6] rfl (by decide +kernel)) ggX9_hasStep_X9_resolves
set_option maxRecDepth 20000 in
theorem ggX9_hasStep_X9_isAnyWithinTried : GoodIn wsX9_hasStep wsX9_isAnyWithinTried := goodIn_r _ [44, 8, 9, 10, 6, 11, 12, 45, 46, 47, 48, 17, 18, 19, 20, 21, 22, 23, 24, 49, 50, 51, 52, 53, 54, 55, 56, 57, 58, 59, 60, 61, 62, 63, 64, 65, 66, 67, 68, 69, 70, 71, 72, 73, 74, 75] rfl (by decide +kernel)
set_option maxRecDepth 20000 in
theorem gX9_hasStep_X9_isAnyWithinTried : GoodIn wsX9_hasStep (wsV RX9 102 RX9 yX9_isAnyWithinTried wsX9_isAnyWithinTried) := goodIn_app (goodIn_r _ [41, 42, 43, 6] rfl (by decide +kernel)) ggX9_hasStep_X9_isAnyWithinTried
theorem dX9_hasStep_0 : decode cX9_hasStep 0 = .ok (.aload_n 0, 1) := by decide +kernel
theorem dX9_hasStep_1 : decode cX9_hasStep 1 = .ok (.iconst (-1), 1) := by decide +kernel
theorem dX9_hasStep_2 : decode cX9_hasStep 2 = .ok (.putfield 90, 3) := by decide +kernel
theorem dX9_hasStep_5 : decode cX9_hasStep 5 = .ok (.aload_n 0, 1) := by decide +kernel
theorem dX9_hasStep_6 : decode cX9_hasStep 6 = .ok (.iconst (-1), 1) := by decide +kernel
theorem dX9_hasStep_7 : decode cX9_hasStep 7 = .ok (.putfield 93, 3) := by decide +kernel
theorem dX9_hasStep_10 : decode cX9_hasStep 10 = .ok (.aload_n 0, 1) := by decide +kernel
theorem dX9_hasStep_11 : decode cX9_hasStep 11 = .ok (.invokevirtual 96, 3) := by decide +kernel
theorem dX9_hasStep_14 : decode cX9_hasStep 14 = .ok (.iconst (-1), 1) := by decide +kernel
theorem dX9_hasStep_15 : decode cX9_hasStep 15 = .ok (.if_icmp .ne 12, 3) := by decide +kernel
theorem dX9_hasStep_18 : decode cX9_hasStep 18 = .ok (.aload_n 0, 1) := by decide +kernel
theorem dX9_hasStep_19 : decode cX9_hasStep 19 = .ok (.invokevirtual 56, 3) := by decide +kernel
theorem dX9_hasStep_22 : decode cX9_hasStep 22 = .ok (.bipush 60, 2) := by decide +kernel
theorem dX9_hasStep_24 : decode cX9_hasStep 24 = .ok (.if_icmp .ne 5, 3) := by decide +kernel
theorem dX9_hasStep_27 : decode cX9_hasStep 27 = .ok (.iconst 0, 1) := by decide +kernel
theorem dX9_hasStep_28 : decode cX9_hasStep 28 = .ok (.ireturn, 1) := by decide +kernel
theorem dX9_hasStep_29 : decode cX9_hasStep 29 = .ok (.iconst 1, 1) := by decide +kernel
theorem dX9_hasStep_30 : decode cX9_hasStep 30 = .ok (.istore_n 1, 1) := by decide +kernel
theorem dX9_hasStep_31 : decode cX9_hasStep 31 = .ok (.iload_n 1, 1) := by decide +kernel
theorem dX9_hasStep_32 : decode cX9_hasStep 32 = .ok (.aload_n 0, 1) := by decide +kernel
theorem dX9_hasStep_33 : decode cX9_hasStep 33 = .ok (.invokevirtual 56, 3) := by decide +kernel
theorem dX9_hasStep_36 : decode cX9_hasStep 36 = .ok (.if_icmp .ge 60, 3) := by decide +kernel
theorem dX9_hasStep_39 : decode cX9_hasStep 39 = .ok (.iconst 0, 1) := by decide +kernel
theorem dX9_hasStep_40 : decode cX9_hasStep 40 = .ok (.istore_n 2, 1) := by decide +kernel
theorem dX9_hasStep_41 : decode cX9_hasStep 41 = .ok (.iload_n 2, 1) := by decide +kernel
theorem dX9_hasStep_42 : decode cX9_hasStep 42 = .ok (.iload_n 1, 1) := by decide +kernel
theorem dX9_hasStep_43 : decode cX9_hasStep 43 = .ok (.if_icmp .ge 47, 3) := by decide +kernel
theorem dX9_hasStep_46 : decode cX9_hasStep 46 = .ok (.aload_n 0, 1) := by decide +kernel
theorem dX9_hasStep_47 : decode cX9_hasStep 47 = .ok (.iload_n 2, 1) := by decide +kernel
theorem dX9_hasStep_48 : decode cX9_hasStep 48 = .ok (.iload_n 1, 1) := by decide +kernel
theorem dX9_hasStep_49 : decode cX9_hasStep 49 = .ok (.invokevirtual 99, 3) := by decide +kernel
theorem dX9_hasStep_52 : decode cX9_hasStep 52 = .ok (.iconst 1, 1) := by decide +kernel
theorem dX9_hasStep_53 : decode cX9_hasStep 53 = .ok (.if_icmp .eq 6, 3) := by decide +kernel
theorem dX9_hasStep_56 : decode cX9_hasStep 56 = .ok (.goto 28, 3) := by decide +kernel
theorem dX9_hasStep_59 : decode cX9_hasStep 59 = .ok (.aload_n 0, 1) := by decide +kernel
theorem dX9_hasStep_60 : decode cX9_hasStep 60 = .ok (.iload_n 2, 1) := by decide +kernel
theorem dX9_hasStep_61 : decode cX9_hasStep 61 = .ok (.iload_n 1, 1) := by decide +kernel
theorem dX9_hasStep_62 : decode cX9_hasStep 62 = .ok (.invokevirtual 78, 3) := by decide +kernel
theorem dX9_hasStep_65 : decode cX9_hasStep 65 = .ok (.aload_n 0, 1) := by decide +kernel
theorem dX9_hasStep_66 : decode cX9_hasStep 66 = .ok (.invokevirtual 102, 3) := by decide +kernel
theorem dX9_hasStep_69 : decode cX9_hasStep 69 = .ok (.ifCond .ne 15, 3) := by decide +kernel
theorem dX9_hasStep_72 : decode cX9_hasStep 72 = .ok (.aload_n 0, 1) := by decide +kernel
theorem dX9_hasStep_73 : decode cX9_hasStep 73 = .ok (.iload_n 2, 1) := by decide +kernel
theorem dX9_hasStep_74 : decode cX9_hasStep 74 = .ok (.putfield 90, 3) := by decide +kernel
theorem dX9_hasStep_77 : decode cX9_hasStep 77 = .ok (.aload_n 0, 1) := by decide +kernel
theorem dX9_hasStep_78 : decode cX9_hasStep 78 = .ok (.iload_n 1, 1) := by decide +kernel
theorem dX9_hasStep_79 : decode cX9_hasStep 79 = .ok (.putfield 93, 3) := by decide +kernel
theorem dX9_hasStep_82 : decode cX9_hasStep 82 = .ok (.iconst 1, 1) := by decide +kernel
theorem dX9_hasStep_83 : decode cX9_hasStep 83 = .ok (.ireturn, 1) := by decide +kernel
theorem dX9_hasStep_84 : decode cX9_hasStep 84 = .ok (.iinc 2 1, 3) := by decide +kernel
theorem dX9_hasStep_87 : decode cX9_hasStep 87 = .ok (.goto (-46), 3) := by decide +kernel
theorem dX9_hasStep_90 : decode cX9_hasStep 90 = .ok (.iinc 1 1, 3) := by decide +kernel
theorem dX9_hasStep_93 : decode cX9_hasStep 93 = .ok (.goto (-62), 3) := by decide +kernel
theorem dX9_hasStep_96 : decode cX9_hasStep 96 = .ok (.iconst 0, 1) := by decide +kernel
theorem dX9_hasStep_97 : decode cX9_hasStep 97 = .ok (.ireturn, 1) := by decide +kernel
set_option maxRecDepth 20000 in
theorem ggX9_steps_X9_hasStep : GoodIn wsX9_steps wsX9_hasStep := goodIn_r _ [7, 1, 2, 8, 9, 10, 6, 11, 12, 13, 14, 15, 16, 17, 18, 19, 20, 21, 22, 23, 24, 25, 26, 27, 28, 29, 30, 31, 32, 33, 34, 35, 36, 37, 38, 39, 40, 41, 42, 43, 44, 45, 46, 47, 48, 49, 50, 51, 52, 61, 62, 63, 64, 65, 66, 67, 68, 69, 70, 71, 72, 73, 74, 75, 76, 77, 78, 79, 80, 81, 82, 83, 84, 85, 86, 87] rfl (by decide +kernel)
set_option maxRecDepth 20000 in
theorem gX9_steps_X9_hasStep : GoodIn wsX9_steps (wsV RX9 106 RX9 yX9_hasStep wsX9_hasStep) := goodIn_app (goodIn_r _ [3, 4, 5, 6] rfl (by decide +kernel)) ggX9_steps_X9_hasStep
set_option maxRecDepth 20000 in
theorem ggX9_steps_X9_addsResolvent : GoodIn wsX9_steps wsX9_addsResolvent := goodIn_r _ [56, 37, 38, 39, 6, 40, 25, 26, 27, 28, 16, 33, 34, 35, 36, 21, 22, 23, 24, 12, 13, 14, 15, 41, 42, 43, 44, 57, 58, 59, 60, 61, 62, 63, 64, 65, 66, 67, 68, 69, 70, 71, 72, 73, 74, 75, 76, 77, 78, 79, 80, 81, 82, 83, 84, 85, 86, 87] rfl (by decide +kernel)
set_option maxRecDepth 20000 in
theorem gX9_steps_X9_addsResolvent : GoodIn wsX9_steps (wsV RX9 109 RX9 yX9_addsResolvent wsX9_addsResolvent) := goodIn_app (goodIn_r _ [53, 54, 55, 6] rfl (by decide +kernel)) ggX9_steps_X9_addsResolvent
theorem dX9_steps_0 : decode cX9_steps 0 = .ok (.iconst 0, 1) := by decide +kernel
theorem dX9_steps_1 : decode cX9_steps 1 = .ok (.istore_n 2, 1) := by decide +kernel
theorem dX9_steps_2 : decode cX9_steps 2 = .ok (.iload_n 2, 1) := by decide +kernel
theorem dX9_steps_3 : decode cX9_steps 3 = .ok (.iload_n 1, 1) := by decide +kernel
theorem dX9_steps_4 : decode cX9_steps 4 = .ok (.if_icmp .ge 29, 3) := by decide +kernel
theorem dX9_steps_7 : decode cX9_steps 7 = .ok (.aload_n 0, 1) := by decide +kernel
theorem dX9_steps_8 : decode cX9_steps 8 = .ok (.invokevirtual 106, 3) := by decide +kernel
theorem dX9_steps_11 : decode cX9_steps 11 = .ok (.ifCond .eq 22, 3) := by decide +kernel
theorem dX9_steps_14 : decode cX9_steps 14 = .ok (.aload_n 0, 1) := by decide +kernel
theorem dX9_steps_15 : decode cX9_steps 15 = .ok (.aload_n 0, 1) := by decide +kernel
theorem dX9_steps_16 : decode cX9_steps 16 = .ok (.getfield 90, 3) := by decide +kernel
theorem dX9_steps_19 : decode cX9_steps 19 = .ok (.aload_n 0, 1) := by decide +kernel
theorem dX9_steps_20 : decode cX9_steps 20 = .ok (.getfield 93, 3) := by decide +kernel
theorem dX9_steps_23 : decode cX9_steps 23 = .ok (.invokevirtual 109, 3) := by decide +kernel
theorem dX9_steps_26 : decode cX9_steps 26 = .ok (.istore_n 3, 1) := by decide +kernel
theorem dX9_steps_27 : decode cX9_steps 27 = .ok (.iinc 2 1, 3) := by decide +kernel
theorem dX9_steps_30 : decode cX9_steps 30 = .ok (.goto (-28), 3) := by decide +kernel
theorem dX9_steps_33 : decode cX9_steps 33 = .ok (.iload_n 2, 1) := by decide +kernel
theorem dX9_steps_34 : decode cX9_steps 34 = .ok (.ireturn, 1) := by decide +kernel
set_option maxRecDepth 20000 in
theorem ggX9_isParent_X9_many : GoodIn wsX9_isParent wsX9_many := goodIn_r _ [6, 1, 7, 8, 9, 10, 11, 12, 13, 14, 15, 16, 17, 18, 19, 20, 21, 22, 23, 24, 25, 26, 27, 28, 29, 30, 31, 32, 33] rfl (by decide +kernel)
set_option maxRecDepth 20000 in
theorem gX9_isParent_X9_many : GoodIn wsX9_isParent (wsV RX9 56 RX9 yX9_many wsX9_many) := goodIn_app (goodIn_r _ [2, 3, 4, 5] rfl (by decide +kernel)) ggX9_isParent_X9_many
theorem dX9_isParent_0 : decode cX9_isParent 0 = .ok (.iconst 0, 1) := by decide +kernel
theorem dX9_isParent_1 : decode cX9_isParent 1 = .ok (.istore_n 2, 1) := by decide +kernel
theorem dX9_isParent_2 : decode cX9_isParent 2 = .ok (.iload_n 2, 1) := by decide +kernel
theorem dX9_isParent_3 : decode cX9_isParent 3 = .ok (.aload_n 0, 1) := by decide +kernel
theorem dX9_isParent_4 : decode cX9_isParent 4 = .ok (.invokevirtual 56, 3) := by decide +kernel
theorem dX9_isParent_7 : decode cX9_isParent 7 = .ok (.if_icmp .ge 53, 3) := by decide +kernel
theorem dX9_isParent_10 : decode cX9_isParent 10 = .ok (.aload_n 0, 1) := by decide +kernel
theorem dX9_isParent_11 : decode cX9_isParent 11 = .ok (.getfield 9, 3) := by decide +kernel
theorem dX9_isParent_14 : decode cX9_isParent 14 = .ok (.sipush 856, 3) := by decide +kernel
theorem dX9_isParent_17 : decode cX9_isParent 17 = .ok (.iload_n 2, 1) := by decide +kernel
theorem dX9_isParent_18 : decode cX9_isParent 18 = .ok (.iadd, 1) := by decide +kernel
theorem dX9_isParent_19 : decode cX9_isParent 19 = .ok (.iaload, 1) := by decide +kernel
theorem dX9_isParent_20 : decode cX9_isParent 20 = .ok (.iconst (-1), 1) := by decide +kernel
theorem dX9_isParent_21 : decode cX9_isParent 21 = .ok (.if_icmp .eq 33, 3) := by decide +kernel
theorem dX9_isParent_24 : decode cX9_isParent 24 = .ok (.aload_n 0, 1) := by decide +kernel
theorem dX9_isParent_25 : decode cX9_isParent 25 = .ok (.getfield 9, 3) := by decide +kernel
theorem dX9_isParent_28 : decode cX9_isParent 28 = .ok (.sipush 734, 3) := by decide +kernel
theorem dX9_isParent_31 : decode cX9_isParent 31 = .ok (.iload_n 2, 1) := by decide +kernel
theorem dX9_isParent_32 : decode cX9_isParent 32 = .ok (.iadd, 1) := by decide +kernel
theorem dX9_isParent_33 : decode cX9_isParent 33 = .ok (.iaload, 1) := by decide +kernel
theorem dX9_isParent_34 : decode cX9_isParent 34 = .ok (.iload_n 1, 1) := by decide +kernel
theorem dX9_isParent_35 : decode cX9_isParent 35 = .ok (.if_icmp .eq 17, 3) := by decide +kernel
theorem dX9_isParent_38 : decode cX9_isParent 38 = .ok (.aload_n 0, 1) := by decide +kernel
theorem dX9_isParent_39 : decode cX9_isParent 39 = .ok (.getfield 9, 3) := by decide +kernel
theorem dX9_isParent_42 : decode cX9_isParent 42 = .ok (.sipush 795, 3) := by decide +kernel
theorem dX9_isParent_45 : decode cX9_isParent 45 = .ok (.iload_n 2, 1) := by decide +kernel
theorem dX9_isParent_46 : decode cX9_isParent 46 = .ok (.iadd, 1) := by decide +kernel
theorem dX9_isParent_47 : decode cX9_isParent 47 = .ok (.iaload, 1) := by decide +kernel
theorem dX9_isParent_48 : decode cX9_isParent 48 = .ok (.iload_n 1, 1) := by decide +kernel
theorem dX9_isParent_49 : decode cX9_isParent 49 = .ok (.if_icmp .ne 5, 3) := by decide +kernel
theorem dX9_isParent_52 : decode cX9_isParent 52 = .ok (.iconst 1, 1) := by decide +kernel
theorem dX9_isParent_53 : decode cX9_isParent 53 = .ok (.ireturn, 1) := by decide +kernel
theorem dX9_isParent_54 : decode cX9_isParent 54 = .ok (.iinc 2 1, 3) := by decide +kernel
theorem dX9_isParent_57 : decode cX9_isParent 57 = .ok (.goto (-55), 3) := by decide +kernel
theorem dX9_isParent_60 : decode cX9_isParent 60 = .ok (.iconst 0, 1) := by decide +kernel
theorem dX9_isParent_61 : decode cX9_isParent 61 = .ok (.ireturn, 1) := by decide +kernel
set_option maxRecDepth 20000 in
theorem ggX9_drops_X9_many : GoodIn wsX9_drops wsX9_many := goodIn_r _ [6, 1, 15, 16, 17, 18, 19, 20, 21, 22, 23, 24, 25, 26, 27, 28, 29, 30, 31, 32, 33, 34, 35, 36, 37, 38, 39, 40, 41] rfl (by decide +kernel)
set_option maxRecDepth 20000 in
theorem gX9_drops_X9_many : GoodIn wsX9_drops (wsV RX9 56 RX9 yX9_many wsX9_many) := goodIn_app (goodIn_r _ [2, 3, 4, 5] rfl (by decide +kernel)) ggX9_drops_X9_many
set_option maxRecDepth 20000 in
theorem ggX9_drops_X9_sign : GoodIn wsX9_drops wsX9_sign := goodIn_r _ [10, 1, 15, 16, 17, 18, 19, 20, 21, 22, 23, 24, 25, 26, 27, 28, 29, 30, 31, 32, 33, 34, 35, 36, 37, 38, 39, 40, 41] rfl (by decide +kernel)
set_option maxRecDepth 20000 in
theorem gX9_drops_X9_sign : GoodIn wsX9_drops (wsV RX9 67 RX9 yX9_sign wsX9_sign) := goodIn_app (goodIn_r _ [7, 8, 9, 5] rfl (by decide +kernel)) ggX9_drops_X9_sign
set_option maxRecDepth 20000 in
theorem ggX9_drops_X9_puts : GoodIn wsX9_drops wsX9_puts := goodIn_r _ [14, 1, 15, 16, 17, 18, 19, 20, 21, 22, 23, 24, 25, 26, 27, 28, 29, 30, 31, 32, 33, 34, 35, 36, 37, 38, 39, 40, 41] rfl (by decide +kernel)
set_option maxRecDepth 20000 in
theorem gX9_drops_X9_puts : GoodIn wsX9_drops (wsV RX9 60 RX9 yX9_puts wsX9_puts) := goodIn_app (goodIn_r _ [11, 12, 13, 5] rfl (by decide +kernel)) ggX9_drops_X9_puts
theorem dX9_drops_0 : decode cX9_drops 0 = .ok (.iload_n 1, 1) := by decide +kernel
theorem dX9_drops_1 : decode cX9_drops 1 = .ok (.istore_n 2, 1) := by decide +kernel
theorem dX9_drops_2 : decode cX9_drops 2 = .ok (.iload_n 2, 1) := by decide +kernel
theorem dX9_drops_3 : decode cX9_drops 3 = .ok (.iconst 1, 1) := by decide +kernel
theorem dX9_drops_4 : decode cX9_drops 4 = .ok (.iadd, 1) := by decide +kernel
theorem dX9_drops_5 : decode cX9_drops 5 = .ok (.aload_n 0, 1) := by decide +kernel
theorem dX9_drops_6 : decode cX9_drops 6 = .ok (.invokevirtual 56, 3) := by decide +kernel
theorem dX9_drops_9 : decode cX9_drops 9 = .ok (.if_icmp .ge 103, 3) := by decide +kernel
theorem dX9_drops_12 : decode cX9_drops 12 = .ok (.iconst 0, 1) := by decide +kernel
theorem dX9_drops_13 : decode cX9_drops 13 = .ok (.istore_n 3, 1) := by decide +kernel
theorem dX9_drops_14 : decode cX9_drops 14 = .ok (.iload_n 3, 1) := by decide +kernel
theorem dX9_drops_15 : decode cX9_drops 15 = .ok (.bipush 12, 2) := by decide +kernel
theorem dX9_drops_17 : decode cX9_drops 17 = .ok (.if_icmp .ge 23, 3) := by decide +kernel
theorem dX9_drops_20 : decode cX9_drops 20 = .ok (.aload_n 0, 1) := by decide +kernel
theorem dX9_drops_21 : decode cX9_drops 21 = .ok (.iload_n 2, 1) := by decide +kernel
theorem dX9_drops_22 : decode cX9_drops 22 = .ok (.iload_n 3, 1) := by decide +kernel
theorem dX9_drops_23 : decode cX9_drops 23 = .ok (.aload_n 0, 1) := by decide +kernel
theorem dX9_drops_24 : decode cX9_drops 24 = .ok (.iload_n 2, 1) := by decide +kernel
theorem dX9_drops_25 : decode cX9_drops 25 = .ok (.iconst 1, 1) := by decide +kernel
theorem dX9_drops_26 : decode cX9_drops 26 = .ok (.iadd, 1) := by decide +kernel
theorem dX9_drops_27 : decode cX9_drops 27 = .ok (.iload_n 3, 1) := by decide +kernel
theorem dX9_drops_28 : decode cX9_drops 28 = .ok (.invokevirtual 67, 3) := by decide +kernel
theorem dX9_drops_31 : decode cX9_drops 31 = .ok (.invokevirtual 60, 3) := by decide +kernel
theorem dX9_drops_34 : decode cX9_drops 34 = .ok (.iinc 3 1, 3) := by decide +kernel
theorem dX9_drops_37 : decode cX9_drops 37 = .ok (.goto (-23), 3) := by decide +kernel
theorem dX9_drops_40 : decode cX9_drops 40 = .ok (.aload_n 0, 1) := by decide +kernel
theorem dX9_drops_41 : decode cX9_drops 41 = .ok (.getfield 9, 3) := by decide +kernel
theorem dX9_drops_44 : decode cX9_drops 44 = .ok (.sipush 734, 3) := by decide +kernel
theorem dX9_drops_47 : decode cX9_drops 47 = .ok (.iload_n 2, 1) := by decide +kernel
theorem dX9_drops_48 : decode cX9_drops 48 = .ok (.iadd, 1) := by decide +kernel
theorem dX9_drops_49 : decode cX9_drops 49 = .ok (.aload_n 0, 1) := by decide +kernel
theorem dX9_drops_50 : decode cX9_drops 50 = .ok (.getfield 9, 3) := by decide +kernel
theorem dX9_drops_53 : decode cX9_drops 53 = .ok (.sipush 734, 3) := by decide +kernel
theorem dX9_drops_56 : decode cX9_drops 56 = .ok (.iload_n 2, 1) := by decide +kernel
theorem dX9_drops_57 : decode cX9_drops 57 = .ok (.iadd, 1) := by decide +kernel
theorem dX9_drops_58 : decode cX9_drops 58 = .ok (.iconst 1, 1) := by decide +kernel
theorem dX9_drops_59 : decode cX9_drops 59 = .ok (.iadd, 1) := by decide +kernel
theorem dX9_drops_60 : decode cX9_drops 60 = .ok (.iaload, 1) := by decide +kernel
theorem dX9_drops_61 : decode cX9_drops 61 = .ok (.iastore, 1) := by decide +kernel
theorem dX9_drops_62 : decode cX9_drops 62 = .ok (.aload_n 0, 1) := by decide +kernel
theorem dX9_drops_63 : decode cX9_drops 63 = .ok (.getfield 9, 3) := by decide +kernel
theorem dX9_drops_66 : decode cX9_drops 66 = .ok (.sipush 795, 3) := by decide +kernel
theorem dX9_drops_69 : decode cX9_drops 69 = .ok (.iload_n 2, 1) := by decide +kernel
theorem dX9_drops_70 : decode cX9_drops 70 = .ok (.iadd, 1) := by decide +kernel
theorem dX9_drops_71 : decode cX9_drops 71 = .ok (.aload_n 0, 1) := by decide +kernel
theorem dX9_drops_72 : decode cX9_drops 72 = .ok (.getfield 9, 3) := by decide +kernel
theorem dX9_drops_75 : decode cX9_drops 75 = .ok (.sipush 795, 3) := by decide +kernel
theorem dX9_drops_78 : decode cX9_drops 78 = .ok (.iload_n 2, 1) := by decide +kernel
theorem dX9_drops_79 : decode cX9_drops 79 = .ok (.iadd, 1) := by decide +kernel
theorem dX9_drops_80 : decode cX9_drops 80 = .ok (.iconst 1, 1) := by decide +kernel
theorem dX9_drops_81 : decode cX9_drops 81 = .ok (.iadd, 1) := by decide +kernel
theorem dX9_drops_82 : decode cX9_drops 82 = .ok (.iaload, 1) := by decide +kernel
theorem dX9_drops_83 : decode cX9_drops 83 = .ok (.iastore, 1) := by decide +kernel
theorem dX9_drops_84 : decode cX9_drops 84 = .ok (.aload_n 0, 1) := by decide +kernel
theorem dX9_drops_85 : decode cX9_drops 85 = .ok (.getfield 9, 3) := by decide +kernel
theorem dX9_drops_88 : decode cX9_drops 88 = .ok (.sipush 856, 3) := by decide +kernel
theorem dX9_drops_91 : decode cX9_drops 91 = .ok (.iload_n 2, 1) := by decide +kernel
theorem dX9_drops_92 : decode cX9_drops 92 = .ok (.iadd, 1) := by decide +kernel
theorem dX9_drops_93 : decode cX9_drops 93 = .ok (.aload_n 0, 1) := by decide +kernel
theorem dX9_drops_94 : decode cX9_drops 94 = .ok (.getfield 9, 3) := by decide +kernel
theorem dX9_drops_97 : decode cX9_drops 97 = .ok (.sipush 856, 3) := by decide +kernel
theorem dX9_drops_100 : decode cX9_drops 100 = .ok (.iload_n 2, 1) := by decide +kernel
theorem dX9_drops_101 : decode cX9_drops 101 = .ok (.iadd, 1) := by decide +kernel
theorem dX9_drops_102 : decode cX9_drops 102 = .ok (.iconst 1, 1) := by decide +kernel
theorem dX9_drops_103 : decode cX9_drops 103 = .ok (.iadd, 1) := by decide +kernel
theorem dX9_drops_104 : decode cX9_drops 104 = .ok (.iaload, 1) := by decide +kernel
theorem dX9_drops_105 : decode cX9_drops 105 = .ok (.iastore, 1) := by decide +kernel
theorem dX9_drops_106 : decode cX9_drops 106 = .ok (.iinc 2 1, 3) := by decide +kernel
theorem dX9_drops_109 : decode cX9_drops 109 = .ok (.goto (-107), 3) := by decide +kernel
theorem dX9_drops_112 : decode cX9_drops 112 = .ok (.aload_n 0, 1) := by decide +kernel
theorem dX9_drops_113 : decode cX9_drops 113 = .ok (.getfield 9, 3) := by decide +kernel
theorem dX9_drops_116 : decode cX9_drops 116 = .ok (.iconst 1, 1) := by decide +kernel
theorem dX9_drops_117 : decode cX9_drops 117 = .ok (.dup2, 1) := by decide +kernel
theorem dX9_drops_118 : decode cX9_drops 118 = .ok (.iaload, 1) := by decide +kernel
theorem dX9_drops_119 : decode cX9_drops 119 = .ok (.iconst 1, 1) := by decide +kernel
theorem dX9_drops_120 : decode cX9_drops 120 = .ok (.isub, 1) := by decide +kernel
theorem dX9_drops_121 : decode cX9_drops 121 = .ok (.iastore, 1) := by decide +kernel
theorem dX9_drops_122 : decode cX9_drops 122 = .ok (.iconst 0, 1) := by decide +kernel
theorem dX9_drops_123 : decode cX9_drops 123 = .ok (.istore_n 2, 1) := by decide +kernel
theorem dX9_drops_124 : decode cX9_drops 124 = .ok (.iload_n 2, 1) := by decide +kernel
theorem dX9_drops_125 : decode cX9_drops 125 = .ok (.aload_n 0, 1) := by decide +kernel
theorem dX9_drops_126 : decode cX9_drops 126 = .ok (.invokevirtual 56, 3) := by decide +kernel
theorem dX9_drops_129 : decode cX9_drops 129 = .ok (.if_icmp .ge 73, 3) := by decide +kernel
theorem dX9_drops_132 : decode cX9_drops 132 = .ok (.aload_n 0, 1) := by decide +kernel
theorem dX9_drops_133 : decode cX9_drops 133 = .ok (.getfield 9, 3) := by decide +kernel
theorem dX9_drops_136 : decode cX9_drops 136 = .ok (.sipush 734, 3) := by decide +kernel
theorem dX9_drops_139 : decode cX9_drops 139 = .ok (.iload_n 2, 1) := by decide +kernel
theorem dX9_drops_140 : decode cX9_drops 140 = .ok (.iadd, 1) := by decide +kernel
theorem dX9_drops_141 : decode cX9_drops 141 = .ok (.dup2, 1) := by decide +kernel
theorem dX9_drops_142 : decode cX9_drops 142 = .ok (.iaload, 1) := by decide +kernel
theorem dX9_drops_143 : decode cX9_drops 143 = .ok (.aload_n 0, 1) := by decide +kernel
theorem dX9_drops_144 : decode cX9_drops 144 = .ok (.getfield 9, 3) := by decide +kernel
theorem dX9_drops_147 : decode cX9_drops 147 = .ok (.sipush 734, 3) := by decide +kernel
theorem dX9_drops_150 : decode cX9_drops 150 = .ok (.iload_n 2, 1) := by decide +kernel
theorem dX9_drops_151 : decode cX9_drops 151 = .ok (.iadd, 1) := by decide +kernel
theorem dX9_drops_152 : decode cX9_drops 152 = .ok (.iaload, 1) := by decide +kernel
theorem dX9_drops_153 : decode cX9_drops 153 = .ok (.iload_n 1, 1) := by decide +kernel
theorem dX9_drops_154 : decode cX9_drops 154 = .ok (.if_icmp .le 7, 3) := by decide +kernel
theorem dX9_drops_157 : decode cX9_drops 157 = .ok (.iconst 1, 1) := by decide +kernel
theorem dX9_drops_158 : decode cX9_drops 158 = .ok (.goto 4, 3) := by decide +kernel
theorem dX9_drops_161 : decode cX9_drops 161 = .ok (.iconst 0, 1) := by decide +kernel
theorem dX9_drops_162 : decode cX9_drops 162 = .ok (.isub, 1) := by decide +kernel
theorem dX9_drops_163 : decode cX9_drops 163 = .ok (.iastore, 1) := by decide +kernel
theorem dX9_drops_164 : decode cX9_drops 164 = .ok (.aload_n 0, 1) := by decide +kernel
theorem dX9_drops_165 : decode cX9_drops 165 = .ok (.getfield 9, 3) := by decide +kernel
theorem dX9_drops_168 : decode cX9_drops 168 = .ok (.sipush 795, 3) := by decide +kernel
theorem dX9_drops_171 : decode cX9_drops 171 = .ok (.iload_n 2, 1) := by decide +kernel
theorem dX9_drops_172 : decode cX9_drops 172 = .ok (.iadd, 1) := by decide +kernel
theorem dX9_drops_173 : decode cX9_drops 173 = .ok (.dup2, 1) := by decide +kernel
theorem dX9_drops_174 : decode cX9_drops 174 = .ok (.iaload, 1) := by decide +kernel
theorem dX9_drops_175 : decode cX9_drops 175 = .ok (.aload_n 0, 1) := by decide +kernel
theorem dX9_drops_176 : decode cX9_drops 176 = .ok (.getfield 9, 3) := by decide +kernel
theorem dX9_drops_179 : decode cX9_drops 179 = .ok (.sipush 795, 3) := by decide +kernel
theorem dX9_drops_182 : decode cX9_drops 182 = .ok (.iload_n 2, 1) := by decide +kernel
theorem dX9_drops_183 : decode cX9_drops 183 = .ok (.iadd, 1) := by decide +kernel
theorem dX9_drops_184 : decode cX9_drops 184 = .ok (.iaload, 1) := by decide +kernel
theorem dX9_drops_185 : decode cX9_drops 185 = .ok (.iload_n 1, 1) := by decide +kernel
theorem dX9_drops_186 : decode cX9_drops 186 = .ok (.if_icmp .le 7, 3) := by decide +kernel
theorem dX9_drops_189 : decode cX9_drops 189 = .ok (.iconst 1, 1) := by decide +kernel
theorem dX9_drops_190 : decode cX9_drops 190 = .ok (.goto 4, 3) := by decide +kernel
theorem dX9_drops_193 : decode cX9_drops 193 = .ok (.iconst 0, 1) := by decide +kernel
theorem dX9_drops_194 : decode cX9_drops 194 = .ok (.isub, 1) := by decide +kernel
theorem dX9_drops_195 : decode cX9_drops 195 = .ok (.iastore, 1) := by decide +kernel
theorem dX9_drops_196 : decode cX9_drops 196 = .ok (.iinc 2 1, 3) := by decide +kernel
theorem dX9_drops_199 : decode cX9_drops 199 = .ok (.goto (-75), 3) := by decide +kernel
theorem dX9_drops_202 : decode cX9_drops 202 = .ok (.return_, 1) := by decide +kernel
set_option maxRecDepth 20000 in
theorem ggX9_subsumer_X9_many : GoodIn wsX9_subsumer wsX9_many := goodIn_r _ [5, 6, 19, 20, 21, 22, 23, 24, 25, 26, 27, 28, 29, 30, 31, 32, 33, 34, 35, 36, 37, 38, 39, 40, 41, 42, 43, 44, 45] rfl (by decide +kernel)
set_option maxRecDepth 20000 in
theorem gX9_subsumer_X9_many : GoodIn wsX9_subsumer (wsV RX9 56 RX9 yX9_many wsX9_many) := goodIn_app (goodIn_r _ [1, 2, 3, 4] rfl (by decide +kernel)) ggX9_subsumer_X9_many
set_option maxRecDepth 20000 in
theorem ggX9_subsumer_X9_isWithin : GoodIn wsX9_subsumer wsX9_isWithin := goodIn_r _ [10, 11, 12, 13, 4, 14, 6, 15, 16, 17, 18, 19, 20, 21, 22, 23, 24, 25, 26, 27, 28, 29, 30, 31, 32, 33, 34, 35, 36, 37, 38, 39, 40, 41, 42, 43, 44, 45] rfl (by decide +kernel)
set_option maxRecDepth 20000 in
theorem gX9_subsumer_X9_isWithin : GoodIn wsX9_subsumer (wsV RX9 71 RX9 yX9_isWithin wsX9_isWithin) := goodIn_app (goodIn_r _ [7, 8, 9, 4] rfl (by decide +kernel)) ggX9_subsumer_X9_isWithin
theorem dX9_subsumer_0 : decode cX9_subsumer 0 = .ok (.iconst 0, 1) := by decide +kernel
theorem dX9_subsumer_1 : decode cX9_subsumer 1 = .ok (.istore_n 2, 1) := by decide +kernel
theorem dX9_subsumer_2 : decode cX9_subsumer 2 = .ok (.iload_n 2, 1) := by decide +kernel
theorem dX9_subsumer_3 : decode cX9_subsumer 3 = .ok (.aload_n 0, 1) := by decide +kernel
theorem dX9_subsumer_4 : decode cX9_subsumer 4 = .ok (.invokevirtual 56, 3) := by decide +kernel
theorem dX9_subsumer_7 : decode cX9_subsumer 7 = .ok (.if_icmp .ge 25, 3) := by decide +kernel
theorem dX9_subsumer_10 : decode cX9_subsumer 10 = .ok (.iload_n 2, 1) := by decide +kernel
theorem dX9_subsumer_11 : decode cX9_subsumer 11 = .ok (.iload_n 1, 1) := by decide +kernel
theorem dX9_subsumer_12 : decode cX9_subsumer 12 = .ok (.if_icmp .eq 14, 3) := by decide +kernel
theorem dX9_subsumer_15 : decode cX9_subsumer 15 = .ok (.aload_n 0, 1) := by decide +kernel
theorem dX9_subsumer_16 : decode cX9_subsumer 16 = .ok (.iload_n 2, 1) := by decide +kernel
theorem dX9_subsumer_17 : decode cX9_subsumer 17 = .ok (.iload_n 1, 1) := by decide +kernel
theorem dX9_subsumer_18 : decode cX9_subsumer 18 = .ok (.invokevirtual 71, 3) := by decide +kernel
theorem dX9_subsumer_21 : decode cX9_subsumer 21 = .ok (.ifCond .eq 5, 3) := by decide +kernel
theorem dX9_subsumer_24 : decode cX9_subsumer 24 = .ok (.iload_n 2, 1) := by decide +kernel
theorem dX9_subsumer_25 : decode cX9_subsumer 25 = .ok (.ireturn, 1) := by decide +kernel
theorem dX9_subsumer_26 : decode cX9_subsumer 26 = .ok (.iinc 2 1, 3) := by decide +kernel
theorem dX9_subsumer_29 : decode cX9_subsumer 29 = .ok (.goto (-27), 3) := by decide +kernel
theorem dX9_subsumer_32 : decode cX9_subsumer 32 = .ok (.iconst (-1), 1) := by decide +kernel
theorem dX9_subsumer_33 : decode cX9_subsumer 33 = .ok (.ireturn, 1) := by decide +kernel
set_option maxRecDepth 20000 in
theorem ggX9_isSubsumed_X9_subsumer : GoodIn wsX9_isSubsumed wsX9_subsumer := goodIn_r _ [5, 6, 7, 8, 4, 9, 10, 11, 12, 13, 14, 15, 16, 17, 18, 19, 20, 21, 22, 23, 24, 25, 26, 27, 28, 29, 30, 31, 32, 33, 34, 35, 36, 37, 38, 39, 40, 41, 42, 43, 44, 45, 46, 47, 48, 49] rfl (by decide +kernel)
set_option maxRecDepth 20000 in
theorem gX9_isSubsumed_X9_subsumer : GoodIn wsX9_isSubsumed (wsV RX9 112 RX9 yX9_subsumer wsX9_subsumer) := goodIn_app (goodIn_r _ [1, 2, 3, 4] rfl (by decide +kernel)) ggX9_isSubsumed_X9_subsumer
theorem dX9_isSubsumed_0 : decode cX9_isSubsumed 0 = .ok (.aload_n 0, 1) := by decide +kernel
theorem dX9_isSubsumed_1 : decode cX9_isSubsumed 1 = .ok (.iload_n 1, 1) := by decide +kernel
theorem dX9_isSubsumed_2 : decode cX9_isSubsumed 2 = .ok (.invokevirtual 112, 3) := by decide +kernel
theorem dX9_isSubsumed_5 : decode cX9_isSubsumed 5 = .ok (.iconst (-1), 1) := by decide +kernel
theorem dX9_isSubsumed_6 : decode cX9_isSubsumed 6 = .ok (.if_icmp .eq 7, 3) := by decide +kernel
theorem dX9_isSubsumed_9 : decode cX9_isSubsumed 9 = .ok (.iconst 1, 1) := by decide +kernel
theorem dX9_isSubsumed_10 : decode cX9_isSubsumed 10 = .ok (.goto 4, 3) := by decide +kernel
theorem dX9_isSubsumed_13 : decode cX9_isSubsumed 13 = .ok (.iconst 0, 1) := by decide +kernel
theorem dX9_isSubsumed_14 : decode cX9_isSubsumed 14 = .ok (.ireturn, 1) := by decide +kernel
set_option maxRecDepth 20000 in
theorem ggX9_subsumed_X9_many : GoodIn wsX9_subsumed wsX9_many := goodIn_r _ [5, 6, 27, 28, 29, 30, 31, 32, 33, 34, 35, 36, 37, 38, 39, 40, 41, 42, 43, 44, 45, 46, 47, 48, 49, 50, 51, 52, 53] rfl (by decide +kernel)
set_option maxRecDepth 20000 in
theorem gX9_subsumed_X9_many : GoodIn wsX9_subsumed (wsV RX9 56 RX9 yX9_many wsX9_many) := goodIn_app (goodIn_r _ [1, 2, 3, 4] rfl (by decide +kernel)) ggX9_subsumed_X9_many
set_option maxRecDepth 20000 in
theorem ggX9_subsumed_X9_isSubsumed : GoodIn wsX9_subsumed wsX9_isSubsumed := goodIn_r _ [10, 11, 12, 13, 4, 14, 1, 2, 3, 5, 6, 15, 16, 17, 18, 19, 20, 21, 22, 23, 24, 25, 26, 27, 28, 29, 30, 31, 32, 33, 34, 35, 36, 37, 38, 39, 40, 41, 42, 43, 44, 45, 46, 47, 48, 49, 50, 51, 52, 53] rfl (by decide +kernel)
set_option maxRecDepth 20000 in
theorem gX9_subsumed_X9_isSubsumed : GoodIn wsX9_subsumed (wsV RX9 115 RX9 yX9_isSubsumed wsX9_isSubsumed) := goodIn_app (goodIn_r _ [7, 8, 9, 4] rfl (by decide +kernel)) ggX9_subsumed_X9_isSubsumed
theorem dX9_subsumed_0 : decode cX9_subsumed 0 = .ok (.iconst 0, 1) := by decide +kernel
theorem dX9_subsumed_1 : decode cX9_subsumed 1 = .ok (.istore_n 1, 1) := by decide +kernel
theorem dX9_subsumed_2 : decode cX9_subsumed 2 = .ok (.iconst 0, 1) := by decide +kernel
theorem dX9_subsumed_3 : decode cX9_subsumed 3 = .ok (.istore_n 2, 1) := by decide +kernel
theorem dX9_subsumed_4 : decode cX9_subsumed 4 = .ok (.iload_n 2, 1) := by decide +kernel
theorem dX9_subsumed_5 : decode cX9_subsumed 5 = .ok (.aload_n 0, 1) := by decide +kernel
theorem dX9_subsumed_6 : decode cX9_subsumed 6 = .ok (.invokevirtual 56, 3) := by decide +kernel
theorem dX9_subsumed_9 : decode cX9_subsumed 9 = .ok (.if_icmp .ge 25, 3) := by decide +kernel
theorem dX9_subsumed_12 : decode cX9_subsumed 12 = .ok (.iload_n 1, 1) := by decide +kernel
theorem dX9_subsumed_13 : decode cX9_subsumed 13 = .ok (.aload_n 0, 1) := by decide +kernel
theorem dX9_subsumed_14 : decode cX9_subsumed 14 = .ok (.iload_n 2, 1) := by decide +kernel
theorem dX9_subsumed_15 : decode cX9_subsumed 15 = .ok (.invokevirtual 115, 3) := by decide +kernel
theorem dX9_subsumed_18 : decode cX9_subsumed 18 = .ok (.ifCond .eq 7, 3) := by decide +kernel
theorem dX9_subsumed_21 : decode cX9_subsumed 21 = .ok (.iconst 1, 1) := by decide +kernel
theorem dX9_subsumed_22 : decode cX9_subsumed 22 = .ok (.goto 4, 3) := by decide +kernel
theorem dX9_subsumed_25 : decode cX9_subsumed 25 = .ok (.iconst 0, 1) := by decide +kernel
theorem dX9_subsumed_26 : decode cX9_subsumed 26 = .ok (.iadd, 1) := by decide +kernel
theorem dX9_subsumed_27 : decode cX9_subsumed 27 = .ok (.istore_n 1, 1) := by decide +kernel
theorem dX9_subsumed_28 : decode cX9_subsumed 28 = .ok (.iinc 2 1, 3) := by decide +kernel
theorem dX9_subsumed_31 : decode cX9_subsumed 31 = .ok (.goto (-27), 3) := by decide +kernel
theorem dX9_subsumed_34 : decode cX9_subsumed 34 = .ok (.iload_n 1, 1) := by decide +kernel
theorem dX9_subsumed_35 : decode cX9_subsumed 35 = .ok (.ireturn, 1) := by decide +kernel
set_option maxRecDepth 20000 in
theorem ggX9_reduces_X9_many : GoodIn wsX9_reduces wsX9_many := goodIn_r _ [5, 6, 39, 40, 41, 42, 43, 44, 45, 46, 47, 48, 49, 50, 51, 52, 53, 54, 55, 56, 57, 58, 59, 60, 61, 62, 63, 64, 65] rfl (by decide +kernel)
set_option maxRecDepth 20000 in
theorem gX9_reduces_X9_many : GoodIn wsX9_reduces (wsV RX9 56 RX9 yX9_many wsX9_many) := goodIn_app (goodIn_r _ [1, 2, 3, 4] rfl (by decide +kernel)) ggX9_reduces_X9_many
set_option maxRecDepth 20000 in
theorem ggX9_reduces_X9_isParent : GoodIn wsX9_reduces wsX9_isParent := goodIn_r _ [10, 6, 1, 2, 3, 4, 5, 39, 40, 41, 42, 43, 44, 45, 46, 47, 48, 49, 50, 51, 52, 53, 54, 55, 56, 57, 58, 59, 60, 61, 62, 63, 64, 65] rfl (by decide +kernel)
set_option maxRecDepth 20000 in
theorem gX9_reduces_X9_isParent : GoodIn wsX9_reduces (wsV RX9 119 RX9 yX9_isParent wsX9_isParent) := goodIn_app (goodIn_r _ [7, 8, 9, 4] rfl (by decide +kernel)) ggX9_reduces_X9_isParent
set_option maxRecDepth 20000 in
theorem ggX9_reduces_X9_isSubsumed : GoodIn wsX9_reduces wsX9_isSubsumed := goodIn_r _ [14, 15, 16, 17, 4, 18, 1, 2, 3, 5, 6, 19, 20, 21, 22, 23, 24, 25, 26, 27, 28, 29, 30, 39, 40, 41, 42, 43, 44, 45, 46, 47, 48, 49, 50, 51, 52, 53, 54, 55, 56, 57, 58, 59, 60, 61, 62, 63, 64, 65] rfl (by decide +kernel)
set_option maxRecDepth 20000 in
theorem gX9_reduces_X9_isSubsumed : GoodIn wsX9_reduces (wsV RX9 115 RX9 yX9_isSubsumed wsX9_isSubsumed) := goodIn_app (goodIn_r _ [11, 12, 13, 4] rfl (by decide +kernel)) ggX9_reduces_X9_isSubsumed
set_option maxRecDepth 20000 in
theorem ggX9_reduces_X9_drops : GoodIn wsX9_reduces wsX9_drops := goodIn_r _ [34, 6, 1, 2, 3, 4, 5, 27, 28, 29, 30, 35, 36, 37, 38, 39, 40, 41, 42, 43, 44, 45, 46, 47, 48, 49, 50, 51, 52, 53, 54, 55, 56, 57, 58, 59, 60, 61, 62, 63, 64, 65] rfl (by decide +kernel)
set_option maxRecDepth 20000 in
theorem gX9_reduces_X9_drops : GoodIn wsX9_reduces (wsV RX9 122 RX9 yX9_drops wsX9_drops) := goodIn_app (goodIn_r _ [31, 32, 33, 4] rfl (by decide +kernel)) ggX9_reduces_X9_drops
theorem dX9_reduces_0 : decode cX9_reduces 0 = .ok (.iconst 0, 1) := by decide +kernel
theorem dX9_reduces_1 : decode cX9_reduces 1 = .ok (.istore_n 1, 1) := by decide +kernel
theorem dX9_reduces_2 : decode cX9_reduces 2 = .ok (.aload_n 0, 1) := by decide +kernel
theorem dX9_reduces_3 : decode cX9_reduces 3 = .ok (.invokevirtual 56, 3) := by decide +kernel
theorem dX9_reduces_6 : decode cX9_reduces 6 = .ok (.iconst 1, 1) := by decide +kernel
theorem dX9_reduces_7 : decode cX9_reduces 7 = .ok (.isub, 1) := by decide +kernel
theorem dX9_reduces_8 : decode cX9_reduces 8 = .ok (.istore_n 2, 1) := by decide +kernel
theorem dX9_reduces_9 : decode cX9_reduces 9 = .ok (.iload_n 2, 1) := by decide +kernel
theorem dX9_reduces_10 : decode cX9_reduces 10 = .ok (.ifCond .lt 38, 3) := by decide +kernel
theorem dX9_reduces_13 : decode cX9_reduces 13 = .ok (.aload_n 0, 1) := by decide +kernel
theorem dX9_reduces_14 : decode cX9_reduces 14 = .ok (.iload_n 2, 1) := by decide +kernel
theorem dX9_reduces_15 : decode cX9_reduces 15 = .ok (.invokevirtual 119, 3) := by decide +kernel
theorem dX9_reduces_18 : decode cX9_reduces 18 = .ok (.ifCond .ne 24, 3) := by decide +kernel
theorem dX9_reduces_21 : decode cX9_reduces 21 = .ok (.aload_n 0, 1) := by decide +kernel
theorem dX9_reduces_22 : decode cX9_reduces 22 = .ok (.iload_n 2, 1) := by decide +kernel
theorem dX9_reduces_23 : decode cX9_reduces 23 = .ok (.invokevirtual 115, 3) := by decide +kernel
theorem dX9_reduces_26 : decode cX9_reduces 26 = .ok (.ifCond .eq 16, 3) := by decide +kernel
theorem dX9_reduces_29 : decode cX9_reduces 29 = .ok (.aload_n 0, 1) := by decide +kernel
theorem dX9_reduces_30 : decode cX9_reduces 30 = .ok (.iload_n 2, 1) := by decide +kernel
theorem dX9_reduces_31 : decode cX9_reduces 31 = .ok (.invokevirtual 122, 3) := by decide +kernel
theorem dX9_reduces_34 : decode cX9_reduces 34 = .ok (.iinc 1 1, 3) := by decide +kernel
theorem dX9_reduces_37 : decode cX9_reduces 37 = .ok (.aload_n 0, 1) := by decide +kernel
theorem dX9_reduces_38 : decode cX9_reduces 38 = .ok (.invokevirtual 56, 3) := by decide +kernel
theorem dX9_reduces_41 : decode cX9_reduces 41 = .ok (.istore_n 2, 1) := by decide +kernel
theorem dX9_reduces_42 : decode cX9_reduces 42 = .ok (.iinc 2 (-1), 3) := by decide +kernel
theorem dX9_reduces_45 : decode cX9_reduces 45 = .ok (.goto (-36), 3) := by decide +kernel
theorem dX9_reduces_48 : decode cX9_reduces 48 = .ok (.iload_n 1, 1) := by decide +kernel
theorem dX9_reduces_49 : decode cX9_reduces 49 = .ok (.ireturn, 1) := by decide +kernel
set_option maxRecDepth 20000 in
theorem ggX9_negates_X9_many : GoodIn wsX9_negates wsX9_many := goodIn_r _ [6, 1, 15, 16, 17, 18, 19, 20, 21, 22, 23, 24, 25, 26, 27, 28, 29, 30, 31, 32, 33, 34, 35, 36, 37, 38, 39, 40, 41] rfl (by decide +kernel)
set_option maxRecDepth 20000 in
theorem gX9_negates_X9_many : GoodIn wsX9_negates (wsV RX9 56 RX9 yX9_many wsX9_many) := goodIn_app (goodIn_r _ [2, 3, 4, 5] rfl (by decide +kernel)) ggX9_negates_X9_many
set_option maxRecDepth 20000 in
theorem ggX9_negates_X9_sign : GoodIn wsX9_negates wsX9_sign := goodIn_r _ [10, 1, 15, 16, 17, 18, 19, 20, 21, 22, 23, 24, 25, 26, 27, 28, 29, 30, 31, 32, 33, 34, 35, 36, 37, 38, 39, 40, 41] rfl (by decide +kernel)
set_option maxRecDepth 20000 in
theorem gX9_negates_X9_sign : GoodIn wsX9_negates (wsV RX9 67 RX9 yX9_sign wsX9_sign) := goodIn_app (goodIn_r _ [7, 8, 9, 5] rfl (by decide +kernel)) ggX9_negates_X9_sign
set_option maxRecDepth 20000 in
theorem ggX9_negates_X9_puts : GoodIn wsX9_negates wsX9_puts := goodIn_r _ [14, 1, 15, 16, 17, 18, 19, 20, 21, 22, 23, 24, 25, 26, 27, 28, 29, 30, 31, 32, 33, 34, 35, 36, 37, 38, 39, 40, 41] rfl (by decide +kernel)
set_option maxRecDepth 20000 in
theorem gX9_negates_X9_puts : GoodIn wsX9_negates (wsV RX9 60 RX9 yX9_puts wsX9_puts) := goodIn_app (goodIn_r _ [11, 12, 13, 5] rfl (by decide +kernel)) ggX9_negates_X9_puts
theorem dX9_negates_0 : decode cX9_negates 0 = .ok (.iconst 0, 1) := by decide +kernel
theorem dX9_negates_1 : decode cX9_negates 1 = .ok (.istore_n 2, 1) := by decide +kernel
theorem dX9_negates_2 : decode cX9_negates 2 = .ok (.iconst 0, 1) := by decide +kernel
theorem dX9_negates_3 : decode cX9_negates 3 = .ok (.istore_n 3, 1) := by decide +kernel
theorem dX9_negates_4 : decode cX9_negates 4 = .ok (.iload_n 3, 1) := by decide +kernel
theorem dX9_negates_5 : decode cX9_negates 5 = .ok (.aload_n 0, 1) := by decide +kernel
theorem dX9_negates_6 : decode cX9_negates 6 = .ok (.invokevirtual 56, 3) := by decide +kernel
theorem dX9_negates_9 : decode cX9_negates 9 = .ok (.if_icmp .ge 107, 3) := by decide +kernel
theorem dX9_negates_12 : decode cX9_negates 12 = .ok (.aload_n 0, 1) := by decide +kernel
theorem dX9_negates_13 : decode cX9_negates 13 = .ok (.iload_n 3, 1) := by decide +kernel
theorem dX9_negates_14 : decode cX9_negates 14 = .ok (.iload_n 1, 1) := by decide +kernel
theorem dX9_negates_15 : decode cX9_negates 15 = .ok (.invokevirtual 67, 3) := by decide +kernel
theorem dX9_negates_18 : decode cX9_negates 18 = .ok (.istore 4, 2) := by decide +kernel
theorem dX9_negates_20 : decode cX9_negates 20 = .ok (.iload_n 2, 1) := by decide +kernel
theorem dX9_negates_21 : decode cX9_negates 21 = .ok (.iload 4, 2) := by decide +kernel
theorem dX9_negates_23 : decode cX9_negates 23 = .ok (.ifCond .ne 7, 3) := by decide +kernel
theorem dX9_negates_26 : decode cX9_negates 26 = .ok (.iconst 0, 1) := by decide +kernel
theorem dX9_negates_27 : decode cX9_negates 27 = .ok (.goto 4, 3) := by decide +kernel
theorem dX9_negates_30 : decode cX9_negates 30 = .ok (.iconst 1, 1) := by decide +kernel
theorem dX9_negates_31 : decode cX9_negates 31 = .ok (.iadd, 1) := by decide +kernel
theorem dX9_negates_32 : decode cX9_negates 32 = .ok (.istore_n 2, 1) := by decide +kernel
theorem dX9_negates_33 : decode cX9_negates 33 = .ok (.aload_n 0, 1) := by decide +kernel
theorem dX9_negates_34 : decode cX9_negates 34 = .ok (.iload_n 3, 1) := by decide +kernel
theorem dX9_negates_35 : decode cX9_negates 35 = .ok (.iload_n 1, 1) := by decide +kernel
theorem dX9_negates_36 : decode cX9_negates 36 = .ok (.iload 4, 2) := by decide +kernel
theorem dX9_negates_38 : decode cX9_negates 38 = .ok (.ifCond .ne 7, 3) := by decide +kernel
theorem dX9_negates_41 : decode cX9_negates 41 = .ok (.iconst 0, 1) := by decide +kernel
theorem dX9_negates_42 : decode cX9_negates 42 = .ok (.goto 7, 3) := by decide +kernel
theorem dX9_negates_45 : decode cX9_negates 45 = .ok (.iconst 3, 1) := by decide +kernel
theorem dX9_negates_46 : decode cX9_negates 46 = .ok (.iload 4, 2) := by decide +kernel
theorem dX9_negates_48 : decode cX9_negates 48 = .ok (.isub, 1) := by decide +kernel
theorem dX9_negates_49 : decode cX9_negates 49 = .ok (.invokevirtual 60, 3) := by decide +kernel
theorem dX9_negates_52 : decode cX9_negates 52 = .ok (.aload_n 0, 1) := by decide +kernel
theorem dX9_negates_53 : decode cX9_negates 53 = .ok (.getfield 9, 3) := by decide +kernel
theorem dX9_negates_56 : decode cX9_negates 56 = .ok (.sipush 856, 3) := by decide +kernel
theorem dX9_negates_59 : decode cX9_negates 59 = .ok (.iload_n 3, 1) := by decide +kernel
theorem dX9_negates_60 : decode cX9_negates 60 = .ok (.iadd, 1) := by decide +kernel
theorem dX9_negates_61 : decode cX9_negates 61 = .ok (.iaload, 1) := by decide +kernel
theorem dX9_negates_62 : decode cX9_negates 62 = .ok (.iload_n 1, 1) := by decide +kernel
theorem dX9_negates_63 : decode cX9_negates 63 = .ok (.if_icmp .ne 47, 3) := by decide +kernel
theorem dX9_negates_66 : decode cX9_negates 66 = .ok (.aload_n 0, 1) := by decide +kernel
theorem dX9_negates_67 : decode cX9_negates 67 = .ok (.getfield 9, 3) := by decide +kernel
theorem dX9_negates_70 : decode cX9_negates 70 = .ok (.sipush 734, 3) := by decide +kernel
theorem dX9_negates_73 : decode cX9_negates 73 = .ok (.iload_n 3, 1) := by decide +kernel
theorem dX9_negates_74 : decode cX9_negates 74 = .ok (.iadd, 1) := by decide +kernel
theorem dX9_negates_75 : decode cX9_negates 75 = .ok (.iaload, 1) := by decide +kernel
theorem dX9_negates_76 : decode cX9_negates 76 = .ok (.istore 5, 2) := by decide +kernel
theorem dX9_negates_78 : decode cX9_negates 78 = .ok (.aload_n 0, 1) := by decide +kernel
theorem dX9_negates_79 : decode cX9_negates 79 = .ok (.getfield 9, 3) := by decide +kernel
theorem dX9_negates_82 : decode cX9_negates 82 = .ok (.sipush 734, 3) := by decide +kernel
theorem dX9_negates_85 : decode cX9_negates 85 = .ok (.iload_n 3, 1) := by decide +kernel
theorem dX9_negates_86 : decode cX9_negates 86 = .ok (.iadd, 1) := by decide +kernel
theorem dX9_negates_87 : decode cX9_negates 87 = .ok (.aload_n 0, 1) := by decide +kernel
theorem dX9_negates_88 : decode cX9_negates 88 = .ok (.getfield 9, 3) := by decide +kernel
theorem dX9_negates_91 : decode cX9_negates 91 = .ok (.sipush 795, 3) := by decide +kernel
theorem dX9_negates_94 : decode cX9_negates 94 = .ok (.iload_n 3, 1) := by decide +kernel
theorem dX9_negates_95 : decode cX9_negates 95 = .ok (.iadd, 1) := by decide +kernel
theorem dX9_negates_96 : decode cX9_negates 96 = .ok (.iaload, 1) := by decide +kernel
theorem dX9_negates_97 : decode cX9_negates 97 = .ok (.iastore, 1) := by decide +kernel
theorem dX9_negates_98 : decode cX9_negates 98 = .ok (.aload_n 0, 1) := by decide +kernel
theorem dX9_negates_99 : decode cX9_negates 99 = .ok (.getfield 9, 3) := by decide +kernel
theorem dX9_negates_102 : decode cX9_negates 102 = .ok (.sipush 795, 3) := by decide +kernel
theorem dX9_negates_105 : decode cX9_negates 105 = .ok (.iload_n 3, 1) := by decide +kernel
theorem dX9_negates_106 : decode cX9_negates 106 = .ok (.iadd, 1) := by decide +kernel
theorem dX9_negates_107 : decode cX9_negates 107 = .ok (.iload 5, 2) := by decide +kernel
theorem dX9_negates_109 : decode cX9_negates 109 = .ok (.iastore, 1) := by decide +kernel
theorem dX9_negates_110 : decode cX9_negates 110 = .ok (.iinc 3 1, 3) := by decide +kernel
theorem dX9_negates_113 : decode cX9_negates 113 = .ok (.goto (-109), 3) := by decide +kernel
theorem dX9_negates_116 : decode cX9_negates 116 = .ok (.iload_n 2, 1) := by decide +kernel
theorem dX9_negates_117 : decode cX9_negates 117 = .ok (.ireturn, 1) := by decide +kernel
theorem dX9_deep_0 : decode cX9_deep 0 = .ok (.aload_n 0, 1) := by decide +kernel
theorem dX9_deep_1 : decode cX9_deep 1 = .ok (.getfield 9, 3) := by decide +kernel
theorem dX9_deep_4 : decode cX9_deep 4 = .ok (.sipush 856, 3) := by decide +kernel
theorem dX9_deep_7 : decode cX9_deep 7 = .ok (.iload_n 1, 1) := by decide +kernel
theorem dX9_deep_8 : decode cX9_deep 8 = .ok (.iadd, 1) := by decide +kernel
theorem dX9_deep_9 : decode cX9_deep 9 = .ok (.iaload, 1) := by decide +kernel
theorem dX9_deep_10 : decode cX9_deep 10 = .ok (.iconst (-1), 1) := by decide +kernel
theorem dX9_deep_11 : decode cX9_deep 11 = .ok (.if_icmp .ne 5, 3) := by decide +kernel
theorem dX9_deep_14 : decode cX9_deep 14 = .ok (.iconst 0, 1) := by decide +kernel
theorem dX9_deep_15 : decode cX9_deep 15 = .ok (.ireturn, 1) := by decide +kernel
theorem dX9_deep_16 : decode cX9_deep 16 = .ok (.iconst 1, 1) := by decide +kernel
theorem dX9_deep_17 : decode cX9_deep 17 = .ok (.aload_n 0, 1) := by decide +kernel
theorem dX9_deep_18 : decode cX9_deep 18 = .ok (.getfield 29, 3) := by decide +kernel
theorem dX9_deep_21 : decode cX9_deep 21 = .ok (.aload_n 0, 1) := by decide +kernel
theorem dX9_deep_22 : decode cX9_deep 22 = .ok (.getfield 9, 3) := by decide +kernel
theorem dX9_deep_25 : decode cX9_deep 25 = .ok (.sipush 734, 3) := by decide +kernel
theorem dX9_deep_28 : decode cX9_deep 28 = .ok (.iload_n 1, 1) := by decide +kernel
theorem dX9_deep_29 : decode cX9_deep 29 = .ok (.iadd, 1) := by decide +kernel
theorem dX9_deep_30 : decode cX9_deep 30 = .ok (.iaload, 1) := by decide +kernel
theorem dX9_deep_31 : decode cX9_deep 31 = .ok (.iaload, 1) := by decide +kernel
theorem dX9_deep_32 : decode cX9_deep 32 = .ok (.aload_n 0, 1) := by decide +kernel
theorem dX9_deep_33 : decode cX9_deep 33 = .ok (.getfield 29, 3) := by decide +kernel
theorem dX9_deep_36 : decode cX9_deep 36 = .ok (.aload_n 0, 1) := by decide +kernel
theorem dX9_deep_37 : decode cX9_deep 37 = .ok (.getfield 9, 3) := by decide +kernel
theorem dX9_deep_40 : decode cX9_deep 40 = .ok (.sipush 795, 3) := by decide +kernel
theorem dX9_deep_43 : decode cX9_deep 43 = .ok (.iload_n 1, 1) := by decide +kernel
theorem dX9_deep_44 : decode cX9_deep 44 = .ok (.iadd, 1) := by decide +kernel
theorem dX9_deep_45 : decode cX9_deep 45 = .ok (.iaload, 1) := by decide +kernel
theorem dX9_deep_46 : decode cX9_deep 46 = .ok (.iaload, 1) := by decide +kernel
theorem dX9_deep_47 : decode cX9_deep 47 = .ok (.invokestatic 126, 3) := by decide +kernel
theorem dX9_deep_50 : decode cX9_deep 50 = .ok (.iadd, 1) := by decide +kernel
theorem dX9_deep_51 : decode cX9_deep 51 = .ok (.ireturn, 1) := by decide +kernel
set_option maxRecDepth 20000 in
theorem ggX9_depthAt_X9_deep : GoodIn wsX9_depthAt wsX9_deep := goodIn_r _ [6, 7, 1, 8, 9, 10, 11, 12, 13, 14, 15, 16, 17, 18, 19, 20, 21, 22, 23, 24, 25, 26, 27, 28, 29, 30, 31, 32, 33, 34, 35, 36, 37, 38] rfl (by decide +kernel)
set_option maxRecDepth 20000 in
theorem gX9_depthAt_X9_deep : GoodIn wsX9_depthAt (wsV RX9 131 RX9 yX9_deep wsX9_deep) := goodIn_app (goodIn_r _ [2, 3, 4, 5] rfl (by decide +kernel)) ggX9_depthAt_X9_deep
theorem dX9_depthAt_0 : decode cX9_depthAt 0 = .ok (.iconst 0, 1) := by decide +kernel
theorem dX9_depthAt_1 : decode cX9_depthAt 1 = .ok (.istore_n 2, 1) := by decide +kernel
theorem dX9_depthAt_2 : decode cX9_depthAt 2 = .ok (.iload_n 2, 1) := by decide +kernel
theorem dX9_depthAt_3 : decode cX9_depthAt 3 = .ok (.iload_n 1, 1) := by decide +kernel
theorem dX9_depthAt_4 : decode cX9_depthAt 4 = .ok (.if_icmp .gt 20, 3) := by decide +kernel
theorem dX9_depthAt_7 : decode cX9_depthAt 7 = .ok (.aload_n 0, 1) := by decide +kernel
theorem dX9_depthAt_8 : decode cX9_depthAt 8 = .ok (.getfield 29, 3) := by decide +kernel
theorem dX9_depthAt_11 : decode cX9_depthAt 11 = .ok (.iload_n 2, 1) := by decide +kernel
theorem dX9_depthAt_12 : decode cX9_depthAt 12 = .ok (.aload_n 0, 1) := by decide +kernel
theorem dX9_depthAt_13 : decode cX9_depthAt 13 = .ok (.iload_n 2, 1) := by decide +kernel
theorem dX9_depthAt_14 : decode cX9_depthAt 14 = .ok (.invokevirtual 131, 3) := by decide +kernel
theorem dX9_depthAt_17 : decode cX9_depthAt 17 = .ok (.iastore, 1) := by decide +kernel
theorem dX9_depthAt_18 : decode cX9_depthAt 18 = .ok (.iinc 2 1, 3) := by decide +kernel
theorem dX9_depthAt_21 : decode cX9_depthAt 21 = .ok (.goto (-19), 3) := by decide +kernel
theorem dX9_depthAt_24 : decode cX9_depthAt 24 = .ok (.aload_n 0, 1) := by decide +kernel
theorem dX9_depthAt_25 : decode cX9_depthAt 25 = .ok (.getfield 29, 3) := by decide +kernel
theorem dX9_depthAt_28 : decode cX9_depthAt 28 = .ok (.iload_n 1, 1) := by decide +kernel
theorem dX9_depthAt_29 : decode cX9_depthAt 29 = .ok (.iaload, 1) := by decide +kernel
theorem dX9_depthAt_30 : decode cX9_depthAt 30 = .ok (.ireturn, 1) := by decide +kernel
theorem dX9_derives_0 : decode cX9_derives 0 = .ok (.iconst 0, 1) := by decide +kernel
theorem dX9_derives_1 : decode cX9_derives 1 = .ok (.istore_n 2, 1) := by decide +kernel
theorem dX9_derives_2 : decode cX9_derives 2 = .ok (.iload_n 2, 1) := by decide +kernel
theorem dX9_derives_3 : decode cX9_derives 3 = .ok (.bipush 60, 2) := by decide +kernel
theorem dX9_derives_5 : decode cX9_derives 5 = .ok (.if_icmp .ge 25, 3) := by decide +kernel
theorem dX9_derives_8 : decode cX9_derives 8 = .ok (.aload_n 0, 1) := by decide +kernel
theorem dX9_derives_9 : decode cX9_derives 9 = .ok (.getfield 32, 3) := by decide +kernel
theorem dX9_derives_12 : decode cX9_derives 12 = .ok (.iload_n 2, 1) := by decide +kernel
theorem dX9_derives_13 : decode cX9_derives 13 = .ok (.iload_n 2, 1) := by decide +kernel
theorem dX9_derives_14 : decode cX9_derives 14 = .ok (.iload_n 1, 1) := by decide +kernel
theorem dX9_derives_15 : decode cX9_derives 15 = .ok (.if_icmp .ne 7, 3) := by decide +kernel
theorem dX9_derives_18 : decode cX9_derives 18 = .ok (.iconst 1, 1) := by decide +kernel
theorem dX9_derives_19 : decode cX9_derives 19 = .ok (.goto 4, 3) := by decide +kernel
theorem dX9_derives_22 : decode cX9_derives 22 = .ok (.iconst 0, 1) := by decide +kernel
theorem dX9_derives_23 : decode cX9_derives 23 = .ok (.bastore, 1) := by decide +kernel
theorem dX9_derives_24 : decode cX9_derives 24 = .ok (.iinc 2 1, 3) := by decide +kernel
theorem dX9_derives_27 : decode cX9_derives 27 = .ok (.goto (-25), 3) := by decide +kernel
theorem dX9_derives_30 : decode cX9_derives 30 = .ok (.iload_n 1, 1) := by decide +kernel
theorem dX9_derives_31 : decode cX9_derives 31 = .ok (.istore_n 2, 1) := by decide +kernel
theorem dX9_derives_32 : decode cX9_derives 32 = .ok (.iload_n 2, 1) := by decide +kernel
theorem dX9_derives_33 : decode cX9_derives 33 = .ok (.ifCond .lt 64, 3) := by decide +kernel
theorem dX9_derives_36 : decode cX9_derives 36 = .ok (.aload_n 0, 1) := by decide +kernel
theorem dX9_derives_37 : decode cX9_derives 37 = .ok (.getfield 32, 3) := by decide +kernel
theorem dX9_derives_40 : decode cX9_derives 40 = .ok (.iload_n 2, 1) := by decide +kernel
theorem dX9_derives_41 : decode cX9_derives 41 = .ok (.baload, 1) := by decide +kernel
theorem dX9_derives_42 : decode cX9_derives 42 = .ok (.ifCond .eq 49, 3) := by decide +kernel
theorem dX9_derives_45 : decode cX9_derives 45 = .ok (.aload_n 0, 1) := by decide +kernel
theorem dX9_derives_46 : decode cX9_derives 46 = .ok (.getfield 9, 3) := by decide +kernel
theorem dX9_derives_49 : decode cX9_derives 49 = .ok (.sipush 856, 3) := by decide +kernel
theorem dX9_derives_52 : decode cX9_derives 52 = .ok (.iload_n 2, 1) := by decide +kernel
theorem dX9_derives_53 : decode cX9_derives 53 = .ok (.iadd, 1) := by decide +kernel
theorem dX9_derives_54 : decode cX9_derives 54 = .ok (.iaload, 1) := by decide +kernel
theorem dX9_derives_55 : decode cX9_derives 55 = .ok (.iconst (-1), 1) := by decide +kernel
theorem dX9_derives_56 : decode cX9_derives 56 = .ok (.if_icmp .eq 35, 3) := by decide +kernel
theorem dX9_derives_59 : decode cX9_derives 59 = .ok (.aload_n 0, 1) := by decide +kernel
theorem dX9_derives_60 : decode cX9_derives 60 = .ok (.getfield 32, 3) := by decide +kernel
theorem dX9_derives_63 : decode cX9_derives 63 = .ok (.aload_n 0, 1) := by decide +kernel
theorem dX9_derives_64 : decode cX9_derives 64 = .ok (.getfield 9, 3) := by decide +kernel
theorem dX9_derives_67 : decode cX9_derives 67 = .ok (.sipush 734, 3) := by decide +kernel
theorem dX9_derives_70 : decode cX9_derives 70 = .ok (.iload_n 2, 1) := by decide +kernel
theorem dX9_derives_71 : decode cX9_derives 71 = .ok (.iadd, 1) := by decide +kernel
theorem dX9_derives_72 : decode cX9_derives 72 = .ok (.iaload, 1) := by decide +kernel
theorem dX9_derives_73 : decode cX9_derives 73 = .ok (.iconst 1, 1) := by decide +kernel
theorem dX9_derives_74 : decode cX9_derives 74 = .ok (.bastore, 1) := by decide +kernel
theorem dX9_derives_75 : decode cX9_derives 75 = .ok (.aload_n 0, 1) := by decide +kernel
theorem dX9_derives_76 : decode cX9_derives 76 = .ok (.getfield 32, 3) := by decide +kernel
theorem dX9_derives_79 : decode cX9_derives 79 = .ok (.aload_n 0, 1) := by decide +kernel
theorem dX9_derives_80 : decode cX9_derives 80 = .ok (.getfield 9, 3) := by decide +kernel
theorem dX9_derives_83 : decode cX9_derives 83 = .ok (.sipush 795, 3) := by decide +kernel
theorem dX9_derives_86 : decode cX9_derives 86 = .ok (.iload_n 2, 1) := by decide +kernel
theorem dX9_derives_87 : decode cX9_derives 87 = .ok (.iadd, 1) := by decide +kernel
theorem dX9_derives_88 : decode cX9_derives 88 = .ok (.iaload, 1) := by decide +kernel
theorem dX9_derives_89 : decode cX9_derives 89 = .ok (.iconst 1, 1) := by decide +kernel
theorem dX9_derives_90 : decode cX9_derives 90 = .ok (.bastore, 1) := by decide +kernel
theorem dX9_derives_91 : decode cX9_derives 91 = .ok (.iinc 2 (-1), 3) := by decide +kernel
theorem dX9_derives_94 : decode cX9_derives 94 = .ok (.goto (-62), 3) := by decide +kernel
theorem dX9_derives_97 : decode cX9_derives 97 = .ok (.return_, 1) := by decide +kernel
set_option maxRecDepth 20000 in
theorem ggX9_holds_X9_wide : GoodIn wsX9_holds wsX9_wide := goodIn_r _ [5, 6, 11, 12, 13, 14, 15, 16, 17, 18, 19, 20, 21, 22, 23, 24, 25, 26, 27, 28, 29, 30, 31, 32, 33, 34, 35, 36, 37] rfl (by decide +kernel)
set_option maxRecDepth 20000 in
theorem gX9_holds_X9_wide : GoodIn wsX9_holds (wsV RX9 64 RX9 yX9_wide wsX9_wide) := goodIn_app (goodIn_r _ [1, 2, 3, 4] rfl (by decide +kernel)) ggX9_holds_X9_wide
set_option maxRecDepth 20000 in
theorem ggX9_holds_X9_sign : GoodIn wsX9_holds wsX9_sign := goodIn_r _ [10, 6, 11, 12, 13, 14, 15, 16, 17, 18, 19, 20, 21, 22, 23, 24, 25, 26, 27, 28, 29, 30, 31, 32, 33, 34, 35, 36, 37] rfl (by decide +kernel)
set_option maxRecDepth 20000 in
theorem gX9_holds_X9_sign : GoodIn wsX9_holds (wsV RX9 67 RX9 yX9_sign wsX9_sign) := goodIn_app (goodIn_r _ [7, 8, 9, 4] rfl (by decide +kernel)) ggX9_holds_X9_sign
theorem dX9_holds_0 : decode cX9_holds 0 = .ok (.iconst 0, 1) := by decide +kernel
theorem dX9_holds_1 : decode cX9_holds 1 = .ok (.istore_n 3, 1) := by decide +kernel
theorem dX9_holds_2 : decode cX9_holds 2 = .ok (.iload_n 3, 1) := by decide +kernel
theorem dX9_holds_3 : decode cX9_holds 3 = .ok (.aload_n 0, 1) := by decide +kernel
theorem dX9_holds_4 : decode cX9_holds 4 = .ok (.invokevirtual 64, 3) := by decide +kernel
theorem dX9_holds_7 : decode cX9_holds 7 = .ok (.if_icmp .ge 43, 3) := by decide +kernel
theorem dX9_holds_10 : decode cX9_holds 10 = .ok (.aload_n 0, 1) := by decide +kernel
theorem dX9_holds_11 : decode cX9_holds 11 = .ok (.iload_n 1, 1) := by decide +kernel
theorem dX9_holds_12 : decode cX9_holds 12 = .ok (.iload_n 3, 1) := by decide +kernel
theorem dX9_holds_13 : decode cX9_holds 13 = .ok (.invokevirtual 67, 3) := by decide +kernel
theorem dX9_holds_16 : decode cX9_holds 16 = .ok (.istore 4, 2) := by decide +kernel
theorem dX9_holds_18 : decode cX9_holds 18 = .ok (.iload 4, 2) := by decide +kernel
theorem dX9_holds_20 : decode cX9_holds 20 = .ok (.ifCond .eq 24, 3) := by decide +kernel
theorem dX9_holds_23 : decode cX9_holds 23 = .ok (.iload_n 2, 1) := by decide +kernel
theorem dX9_holds_24 : decode cX9_holds 24 = .ok (.iload_n 3, 1) := by decide +kernel
theorem dX9_holds_25 : decode cX9_holds 25 = .ok (.ishr, 1) := by decide +kernel
theorem dX9_holds_26 : decode cX9_holds 26 = .ok (.iconst 1, 1) := by decide +kernel
theorem dX9_holds_27 : decode cX9_holds 27 = .ok (.iand, 1) := by decide +kernel
theorem dX9_holds_28 : decode cX9_holds 28 = .ok (.iload 4, 2) := by decide +kernel
theorem dX9_holds_30 : decode cX9_holds 30 = .ok (.iconst 1, 1) := by decide +kernel
theorem dX9_holds_31 : decode cX9_holds 31 = .ok (.if_icmp .ne 7, 3) := by decide +kernel
theorem dX9_holds_34 : decode cX9_holds 34 = .ok (.iconst 1, 1) := by decide +kernel
theorem dX9_holds_35 : decode cX9_holds 35 = .ok (.goto 4, 3) := by decide +kernel
theorem dX9_holds_38 : decode cX9_holds 38 = .ok (.iconst 0, 1) := by decide +kernel
theorem dX9_holds_39 : decode cX9_holds 39 = .ok (.if_icmp .ne 5, 3) := by decide +kernel
theorem dX9_holds_42 : decode cX9_holds 42 = .ok (.iconst 1, 1) := by decide +kernel
theorem dX9_holds_43 : decode cX9_holds 43 = .ok (.ireturn, 1) := by decide +kernel
theorem dX9_holds_44 : decode cX9_holds 44 = .ok (.iinc 3 1, 3) := by decide +kernel
theorem dX9_holds_47 : decode cX9_holds 47 = .ok (.goto (-45), 3) := by decide +kernel
theorem dX9_holds_50 : decode cX9_holds 50 = .ok (.iconst 0, 1) := by decide +kernel
theorem dX9_holds_51 : decode cX9_holds 51 = .ok (.ireturn, 1) := by decide +kernel
set_option maxRecDepth 20000 in
theorem ggX9_isModel_X9_many : GoodIn wsX9_isModel wsX9_many := goodIn_r _ [5, 6, 19, 20, 21, 22, 23, 24, 25, 26, 27, 28, 29, 30, 31, 32, 33, 34, 35, 36, 37, 38, 39, 40, 41, 42, 43, 44, 45] rfl (by decide +kernel)
set_option maxRecDepth 20000 in
theorem gX9_isModel_X9_many : GoodIn wsX9_isModel (wsV RX9 56 RX9 yX9_many wsX9_many) := goodIn_app (goodIn_r _ [1, 2, 3, 4] rfl (by decide +kernel)) ggX9_isModel_X9_many
set_option maxRecDepth 20000 in
theorem ggX9_isModel_X9_holds : GoodIn wsX9_isModel wsX9_holds := goodIn_r _ [10, 11, 12, 13, 4, 14, 6, 15, 16, 17, 18, 19, 20, 21, 22, 23, 24, 25, 26, 27, 28, 29, 30, 31, 32, 33, 34, 35, 36, 37, 38, 39, 40, 41, 42, 43, 44, 45] rfl (by decide +kernel)
set_option maxRecDepth 20000 in
theorem gX9_isModel_X9_holds : GoodIn wsX9_isModel (wsV RX9 134 RX9 yX9_holds wsX9_holds) := goodIn_app (goodIn_r _ [7, 8, 9, 4] rfl (by decide +kernel)) ggX9_isModel_X9_holds
theorem dX9_isModel_0 : decode cX9_isModel 0 = .ok (.iconst 0, 1) := by decide +kernel
theorem dX9_isModel_1 : decode cX9_isModel 1 = .ok (.istore_n 3, 1) := by decide +kernel
theorem dX9_isModel_2 : decode cX9_isModel 2 = .ok (.iload_n 3, 1) := by decide +kernel
theorem dX9_isModel_3 : decode cX9_isModel 3 = .ok (.aload_n 0, 1) := by decide +kernel
theorem dX9_isModel_4 : decode cX9_isModel 4 = .ok (.invokevirtual 56, 3) := by decide +kernel
theorem dX9_isModel_7 : decode cX9_isModel 7 = .ok (.if_icmp .ge 25, 3) := by decide +kernel
theorem dX9_isModel_10 : decode cX9_isModel 10 = .ok (.iload_n 3, 1) := by decide +kernel
theorem dX9_isModel_11 : decode cX9_isModel 11 = .ok (.iload_n 2, 1) := by decide +kernel
theorem dX9_isModel_12 : decode cX9_isModel 12 = .ok (.if_icmp .eq 14, 3) := by decide +kernel
theorem dX9_isModel_15 : decode cX9_isModel 15 = .ok (.aload_n 0, 1) := by decide +kernel
theorem dX9_isModel_16 : decode cX9_isModel 16 = .ok (.iload_n 3, 1) := by decide +kernel
theorem dX9_isModel_17 : decode cX9_isModel 17 = .ok (.iload_n 1, 1) := by decide +kernel
theorem dX9_isModel_18 : decode cX9_isModel 18 = .ok (.invokevirtual 134, 3) := by decide +kernel
theorem dX9_isModel_21 : decode cX9_isModel 21 = .ok (.ifCond .ne 5, 3) := by decide +kernel
theorem dX9_isModel_24 : decode cX9_isModel 24 = .ok (.iconst 0, 1) := by decide +kernel
theorem dX9_isModel_25 : decode cX9_isModel 25 = .ok (.ireturn, 1) := by decide +kernel
theorem dX9_isModel_26 : decode cX9_isModel 26 = .ok (.iinc 3 1, 3) := by decide +kernel
theorem dX9_isModel_29 : decode cX9_isModel 29 = .ok (.goto (-27), 3) := by decide +kernel
theorem dX9_isModel_32 : decode cX9_isModel 32 = .ok (.iconst 1, 1) := by decide +kernel
theorem dX9_isModel_33 : decode cX9_isModel 33 = .ok (.ireturn, 1) := by decide +kernel
set_option maxRecDepth 20000 in
theorem ggX9_assignments_X9_wide : GoodIn wsX9_assignments wsX9_wide := goodIn_r _ [5, 6, 7, 8, 9, 10, 11, 12, 13, 14, 15, 16, 17, 18, 19, 20, 21, 22, 23, 24, 25, 26, 27, 28, 29, 30, 31, 32, 33] rfl (by decide +kernel)
set_option maxRecDepth 20000 in
theorem gX9_assignments_X9_wide : GoodIn wsX9_assignments (wsV RX9 64 RX9 yX9_wide wsX9_wide) := goodIn_app (goodIn_r _ [1, 2, 3, 4] rfl (by decide +kernel)) ggX9_assignments_X9_wide
theorem dX9_assignments_0 : decode cX9_assignments 0 = .ok (.iconst 1, 1) := by decide +kernel
theorem dX9_assignments_1 : decode cX9_assignments 1 = .ok (.aload_n 0, 1) := by decide +kernel
theorem dX9_assignments_2 : decode cX9_assignments 2 = .ok (.invokevirtual 64, 3) := by decide +kernel
theorem dX9_assignments_5 : decode cX9_assignments 5 = .ok (.ishl, 1) := by decide +kernel
theorem dX9_assignments_6 : decode cX9_assignments 6 = .ok (.ireturn, 1) := by decide +kernel
set_option maxRecDepth 20000 in
theorem ggX9_models_X9_assignments : GoodIn wsX9_models wsX9_assignments := goodIn_r _ [5, 6, 7, 8, 4, 9, 10, 27, 28, 29, 30, 31, 32, 33, 34, 35, 36, 37, 38, 39, 40, 41, 42, 43, 44, 45, 46, 47, 48, 49, 50, 51, 52, 53] rfl (by decide +kernel)
set_option maxRecDepth 20000 in
theorem gX9_models_X9_assignments : GoodIn wsX9_models (wsV RX9 137 RX9 yX9_assignments wsX9_assignments) := goodIn_app (goodIn_r _ [1, 2, 3, 4] rfl (by decide +kernel)) ggX9_models_X9_assignments
set_option maxRecDepth 20000 in
theorem ggX9_models_X9_isModel : GoodIn wsX9_models wsX9_isModel := goodIn_r _ [14, 15, 16, 17, 4, 18, 10, 19, 20, 21, 22, 6, 7, 8, 9, 23, 24, 25, 26, 27, 28, 29, 30, 31, 32, 33, 34, 35, 36, 37, 38, 39, 40, 41, 42, 43, 44, 45, 46, 47, 48, 49, 50, 51, 52, 53] rfl (by decide +kernel)
set_option maxRecDepth 20000 in
theorem gX9_models_X9_isModel : GoodIn wsX9_models (wsV RX9 140 RX9 yX9_isModel wsX9_isModel) := goodIn_app (goodIn_r _ [11, 12, 13, 4] rfl (by decide +kernel)) ggX9_models_X9_isModel
theorem dX9_models_0 : decode cX9_models 0 = .ok (.iconst 0, 1) := by decide +kernel
theorem dX9_models_1 : decode cX9_models 1 = .ok (.istore_n 1, 1) := by decide +kernel
theorem dX9_models_2 : decode cX9_models 2 = .ok (.iconst 0, 1) := by decide +kernel
theorem dX9_models_3 : decode cX9_models 3 = .ok (.istore_n 2, 1) := by decide +kernel
theorem dX9_models_4 : decode cX9_models 4 = .ok (.iload_n 2, 1) := by decide +kernel
theorem dX9_models_5 : decode cX9_models 5 = .ok (.aload_n 0, 1) := by decide +kernel
theorem dX9_models_6 : decode cX9_models 6 = .ok (.invokevirtual 137, 3) := by decide +kernel
theorem dX9_models_9 : decode cX9_models 9 = .ok (.if_icmp .ge 26, 3) := by decide +kernel
theorem dX9_models_12 : decode cX9_models 12 = .ok (.iload_n 1, 1) := by decide +kernel
theorem dX9_models_13 : decode cX9_models 13 = .ok (.aload_n 0, 1) := by decide +kernel
theorem dX9_models_14 : decode cX9_models 14 = .ok (.iload_n 2, 1) := by decide +kernel
theorem dX9_models_15 : decode cX9_models 15 = .ok (.iconst (-1), 1) := by decide +kernel
theorem dX9_models_16 : decode cX9_models 16 = .ok (.invokevirtual 140, 3) := by decide +kernel
theorem dX9_models_19 : decode cX9_models 19 = .ok (.ifCond .eq 7, 3) := by decide +kernel
theorem dX9_models_22 : decode cX9_models 22 = .ok (.iconst 1, 1) := by decide +kernel
theorem dX9_models_23 : decode cX9_models 23 = .ok (.goto 4, 3) := by decide +kernel
theorem dX9_models_26 : decode cX9_models 26 = .ok (.iconst 0, 1) := by decide +kernel
theorem dX9_models_27 : decode cX9_models 27 = .ok (.iadd, 1) := by decide +kernel
theorem dX9_models_28 : decode cX9_models 28 = .ok (.istore_n 1, 1) := by decide +kernel
theorem dX9_models_29 : decode cX9_models 29 = .ok (.iinc 2 1, 3) := by decide +kernel
theorem dX9_models_32 : decode cX9_models 32 = .ok (.goto (-28), 3) := by decide +kernel
theorem dX9_models_35 : decode cX9_models 35 = .ok (.iload_n 1, 1) := by decide +kernel
theorem dX9_models_36 : decode cX9_models 36 = .ok (.ireturn, 1) := by decide +kernel
set_option maxRecDepth 20000 in
theorem ggX9_follows_X9_assignments : GoodIn wsX9_follows wsX9_assignments := goodIn_r _ [5, 6, 7, 8, 4, 9, 10, 27, 28, 29, 30, 31, 32, 33, 34, 35, 36, 37, 38, 39, 40, 41, 42, 43, 44, 45, 46, 47, 48, 49, 50, 51, 52, 53] rfl (by decide +kernel)
set_option maxRecDepth 20000 in
theorem gX9_follows_X9_assignments : GoodIn wsX9_follows (wsV RX9 137 RX9 yX9_assignments wsX9_assignments) := goodIn_app (goodIn_r _ [1, 2, 3, 4] rfl (by decide +kernel)) ggX9_follows_X9_assignments
set_option maxRecDepth 20000 in
theorem ggX9_follows_X9_isModel : GoodIn wsX9_follows wsX9_isModel := goodIn_r _ [14, 15, 16, 17, 4, 18, 10, 19, 20, 21, 22, 6, 7, 8, 9, 23, 24, 25, 26, 27, 28, 29, 30, 31, 32, 33, 34, 35, 36, 37, 38, 39, 40, 41, 42, 43, 44, 45, 46, 47, 48, 49, 50, 51, 52, 53] rfl (by decide +kernel)
set_option maxRecDepth 20000 in
theorem gX9_follows_X9_isModel : GoodIn wsX9_follows (wsV RX9 140 RX9 yX9_isModel wsX9_isModel) := goodIn_app (goodIn_r _ [11, 12, 13, 4] rfl (by decide +kernel)) ggX9_follows_X9_isModel
set_option maxRecDepth 20000 in
theorem ggX9_follows_X9_holds : GoodIn wsX9_follows wsX9_holds := goodIn_r _ [22, 6, 7, 8, 4, 9, 10, 23, 24, 25, 26, 27, 28, 29, 30, 31, 32, 33, 34, 35, 36, 37, 38, 39, 40, 41, 42, 43, 44, 45, 46, 47, 48, 49, 50, 51, 52, 53] rfl (by decide +kernel)
set_option maxRecDepth 20000 in
theorem gX9_follows_X9_holds : GoodIn wsX9_follows (wsV RX9 134 RX9 yX9_holds wsX9_holds) := goodIn_app (goodIn_r _ [19, 20, 21, 4] rfl (by decide +kernel)) ggX9_follows_X9_holds
theorem dX9_follows_0 : decode cX9_follows 0 = .ok (.iconst 0, 1) := by decide +kernel
theorem dX9_follows_1 : decode cX9_follows 1 = .ok (.istore_n 3, 1) := by decide +kernel
theorem dX9_follows_2 : decode cX9_follows 2 = .ok (.iload_n 3, 1) := by decide +kernel
theorem dX9_follows_3 : decode cX9_follows 3 = .ok (.aload_n 0, 1) := by decide +kernel
theorem dX9_follows_4 : decode cX9_follows 4 = .ok (.invokevirtual 137, 3) := by decide +kernel
theorem dX9_follows_7 : decode cX9_follows 7 = .ok (.if_icmp .ge 29, 3) := by decide +kernel
theorem dX9_follows_10 : decode cX9_follows 10 = .ok (.aload_n 0, 1) := by decide +kernel
theorem dX9_follows_11 : decode cX9_follows 11 = .ok (.iload_n 3, 1) := by decide +kernel
theorem dX9_follows_12 : decode cX9_follows 12 = .ok (.iload_n 2, 1) := by decide +kernel
theorem dX9_follows_13 : decode cX9_follows 13 = .ok (.invokevirtual 140, 3) := by decide +kernel
theorem dX9_follows_16 : decode cX9_follows 16 = .ok (.ifCond .eq 14, 3) := by decide +kernel
theorem dX9_follows_19 : decode cX9_follows 19 = .ok (.aload_n 0, 1) := by decide +kernel
theorem dX9_follows_20 : decode cX9_follows 20 = .ok (.iload_n 1, 1) := by decide +kernel
theorem dX9_follows_21 : decode cX9_follows 21 = .ok (.iload_n 3, 1) := by decide +kernel
theorem dX9_follows_22 : decode cX9_follows 22 = .ok (.invokevirtual 134, 3) := by decide +kernel
theorem dX9_follows_25 : decode cX9_follows 25 = .ok (.ifCond .ne 5, 3) := by decide +kernel
theorem dX9_follows_28 : decode cX9_follows 28 = .ok (.iconst 0, 1) := by decide +kernel
theorem dX9_follows_29 : decode cX9_follows 29 = .ok (.ireturn, 1) := by decide +kernel
theorem dX9_follows_30 : decode cX9_follows 30 = .ok (.iinc 3 1, 3) := by decide +kernel
theorem dX9_follows_33 : decode cX9_follows 33 = .ok (.goto (-31), 3) := by decide +kernel
theorem dX9_follows_36 : decode cX9_follows 36 = .ok (.iconst 1, 1) := by decide +kernel
theorem dX9_follows_37 : decode cX9_follows 37 = .ok (.ireturn, 1) := by decide +kernel
set_option maxRecDepth 20000 in
theorem ggX9_falseUnder_X9_many : GoodIn wsX9_falseUnder wsX9_many := goodIn_r _ [5, 6, 19, 20, 21, 22, 23, 24, 25, 26, 27, 28, 29, 30, 31, 32, 33, 34, 35, 36, 37, 38, 39, 40, 41, 42, 43, 44, 45] rfl (by decide +kernel)
set_option maxRecDepth 20000 in
theorem gX9_falseUnder_X9_many : GoodIn wsX9_falseUnder (wsV RX9 56 RX9 yX9_many wsX9_many) := goodIn_app (goodIn_r _ [1, 2, 3, 4] rfl (by decide +kernel)) ggX9_falseUnder_X9_many
set_option maxRecDepth 20000 in
theorem ggX9_falseUnder_X9_holds : GoodIn wsX9_falseUnder wsX9_holds := goodIn_r _ [10, 11, 12, 13, 4, 14, 6, 15, 16, 17, 18, 19, 20, 21, 22, 23, 24, 25, 26, 27, 28, 29, 30, 31, 32, 33, 34, 35, 36, 37, 38, 39, 40, 41, 42, 43, 44, 45] rfl (by decide +kernel)
set_option maxRecDepth 20000 in
theorem gX9_falseUnder_X9_holds : GoodIn wsX9_falseUnder (wsV RX9 134 RX9 yX9_holds wsX9_holds) := goodIn_app (goodIn_r _ [7, 8, 9, 4] rfl (by decide +kernel)) ggX9_falseUnder_X9_holds
theorem dX9_falseUnder_0 : decode cX9_falseUnder 0 = .ok (.iconst 0, 1) := by decide +kernel
theorem dX9_falseUnder_1 : decode cX9_falseUnder 1 = .ok (.istore_n 2, 1) := by decide +kernel
theorem dX9_falseUnder_2 : decode cX9_falseUnder 2 = .ok (.iconst 0, 1) := by decide +kernel
theorem dX9_falseUnder_3 : decode cX9_falseUnder 3 = .ok (.istore_n 3, 1) := by decide +kernel
theorem dX9_falseUnder_4 : decode cX9_falseUnder 4 = .ok (.iload_n 3, 1) := by decide +kernel
theorem dX9_falseUnder_5 : decode cX9_falseUnder 5 = .ok (.aload_n 0, 1) := by decide +kernel
theorem dX9_falseUnder_6 : decode cX9_falseUnder 6 = .ok (.invokevirtual 56, 3) := by decide +kernel
theorem dX9_falseUnder_9 : decode cX9_falseUnder 9 = .ok (.if_icmp .ge 26, 3) := by decide +kernel
theorem dX9_falseUnder_12 : decode cX9_falseUnder 12 = .ok (.iload_n 2, 1) := by decide +kernel
theorem dX9_falseUnder_13 : decode cX9_falseUnder 13 = .ok (.aload_n 0, 1) := by decide +kernel
theorem dX9_falseUnder_14 : decode cX9_falseUnder 14 = .ok (.iload_n 3, 1) := by decide +kernel
theorem dX9_falseUnder_15 : decode cX9_falseUnder 15 = .ok (.iload_n 1, 1) := by decide +kernel
theorem dX9_falseUnder_16 : decode cX9_falseUnder 16 = .ok (.invokevirtual 134, 3) := by decide +kernel
theorem dX9_falseUnder_19 : decode cX9_falseUnder 19 = .ok (.ifCond .eq 7, 3) := by decide +kernel
theorem dX9_falseUnder_22 : decode cX9_falseUnder 22 = .ok (.iconst 0, 1) := by decide +kernel
theorem dX9_falseUnder_23 : decode cX9_falseUnder 23 = .ok (.goto 4, 3) := by decide +kernel
theorem dX9_falseUnder_26 : decode cX9_falseUnder 26 = .ok (.iconst 1, 1) := by decide +kernel
theorem dX9_falseUnder_27 : decode cX9_falseUnder 27 = .ok (.iadd, 1) := by decide +kernel
theorem dX9_falseUnder_28 : decode cX9_falseUnder 28 = .ok (.istore_n 2, 1) := by decide +kernel
theorem dX9_falseUnder_29 : decode cX9_falseUnder 29 = .ok (.iinc 3 1, 3) := by decide +kernel
theorem dX9_falseUnder_32 : decode cX9_falseUnder 32 = .ok (.goto (-28), 3) := by decide +kernel
theorem dX9_falseUnder_35 : decode cX9_falseUnder 35 = .ok (.iload_n 2, 1) := by decide +kernel
theorem dX9_falseUnder_36 : decode cX9_falseUnder 36 = .ok (.ireturn, 1) := by decide +kernel
set_option maxRecDepth 20000 in
theorem ggX9_always_X9_assignments : GoodIn wsX9_always wsX9_assignments := goodIn_r _ [5, 6, 7, 8, 4, 9, 10, 27, 28, 29, 30, 31, 32, 33, 34, 35, 36, 37, 38, 39, 40, 41, 42, 43, 44, 45, 46, 47, 48, 49, 50, 51, 52, 53] rfl (by decide +kernel)
set_option maxRecDepth 20000 in
theorem gX9_always_X9_assignments : GoodIn wsX9_always (wsV RX9 137 RX9 yX9_assignments wsX9_assignments) := goodIn_app (goodIn_r _ [1, 2, 3, 4] rfl (by decide +kernel)) ggX9_always_X9_assignments
set_option maxRecDepth 20000 in
theorem ggX9_always_X9_isModel : GoodIn wsX9_always wsX9_isModel := goodIn_r _ [14, 15, 16, 17, 4, 18, 10, 19, 20, 21, 22, 6, 7, 8, 9, 23, 24, 25, 26, 27, 28, 29, 30, 31, 32, 33, 34, 35, 36, 37, 38, 39, 40, 41, 42, 43, 44, 45, 46, 47, 48, 49, 50, 51, 52, 53] rfl (by decide +kernel)
set_option maxRecDepth 20000 in
theorem gX9_always_X9_isModel : GoodIn wsX9_always (wsV RX9 140 RX9 yX9_isModel wsX9_isModel) := goodIn_app (goodIn_r _ [11, 12, 13, 4] rfl (by decide +kernel)) ggX9_always_X9_isModel
theorem dX9_always_0 : decode cX9_always 0 = .ok (.aload_n 0, 1) := by decide +kernel
theorem dX9_always_1 : decode cX9_always 1 = .ok (.invokevirtual 137, 3) := by decide +kernel
theorem dX9_always_4 : decode cX9_always 4 = .ok (.iconst 1, 1) := by decide +kernel
theorem dX9_always_5 : decode cX9_always 5 = .ok (.isub, 1) := by decide +kernel
theorem dX9_always_6 : decode cX9_always 6 = .ok (.istore_n 2, 1) := by decide +kernel
theorem dX9_always_7 : decode cX9_always 7 = .ok (.iconst 0, 1) := by decide +kernel
theorem dX9_always_8 : decode cX9_always 8 = .ok (.istore_n 3, 1) := by decide +kernel
theorem dX9_always_9 : decode cX9_always 9 = .ok (.iload_n 3, 1) := by decide +kernel
theorem dX9_always_10 : decode cX9_always 10 = .ok (.aload_n 0, 1) := by decide +kernel
theorem dX9_always_11 : decode cX9_always 11 = .ok (.invokevirtual 137, 3) := by decide +kernel
theorem dX9_always_14 : decode cX9_always 14 = .ok (.if_icmp .ge 33, 3) := by decide +kernel
theorem dX9_always_17 : decode cX9_always 17 = .ok (.aload_n 0, 1) := by decide +kernel
theorem dX9_always_18 : decode cX9_always 18 = .ok (.iload_n 3, 1) := by decide +kernel
theorem dX9_always_19 : decode cX9_always 19 = .ok (.iconst (-1), 1) := by decide +kernel
theorem dX9_always_20 : decode cX9_always 20 = .ok (.invokevirtual 140, 3) := by decide +kernel
theorem dX9_always_23 : decode cX9_always 23 = .ok (.ifCond .eq 18, 3) := by decide +kernel
theorem dX9_always_26 : decode cX9_always 26 = .ok (.iload_n 2, 1) := by decide +kernel
theorem dX9_always_27 : decode cX9_always 27 = .ok (.iload_n 1, 1) := by decide +kernel
theorem dX9_always_28 : decode cX9_always 28 = .ok (.iconst 1, 1) := by decide +kernel
theorem dX9_always_29 : decode cX9_always 29 = .ok (.if_icmp .ne 7, 3) := by decide +kernel
theorem dX9_always_32 : decode cX9_always 32 = .ok (.iload_n 3, 1) := by decide +kernel
theorem dX9_always_33 : decode cX9_always 33 = .ok (.goto 6, 3) := by decide +kernel
theorem dX9_always_36 : decode cX9_always 36 = .ok (.iload_n 3, 1) := by decide +kernel
theorem dX9_always_37 : decode cX9_always 37 = .ok (.iconst (-1), 1) := by decide +kernel
theorem dX9_always_38 : decode cX9_always 38 = .ok (.ixor, 1) := by decide +kernel
theorem dX9_always_39 : decode cX9_always 39 = .ok (.iand, 1) := by decide +kernel
theorem dX9_always_40 : decode cX9_always 40 = .ok (.istore_n 2, 1) := by decide +kernel
theorem dX9_always_41 : decode cX9_always 41 = .ok (.iinc 3 1, 3) := by decide +kernel
theorem dX9_always_44 : decode cX9_always 44 = .ok (.goto (-35), 3) := by decide +kernel
theorem dX9_always_47 : decode cX9_always 47 = .ok (.iload_n 2, 1) := by decide +kernel
theorem dX9_always_48 : decode cX9_always 48 = .ok (.ireturn, 1) := by decide +kernel
theorem dX9_isFixed_0 : decode cX9_isFixed 0 = .ok (.iload_n 2, 1) := by decide +kernel
theorem dX9_isFixed_1 : decode cX9_isFixed 1 = .ok (.iconst 1, 1) := by decide +kernel
theorem dX9_isFixed_2 : decode cX9_isFixed 2 = .ok (.if_icmp .ne 10, 3) := by decide +kernel
theorem dX9_isFixed_5 : decode cX9_isFixed 5 = .ok (.aload_n 0, 1) := by decide +kernel
theorem dX9_isFixed_6 : decode cX9_isFixed 6 = .ok (.getfield 143, 3) := by decide +kernel
theorem dX9_isFixed_9 : decode cX9_isFixed 9 = .ok (.goto 7, 3) := by decide +kernel
theorem dX9_isFixed_12 : decode cX9_isFixed 12 = .ok (.aload_n 0, 1) := by decide +kernel
theorem dX9_isFixed_13 : decode cX9_isFixed 13 = .ok (.getfield 146, 3) := by decide +kernel
theorem dX9_isFixed_16 : decode cX9_isFixed 16 = .ok (.iload_n 1, 1) := by decide +kernel
theorem dX9_isFixed_17 : decode cX9_isFixed 17 = .ok (.ishr, 1) := by decide +kernel
theorem dX9_isFixed_18 : decode cX9_isFixed 18 = .ok (.iconst 1, 1) := by decide +kernel
theorem dX9_isFixed_19 : decode cX9_isFixed 19 = .ok (.iand, 1) := by decide +kernel
theorem dX9_isFixed_20 : decode cX9_isFixed 20 = .ok (.iconst 1, 1) := by decide +kernel
theorem dX9_isFixed_21 : decode cX9_isFixed 21 = .ok (.if_icmp .ne 7, 3) := by decide +kernel
theorem dX9_isFixed_24 : decode cX9_isFixed 24 = .ok (.iconst 1, 1) := by decide +kernel
theorem dX9_isFixed_25 : decode cX9_isFixed 25 = .ok (.goto 4, 3) := by decide +kernel
theorem dX9_isFixed_28 : decode cX9_isFixed 28 = .ok (.iconst 0, 1) := by decide +kernel
theorem dX9_isFixed_29 : decode cX9_isFixed 29 = .ok (.ireturn, 1) := by decide +kernel
set_option maxRecDepth 20000 in
theorem ggX9_propagates_X9_many : GoodIn wsX9_propagates wsX9_many := goodIn_r _ [8, 9, 34, 35, 36, 37, 38, 39, 40, 41, 42, 43, 44, 45, 46, 47, 48, 49, 50, 51, 52, 53, 54, 55, 56, 57, 58, 59, 60] rfl (by decide +kernel)
set_option maxRecDepth 20000 in
theorem gX9_propagates_X9_many : GoodIn wsX9_propagates (wsV RX9 56 RX9 yX9_many wsX9_many) := goodIn_app (goodIn_r _ [4, 5, 6, 7] rfl (by decide +kernel)) ggX9_propagates_X9_many
set_option maxRecDepth 20000 in
theorem ggX9_propagates_X9_fixes : GoodIn wsX9_propagates wsX9_fixes := goodIn_r _ [13, 3, 1, 2, 14, 15, 16, 7, 17, 9, 18, 19, 20, 21, 22, 23, 24, 25, 26, 27, 28, 29, 30, 31, 32, 33, 34, 35, 36, 37, 38, 39, 40, 41, 42, 43, 44, 45, 46, 47, 48, 49, 50, 51, 52, 53, 54, 55, 56, 57, 58, 59, 60] rfl (by decide +kernel)
set_option maxRecDepth 20000 in
theorem gX9_propagates_X9_fixes : GoodIn wsX9_propagates (wsV RX9 153 RX9 yX9_fixes wsX9_fixes) := goodIn_app (goodIn_r _ [10, 11, 12, 7] rfl (by decide +kernel)) ggX9_propagates_X9_fixes
theorem dX9_propagates_0 : decode cX9_propagates 0 = .ok (.aload_n 0, 1) := by decide +kernel
theorem dX9_propagates_1 : decode cX9_propagates 1 = .ok (.iconst 0, 1) := by decide +kernel
theorem dX9_propagates_2 : decode cX9_propagates 2 = .ok (.putfield 143, 3) := by decide +kernel
theorem dX9_propagates_5 : decode cX9_propagates 5 = .ok (.aload_n 0, 1) := by decide +kernel
theorem dX9_propagates_6 : decode cX9_propagates 6 = .ok (.iconst 0, 1) := by decide +kernel
theorem dX9_propagates_7 : decode cX9_propagates 7 = .ok (.putfield 146, 3) := by decide +kernel
theorem dX9_propagates_10 : decode cX9_propagates 10 = .ok (.aload_n 0, 1) := by decide +kernel
theorem dX9_propagates_11 : decode cX9_propagates 11 = .ok (.iconst 0, 1) := by decide +kernel
theorem dX9_propagates_12 : decode cX9_propagates 12 = .ok (.putfield 149, 3) := by decide +kernel
theorem dX9_propagates_15 : decode cX9_propagates 15 = .ok (.iconst 1, 1) := by decide +kernel
theorem dX9_propagates_16 : decode cX9_propagates 16 = .ok (.istore_n 1, 1) := by decide +kernel
theorem dX9_propagates_17 : decode cX9_propagates 17 = .ok (.iload_n 1, 1) := by decide +kernel
theorem dX9_propagates_18 : decode cX9_propagates 18 = .ok (.ifCond .eq 32, 3) := by decide +kernel
theorem dX9_propagates_21 : decode cX9_propagates 21 = .ok (.iconst 0, 1) := by decide +kernel
theorem dX9_propagates_22 : decode cX9_propagates 22 = .ok (.istore_n 1, 1) := by decide +kernel
theorem dX9_propagates_23 : decode cX9_propagates 23 = .ok (.iconst 0, 1) := by decide +kernel
theorem dX9_propagates_24 : decode cX9_propagates 24 = .ok (.istore_n 2, 1) := by decide +kernel
theorem dX9_propagates_25 : decode cX9_propagates 25 = .ok (.iload_n 2, 1) := by decide +kernel
theorem dX9_propagates_26 : decode cX9_propagates 26 = .ok (.aload_n 0, 1) := by decide +kernel
theorem dX9_propagates_27 : decode cX9_propagates 27 = .ok (.invokevirtual 56, 3) := by decide +kernel
theorem dX9_propagates_30 : decode cX9_propagates 30 = .ok (.if_icmp .ge 17, 3) := by decide +kernel
theorem dX9_propagates_33 : decode cX9_propagates 33 = .ok (.iload_n 1, 1) := by decide +kernel
theorem dX9_propagates_34 : decode cX9_propagates 34 = .ok (.aload_n 0, 1) := by decide +kernel
theorem dX9_propagates_35 : decode cX9_propagates 35 = .ok (.iload_n 2, 1) := by decide +kernel
theorem dX9_propagates_36 : decode cX9_propagates 36 = .ok (.invokevirtual 153, 3) := by decide +kernel
theorem dX9_propagates_39 : decode cX9_propagates 39 = .ok (.ior, 1) := by decide +kernel
theorem dX9_propagates_40 : decode cX9_propagates 40 = .ok (.istore_n 1, 1) := by decide +kernel
theorem dX9_propagates_41 : decode cX9_propagates 41 = .ok (.iinc 2 1, 3) := by decide +kernel
theorem dX9_propagates_44 : decode cX9_propagates 44 = .ok (.goto (-19), 3) := by decide +kernel
theorem dX9_propagates_47 : decode cX9_propagates 47 = .ok (.goto (-30), 3) := by decide +kernel
theorem dX9_propagates_50 : decode cX9_propagates 50 = .ok (.aload_n 0, 1) := by decide +kernel
theorem dX9_propagates_51 : decode cX9_propagates 51 = .ok (.dup, 1) := by decide +kernel
theorem dX9_propagates_52 : decode cX9_propagates 52 = .ok (.getfield 149, 3) := by decide +kernel
theorem dX9_propagates_55 : decode cX9_propagates 55 = .ok (.aload_n 0, 1) := by decide +kernel
theorem dX9_propagates_56 : decode cX9_propagates 56 = .ok (.getfield 143, 3) := by decide +kernel
theorem dX9_propagates_59 : decode cX9_propagates 59 = .ok (.aload_n 0, 1) := by decide +kernel
theorem dX9_propagates_60 : decode cX9_propagates 60 = .ok (.getfield 146, 3) := by decide +kernel
theorem dX9_propagates_63 : decode cX9_propagates 63 = .ok (.iand, 1) := by decide +kernel
theorem dX9_propagates_64 : decode cX9_propagates 64 = .ok (.ifCond .eq 7, 3) := by decide +kernel
theorem dX9_propagates_67 : decode cX9_propagates 67 = .ok (.iconst 1, 1) := by decide +kernel
theorem dX9_propagates_68 : decode cX9_propagates 68 = .ok (.goto 4, 3) := by decide +kernel
theorem dX9_propagates_71 : decode cX9_propagates 71 = .ok (.iconst 0, 1) := by decide +kernel
theorem dX9_propagates_72 : decode cX9_propagates 72 = .ok (.ior, 1) := by decide +kernel
theorem dX9_propagates_73 : decode cX9_propagates 73 = .ok (.putfield 149, 3) := by decide +kernel
theorem dX9_propagates_76 : decode cX9_propagates 76 = .ok (.return_, 1) := by decide +kernel
set_option maxRecDepth 20000 in
theorem ggX9_fixes_X9_wide : GoodIn wsX9_fixes wsX9_wide := goodIn_r _ [8, 9, 26, 27, 28, 29, 30, 31, 32, 33, 34, 35, 36, 37, 38, 39, 40, 41, 42, 43, 44, 45, 46, 47, 48, 49, 50, 51, 52] rfl (by decide +kernel)
set_option maxRecDepth 20000 in
theorem gX9_fixes_X9_wide : GoodIn wsX9_fixes (wsV RX9 64 RX9 yX9_wide wsX9_wide) := goodIn_app (goodIn_r _ [4, 5, 6, 7] rfl (by decide +kernel)) ggX9_fixes_X9_wide
set_option maxRecDepth 20000 in
theorem ggX9_fixes_X9_sign : GoodIn wsX9_fixes wsX9_sign := goodIn_r _ [13, 9, 26, 27, 28, 29, 30, 31, 32, 33, 34, 35, 36, 37, 38, 39, 40, 41, 42, 43, 44, 45, 46, 47, 48, 49, 50, 51, 52] rfl (by decide +kernel)
set_option maxRecDepth 20000 in
theorem gX9_fixes_X9_sign : GoodIn wsX9_fixes (wsV RX9 67 RX9 yX9_sign wsX9_sign) := goodIn_app (goodIn_r _ [10, 11, 12, 7] rfl (by decide +kernel)) ggX9_fixes_X9_sign
set_option maxRecDepth 20000 in
theorem ggX9_fixes_X9_isFixed : GoodIn wsX9_fixes wsX9_isFixed := goodIn_r _ [17, 2, 3, 26, 27, 28, 29, 30, 31, 32, 33, 34, 35, 36, 37, 38, 39, 40, 41, 42, 43, 44, 45, 46, 47, 48, 49, 50, 51, 52] rfl (by decide +kernel)
set_option maxRecDepth 20000 in
theorem gX9_fixes_X9_isFixed : GoodIn wsX9_fixes (wsV RX9 156 RX9 yX9_isFixed wsX9_isFixed) := goodIn_app (goodIn_r _ [14, 15, 16, 7] rfl (by decide +kernel)) ggX9_fixes_X9_isFixed
set_option maxRecDepth 20000 in
theorem ggX9_fixes_X9_literals : GoodIn wsX9_fixes wsX9_literals := goodIn_r _ [21, 4, 5, 6, 7, 8, 9, 10, 11, 12, 13, 26, 27, 28, 29, 30, 31, 32, 33, 34, 35, 36, 37, 38, 39, 40, 41, 42, 43, 44, 45, 46, 47, 48, 49, 50, 51, 52] rfl (by decide +kernel)
set_option maxRecDepth 20000 in
theorem gX9_fixes_X9_literals : GoodIn wsX9_fixes (wsV RX9 86 RX9 yX9_literals wsX9_literals) := goodIn_app (goodIn_r _ [18, 19, 20, 7] rfl (by decide +kernel)) ggX9_fixes_X9_literals
set_option maxRecDepth 20000 in
theorem ggX9_fixes_X9_onlyVariable : GoodIn wsX9_fixes wsX9_onlyVariable := goodIn_r _ [25, 10, 11, 12, 7, 13, 9, 26, 27, 28, 29, 30, 31, 32, 33, 34, 35, 36, 37, 38, 39, 40, 41, 42, 43, 44, 45, 46, 47, 48, 49, 50, 51, 52] rfl (by decide +kernel)
set_option maxRecDepth 20000 in
theorem gX9_fixes_X9_onlyVariable : GoodIn wsX9_fixes (wsV RX9 159 RX9 yX9_onlyVariable wsX9_onlyVariable) := goodIn_app (goodIn_r _ [22, 23, 24, 7] rfl (by decide +kernel)) ggX9_fixes_X9_onlyVariable
theorem dX9_fixes_0 : decode cX9_fixes 0 = .ok (.iconst 0, 1) := by decide +kernel
theorem dX9_fixes_1 : decode cX9_fixes 1 = .ok (.istore_n 2, 1) := by decide +kernel
theorem dX9_fixes_2 : decode cX9_fixes 2 = .ok (.iconst (-1), 1) := by decide +kernel
theorem dX9_fixes_3 : decode cX9_fixes 3 = .ok (.istore_n 3, 1) := by decide +kernel
theorem dX9_fixes_4 : decode cX9_fixes 4 = .ok (.iconst 0, 1) := by decide +kernel
theorem dX9_fixes_5 : decode cX9_fixes 5 = .ok (.istore 4, 2) := by decide +kernel
theorem dX9_fixes_7 : decode cX9_fixes 7 = .ok (.iload 4, 2) := by decide +kernel
theorem dX9_fixes_9 : decode cX9_fixes 9 = .ok (.aload_n 0, 1) := by decide +kernel
theorem dX9_fixes_10 : decode cX9_fixes 10 = .ok (.invokevirtual 64, 3) := by decide +kernel
theorem dX9_fixes_13 : decode cX9_fixes 13 = .ok (.if_icmp .ge 42, 3) := by decide +kernel
theorem dX9_fixes_16 : decode cX9_fixes 16 = .ok (.aload_n 0, 1) := by decide +kernel
theorem dX9_fixes_17 : decode cX9_fixes 17 = .ok (.iload_n 1, 1) := by decide +kernel
theorem dX9_fixes_18 : decode cX9_fixes 18 = .ok (.iload 4, 2) := by decide +kernel
theorem dX9_fixes_20 : decode cX9_fixes 20 = .ok (.invokevirtual 67, 3) := by decide +kernel
theorem dX9_fixes_23 : decode cX9_fixes 23 = .ok (.istore 5, 2) := by decide +kernel
theorem dX9_fixes_25 : decode cX9_fixes 25 = .ok (.iload 5, 2) := by decide +kernel
theorem dX9_fixes_27 : decode cX9_fixes 27 = .ok (.ifCond .eq 22, 3) := by decide +kernel
theorem dX9_fixes_30 : decode cX9_fixes 30 = .ok (.aload_n 0, 1) := by decide +kernel
theorem dX9_fixes_31 : decode cX9_fixes 31 = .ok (.iload 4, 2) := by decide +kernel
theorem dX9_fixes_33 : decode cX9_fixes 33 = .ok (.iconst 3, 1) := by decide +kernel
theorem dX9_fixes_34 : decode cX9_fixes 34 = .ok (.iload 5, 2) := by decide +kernel
theorem dX9_fixes_36 : decode cX9_fixes 36 = .ok (.isub, 1) := by decide +kernel
theorem dX9_fixes_37 : decode cX9_fixes 37 = .ok (.invokevirtual 156, 3) := by decide +kernel
theorem dX9_fixes_40 : decode cX9_fixes 40 = .ok (.ifCond .ne 9, 3) := by decide +kernel
theorem dX9_fixes_43 : decode cX9_fixes 43 = .ok (.iinc 2 1, 3) := by decide +kernel
theorem dX9_fixes_46 : decode cX9_fixes 46 = .ok (.iload 4, 2) := by decide +kernel
theorem dX9_fixes_48 : decode cX9_fixes 48 = .ok (.istore_n 3, 1) := by decide +kernel
theorem dX9_fixes_49 : decode cX9_fixes 49 = .ok (.iinc 4 1, 3) := by decide +kernel
theorem dX9_fixes_52 : decode cX9_fixes 52 = .ok (.goto (-45), 3) := by decide +kernel
theorem dX9_fixes_55 : decode cX9_fixes 55 = .ok (.aload_n 0, 1) := by decide +kernel
theorem dX9_fixes_56 : decode cX9_fixes 56 = .ok (.dup, 1) := by decide +kernel
theorem dX9_fixes_57 : decode cX9_fixes 57 = .ok (.getfield 149, 3) := by decide +kernel
theorem dX9_fixes_60 : decode cX9_fixes 60 = .ok (.iload_n 2, 1) := by decide +kernel
theorem dX9_fixes_61 : decode cX9_fixes 61 = .ok (.ifCond .ne 7, 3) := by decide +kernel
theorem dX9_fixes_64 : decode cX9_fixes 64 = .ok (.iconst 1, 1) := by decide +kernel
theorem dX9_fixes_65 : decode cX9_fixes 65 = .ok (.goto 4, 3) := by decide +kernel
theorem dX9_fixes_68 : decode cX9_fixes 68 = .ok (.iconst 0, 1) := by decide +kernel
theorem dX9_fixes_69 : decode cX9_fixes 69 = .ok (.ior, 1) := by decide +kernel
theorem dX9_fixes_70 : decode cX9_fixes 70 = .ok (.putfield 149, 3) := by decide +kernel
theorem dX9_fixes_73 : decode cX9_fixes 73 = .ok (.aload_n 0, 1) := by decide +kernel
theorem dX9_fixes_74 : decode cX9_fixes 74 = .ok (.iload_n 1, 1) := by decide +kernel
theorem dX9_fixes_75 : decode cX9_fixes 75 = .ok (.invokevirtual 86, 3) := by decide +kernel
theorem dX9_fixes_78 : decode cX9_fixes 78 = .ok (.iconst 1, 1) := by decide +kernel
theorem dX9_fixes_79 : decode cX9_fixes 79 = .ok (.if_icmp .ne 11, 3) := by decide +kernel
theorem dX9_fixes_82 : decode cX9_fixes 82 = .ok (.iconst 1, 1) := by decide +kernel
theorem dX9_fixes_83 : decode cX9_fixes 83 = .ok (.istore_n 2, 1) := by decide +kernel
theorem dX9_fixes_84 : decode cX9_fixes 84 = .ok (.aload_n 0, 1) := by decide +kernel
theorem dX9_fixes_85 : decode cX9_fixes 85 = .ok (.iload_n 1, 1) := by decide +kernel
theorem dX9_fixes_86 : decode cX9_fixes 86 = .ok (.invokevirtual 159, 3) := by decide +kernel
theorem dX9_fixes_89 : decode cX9_fixes 89 = .ok (.istore_n 3, 1) := by decide +kernel
theorem dX9_fixes_90 : decode cX9_fixes 90 = .ok (.iload_n 2, 1) := by decide +kernel
theorem dX9_fixes_91 : decode cX9_fixes 91 = .ok (.iconst 1, 1) := by decide +kernel
theorem dX9_fixes_92 : decode cX9_fixes 92 = .ok (.if_icmp .ne 17, 3) := by decide +kernel
theorem dX9_fixes_95 : decode cX9_fixes 95 = .ok (.aload_n 0, 1) := by decide +kernel
theorem dX9_fixes_96 : decode cX9_fixes 96 = .ok (.iload_n 3, 1) := by decide +kernel
theorem dX9_fixes_97 : decode cX9_fixes 97 = .ok (.aload_n 0, 1) := by decide +kernel
theorem dX9_fixes_98 : decode cX9_fixes 98 = .ok (.iload_n 1, 1) := by decide +kernel
theorem dX9_fixes_99 : decode cX9_fixes 99 = .ok (.iload_n 3, 1) := by decide +kernel
theorem dX9_fixes_100 : decode cX9_fixes 100 = .ok (.invokevirtual 67, 3) := by decide +kernel
theorem dX9_fixes_103 : decode cX9_fixes 103 = .ok (.invokevirtual 156, 3) := by decide +kernel
theorem dX9_fixes_106 : decode cX9_fixes 106 = .ok (.ifCond .eq 5, 3) := by decide +kernel
theorem dX9_fixes_109 : decode cX9_fixes 109 = .ok (.iconst 0, 1) := by decide +kernel
theorem dX9_fixes_110 : decode cX9_fixes 110 = .ok (.ireturn, 1) := by decide +kernel
theorem dX9_fixes_111 : decode cX9_fixes 111 = .ok (.aload_n 0, 1) := by decide +kernel
theorem dX9_fixes_112 : decode cX9_fixes 112 = .ok (.iload_n 1, 1) := by decide +kernel
theorem dX9_fixes_113 : decode cX9_fixes 113 = .ok (.iload_n 3, 1) := by decide +kernel
theorem dX9_fixes_114 : decode cX9_fixes 114 = .ok (.invokevirtual 67, 3) := by decide +kernel
theorem dX9_fixes_117 : decode cX9_fixes 117 = .ok (.iconst 1, 1) := by decide +kernel
theorem dX9_fixes_118 : decode cX9_fixes 118 = .ok (.if_icmp .ne 18, 3) := by decide +kernel
theorem dX9_fixes_121 : decode cX9_fixes 121 = .ok (.aload_n 0, 1) := by decide +kernel
theorem dX9_fixes_122 : decode cX9_fixes 122 = .ok (.dup, 1) := by decide +kernel
theorem dX9_fixes_123 : decode cX9_fixes 123 = .ok (.getfield 143, 3) := by decide +kernel
theorem dX9_fixes_126 : decode cX9_fixes 126 = .ok (.iconst 1, 1) := by decide +kernel
theorem dX9_fixes_127 : decode cX9_fixes 127 = .ok (.iload_n 3, 1) := by decide +kernel
theorem dX9_fixes_128 : decode cX9_fixes 128 = .ok (.ishl, 1) := by decide +kernel
theorem dX9_fixes_129 : decode cX9_fixes 129 = .ok (.ior, 1) := by decide +kernel
theorem dX9_fixes_130 : decode cX9_fixes 130 = .ok (.putfield 143, 3) := by decide +kernel
theorem dX9_fixes_133 : decode cX9_fixes 133 = .ok (.goto 15, 3) := by decide +kernel
theorem dX9_fixes_136 : decode cX9_fixes 136 = .ok (.aload_n 0, 1) := by decide +kernel
theorem dX9_fixes_137 : decode cX9_fixes 137 = .ok (.dup, 1) := by decide +kernel
theorem dX9_fixes_138 : decode cX9_fixes 138 = .ok (.getfield 146, 3) := by decide +kernel
theorem dX9_fixes_141 : decode cX9_fixes 141 = .ok (.iconst 1, 1) := by decide +kernel
theorem dX9_fixes_142 : decode cX9_fixes 142 = .ok (.iload_n 3, 1) := by decide +kernel
theorem dX9_fixes_143 : decode cX9_fixes 143 = .ok (.ishl, 1) := by decide +kernel
theorem dX9_fixes_144 : decode cX9_fixes 144 = .ok (.ior, 1) := by decide +kernel
theorem dX9_fixes_145 : decode cX9_fixes 145 = .ok (.putfield 146, 3) := by decide +kernel
theorem dX9_fixes_148 : decode cX9_fixes 148 = .ok (.iconst 1, 1) := by decide +kernel
theorem dX9_fixes_149 : decode cX9_fixes 149 = .ok (.ireturn, 1) := by decide +kernel
set_option maxRecDepth 20000 in
theorem ggX9_onlyVariable_X9_sign : GoodIn wsX9_onlyVariable wsX9_sign := goodIn_r _ [5, 6, 7, 8, 9, 10, 11, 12, 13, 14, 15, 16, 17, 18, 19, 20, 21, 22, 23, 24, 25, 26, 27, 28, 29, 30, 31, 32, 33] rfl (by decide +kernel)
set_option maxRecDepth 20000 in
theorem gX9_onlyVariable_X9_sign : GoodIn wsX9_onlyVariable (wsV RX9 67 RX9 yX9_sign wsX9_sign) := goodIn_app (goodIn_r _ [1, 2, 3, 4] rfl (by decide +kernel)) ggX9_onlyVariable_X9_sign
theorem dX9_onlyVariable_0 : decode cX9_onlyVariable 0 = .ok (.iconst 0, 1) := by decide +kernel
theorem dX9_onlyVariable_1 : decode cX9_onlyVariable 1 = .ok (.istore_n 2, 1) := by decide +kernel
theorem dX9_onlyVariable_2 : decode cX9_onlyVariable 2 = .ok (.aload_n 0, 1) := by decide +kernel
theorem dX9_onlyVariable_3 : decode cX9_onlyVariable 3 = .ok (.iload_n 1, 1) := by decide +kernel
theorem dX9_onlyVariable_4 : decode cX9_onlyVariable 4 = .ok (.iload_n 2, 1) := by decide +kernel
theorem dX9_onlyVariable_5 : decode cX9_onlyVariable 5 = .ok (.invokevirtual 67, 3) := by decide +kernel
theorem dX9_onlyVariable_8 : decode cX9_onlyVariable 8 = .ok (.ifCond .ne 9, 3) := by decide +kernel
theorem dX9_onlyVariable_11 : decode cX9_onlyVariable 11 = .ok (.iinc 2 1, 3) := by decide +kernel
theorem dX9_onlyVariable_14 : decode cX9_onlyVariable 14 = .ok (.goto (-12), 3) := by decide +kernel
theorem dX9_onlyVariable_17 : decode cX9_onlyVariable 17 = .ok (.iload_n 2, 1) := by decide +kernel
theorem dX9_onlyVariable_18 : decode cX9_onlyVariable 18 = .ok (.ireturn, 1) := by decide +kernel
theorem dX9_append_0 : decode cX9_append 0 = .ok (.aload_n 0, 1) := by decide +kernel
theorem dX9_append_1 : decode cX9_append 1 = .ok (.iconst 0, 1) := by decide +kernel
theorem dX9_append_2 : decode cX9_append 2 = .ok (.putfield 46, 3) := by decide +kernel
theorem dX9_append_5 : decode cX9_append 5 = .ok (.aload_n 0, 1) := by decide +kernel
theorem dX9_append_6 : decode cX9_append 6 = .ok (.getfield 162, 3) := by decide +kernel
theorem dX9_append_9 : decode cX9_append 9 = .ok (.bipush 20, 2) := by decide +kernel
theorem dX9_append_11 : decode cX9_append 11 = .ok (.iadd, 1) := by decide +kernel
theorem dX9_append_12 : decode cX9_append 12 = .ok (.sipush 500, 3) := by decide +kernel
theorem dX9_append_15 : decode cX9_append 15 = .ok (.if_icmp .le 5, 3) := by decide +kernel
theorem dX9_append_18 : decode cX9_append 18 = .ok (.iconst (-1), 1) := by decide +kernel
theorem dX9_append_19 : decode cX9_append 19 = .ok (.ireturn, 1) := by decide +kernel
theorem dX9_append_20 : decode cX9_append 20 = .ok (.iconst 0, 1) := by decide +kernel
theorem dX9_append_21 : decode cX9_append 21 = .ok (.istore 6, 2) := by decide +kernel
theorem dX9_append_23 : decode cX9_append 23 = .ok (.iload 6, 2) := by decide +kernel
theorem dX9_append_25 : decode cX9_append 25 = .ok (.bipush 20, 2) := by decide +kernel
theorem dX9_append_27 : decode cX9_append 27 = .ok (.if_icmp .ge 90, 3) := by decide +kernel
theorem dX9_append_30 : decode cX9_append 30 = .ok (.iload 6, 2) := by decide +kernel
theorem dX9_append_32 : decode cX9_append 32 = .ok (.iconst 4, 1) := by decide +kernel
theorem dX9_append_33 : decode cX9_append 33 = .ok (.if_icmp .ge 7, 3) := by decide +kernel
theorem dX9_append_36 : decode cX9_append 36 = .ok (.iload_n 1, 1) := by decide +kernel
theorem dX9_append_37 : decode cX9_append 37 = .ok (.goto 39, 3) := by decide +kernel
theorem dX9_append_40 : decode cX9_append 40 = .ok (.iload 6, 2) := by decide +kernel
theorem dX9_append_42 : decode cX9_append 42 = .ok (.bipush 8, 2) := by decide +kernel
theorem dX9_append_44 : decode cX9_append 44 = .ok (.if_icmp .ge 7, 3) := by decide +kernel
theorem dX9_append_47 : decode cX9_append 47 = .ok (.iload_n 2, 1) := by decide +kernel
theorem dX9_append_48 : decode cX9_append 48 = .ok (.goto 28, 3) := by decide +kernel
theorem dX9_append_51 : decode cX9_append 51 = .ok (.iload 6, 2) := by decide +kernel
theorem dX9_append_53 : decode cX9_append 53 = .ok (.bipush 12, 2) := by decide +kernel
theorem dX9_append_55 : decode cX9_append 55 = .ok (.if_icmp .ge 7, 3) := by decide +kernel
theorem dX9_append_58 : decode cX9_append 58 = .ok (.iload_n 3, 1) := by decide +kernel
theorem dX9_append_59 : decode cX9_append 59 = .ok (.goto 17, 3) := by decide +kernel
theorem dX9_append_62 : decode cX9_append 62 = .ok (.iload 6, 2) := by decide +kernel
theorem dX9_append_64 : decode cX9_append 64 = .ok (.bipush 16, 2) := by decide +kernel
theorem dX9_append_66 : decode cX9_append 66 = .ok (.if_icmp .ge 8, 3) := by decide +kernel
theorem dX9_append_69 : decode cX9_append 69 = .ok (.iload 4, 2) := by decide +kernel
theorem dX9_append_71 : decode cX9_append 71 = .ok (.goto 5, 3) := by decide +kernel
theorem dX9_append_74 : decode cX9_append 74 = .ok (.iload 5, 2) := by decide +kernel
theorem dX9_append_76 : decode cX9_append 76 = .ok (.istore 7, 2) := by decide +kernel
theorem dX9_append_78 : decode cX9_append 78 = .ok (.aload_n 0, 1) := by decide +kernel
theorem dX9_append_79 : decode cX9_append 79 = .ok (.getfield 35, 3) := by decide +kernel
theorem dX9_append_82 : decode cX9_append 82 = .ok (.aload_n 0, 1) := by decide +kernel
theorem dX9_append_83 : decode cX9_append 83 = .ok (.getfield 162, 3) := by decide +kernel
theorem dX9_append_86 : decode cX9_append 86 = .ok (.iload 7, 2) := by decide +kernel
theorem dX9_append_88 : decode cX9_append 88 = .ok (.bipush 24, 2) := by decide +kernel
theorem dX9_append_90 : decode cX9_append 90 = .ok (.bipush 8, 2) := by decide +kernel
theorem dX9_append_92 : decode cX9_append 92 = .ok (.iload 6, 2) := by decide +kernel
theorem dX9_append_94 : decode cX9_append 94 = .ok (.iconst 4, 1) := by decide +kernel
theorem dX9_append_95 : decode cX9_append 95 = .ok (.irem, 1) := by decide +kernel
theorem dX9_append_96 : decode cX9_append 96 = .ok (.imul, 1) := by decide +kernel
theorem dX9_append_97 : decode cX9_append 97 = .ok (.isub, 1) := by decide +kernel
theorem dX9_append_98 : decode cX9_append 98 = .ok (.ishr, 1) := by decide +kernel
theorem dX9_append_99 : decode cX9_append 99 = .ok (.i2b, 1) := by decide +kernel
theorem dX9_append_100 : decode cX9_append 100 = .ok (.bastore, 1) := by decide +kernel
theorem dX9_append_101 : decode cX9_append 101 = .ok (.aload_n 0, 1) := by decide +kernel
theorem dX9_append_102 : decode cX9_append 102 = .ok (.dup, 1) := by decide +kernel
theorem dX9_append_103 : decode cX9_append 103 = .ok (.getfield 162, 3) := by decide +kernel
theorem dX9_append_106 : decode cX9_append 106 = .ok (.iconst 1, 1) := by decide +kernel
theorem dX9_append_107 : decode cX9_append 107 = .ok (.iadd, 1) := by decide +kernel
theorem dX9_append_108 : decode cX9_append 108 = .ok (.putfield 162, 3) := by decide +kernel
theorem dX9_append_111 : decode cX9_append 111 = .ok (.iinc 6 1, 3) := by decide +kernel
theorem dX9_append_114 : decode cX9_append 114 = .ok (.goto (-91), 3) := by decide +kernel
theorem dX9_append_117 : decode cX9_append 117 = .ok (.aload_n 0, 1) := by decide +kernel
theorem dX9_append_118 : decode cX9_append 118 = .ok (.getfield 162, 3) := by decide +kernel
theorem dX9_append_121 : decode cX9_append 121 = .ok (.ireturn, 1) := by decide +kernel
theorem dX9_truncate_0 : decode cX9_truncate 0 = .ok (.aload_n 0, 1) := by decide +kernel
theorem dX9_truncate_1 : decode cX9_truncate 1 = .ok (.iconst 0, 1) := by decide +kernel
theorem dX9_truncate_2 : decode cX9_truncate 2 = .ok (.putfield 46, 3) := by decide +kernel
theorem dX9_truncate_5 : decode cX9_truncate 5 = .ok (.iload_n 1, 1) := by decide +kernel
theorem dX9_truncate_6 : decode cX9_truncate 6 = .ok (.ifCond .lt 11, 3) := by decide +kernel
theorem dX9_truncate_9 : decode cX9_truncate 9 = .ok (.iload_n 1, 1) := by decide +kernel
theorem dX9_truncate_10 : decode cX9_truncate 10 = .ok (.aload_n 0, 1) := by decide +kernel
theorem dX9_truncate_11 : decode cX9_truncate 11 = .ok (.getfield 162, 3) := by decide +kernel
theorem dX9_truncate_14 : decode cX9_truncate 14 = .ok (.if_icmp .le 5, 3) := by decide +kernel
theorem dX9_truncate_17 : decode cX9_truncate 17 = .ok (.iconst 0, 1) := by decide +kernel
theorem dX9_truncate_18 : decode cX9_truncate 18 = .ok (.ireturn, 1) := by decide +kernel
theorem dX9_truncate_19 : decode cX9_truncate 19 = .ok (.aload_n 0, 1) := by decide +kernel
theorem dX9_truncate_20 : decode cX9_truncate 20 = .ok (.iload_n 1, 1) := by decide +kernel
theorem dX9_truncate_21 : decode cX9_truncate 21 = .ok (.putfield 162, 3) := by decide +kernel
theorem dX9_truncate_24 : decode cX9_truncate 24 = .ok (.iconst 1, 1) := by decide +kernel
theorem dX9_truncate_25 : decode cX9_truncate 25 = .ok (.ireturn, 1) := by decide +kernel
theorem dX9_ahead_0 : decode cX9_ahead 0 = .ok (.aload_n 0, 1) := by decide +kernel
theorem dX9_ahead_1 : decode cX9_ahead 1 = .ok (.getfield 165, 3) := by decide +kernel
theorem dX9_ahead_4 : decode cX9_ahead 4 = .ok (.aload_n 0, 1) := by decide +kernel
theorem dX9_ahead_5 : decode cX9_ahead 5 = .ok (.getfield 168, 3) := by decide +kernel
theorem dX9_ahead_8 : decode cX9_ahead 8 = .ok (.if_icmp .ge 15, 3) := by decide +kernel
theorem dX9_ahead_11 : decode cX9_ahead 11 = .ok (.aload_n 0, 1) := by decide +kernel
theorem dX9_ahead_12 : decode cX9_ahead 12 = .ok (.getfield 35, 3) := by decide +kernel
theorem dX9_ahead_15 : decode cX9_ahead 15 = .ok (.aload_n 0, 1) := by decide +kernel
theorem dX9_ahead_16 : decode cX9_ahead 16 = .ok (.getfield 165, 3) := by decide +kernel
theorem dX9_ahead_19 : decode cX9_ahead 19 = .ok (.baload, 1) := by decide +kernel
theorem dX9_ahead_20 : decode cX9_ahead 20 = .ok (.goto 4, 3) := by decide +kernel
theorem dX9_ahead_23 : decode cX9_ahead 23 = .ok (.iconst 0, 1) := by decide +kernel
theorem dX9_ahead_24 : decode cX9_ahead 24 = .ok (.ireturn, 1) := by decide +kernel
set_option maxRecDepth 20000 in
theorem ggX9_skips_X9_ahead : GoodIn wsX9_skips wsX9_ahead := goodIn_r _ [8, 3, 9, 10, 14, 15, 16, 17, 18, 19, 20, 21, 22, 23, 24, 25, 26, 27, 28, 29, 30, 31, 32, 33, 34, 35, 36, 37, 38, 39, 40] rfl (by decide +kernel)
set_option maxRecDepth 20000 in
theorem gX9_skips_X9_ahead : GoodIn wsX9_skips (wsV RX9 171 RX9 yX9_ahead wsX9_ahead) := goodIn_app (goodIn_r _ [4, 5, 6, 7] rfl (by decide +kernel)) ggX9_skips_X9_ahead
set_option maxRecDepth 20000 in
theorem ggX9_skips_X9_in : GoodIn wsX9_skips wsX9_in := goodIn_r _ [13] rfl (by decide +kernel)
set_option maxRecDepth 20000 in
theorem gX9_skips_X9_in : GoodIn wsX9_skips (va_wsS RX9 178 yX9_in wsX9_in) := goodIn_app (goodIn_r _ [11, 12, 7] rfl (by decide +kernel)) ggX9_skips_X9_in
theorem dX9_skips_0 : decode cX9_skips 0 = .ok (.aload_n 0, 1) := by decide +kernel
theorem dX9_skips_1 : decode cX9_skips 1 = .ok (.invokevirtual 171, 3) := by decide +kernel
theorem dX9_skips_4 : decode cX9_skips 4 = .ok (.i2l, 1) := by decide +kernel
theorem dX9_skips_5 : decode cX9_skips 5 = .ok (.ldc2_w 174, 3) := by decide +kernel
theorem dX9_skips_8 : decode cX9_skips 8 = .ok (.ldc2_w 176, 3) := by decide +kernel
theorem dX9_skips_11 : decode cX9_skips 11 = .ok (.invokestatic 178, 3) := by decide +kernel
theorem dX9_skips_14 : decode cX9_skips 14 = .ok (.ifCond .ne 12, 3) := by decide +kernel
theorem dX9_skips_17 : decode cX9_skips 17 = .ok (.aload_n 0, 1) := by decide +kernel
theorem dX9_skips_18 : decode cX9_skips 18 = .ok (.invokevirtual 171, 3) := by decide +kernel
theorem dX9_skips_21 : decode cX9_skips 21 = .ok (.bipush 32, 2) := by decide +kernel
theorem dX9_skips_23 : decode cX9_skips 23 = .ok (.if_icmp .ne 16, 3) := by decide +kernel
theorem dX9_skips_26 : decode cX9_skips 26 = .ok (.aload_n 0, 1) := by decide +kernel
theorem dX9_skips_27 : decode cX9_skips 27 = .ok (.dup, 1) := by decide +kernel
theorem dX9_skips_28 : decode cX9_skips 28 = .ok (.getfield 165, 3) := by decide +kernel
theorem dX9_skips_31 : decode cX9_skips 31 = .ok (.iconst 1, 1) := by decide +kernel
theorem dX9_skips_32 : decode cX9_skips 32 = .ok (.iadd, 1) := by decide +kernel
theorem dX9_skips_33 : decode cX9_skips 33 = .ok (.putfield 165, 3) := by decide +kernel
theorem dX9_skips_36 : decode cX9_skips 36 = .ok (.goto (-36), 3) := by decide +kernel
theorem dX9_skips_39 : decode cX9_skips 39 = .ok (.return_, 1) := by decide +kernel
theorem dX9_hasFailed_0 : decode cX9_hasFailed 0 = .ok (.aload_n 0, 1) := by decide +kernel
theorem dX9_hasFailed_1 : decode cX9_hasFailed 1 = .ok (.getfield 182, 3) := by decide +kernel
theorem dX9_hasFailed_4 : decode cX9_hasFailed 4 = .ok (.iconst (-1), 1) := by decide +kernel
theorem dX9_hasFailed_5 : decode cX9_hasFailed 5 = .ok (.if_icmp .eq 7, 3) := by decide +kernel
theorem dX9_hasFailed_8 : decode cX9_hasFailed 8 = .ok (.iconst 1, 1) := by decide +kernel
theorem dX9_hasFailed_9 : decode cX9_hasFailed 9 = .ok (.goto 4, 3) := by decide +kernel
theorem dX9_hasFailed_12 : decode cX9_hasFailed 12 = .ok (.iconst 0, 1) := by decide +kernel
theorem dX9_hasFailed_13 : decode cX9_hasFailed 13 = .ok (.ireturn, 1) := by decide +kernel
set_option maxRecDepth 20000 in
theorem ggX9_fails_X9_hasFailed : GoodIn wsX9_fails wsX9_hasFailed := goodIn_r _ [7, 1, 8, 9, 10, 11, 12, 13, 14, 15, 16, 17, 18, 19, 20, 21, 22, 23, 24, 25, 26, 27, 28, 29, 30, 31, 32, 33, 34] rfl (by decide +kernel)
set_option maxRecDepth 20000 in
theorem gX9_fails_X9_hasFailed : GoodIn wsX9_fails (wsV RX9 185 RX9 yX9_hasFailed wsX9_hasFailed) := goodIn_app (goodIn_r _ [3, 4, 5, 6] rfl (by decide +kernel)) ggX9_fails_X9_hasFailed
theorem dX9_fails_0 : decode cX9_fails 0 = .ok (.aload_n 0, 1) := by decide +kernel
theorem dX9_fails_1 : decode cX9_fails 1 = .ok (.invokevirtual 185, 3) := by decide +kernel
theorem dX9_fails_4 : decode cX9_fails 4 = .ok (.ifCond .ne 13, 3) := by decide +kernel
theorem dX9_fails_7 : decode cX9_fails 7 = .ok (.aload_n 0, 1) := by decide +kernel
theorem dX9_fails_8 : decode cX9_fails 8 = .ok (.iload_n 1, 1) := by decide +kernel
theorem dX9_fails_9 : decode cX9_fails 9 = .ok (.putfield 182, 3) := by decide +kernel
theorem dX9_fails_12 : decode cX9_fails 12 = .ok (.aload_n 0, 1) := by decide +kernel
theorem dX9_fails_13 : decode cX9_fails 13 = .ok (.iload_n 2, 1) := by decide +kernel
theorem dX9_fails_14 : decode cX9_fails 14 = .ok (.putfield 188, 3) := by decide +kernel
theorem dX9_fails_17 : decode cX9_fails 17 = .ok (.return_, 1) := by decide +kernel
set_option maxRecDepth 20000 in
theorem ggX9_takesWord_X9_skips : GoodIn wsX9_takesWord wsX9_skips := goodIn_r _ [10, 11, 12, 1, 13, 14, 15, 9, 16, 17, 18, 19, 20, 21, 22, 23, 24, 25, 26, 27, 28, 29, 30, 31, 32, 33, 34, 35, 36, 37, 38, 39, 40, 41, 42, 43, 44, 45, 46, 47, 48] rfl (by decide +kernel)
set_option maxRecDepth 20000 in
theorem gX9_takesWord_X9_skips : GoodIn wsX9_takesWord (wsV RX9 191 RX9 yX9_skips wsX9_skips) := goodIn_app (goodIn_r _ [6, 7, 8, 9] rfl (by decide +kernel)) ggX9_takesWord_X9_skips
set_option maxRecDepth 20000 in
theorem ggX9_takesWord_X9_ahead : GoodIn wsX9_takesWord wsX9_ahead := goodIn_r _ [16, 1, 17, 18, 22, 23, 24, 25, 26, 27, 28, 29, 30, 31, 32, 33, 34, 35, 36, 37, 38, 39, 40, 41, 42, 43, 44, 45, 46, 47, 48] rfl (by decide +kernel)
set_option maxRecDepth 20000 in
theorem gX9_takesWord_X9_ahead : GoodIn wsX9_takesWord (wsV RX9 171 RX9 yX9_ahead wsX9_ahead) := goodIn_app (goodIn_r _ [13, 14, 15, 9] rfl (by decide +kernel)) ggX9_takesWord_X9_ahead
set_option maxRecDepth 20000 in
theorem ggX9_takesWord_X9_in : GoodIn wsX9_takesWord wsX9_in := goodIn_r _ [21] rfl (by decide +kernel)
set_option maxRecDepth 20000 in
theorem gX9_takesWord_X9_in : GoodIn wsX9_takesWord (va_wsS RX9 178 yX9_in wsX9_in) := goodIn_app (goodIn_r _ [19, 20, 9] rfl (by decide +kernel)) ggX9_takesWord_X9_in
theorem dX9_takesWord_0 : decode cX9_takesWord 0 = .ok (.aload_n 0, 1) := by decide +kernel
theorem dX9_takesWord_1 : decode cX9_takesWord 1 = .ok (.invokevirtual 191, 3) := by decide +kernel
theorem dX9_takesWord_4 : decode cX9_takesWord 4 = .ok (.aload_n 0, 1) := by decide +kernel
theorem dX9_takesWord_5 : decode cX9_takesWord 5 = .ok (.aload_n 0, 1) := by decide +kernel
theorem dX9_takesWord_6 : decode cX9_takesWord 6 = .ok (.getfield 165, 3) := by decide +kernel
theorem dX9_takesWord_9 : decode cX9_takesWord 9 = .ok (.putfield 194, 3) := by decide +kernel
theorem dX9_takesWord_12 : decode cX9_takesWord 12 = .ok (.aload_n 0, 1) := by decide +kernel
theorem dX9_takesWord_13 : decode cX9_takesWord 13 = .ok (.invokevirtual 171, 3) := by decide +kernel
theorem dX9_takesWord_16 : decode cX9_takesWord 16 = .ok (.i2l, 1) := by decide +kernel
theorem dX9_takesWord_17 : decode cX9_takesWord 17 = .ok (.ldc2_w 197, 3) := by decide +kernel
theorem dX9_takesWord_20 : decode cX9_takesWord 20 = .ok (.ldc2_w 199, 3) := by decide +kernel
theorem dX9_takesWord_23 : decode cX9_takesWord 23 = .ok (.invokestatic 178, 3) := by decide +kernel
theorem dX9_takesWord_26 : decode cX9_takesWord 26 = .ok (.ifCond .eq 16, 3) := by decide +kernel
theorem dX9_takesWord_29 : decode cX9_takesWord 29 = .ok (.aload_n 0, 1) := by decide +kernel
theorem dX9_takesWord_30 : decode cX9_takesWord 30 = .ok (.dup, 1) := by decide +kernel
theorem dX9_takesWord_31 : decode cX9_takesWord 31 = .ok (.getfield 165, 3) := by decide +kernel
theorem dX9_takesWord_34 : decode cX9_takesWord 34 = .ok (.iconst 1, 1) := by decide +kernel
theorem dX9_takesWord_35 : decode cX9_takesWord 35 = .ok (.iadd, 1) := by decide +kernel
theorem dX9_takesWord_36 : decode cX9_takesWord 36 = .ok (.putfield 165, 3) := by decide +kernel
theorem dX9_takesWord_39 : decode cX9_takesWord 39 = .ok (.goto (-27), 3) := by decide +kernel
theorem dX9_takesWord_42 : decode cX9_takesWord 42 = .ok (.aload_n 0, 1) := by decide +kernel
theorem dX9_takesWord_43 : decode cX9_takesWord 43 = .ok (.aload_n 0, 1) := by decide +kernel
theorem dX9_takesWord_44 : decode cX9_takesWord 44 = .ok (.getfield 165, 3) := by decide +kernel
theorem dX9_takesWord_47 : decode cX9_takesWord 47 = .ok (.aload_n 0, 1) := by decide +kernel
theorem dX9_takesWord_48 : decode cX9_takesWord 48 = .ok (.getfield 194, 3) := by decide +kernel
theorem dX9_takesWord_51 : decode cX9_takesWord 51 = .ok (.isub, 1) := by decide +kernel
theorem dX9_takesWord_52 : decode cX9_takesWord 52 = .ok (.putfield 201, 3) := by decide +kernel
theorem dX9_takesWord_55 : decode cX9_takesWord 55 = .ok (.return_, 1) := by decide +kernel
set_option maxRecDepth 20000 in
theorem ggX9_isToken_J0_length_8abf5 : GoodIn wsX9_isToken wsJ0_length_8abf5 := goodIn_r _ [8, 9, 10, 11, 12, 7, 13, 14, 15] rfl (by decide +kernel)
set_option maxRecDepth 20000 in
theorem gX9_isToken_J0_length_8abf5 : GoodIn wsX9_isToken (wsV RX9 204 RJ0 yJ0_length_8abf5 wsJ0_length_8abf5) := goodIn_app (goodIn_r _ [4, 5, 6, 7] rfl (by decide +kernel)) ggX9_isToken_J0_length_8abf5
set_option maxRecDepth 20000 in
theorem ggX9_isToken_J0_charAt_5068e : GoodIn wsX9_isToken wsJ0_charAt_5068e := goodIn_r _ [19, 9, 20, 21, 22, 7, 23, 14, 15, 24, 25, 26, 27, 28, 29, 30, 31, 32, 33, 34, 35, 36, 37, 38, 39, 40, 41, 42, 43, 44, 45, 46, 47, 48, 49, 50, 51, 52] rfl (by decide +kernel)
set_option maxRecDepth 20000 in
theorem gX9_isToken_J0_charAt_5068e : GoodIn wsX9_isToken (wsV RX9 209 RJ0 yJ0_charAt_5068e wsJ0_charAt_5068e) := goodIn_app (goodIn_r _ [16, 17, 18, 7] rfl (by decide +kernel)) ggX9_isToken_J0_charAt_5068e
theorem dX9_isToken_0 : decode cX9_isToken 0 = .ok (.aload_n 0, 1) := by decide +kernel
theorem dX9_isToken_1 : decode cX9_isToken 1 = .ok (.getfield 201, 3) := by decide +kernel
theorem dX9_isToken_4 : decode cX9_isToken 4 = .ok (.aload_n 1, 1) := by decide +kernel
theorem dX9_isToken_5 : decode cX9_isToken 5 = .ok (.invokevirtual 204, 3) := by decide +kernel
theorem dX9_isToken_8 : decode cX9_isToken 8 = .ok (.if_icmp .eq 5, 3) := by decide +kernel
theorem dX9_isToken_11 : decode cX9_isToken 11 = .ok (.iconst 0, 1) := by decide +kernel
theorem dX9_isToken_12 : decode cX9_isToken 12 = .ok (.ireturn, 1) := by decide +kernel
theorem dX9_isToken_13 : decode cX9_isToken 13 = .ok (.iconst 0, 1) := by decide +kernel
theorem dX9_isToken_14 : decode cX9_isToken 14 = .ok (.istore_n 2, 1) := by decide +kernel
theorem dX9_isToken_15 : decode cX9_isToken 15 = .ok (.iload_n 2, 1) := by decide +kernel
theorem dX9_isToken_16 : decode cX9_isToken 16 = .ok (.aload_n 0, 1) := by decide +kernel
theorem dX9_isToken_17 : decode cX9_isToken 17 = .ok (.getfield 201, 3) := by decide +kernel
theorem dX9_isToken_20 : decode cX9_isToken 20 = .ok (.if_icmp .ge 30, 3) := by decide +kernel
theorem dX9_isToken_23 : decode cX9_isToken 23 = .ok (.aload_n 0, 1) := by decide +kernel
theorem dX9_isToken_24 : decode cX9_isToken 24 = .ok (.getfield 35, 3) := by decide +kernel
theorem dX9_isToken_27 : decode cX9_isToken 27 = .ok (.aload_n 0, 1) := by decide +kernel
theorem dX9_isToken_28 : decode cX9_isToken 28 = .ok (.getfield 194, 3) := by decide +kernel
theorem dX9_isToken_31 : decode cX9_isToken 31 = .ok (.iload_n 2, 1) := by decide +kernel
theorem dX9_isToken_32 : decode cX9_isToken 32 = .ok (.iadd, 1) := by decide +kernel
theorem dX9_isToken_33 : decode cX9_isToken 33 = .ok (.baload, 1) := by decide +kernel
theorem dX9_isToken_34 : decode cX9_isToken 34 = .ok (.aload_n 1, 1) := by decide +kernel
theorem dX9_isToken_35 : decode cX9_isToken 35 = .ok (.iload_n 2, 1) := by decide +kernel
theorem dX9_isToken_36 : decode cX9_isToken 36 = .ok (.invokevirtual 209, 3) := by decide +kernel
theorem dX9_isToken_39 : decode cX9_isToken 39 = .ok (.if_icmp .eq 5, 3) := by decide +kernel
theorem dX9_isToken_42 : decode cX9_isToken 42 = .ok (.iconst 0, 1) := by decide +kernel
theorem dX9_isToken_43 : decode cX9_isToken 43 = .ok (.ireturn, 1) := by decide +kernel
theorem dX9_isToken_44 : decode cX9_isToken 44 = .ok (.iinc 2 1, 3) := by decide +kernel
theorem dX9_isToken_47 : decode cX9_isToken 47 = .ok (.goto (-32), 3) := by decide +kernel
theorem dX9_isToken_50 : decode cX9_isToken 50 = .ok (.iconst 1, 1) := by decide +kernel
theorem dX9_isToken_51 : decode cX9_isToken 51 = .ok (.ireturn, 1) := by decide +kernel
set_option maxRecDepth 20000 in
theorem ggX9_number_X9_hasFailed : GoodIn wsX9_number wsX9_hasFailed := goodIn_r _ [13, 14, 35, 36, 37, 38, 39, 40, 41, 42, 43, 44, 45, 46, 47, 48, 49, 50, 51, 52, 53, 54, 55, 56, 57, 58, 59, 60, 61] rfl (by decide +kernel)
set_option maxRecDepth 20000 in
theorem gX9_number_X9_hasFailed : GoodIn wsX9_number (wsV RX9 185 RX9 yX9_hasFailed wsX9_hasFailed) := goodIn_app (goodIn_r _ [9, 10, 11, 12] rfl (by decide +kernel)) ggX9_number_X9_hasFailed
set_option maxRecDepth 20000 in
theorem ggX9_number_X9_skips : GoodIn wsX9_number wsX9_skips := goodIn_r _ [18, 19, 20, 1, 21, 22, 23, 12, 24, 25, 26, 27, 28, 29, 35, 36, 37, 38, 39, 40, 41, 42, 43, 44, 45, 46, 47, 48, 49, 50, 51, 52, 53, 54, 55, 56, 57, 58, 59, 60, 61] rfl (by decide +kernel)
set_option maxRecDepth 20000 in
theorem gX9_number_X9_skips : GoodIn wsX9_number (wsV RX9 191 RX9 yX9_skips wsX9_skips) := goodIn_app (goodIn_r _ [15, 16, 17, 12] rfl (by decide +kernel)) ggX9_number_X9_skips
set_option maxRecDepth 20000 in
theorem ggX9_number_X9_ahead : GoodIn wsX9_number wsX9_ahead := goodIn_r _ [24, 1, 25, 26, 35, 36, 37, 38, 39, 40, 41, 42, 43, 44, 45, 46, 47, 48, 49, 50, 51, 52, 53, 54, 55, 56, 57, 58, 59, 60, 61] rfl (by decide +kernel)
set_option maxRecDepth 20000 in
theorem gX9_number_X9_ahead : GoodIn wsX9_number (wsV RX9 171 RX9 yX9_ahead wsX9_ahead) := goodIn_app (goodIn_r _ [21, 22, 23, 12] rfl (by decide +kernel)) ggX9_number_X9_ahead
set_option maxRecDepth 20000 in
theorem ggX9_number_X9_in : GoodIn wsX9_number wsX9_in := goodIn_r _ [29] rfl (by decide +kernel)
set_option maxRecDepth 20000 in
theorem gX9_number_X9_in : GoodIn wsX9_number (va_wsS RX9 178 yX9_in wsX9_in) := goodIn_app (goodIn_r _ [27, 28, 12] rfl (by decide +kernel)) ggX9_number_X9_in
set_option maxRecDepth 20000 in
theorem ggX9_number_X9_fails : GoodIn wsX9_number wsX9_fails := goodIn_r _ [33, 14, 34, 9, 10, 11, 12, 13, 35, 36, 37, 38, 39, 40, 41, 42, 43, 44, 45, 46, 47, 48, 49, 50, 51, 52, 53, 54, 55, 56, 57, 58, 59, 60, 61] rfl (by decide +kernel)
set_option maxRecDepth 20000 in
theorem gX9_number_X9_fails : GoodIn wsX9_number (wsV RX9 217 RX9 yX9_fails wsX9_fails) := goodIn_app (goodIn_r _ [30, 31, 32, 12] rfl (by decide +kernel)) ggX9_number_X9_fails
theorem dX9_number_0 : decode cX9_number 0 = .ok (.aload_n 0, 1) := by decide +kernel
theorem dX9_number_1 : decode cX9_number 1 = .ok (.invokevirtual 185, 3) := by decide +kernel
theorem dX9_number_4 : decode cX9_number 4 = .ok (.ifCond .eq 5, 3) := by decide +kernel
theorem dX9_number_7 : decode cX9_number 7 = .ok (.iload_n 1, 1) := by decide +kernel
theorem dX9_number_8 : decode cX9_number 8 = .ok (.ireturn, 1) := by decide +kernel
theorem dX9_number_9 : decode cX9_number 9 = .ok (.aload_n 0, 1) := by decide +kernel
theorem dX9_number_10 : decode cX9_number 10 = .ok (.invokevirtual 191, 3) := by decide +kernel
theorem dX9_number_13 : decode cX9_number 13 = .ok (.aload_n 0, 1) := by decide +kernel
theorem dX9_number_14 : decode cX9_number 14 = .ok (.aload_n 0, 1) := by decide +kernel
theorem dX9_number_15 : decode cX9_number 15 = .ok (.getfield 165, 3) := by decide +kernel
theorem dX9_number_18 : decode cX9_number 18 = .ok (.putfield 194, 3) := by decide +kernel
theorem dX9_number_21 : decode cX9_number 21 = .ok (.iconst 0, 1) := by decide +kernel
theorem dX9_number_22 : decode cX9_number 22 = .ok (.istore_n 3, 1) := by decide +kernel
theorem dX9_number_23 : decode cX9_number 23 = .ok (.aload_n 0, 1) := by decide +kernel
theorem dX9_number_24 : decode cX9_number 24 = .ok (.invokevirtual 171, 3) := by decide +kernel
theorem dX9_number_27 : decode cX9_number 27 = .ok (.i2l, 1) := by decide +kernel
theorem dX9_number_28 : decode cX9_number 28 = .ok (.ldc2_w 213, 3) := by decide +kernel
theorem dX9_number_31 : decode cX9_number 31 = .ok (.ldc2_w 215, 3) := by decide +kernel
theorem dX9_number_34 : decode cX9_number 34 = .ok (.invokestatic 178, 3) := by decide +kernel
theorem dX9_number_37 : decode cX9_number 37 = .ok (.ifCond .eq 42, 3) := by decide +kernel
theorem dX9_number_40 : decode cX9_number 40 = .ok (.aload_n 0, 1) := by decide +kernel
theorem dX9_number_41 : decode cX9_number 41 = .ok (.getfield 165, 3) := by decide +kernel
theorem dX9_number_44 : decode cX9_number 44 = .ok (.aload_n 0, 1) := by decide +kernel
theorem dX9_number_45 : decode cX9_number 45 = .ok (.getfield 194, 3) := by decide +kernel
theorem dX9_number_48 : decode cX9_number 48 = .ok (.isub, 1) := by decide +kernel
theorem dX9_number_49 : decode cX9_number 49 = .ok (.iconst 4, 1) := by decide +kernel
theorem dX9_number_50 : decode cX9_number 50 = .ok (.if_icmp .ge 16, 3) := by decide +kernel
theorem dX9_number_53 : decode cX9_number 53 = .ok (.bipush 10, 2) := by decide +kernel
theorem dX9_number_55 : decode cX9_number 55 = .ok (.iload_n 3, 1) := by decide +kernel
theorem dX9_number_56 : decode cX9_number 56 = .ok (.imul, 1) := by decide +kernel
theorem dX9_number_57 : decode cX9_number 57 = .ok (.aload_n 0, 1) := by decide +kernel
theorem dX9_number_58 : decode cX9_number 58 = .ok (.invokevirtual 171, 3) := by decide +kernel
theorem dX9_number_61 : decode cX9_number 61 = .ok (.iadd, 1) := by decide +kernel
theorem dX9_number_62 : decode cX9_number 62 = .ok (.bipush 48, 2) := by decide +kernel
theorem dX9_number_64 : decode cX9_number 64 = .ok (.isub, 1) := by decide +kernel
theorem dX9_number_65 : decode cX9_number 65 = .ok (.istore_n 3, 1) := by decide +kernel
theorem dX9_number_66 : decode cX9_number 66 = .ok (.aload_n 0, 1) := by decide +kernel
theorem dX9_number_67 : decode cX9_number 67 = .ok (.dup, 1) := by decide +kernel
theorem dX9_number_68 : decode cX9_number 68 = .ok (.getfield 165, 3) := by decide +kernel
theorem dX9_number_71 : decode cX9_number 71 = .ok (.iconst 1, 1) := by decide +kernel
theorem dX9_number_72 : decode cX9_number 72 = .ok (.iadd, 1) := by decide +kernel
theorem dX9_number_73 : decode cX9_number 73 = .ok (.putfield 165, 3) := by decide +kernel
theorem dX9_number_76 : decode cX9_number 76 = .ok (.goto (-53), 3) := by decide +kernel
theorem dX9_number_79 : decode cX9_number 79 = .ok (.aload_n 0, 1) := by decide +kernel
theorem dX9_number_80 : decode cX9_number 80 = .ok (.getfield 165, 3) := by decide +kernel
theorem dX9_number_83 : decode cX9_number 83 = .ok (.aload_n 0, 1) := by decide +kernel
theorem dX9_number_84 : decode cX9_number 84 = .ok (.getfield 194, 3) := by decide +kernel
theorem dX9_number_87 : decode cX9_number 87 = .ok (.if_icmp .ne 15, 3) := by decide +kernel
theorem dX9_number_90 : decode cX9_number 90 = .ok (.aload_n 0, 1) := by decide +kernel
theorem dX9_number_91 : decode cX9_number 91 = .ok (.aload_n 0, 1) := by decide +kernel
theorem dX9_number_92 : decode cX9_number 92 = .ok (.getfield 194, 3) := by decide +kernel
theorem dX9_number_95 : decode cX9_number 95 = .ok (.iconst 1, 1) := by decide +kernel
theorem dX9_number_96 : decode cX9_number 96 = .ok (.invokevirtual 217, 3) := by decide +kernel
theorem dX9_number_99 : decode cX9_number 99 = .ok (.goto 37, 3) := by decide +kernel
theorem dX9_number_102 : decode cX9_number 102 = .ok (.aload_n 0, 1) := by decide +kernel
theorem dX9_number_103 : decode cX9_number 103 = .ok (.getfield 165, 3) := by decide +kernel
theorem dX9_number_106 : decode cX9_number 106 = .ok (.aload_n 0, 1) := by decide +kernel
theorem dX9_number_107 : decode cX9_number 107 = .ok (.getfield 194, 3) := by decide +kernel
theorem dX9_number_110 : decode cX9_number 110 = .ok (.isub, 1) := by decide +kernel
theorem dX9_number_111 : decode cX9_number 111 = .ok (.iconst 4, 1) := by decide +kernel
theorem dX9_number_112 : decode cX9_number 112 = .ok (.if_icmp .gt 15, 3) := by decide +kernel
theorem dX9_number_115 : decode cX9_number 115 = .ok (.iload_n 3, 1) := by decide +kernel
theorem dX9_number_116 : decode cX9_number 116 = .ok (.i2l, 1) := by decide +kernel
theorem dX9_number_117 : decode cX9_number 117 = .ok (.iload_n 1, 1) := by decide +kernel
theorem dX9_number_118 : decode cX9_number 118 = .ok (.i2l, 1) := by decide +kernel
theorem dX9_number_119 : decode cX9_number 119 = .ok (.iload_n 2, 1) := by decide +kernel
theorem dX9_number_120 : decode cX9_number 120 = .ok (.i2l, 1) := by decide +kernel
theorem dX9_number_121 : decode cX9_number 121 = .ok (.invokestatic 178, 3) := by decide +kernel
theorem dX9_number_124 : decode cX9_number 124 = .ok (.ifCond .ne 12, 3) := by decide +kernel
theorem dX9_number_127 : decode cX9_number 127 = .ok (.aload_n 0, 1) := by decide +kernel
theorem dX9_number_128 : decode cX9_number 128 = .ok (.aload_n 0, 1) := by decide +kernel
theorem dX9_number_129 : decode cX9_number 129 = .ok (.getfield 194, 3) := by decide +kernel
theorem dX9_number_132 : decode cX9_number 132 = .ok (.iconst 2, 1) := by decide +kernel
theorem dX9_number_133 : decode cX9_number 133 = .ok (.invokevirtual 217, 3) := by decide +kernel
theorem dX9_number_136 : decode cX9_number 136 = .ok (.aload_n 0, 1) := by decide +kernel
theorem dX9_number_137 : decode cX9_number 137 = .ok (.invokevirtual 185, 3) := by decide +kernel
theorem dX9_number_140 : decode cX9_number 140 = .ok (.ifCond .eq 11, 3) := by decide +kernel
theorem dX9_number_143 : decode cX9_number 143 = .ok (.iconst 0, 1) := by decide +kernel
theorem dX9_number_144 : decode cX9_number 144 = .ok (.iload_n 1, 1) := by decide +kernel
theorem dX9_number_145 : decode cX9_number 145 = .ok (.invokestatic 126, 3) := by decide +kernel
theorem dX9_number_148 : decode cX9_number 148 = .ok (.goto 4, 3) := by decide +kernel
theorem dX9_number_151 : decode cX9_number 151 = .ok (.iload_n 3, 1) := by decide +kernel
theorem dX9_number_152 : decode cX9_number 152 = .ok (.ireturn, 1) := by decide +kernel
set_option maxRecDepth 20000 in
theorem ggX9_takesVariable_X9_hasFailed : GoodIn wsX9_takesVariable wsX9_hasFailed := goodIn_r _ [8, 9, 41, 42, 43, 44, 45, 46, 47, 48, 49, 50, 51, 52, 53, 54, 55, 56, 57, 58, 59, 60, 61, 62, 63, 64, 65, 66, 67] rfl (by decide +kernel)
set_option maxRecDepth 20000 in
theorem gX9_takesVariable_X9_hasFailed : GoodIn wsX9_takesVariable (wsV RX9 185 RX9 yX9_hasFailed wsX9_hasFailed) := goodIn_app (goodIn_r _ [4, 5, 6, 7] rfl (by decide +kernel)) ggX9_takesVariable_X9_hasFailed
set_option maxRecDepth 20000 in
theorem ggX9_takesVariable_X9_takesWord : GoodIn wsX9_takesVariable wsX9_takesWord := goodIn_r _ [13, 14, 2, 15, 16, 1, 17, 18, 19, 7, 20, 21, 22, 23, 24, 25, 26, 27, 3, 28, 29, 30, 41, 42, 43, 44, 45, 46, 47, 48, 49, 50, 51, 52, 53, 54, 55, 56, 57, 58, 59, 60, 61, 62, 63, 64, 65, 66, 67] rfl (by decide +kernel)
set_option maxRecDepth 20000 in
theorem gX9_takesVariable_X9_takesWord : GoodIn wsX9_takesVariable (wsV RX9 220 RX9 yX9_takesWord wsX9_takesWord) := goodIn_app (goodIn_r _ [10, 11, 12, 7] rfl (by decide +kernel)) ggX9_takesVariable_X9_takesWord
set_option maxRecDepth 20000 in
theorem ggX9_takesVariable_X9_fails : GoodIn wsX9_takesVariable wsX9_fails := goodIn_r _ [34, 9, 35, 4, 5, 6, 7, 8, 41, 42, 43, 44, 45, 46, 47, 48, 49, 50, 51, 52, 53, 54, 55, 56, 57, 58, 59, 60, 61, 62, 63, 64, 65, 66, 67] rfl (by decide +kernel)
set_option maxRecDepth 20000 in
theorem gX9_takesVariable_X9_fails : GoodIn wsX9_takesVariable (wsV RX9 217 RX9 yX9_fails wsX9_fails) := goodIn_app (goodIn_r _ [31, 32, 33, 7] rfl (by decide +kernel)) ggX9_takesVariable_X9_fails
set_option maxRecDepth 20000 in
theorem ggX9_takesVariable_X9_wide : GoodIn wsX9_takesVariable wsX9_wide := goodIn_r _ [39, 40, 41, 42, 43, 44, 45, 46, 47, 48, 49, 50, 51, 52, 53, 54, 55, 56, 57, 58, 59, 60, 61, 62, 63, 64, 65, 66, 67] rfl (by decide +kernel)
set_option maxRecDepth 20000 in
theorem gX9_takesVariable_X9_wide : GoodIn wsX9_takesVariable (wsV RX9 64 RX9 yX9_wide wsX9_wide) := goodIn_app (goodIn_r _ [36, 37, 38, 7] rfl (by decide +kernel)) ggX9_takesVariable_X9_wide
theorem dX9_takesVariable_0 : decode cX9_takesVariable 0 = .ok (.aload_n 0, 1) := by decide +kernel
theorem dX9_takesVariable_1 : decode cX9_takesVariable 1 = .ok (.invokevirtual 185, 3) := by decide +kernel
theorem dX9_takesVariable_4 : decode cX9_takesVariable 4 = .ok (.ifCond .eq 5, 3) := by decide +kernel
theorem dX9_takesVariable_7 : decode cX9_takesVariable 7 = .ok (.iconst 0, 1) := by decide +kernel
theorem dX9_takesVariable_8 : decode cX9_takesVariable 8 = .ok (.ireturn, 1) := by decide +kernel
theorem dX9_takesVariable_9 : decode cX9_takesVariable 9 = .ok (.aload_n 0, 1) := by decide +kernel
theorem dX9_takesVariable_10 : decode cX9_takesVariable 10 = .ok (.invokevirtual 220, 3) := by decide +kernel
theorem dX9_takesVariable_13 : decode cX9_takesVariable 13 = .ok (.aload_n 0, 1) := by decide +kernel
theorem dX9_takesVariable_14 : decode cX9_takesVariable 14 = .ok (.getfield 201, 3) := by decide +kernel
theorem dX9_takesVariable_17 : decode cX9_takesVariable 17 = .ok (.iconst 1, 1) := by decide +kernel
theorem dX9_takesVariable_18 : decode cX9_takesVariable 18 = .ok (.if_icmp .eq 14, 3) := by decide +kernel
theorem dX9_takesVariable_21 : decode cX9_takesVariable 21 = .ok (.aload_n 0, 1) := by decide +kernel
theorem dX9_takesVariable_22 : decode cX9_takesVariable 22 = .ok (.aload_n 0, 1) := by decide +kernel
theorem dX9_takesVariable_23 : decode cX9_takesVariable 23 = .ok (.getfield 194, 3) := by decide +kernel
theorem dX9_takesVariable_26 : decode cX9_takesVariable 26 = .ok (.iconst 1, 1) := by decide +kernel
theorem dX9_takesVariable_27 : decode cX9_takesVariable 27 = .ok (.invokevirtual 217, 3) := by decide +kernel
theorem dX9_takesVariable_30 : decode cX9_takesVariable 30 = .ok (.iconst 0, 1) := by decide +kernel
theorem dX9_takesVariable_31 : decode cX9_takesVariable 31 = .ok (.ireturn, 1) := by decide +kernel
theorem dX9_takesVariable_32 : decode cX9_takesVariable 32 = .ok (.aload_n 0, 1) := by decide +kernel
theorem dX9_takesVariable_33 : decode cX9_takesVariable 33 = .ok (.getfield 35, 3) := by decide +kernel
theorem dX9_takesVariable_36 : decode cX9_takesVariable 36 = .ok (.aload_n 0, 1) := by decide +kernel
theorem dX9_takesVariable_37 : decode cX9_takesVariable 37 = .ok (.getfield 194, 3) := by decide +kernel
theorem dX9_takesVariable_40 : decode cX9_takesVariable 40 = .ok (.baload, 1) := by decide +kernel
theorem dX9_takesVariable_41 : decode cX9_takesVariable 41 = .ok (.bipush 97, 2) := by decide +kernel
theorem dX9_takesVariable_43 : decode cX9_takesVariable 43 = .ok (.isub, 1) := by decide +kernel
theorem dX9_takesVariable_44 : decode cX9_takesVariable 44 = .ok (.istore_n 1, 1) := by decide +kernel
theorem dX9_takesVariable_45 : decode cX9_takesVariable 45 = .ok (.iload_n 1, 1) := by decide +kernel
theorem dX9_takesVariable_46 : decode cX9_takesVariable 46 = .ok (.aload_n 0, 1) := by decide +kernel
theorem dX9_takesVariable_47 : decode cX9_takesVariable 47 = .ok (.invokevirtual 64, 3) := by decide +kernel
theorem dX9_takesVariable_50 : decode cX9_takesVariable 50 = .ok (.if_icmp .lt 12, 3) := by decide +kernel
theorem dX9_takesVariable_53 : decode cX9_takesVariable 53 = .ok (.aload_n 0, 1) := by decide +kernel
theorem dX9_takesVariable_54 : decode cX9_takesVariable 54 = .ok (.aload_n 0, 1) := by decide +kernel
theorem dX9_takesVariable_55 : decode cX9_takesVariable 55 = .ok (.getfield 194, 3) := by decide +kernel
theorem dX9_takesVariable_58 : decode cX9_takesVariable 58 = .ok (.iconst 2, 1) := by decide +kernel
theorem dX9_takesVariable_59 : decode cX9_takesVariable 59 = .ok (.invokevirtual 217, 3) := by decide +kernel
theorem dX9_takesVariable_62 : decode cX9_takesVariable 62 = .ok (.aload_n 0, 1) := by decide +kernel
theorem dX9_takesVariable_63 : decode cX9_takesVariable 63 = .ok (.invokevirtual 185, 3) := by decide +kernel
theorem dX9_takesVariable_66 : decode cX9_takesVariable 66 = .ok (.ifCond .eq 7, 3) := by decide +kernel
theorem dX9_takesVariable_69 : decode cX9_takesVariable 69 = .ok (.iconst 0, 1) := by decide +kernel
theorem dX9_takesVariable_70 : decode cX9_takesVariable 70 = .ok (.goto 4, 3) := by decide +kernel
theorem dX9_takesVariable_73 : decode cX9_takesVariable 73 = .ok (.iload_n 1, 1) := by decide +kernel
theorem dX9_takesVariable_74 : decode cX9_takesVariable 74 = .ok (.ireturn, 1) := by decide +kernel
set_option maxRecDepth 20000 in
theorem ggX9_takesLiterals_X9_lays : GoodIn wsX9_takesLiterals wsX9_lays := goodIn_r _ [9, 10, 11, 12, 8, 13, 14, 15, 16, 17, 18, 61, 62, 63, 64, 65, 66, 67, 68, 69, 70, 71, 72, 73, 74, 75, 76, 77, 78, 79, 80, 81, 82, 83, 84, 85, 86, 87] rfl (by decide +kernel)
set_option maxRecDepth 20000 in
theorem gX9_takesLiterals_X9_lays : GoodIn wsX9_takesLiterals (wsV RX9 223 RX9 yX9_lays wsX9_lays) := goodIn_app (goodIn_r _ [5, 6, 7, 8] rfl (by decide +kernel)) ggX9_takesLiterals_X9_lays
set_option maxRecDepth 20000 in
theorem ggX9_takesLiterals_X9_skips : GoodIn wsX9_takesLiterals wsX9_skips := goodIn_r _ [22, 23, 24, 3, 25, 26, 27, 8, 28, 29, 30, 31, 32, 33, 61, 62, 63, 64, 65, 66, 67, 68, 69, 70, 71, 72, 73, 74, 75, 76, 77, 78, 79, 80, 81, 82, 83, 84, 85, 86, 87] rfl (by decide +kernel)
set_option maxRecDepth 20000 in
theorem gX9_takesLiterals_X9_skips : GoodIn wsX9_takesLiterals (wsV RX9 191 RX9 yX9_skips wsX9_skips) := goodIn_app (goodIn_r _ [19, 20, 21, 8] rfl (by decide +kernel)) ggX9_takesLiterals_X9_skips
set_option maxRecDepth 20000 in
theorem ggX9_takesLiterals_X9_hasFailed : GoodIn wsX9_takesLiterals wsX9_hasFailed := goodIn_r _ [37, 38, 61, 62, 63, 64, 65, 66, 67, 68, 69, 70, 71, 72, 73, 74, 75, 76, 77, 78, 79, 80, 81, 82, 83, 84, 85, 86, 87] rfl (by decide +kernel)
set_option maxRecDepth 20000 in
theorem gX9_takesLiterals_X9_hasFailed : GoodIn wsX9_takesLiterals (wsV RX9 185 RX9 yX9_hasFailed wsX9_hasFailed) := goodIn_app (goodIn_r _ [34, 35, 36, 8] rfl (by decide +kernel)) ggX9_takesLiterals_X9_hasFailed
set_option maxRecDepth 20000 in
theorem ggX9_takesLiterals_X9_ahead : GoodIn wsX9_takesLiterals wsX9_ahead := goodIn_r _ [28, 3, 29, 30, 61, 62, 63, 64, 65, 66, 67, 68, 69, 70, 71, 72, 73, 74, 75, 76, 77, 78, 79, 80, 81, 82, 83, 84, 85, 86, 87] rfl (by decide +kernel)
set_option maxRecDepth 20000 in
theorem gX9_takesLiterals_X9_ahead : GoodIn wsX9_takesLiterals (wsV RX9 171 RX9 yX9_ahead wsX9_ahead) := goodIn_app (goodIn_r _ [25, 26, 27, 8] rfl (by decide +kernel)) ggX9_takesLiterals_X9_ahead
set_option maxRecDepth 20000 in
theorem ggX9_takesLiterals_X9_in : GoodIn wsX9_takesLiterals wsX9_in := goodIn_r _ [33] rfl (by decide +kernel)
set_option maxRecDepth 20000 in
theorem gX9_takesLiterals_X9_in : GoodIn wsX9_takesLiterals (va_wsS RX9 178 yX9_in wsX9_in) := goodIn_app (goodIn_r _ [31, 32, 8] rfl (by decide +kernel)) ggX9_takesLiterals_X9_in
set_option maxRecDepth 20000 in
theorem ggX9_takesLiterals_X9_takesVariable : GoodIn wsX9_takesLiterals wsX9_takesVariable := goodIn_r _ [42, 43, 4, 30, 34, 35, 36, 8, 37, 38, 44, 45, 46, 47, 3, 1, 2, 19, 20, 21, 22, 23, 24, 25, 26, 27, 28, 29, 31, 32, 33, 48, 49, 50, 51, 52, 53, 54, 55, 56, 14, 61, 62, 63, 64, 65, 66, 67, 68, 69, 70, 71, 72, 73, 74, 75, 76, 77, 78, 79, 80, 81, 82, 83, 84, 85, 86, 87] rfl (by decide +kernel)
set_option maxRecDepth 20000 in
theorem gX9_takesLiterals_X9_takesVariable : GoodIn wsX9_takesLiterals (wsV RX9 226 RX9 yX9_takesVariable wsX9_takesVariable) := goodIn_app (goodIn_r _ [39, 40, 41, 8] rfl (by decide +kernel)) ggX9_takesLiterals_X9_takesVariable
set_option maxRecDepth 20000 in
theorem ggX9_takesLiterals_X9_many : GoodIn wsX9_takesLiterals wsX9_many := goodIn_r _ [13, 14, 61, 62, 63, 64, 65, 66, 67, 68, 69, 70, 71, 72, 73, 74, 75, 76, 77, 78, 79, 80, 81, 82, 83, 84, 85, 86, 87] rfl (by decide +kernel)
set_option maxRecDepth 20000 in
theorem gX9_takesLiterals_X9_many : GoodIn wsX9_takesLiterals (wsV RX9 56 RX9 yX9_many wsX9_many) := goodIn_app (goodIn_r _ [10, 11, 12, 8] rfl (by decide +kernel)) ggX9_takesLiterals_X9_many
set_option maxRecDepth 20000 in
theorem ggX9_takesLiterals_X9_sign : GoodIn wsX9_takesLiterals wsX9_sign := goodIn_r _ [60, 14, 61, 62, 63, 64, 65, 66, 67, 68, 69, 70, 71, 72, 73, 74, 75, 76, 77, 78, 79, 80, 81, 82, 83, 84, 85, 86, 87] rfl (by decide +kernel)
set_option maxRecDepth 20000 in
theorem gX9_takesLiterals_X9_sign : GoodIn wsX9_takesLiterals (wsV RX9 67 RX9 yX9_sign wsX9_sign) := goodIn_app (goodIn_r _ [57, 58, 59, 8] rfl (by decide +kernel)) ggX9_takesLiterals_X9_sign
set_option maxRecDepth 20000 in
theorem ggX9_takesLiterals_X9_fails : GoodIn wsX9_takesLiterals wsX9_fails := goodIn_r _ [51, 38, 52, 34, 35, 36, 8, 37, 61, 62, 63, 64, 65, 66, 67, 68, 69, 70, 71, 72, 73, 74, 75, 76, 77, 78, 79, 80, 81, 82, 83, 84, 85, 86, 87] rfl (by decide +kernel)
set_option maxRecDepth 20000 in
theorem gX9_takesLiterals_X9_fails : GoodIn wsX9_takesLiterals (wsV RX9 217 RX9 yX9_fails wsX9_fails) := goodIn_app (goodIn_r _ [48, 49, 50, 8] rfl (by decide +kernel)) ggX9_takesLiterals_X9_fails
set_option maxRecDepth 20000 in
theorem ggX9_takesLiterals_X9_puts : GoodIn wsX9_takesLiterals wsX9_puts := goodIn_r _ [18, 14, 61, 62, 63, 64, 65, 66, 67, 68, 69, 70, 71, 72, 73, 74, 75, 76, 77, 78, 79, 80, 81, 82, 83, 84, 85, 86, 87] rfl (by decide +kernel)
set_option maxRecDepth 20000 in
theorem gX9_takesLiterals_X9_puts : GoodIn wsX9_takesLiterals (wsV RX9 60 RX9 yX9_puts wsX9_puts) := goodIn_app (goodIn_r _ [15, 16, 17, 8] rfl (by decide +kernel)) ggX9_takesLiterals_X9_puts
theorem dX9_takesLiterals_0 : decode cX9_takesLiterals 0 = .ok (.aload_n 0, 1) := by decide +kernel
theorem dX9_takesLiterals_1 : decode cX9_takesLiterals 1 = .ok (.iconst 0, 1) := by decide +kernel
theorem dX9_takesLiterals_2 : decode cX9_takesLiterals 2 = .ok (.iconst 0, 1) := by decide +kernel
theorem dX9_takesLiterals_3 : decode cX9_takesLiterals 3 = .ok (.invokevirtual 223, 3) := by decide +kernel
theorem dX9_takesLiterals_6 : decode cX9_takesLiterals 6 = .ok (.aload_n 0, 1) := by decide +kernel
theorem dX9_takesLiterals_7 : decode cX9_takesLiterals 7 = .ok (.invokevirtual 191, 3) := by decide +kernel
theorem dX9_takesLiterals_10 : decode cX9_takesLiterals 10 = .ok (.aload_n 0, 1) := by decide +kernel
theorem dX9_takesLiterals_11 : decode cX9_takesLiterals 11 = .ok (.invokevirtual 185, 3) := by decide +kernel
theorem dX9_takesLiterals_14 : decode cX9_takesLiterals 14 = .ok (.ifCond .ne 132, 3) := by decide +kernel
theorem dX9_takesLiterals_17 : decode cX9_takesLiterals 17 = .ok (.aload_n 0, 1) := by decide +kernel
theorem dX9_takesLiterals_18 : decode cX9_takesLiterals 18 = .ok (.invokevirtual 171, 3) := by decide +kernel
theorem dX9_takesLiterals_21 : decode cX9_takesLiterals 21 = .ok (.bipush 45, 2) := by decide +kernel
theorem dX9_takesLiterals_23 : decode cX9_takesLiterals 23 = .ok (.if_icmp .eq 20, 3) := by decide +kernel
theorem dX9_takesLiterals_26 : decode cX9_takesLiterals 26 = .ok (.aload_n 0, 1) := by decide +kernel
theorem dX9_takesLiterals_27 : decode cX9_takesLiterals 27 = .ok (.invokevirtual 171, 3) := by decide +kernel
theorem dX9_takesLiterals_30 : decode cX9_takesLiterals 30 = .ok (.i2l, 1) := by decide +kernel
theorem dX9_takesLiterals_31 : decode cX9_takesLiterals 31 = .ok (.ldc2_w 197, 3) := by decide +kernel
theorem dX9_takesLiterals_34 : decode cX9_takesLiterals 34 = .ok (.ldc2_w 199, 3) := by decide +kernel
theorem dX9_takesLiterals_37 : decode cX9_takesLiterals 37 = .ok (.invokestatic 178, 3) := by decide +kernel
theorem dX9_takesLiterals_40 : decode cX9_takesLiterals 40 = .ok (.ifCond .eq 106, 3) := by decide +kernel
theorem dX9_takesLiterals_43 : decode cX9_takesLiterals 43 = .ok (.aload_n 0, 1) := by decide +kernel
theorem dX9_takesLiterals_44 : decode cX9_takesLiterals 44 = .ok (.invokevirtual 171, 3) := by decide +kernel
theorem dX9_takesLiterals_47 : decode cX9_takesLiterals 47 = .ok (.bipush 45, 2) := by decide +kernel
theorem dX9_takesLiterals_49 : decode cX9_takesLiterals 49 = .ok (.if_icmp .ne 7, 3) := by decide +kernel
theorem dX9_takesLiterals_52 : decode cX9_takesLiterals 52 = .ok (.iconst 1, 1) := by decide +kernel
theorem dX9_takesLiterals_53 : decode cX9_takesLiterals 53 = .ok (.goto 4, 3) := by decide +kernel
theorem dX9_takesLiterals_56 : decode cX9_takesLiterals 56 = .ok (.iconst 0, 1) := by decide +kernel
theorem dX9_takesLiterals_57 : decode cX9_takesLiterals 57 = .ok (.istore_n 1, 1) := by decide +kernel
theorem dX9_takesLiterals_58 : decode cX9_takesLiterals 58 = .ok (.aload_n 0, 1) := by decide +kernel
theorem dX9_takesLiterals_59 : decode cX9_takesLiterals 59 = .ok (.dup, 1) := by decide +kernel
theorem dX9_takesLiterals_60 : decode cX9_takesLiterals 60 = .ok (.getfield 165, 3) := by decide +kernel
theorem dX9_takesLiterals_63 : decode cX9_takesLiterals 63 = .ok (.iload_n 1, 1) := by decide +kernel
theorem dX9_takesLiterals_64 : decode cX9_takesLiterals 64 = .ok (.ifCond .eq 7, 3) := by decide +kernel
theorem dX9_takesLiterals_67 : decode cX9_takesLiterals 67 = .ok (.iconst 1, 1) := by decide +kernel
theorem dX9_takesLiterals_68 : decode cX9_takesLiterals 68 = .ok (.goto 4, 3) := by decide +kernel
theorem dX9_takesLiterals_71 : decode cX9_takesLiterals 71 = .ok (.iconst 0, 1) := by decide +kernel
theorem dX9_takesLiterals_72 : decode cX9_takesLiterals 72 = .ok (.iadd, 1) := by decide +kernel
theorem dX9_takesLiterals_73 : decode cX9_takesLiterals 73 = .ok (.putfield 165, 3) := by decide +kernel
theorem dX9_takesLiterals_76 : decode cX9_takesLiterals 76 = .ok (.aload_n 0, 1) := by decide +kernel
theorem dX9_takesLiterals_77 : decode cX9_takesLiterals 77 = .ok (.invokevirtual 226, 3) := by decide +kernel
theorem dX9_takesLiterals_80 : decode cX9_takesLiterals 80 = .ok (.istore_n 2, 1) := by decide +kernel
theorem dX9_takesLiterals_81 : decode cX9_takesLiterals 81 = .ok (.iload_n 1, 1) := by decide +kernel
theorem dX9_takesLiterals_82 : decode cX9_takesLiterals 82 = .ok (.ifCond .eq 7, 3) := by decide +kernel
theorem dX9_takesLiterals_85 : decode cX9_takesLiterals 85 = .ok (.iconst 2, 1) := by decide +kernel
theorem dX9_takesLiterals_86 : decode cX9_takesLiterals 86 = .ok (.goto 4, 3) := by decide +kernel
theorem dX9_takesLiterals_89 : decode cX9_takesLiterals 89 = .ok (.iconst 1, 1) := by decide +kernel
theorem dX9_takesLiterals_90 : decode cX9_takesLiterals 90 = .ok (.istore_n 3, 1) := by decide +kernel
theorem dX9_takesLiterals_91 : decode cX9_takesLiterals 91 = .ok (.aload_n 0, 1) := by decide +kernel
theorem dX9_takesLiterals_92 : decode cX9_takesLiterals 92 = .ok (.invokevirtual 185, 3) := by decide +kernel
theorem dX9_takesLiterals_95 : decode cX9_takesLiterals 95 = .ok (.ifCond .ne 27, 3) := by decide +kernel
theorem dX9_takesLiterals_98 : decode cX9_takesLiterals 98 = .ok (.aload_n 0, 1) := by decide +kernel
theorem dX9_takesLiterals_99 : decode cX9_takesLiterals 99 = .ok (.aload_n 0, 1) := by decide +kernel
theorem dX9_takesLiterals_100 : decode cX9_takesLiterals 100 = .ok (.invokevirtual 56, 3) := by decide +kernel
theorem dX9_takesLiterals_103 : decode cX9_takesLiterals 103 = .ok (.iload_n 2, 1) := by decide +kernel
theorem dX9_takesLiterals_104 : decode cX9_takesLiterals 104 = .ok (.invokevirtual 67, 3) := by decide +kernel
theorem dX9_takesLiterals_107 : decode cX9_takesLiterals 107 = .ok (.iconst 3, 1) := by decide +kernel
theorem dX9_takesLiterals_108 : decode cX9_takesLiterals 108 = .ok (.iload_n 3, 1) := by decide +kernel
theorem dX9_takesLiterals_109 : decode cX9_takesLiterals 109 = .ok (.isub, 1) := by decide +kernel
theorem dX9_takesLiterals_110 : decode cX9_takesLiterals 110 = .ok (.if_icmp .ne 12, 3) := by decide +kernel
theorem dX9_takesLiterals_113 : decode cX9_takesLiterals 113 = .ok (.aload_n 0, 1) := by decide +kernel
theorem dX9_takesLiterals_114 : decode cX9_takesLiterals 114 = .ok (.aload_n 0, 1) := by decide +kernel
theorem dX9_takesLiterals_115 : decode cX9_takesLiterals 115 = .ok (.getfield 194, 3) := by decide +kernel
theorem dX9_takesLiterals_118 : decode cX9_takesLiterals 118 = .ok (.iconst 3, 1) := by decide +kernel
theorem dX9_takesLiterals_119 : decode cX9_takesLiterals 119 = .ok (.invokevirtual 217, 3) := by decide +kernel
theorem dX9_takesLiterals_122 : decode cX9_takesLiterals 122 = .ok (.aload_n 0, 1) := by decide +kernel
theorem dX9_takesLiterals_123 : decode cX9_takesLiterals 123 = .ok (.invokevirtual 185, 3) := by decide +kernel
theorem dX9_takesLiterals_126 : decode cX9_takesLiterals 126 = .ok (.ifCond .ne 13, 3) := by decide +kernel
theorem dX9_takesLiterals_129 : decode cX9_takesLiterals 129 = .ok (.aload_n 0, 1) := by decide +kernel
theorem dX9_takesLiterals_130 : decode cX9_takesLiterals 130 = .ok (.aload_n 0, 1) := by decide +kernel
theorem dX9_takesLiterals_131 : decode cX9_takesLiterals 131 = .ok (.invokevirtual 56, 3) := by decide +kernel
theorem dX9_takesLiterals_134 : decode cX9_takesLiterals 134 = .ok (.iload_n 2, 1) := by decide +kernel
theorem dX9_takesLiterals_135 : decode cX9_takesLiterals 135 = .ok (.iload_n 3, 1) := by decide +kernel
theorem dX9_takesLiterals_136 : decode cX9_takesLiterals 136 = .ok (.invokevirtual 60, 3) := by decide +kernel
theorem dX9_takesLiterals_139 : decode cX9_takesLiterals 139 = .ok (.aload_n 0, 1) := by decide +kernel
theorem dX9_takesLiterals_140 : decode cX9_takesLiterals 140 = .ok (.invokevirtual 191, 3) := by decide +kernel
theorem dX9_takesLiterals_143 : decode cX9_takesLiterals 143 = .ok (.goto (-133), 3) := by decide +kernel
theorem dX9_takesLiterals_146 : decode cX9_takesLiterals 146 = .ok (.return_, 1) := by decide +kernel
set_option maxRecDepth 20000 in
theorem ggX9_takesClause_X9_many : GoodIn wsX9_takesClause wsX9_many := goodIn_r _ [5, 6, 44, 45, 46, 47, 48, 49, 50, 51, 52, 53, 54, 55, 56, 57, 58, 59, 60, 61, 62, 63, 64, 65, 66, 67, 68, 69, 70] rfl (by decide +kernel)
set_option maxRecDepth 20000 in
theorem gX9_takesClause_X9_many : GoodIn wsX9_takesClause (wsV RX9 56 RX9 yX9_many wsX9_many) := goodIn_app (goodIn_r _ [1, 2, 3, 4] rfl (by decide +kernel)) ggX9_takesClause_X9_many
set_option maxRecDepth 20000 in
theorem ggX9_takesClause_X9_number : GoodIn wsX9_takesClause wsX9_number := goodIn_r _ [10, 11, 12, 13, 14, 15, 16, 17, 18, 19, 20, 21, 4, 22, 23, 24, 25, 26, 27, 28, 29, 30, 31, 32, 33, 34, 35, 36, 37, 38, 39, 40, 41, 42, 43, 44, 45, 46, 47, 48, 49, 50, 51, 52, 53, 54, 55, 56, 57, 58, 59, 60, 61, 62, 63, 64, 65, 66, 67, 68, 69, 70] rfl (by decide +kernel)
set_option maxRecDepth 20000 in
theorem gX9_takesClause_X9_number : GoodIn wsX9_takesClause (wsV RX9 229 RX9 yX9_number wsX9_number) := goodIn_app (goodIn_r _ [7, 8, 9, 4] rfl (by decide +kernel)) ggX9_takesClause_X9_number
theorem dX9_takesClause_0 : decode cX9_takesClause 0 = .ok (.aload_n 0, 1) := by decide +kernel
theorem dX9_takesClause_1 : decode cX9_takesClause 1 = .ok (.iconst 0, 1) := by decide +kernel
theorem dX9_takesClause_2 : decode cX9_takesClause 2 = .ok (.aload_n 0, 1) := by decide +kernel
theorem dX9_takesClause_3 : decode cX9_takesClause 3 = .ok (.invokevirtual 56, 3) := by decide +kernel
theorem dX9_takesClause_6 : decode cX9_takesClause 6 = .ok (.iconst 1, 1) := by decide +kernel
theorem dX9_takesClause_7 : decode cX9_takesClause 7 = .ok (.isub, 1) := by decide +kernel
theorem dX9_takesClause_8 : decode cX9_takesClause 8 = .ok (.invokevirtual 229, 3) := by decide +kernel
theorem dX9_takesClause_11 : decode cX9_takesClause 11 = .ok (.ireturn, 1) := by decide +kernel
set_option maxRecDepth 20000 in
theorem ggX9_isEnd_X9_hasFailed : GoodIn wsX9_isEnd wsX9_hasFailed := goodIn_r _ [6, 7, 28, 29, 30, 31, 32, 33, 34, 35, 36, 37, 38, 39, 40, 41, 42, 43, 44, 45, 46, 47, 48, 49, 50, 51, 52, 53, 54] rfl (by decide +kernel)
set_option maxRecDepth 20000 in
theorem gX9_isEnd_X9_hasFailed : GoodIn wsX9_isEnd (wsV RX9 185 RX9 yX9_hasFailed wsX9_hasFailed) := goodIn_app (goodIn_r _ [2, 3, 4, 5] rfl (by decide +kernel)) ggX9_isEnd_X9_hasFailed
set_option maxRecDepth 20000 in
theorem ggX9_isEnd_X9_skips : GoodIn wsX9_isEnd wsX9_skips := goodIn_r _ [11, 12, 13, 1, 14, 15, 16, 5, 17, 18, 19, 20, 21, 22, 28, 29, 30, 31, 32, 33, 34, 35, 36, 37, 38, 39, 40, 41, 42, 43, 44, 45, 46, 47, 48, 49, 50, 51, 52, 53, 54] rfl (by decide +kernel)
set_option maxRecDepth 20000 in
theorem gX9_isEnd_X9_skips : GoodIn wsX9_isEnd (wsV RX9 191 RX9 yX9_skips wsX9_skips) := goodIn_app (goodIn_r _ [8, 9, 10, 5] rfl (by decide +kernel)) ggX9_isEnd_X9_skips
set_option maxRecDepth 20000 in
theorem ggX9_isEnd_X9_ahead : GoodIn wsX9_isEnd wsX9_ahead := goodIn_r _ [17, 1, 18, 19, 28, 29, 30, 31, 32, 33, 34, 35, 36, 37, 38, 39, 40, 41, 42, 43, 44, 45, 46, 47, 48, 49, 50, 51, 52, 53, 54] rfl (by decide +kernel)
set_option maxRecDepth 20000 in
theorem gX9_isEnd_X9_ahead : GoodIn wsX9_isEnd (wsV RX9 171 RX9 yX9_ahead wsX9_ahead) := goodIn_app (goodIn_r _ [14, 15, 16, 5] rfl (by decide +kernel)) ggX9_isEnd_X9_ahead
set_option maxRecDepth 20000 in
theorem ggX9_isEnd_X9_fails : GoodIn wsX9_isEnd wsX9_fails := goodIn_r _ [26, 7, 27, 2, 3, 4, 5, 6, 28, 29, 30, 31, 32, 33, 34, 35, 36, 37, 38, 39, 40, 41, 42, 43, 44, 45, 46, 47, 48, 49, 50, 51, 52, 53, 54] rfl (by decide +kernel)
set_option maxRecDepth 20000 in
theorem gX9_isEnd_X9_fails : GoodIn wsX9_isEnd (wsV RX9 217 RX9 yX9_fails wsX9_fails) := goodIn_app (goodIn_r _ [23, 24, 25, 5] rfl (by decide +kernel)) ggX9_isEnd_X9_fails
theorem dX9_isEnd_0 : decode cX9_isEnd 0 = .ok (.aload_n 0, 1) := by decide +kernel
theorem dX9_isEnd_1 : decode cX9_isEnd 1 = .ok (.invokevirtual 185, 3) := by decide +kernel
theorem dX9_isEnd_4 : decode cX9_isEnd 4 = .ok (.ifCond .eq 5, 3) := by decide +kernel
theorem dX9_isEnd_7 : decode cX9_isEnd 7 = .ok (.iconst 0, 1) := by decide +kernel
theorem dX9_isEnd_8 : decode cX9_isEnd 8 = .ok (.ireturn, 1) := by decide +kernel
theorem dX9_isEnd_9 : decode cX9_isEnd 9 = .ok (.aload_n 0, 1) := by decide +kernel
theorem dX9_isEnd_10 : decode cX9_isEnd 10 = .ok (.invokevirtual 191, 3) := by decide +kernel
theorem dX9_isEnd_13 : decode cX9_isEnd 13 = .ok (.aload_n 0, 1) := by decide +kernel
theorem dX9_isEnd_14 : decode cX9_isEnd 14 = .ok (.invokevirtual 171, 3) := by decide +kernel
theorem dX9_isEnd_17 : decode cX9_isEnd 17 = .ok (.bipush 59, 2) := by decide +kernel
theorem dX9_isEnd_19 : decode cX9_isEnd 19 = .ok (.if_icmp .eq 12, 3) := by decide +kernel
theorem dX9_isEnd_22 : decode cX9_isEnd 22 = .ok (.aload_n 0, 1) := by decide +kernel
theorem dX9_isEnd_23 : decode cX9_isEnd 23 = .ok (.aload_n 0, 1) := by decide +kernel
theorem dX9_isEnd_24 : decode cX9_isEnd 24 = .ok (.getfield 165, 3) := by decide +kernel
theorem dX9_isEnd_27 : decode cX9_isEnd 27 = .ok (.iconst 1, 1) := by decide +kernel
theorem dX9_isEnd_28 : decode cX9_isEnd 28 = .ok (.invokevirtual 217, 3) := by decide +kernel
theorem dX9_isEnd_31 : decode cX9_isEnd 31 = .ok (.aload_n 0, 1) := by decide +kernel
theorem dX9_isEnd_32 : decode cX9_isEnd 32 = .ok (.dup, 1) := by decide +kernel
theorem dX9_isEnd_33 : decode cX9_isEnd 33 = .ok (.getfield 165, 3) := by decide +kernel
theorem dX9_isEnd_36 : decode cX9_isEnd 36 = .ok (.iconst 1, 1) := by decide +kernel
theorem dX9_isEnd_37 : decode cX9_isEnd 37 = .ok (.iadd, 1) := by decide +kernel
theorem dX9_isEnd_38 : decode cX9_isEnd 38 = .ok (.putfield 165, 3) := by decide +kernel
theorem dX9_isEnd_41 : decode cX9_isEnd 41 = .ok (.aload_n 0, 1) := by decide +kernel
theorem dX9_isEnd_42 : decode cX9_isEnd 42 = .ok (.invokevirtual 185, 3) := by decide +kernel
theorem dX9_isEnd_45 : decode cX9_isEnd 45 = .ok (.ifCond .ne 7, 3) := by decide +kernel
theorem dX9_isEnd_48 : decode cX9_isEnd 48 = .ok (.iconst 1, 1) := by decide +kernel
theorem dX9_isEnd_49 : decode cX9_isEnd 49 = .ok (.goto 4, 3) := by decide +kernel
theorem dX9_isEnd_52 : decode cX9_isEnd 52 = .ok (.iconst 0, 1) := by decide +kernel
theorem dX9_isEnd_53 : decode cX9_isEnd 53 = .ok (.ireturn, 1) := by decide +kernel
set_option maxRecDepth 20000 in
theorem ggX9_takesNewClause_X9_many : GoodIn wsX9_takesNewClause wsX9_many := goodIn_r _ [5, 6, 81, 82, 83, 84, 85, 86, 87, 88, 89, 90, 91, 92, 93, 94, 95, 96, 97, 98, 99, 100, 101, 102, 103, 104, 105, 106, 107] rfl (by decide +kernel)
set_option maxRecDepth 20000 in
theorem gX9_takesNewClause_X9_many : GoodIn wsX9_takesNewClause (wsV RX9 56 RX9 yX9_many wsX9_many) := goodIn_app (goodIn_r _ [1, 2, 3, 4] rfl (by decide +kernel)) ggX9_takesNewClause_X9_many
set_option maxRecDepth 20000 in
theorem ggX9_takesNewClause_X9_fails : GoodIn wsX9_takesNewClause wsX9_fails := goodIn_r _ [10, 11, 12, 13, 14, 15, 4, 16, 81, 82, 83, 84, 85, 86, 87, 88, 89, 90, 91, 92, 93, 94, 95, 96, 97, 98, 99, 100, 101, 102, 103, 104, 105, 106, 107] rfl (by decide +kernel)
set_option maxRecDepth 20000 in
theorem gX9_takesNewClause_X9_fails : GoodIn wsX9_takesNewClause (wsV RX9 217 RX9 yX9_fails wsX9_fails) := goodIn_app (goodIn_r _ [7, 8, 9, 4] rfl (by decide +kernel)) ggX9_takesNewClause_X9_fails
set_option maxRecDepth 20000 in
theorem ggX9_takesNewClause_X9_takesLiterals : GoodIn wsX9_takesNewClause wsX9_takesLiterals := goodIn_r _ [20, 21, 22, 23, 24, 25, 26, 27, 4, 28, 1, 2, 3, 5, 6, 29, 30, 31, 32, 33, 34, 35, 36, 37, 38, 39, 40, 41, 42, 43, 44, 45, 46, 47, 13, 14, 15, 16, 11, 48, 49, 50, 51, 52, 53, 54, 55, 56, 7, 8, 9, 10, 12, 57, 58, 59, 60, 61, 62, 63, 64, 81, 82, 83, 84, 85, 86, 87, 88, 89, 90, 91, 92, 93, 94, 95, 96, 97, 98, 99, 100, 101, 102, 103, 104, 105, 106, 107] rfl (by decide +kernel)
set_option maxRecDepth 20000 in
theorem gX9_takesNewClause_X9_takesLiterals : GoodIn wsX9_takesNewClause (wsV RX9 232 RX9 yX9_takesLiterals wsX9_takesLiterals) := goodIn_app (goodIn_r _ [17, 18, 19, 4] rfl (by decide +kernel)) ggX9_takesNewClause_X9_takesLiterals
set_option maxRecDepth 20000 in
theorem ggX9_takesNewClause_X9_hasFailed : GoodIn wsX9_takesNewClause wsX9_hasFailed := goodIn_r _ [16, 11, 81, 82, 83, 84, 85, 86, 87, 88, 89, 90, 91, 92, 93, 94, 95, 96, 97, 98, 99, 100, 101, 102, 103, 104, 105, 106, 107] rfl (by decide +kernel)
set_option maxRecDepth 20000 in
theorem gX9_takesNewClause_X9_hasFailed : GoodIn wsX9_takesNewClause (wsV RX9 185 RX9 yX9_hasFailed wsX9_hasFailed) := goodIn_app (goodIn_r _ [13, 14, 15, 4] rfl (by decide +kernel)) ggX9_takesNewClause_X9_hasFailed
set_option maxRecDepth 20000 in
theorem ggX9_takesNewClause_X9_same : GoodIn wsX9_takesNewClause wsX9_same := goodIn_r _ [68, 1, 2, 3, 4, 5, 6, 69, 70, 71, 72, 57, 58, 59, 60, 61, 62, 63, 64, 81, 82, 83, 84, 85, 86, 87, 88, 89, 90, 91, 92, 93, 94, 95, 96, 97, 98, 99, 100, 101, 102, 103, 104, 105, 106, 107] rfl (by decide +kernel)
set_option maxRecDepth 20000 in
theorem gX9_takesNewClause_X9_same : GoodIn wsX9_takesNewClause (wsV RX9 235 RX9 yX9_same wsX9_same) := goodIn_app (goodIn_r _ [65, 66, 67, 4] rfl (by decide +kernel)) ggX9_takesNewClause_X9_same
set_option maxRecDepth 20000 in
theorem ggX9_takesNewClause_X9_isEnd : GoodIn wsX9_takesNewClause wsX9_isEnd := goodIn_r _ [76, 23, 13, 14, 15, 4, 16, 11, 33, 34, 35, 36, 37, 38, 39, 40, 41, 42, 43, 44, 45, 46, 47, 7, 8, 9, 10, 12, 81, 82, 83, 84, 85, 86, 87, 88, 89, 90, 91, 92, 93, 94, 95, 96, 97, 98, 99, 100, 101, 102, 103, 104, 105, 106, 107] rfl (by decide +kernel)
set_option maxRecDepth 20000 in
theorem gX9_takesNewClause_X9_isEnd : GoodIn wsX9_takesNewClause (wsV RX9 238 RX9 yX9_isEnd wsX9_isEnd) := goodIn_app (goodIn_r _ [73, 74, 75, 4] rfl (by decide +kernel)) ggX9_takesNewClause_X9_isEnd
set_option maxRecDepth 20000 in
theorem ggX9_takesNewClause_X9_adds : GoodIn wsX9_takesNewClause wsX9_adds := goodIn_r _ [80, 6, 1, 2, 3, 4, 5, 81, 82, 83, 84, 85, 86, 87, 88, 89, 90, 91, 92, 93, 94, 95, 96, 97, 98, 99, 100, 101, 102, 103, 104, 105, 106, 107] rfl (by decide +kernel)
set_option maxRecDepth 20000 in
theorem gX9_takesNewClause_X9_adds : GoodIn wsX9_takesNewClause (wsV RX9 82 RX9 yX9_adds wsX9_adds) := goodIn_app (goodIn_r _ [77, 78, 79, 4] rfl (by decide +kernel)) ggX9_takesNewClause_X9_adds
theorem dX9_takesNewClause_0 : decode cX9_takesNewClause 0 = .ok (.aload_n 0, 1) := by decide +kernel
theorem dX9_takesNewClause_1 : decode cX9_takesNewClause 1 = .ok (.invokevirtual 56, 3) := by decide +kernel
theorem dX9_takesNewClause_4 : decode cX9_takesNewClause 4 = .ok (.bipush 60, 2) := by decide +kernel
theorem dX9_takesNewClause_6 : decode cX9_takesNewClause 6 = .ok (.if_icmp .ne 9, 3) := by decide +kernel
theorem dX9_takesNewClause_9 : decode cX9_takesNewClause 9 = .ok (.aload_n 0, 1) := by decide +kernel
theorem dX9_takesNewClause_10 : decode cX9_takesNewClause 10 = .ok (.iload_n 1, 1) := by decide +kernel
theorem dX9_takesNewClause_11 : decode cX9_takesNewClause 11 = .ok (.iconst 4, 1) := by decide +kernel
theorem dX9_takesNewClause_12 : decode cX9_takesNewClause 12 = .ok (.invokevirtual 217, 3) := by decide +kernel
theorem dX9_takesNewClause_15 : decode cX9_takesNewClause 15 = .ok (.aload_n 0, 1) := by decide +kernel
theorem dX9_takesNewClause_16 : decode cX9_takesNewClause 16 = .ok (.invokevirtual 232, 3) := by decide +kernel
theorem dX9_takesNewClause_19 : decode cX9_takesNewClause 19 = .ok (.aload_n 0, 1) := by decide +kernel
theorem dX9_takesNewClause_20 : decode cX9_takesNewClause 20 = .ok (.invokevirtual 185, 3) := by decide +kernel
theorem dX9_takesNewClause_23 : decode cX9_takesNewClause 23 = .ok (.ifCond .ne 17, 3) := by decide +kernel
theorem dX9_takesNewClause_26 : decode cX9_takesNewClause 26 = .ok (.aload_n 0, 1) := by decide +kernel
theorem dX9_takesNewClause_27 : decode cX9_takesNewClause 27 = .ok (.invokevirtual 235, 3) := by decide +kernel
theorem dX9_takesNewClause_30 : decode cX9_takesNewClause 30 = .ok (.iconst (-1), 1) := by decide +kernel
theorem dX9_takesNewClause_31 : decode cX9_takesNewClause 31 = .ok (.if_icmp .eq 9, 3) := by decide +kernel
theorem dX9_takesNewClause_34 : decode cX9_takesNewClause 34 = .ok (.aload_n 0, 1) := by decide +kernel
theorem dX9_takesNewClause_35 : decode cX9_takesNewClause 35 = .ok (.iload_n 1, 1) := by decide +kernel
theorem dX9_takesNewClause_36 : decode cX9_takesNewClause 36 = .ok (.iconst 4, 1) := by decide +kernel
theorem dX9_takesNewClause_37 : decode cX9_takesNewClause 37 = .ok (.invokevirtual 217, 3) := by decide +kernel
theorem dX9_takesNewClause_40 : decode cX9_takesNewClause 40 = .ok (.aload_n 0, 1) := by decide +kernel
theorem dX9_takesNewClause_41 : decode cX9_takesNewClause 41 = .ok (.invokevirtual 238, 3) := by decide +kernel
theorem dX9_takesNewClause_44 : decode cX9_takesNewClause 44 = .ok (.ifCond .eq 11, 3) := by decide +kernel
theorem dX9_takesNewClause_47 : decode cX9_takesNewClause 47 = .ok (.aload_n 0, 1) := by decide +kernel
theorem dX9_takesNewClause_48 : decode cX9_takesNewClause 48 = .ok (.iconst (-1), 1) := by decide +kernel
theorem dX9_takesNewClause_49 : decode cX9_takesNewClause 49 = .ok (.iconst (-1), 1) := by decide +kernel
theorem dX9_takesNewClause_50 : decode cX9_takesNewClause 50 = .ok (.iconst (-1), 1) := by decide +kernel
theorem dX9_takesNewClause_51 : decode cX9_takesNewClause 51 = .ok (.invokevirtual 82, 3) := by decide +kernel
theorem dX9_takesNewClause_54 : decode cX9_takesNewClause 54 = .ok (.istore_n 2, 1) := by decide +kernel
theorem dX9_takesNewClause_55 : decode cX9_takesNewClause 55 = .ok (.return_, 1) := by decide +kernel
set_option maxRecDepth 20000 in
theorem ggX9_takesResolve_X9_takesClause : GoodIn wsX9_takesResolve wsX9_takesClause := goodIn_r _ [6, 7, 8, 9, 5, 10, 11, 12, 13, 14, 15, 16, 1, 17, 18, 19, 20, 21, 22, 23, 24, 25, 26, 27, 28, 29, 30, 31, 32, 33, 34, 35, 36, 37, 38, 39, 40, 41, 42, 43, 44, 45, 46, 47, 92, 93, 94, 95, 96, 97, 98, 99, 100, 101, 102, 103, 104, 105, 106, 107, 108, 109, 110, 111, 112, 113, 114, 115, 116, 117, 118] rfl (by decide +kernel)
set_option maxRecDepth 20000 in
theorem gX9_takesResolve_X9_takesClause : GoodIn wsX9_takesResolve (wsV RX9 241 RX9 yX9_takesClause wsX9_takesClause) := goodIn_app (goodIn_r _ [2, 3, 4, 5] rfl (by decide +kernel)) ggX9_takesResolve_X9_takesClause
set_option maxRecDepth 20000 in
theorem ggX9_takesResolve_X9_hasFailed : GoodIn wsX9_takesResolve wsX9_hasFailed := goodIn_r _ [26, 27, 92, 93, 94, 95, 96, 97, 98, 99, 100, 101, 102, 103, 104, 105, 106, 107, 108, 109, 110, 111, 112, 113, 114, 115, 116, 117, 118] rfl (by decide +kernel)
set_option maxRecDepth 20000 in
theorem gX9_takesResolve_X9_hasFailed : GoodIn wsX9_takesResolve (wsV RX9 185 RX9 yX9_hasFailed wsX9_hasFailed) := goodIn_app (goodIn_r _ [23, 24, 25, 5] rfl (by decide +kernel)) ggX9_takesResolve_X9_hasFailed
set_option maxRecDepth 20000 in
theorem ggX9_takesResolve_X9_many : GoodIn wsX9_takesResolve wsX9_many := goodIn_r _ [10, 11, 92, 93, 94, 95, 96, 97, 98, 99, 100, 101, 102, 103, 104, 105, 106, 107, 108, 109, 110, 111, 112, 113, 114, 115, 116, 117, 118] rfl (by decide +kernel)
set_option maxRecDepth 20000 in
theorem gX9_takesResolve_X9_many : GoodIn wsX9_takesResolve (wsV RX9 56 RX9 yX9_many wsX9_many) := goodIn_app (goodIn_r _ [7, 8, 9, 5] rfl (by decide +kernel)) ggX9_takesResolve_X9_many
set_option maxRecDepth 20000 in
theorem ggX9_takesResolve_X9_clashing : GoodIn wsX9_takesResolve wsX9_clashing := goodIn_r _ [51, 52, 53, 54, 5, 55, 11, 56, 57, 58, 59, 92, 93, 94, 95, 96, 97, 98, 99, 100, 101, 102, 103, 104, 105, 106, 107, 108, 109, 110, 111, 112, 113, 114, 115, 116, 117, 118] rfl (by decide +kernel)
set_option maxRecDepth 20000 in
theorem gX9_takesResolve_X9_clashing : GoodIn wsX9_takesResolve (wsV RX9 99 RX9 yX9_clashing wsX9_clashing) := goodIn_app (goodIn_r _ [48, 49, 50, 5] rfl (by decide +kernel)) ggX9_takesResolve_X9_clashing
set_option maxRecDepth 20000 in
theorem ggX9_takesResolve_X9_fails : GoodIn wsX9_takesResolve wsX9_fails := goodIn_r _ [46, 27, 47, 23, 24, 25, 5, 26, 92, 93, 94, 95, 96, 97, 98, 99, 100, 101, 102, 103, 104, 105, 106, 107, 108, 109, 110, 111, 112, 113, 114, 115, 116, 117, 118] rfl (by decide +kernel)
set_option maxRecDepth 20000 in
theorem gX9_takesResolve_X9_fails : GoodIn wsX9_takesResolve (wsV RX9 217 RX9 yX9_fails wsX9_fails) := goodIn_app (goodIn_r _ [43, 44, 45, 5] rfl (by decide +kernel)) ggX9_takesResolve_X9_fails
set_option maxRecDepth 20000 in
theorem ggX9_takesResolve_X9_resolves : GoodIn wsX9_takesResolve wsX9_resolves := goodIn_r _ [63, 64, 65, 66, 5, 67, 56, 57, 58, 59, 11, 52, 53, 54, 55, 7, 8, 9, 10, 68, 69, 70, 71, 92, 93, 94, 95, 96, 97, 98, 99, 100, 101, 102, 103, 104, 105, 106, 107, 108, 109, 110, 111, 112, 113, 114, 115, 116, 117, 118] rfl (by decide +kernel)
set_option maxRecDepth 20000 in
theorem gX9_takesResolve_X9_resolves : GoodIn wsX9_takesResolve (wsV RX9 78 RX9 yX9_resolves wsX9_resolves) := goodIn_app (goodIn_r _ [60, 61, 62, 5] rfl (by decide +kernel)) ggX9_takesResolve_X9_resolves
set_option maxRecDepth 20000 in
theorem ggX9_takesResolve_X9_same : GoodIn wsX9_takesResolve wsX9_same := goodIn_r _ [75, 7, 8, 9, 5, 10, 11, 76, 77, 78, 79, 52, 53, 54, 55, 56, 57, 58, 59, 92, 93, 94, 95, 96, 97, 98, 99, 100, 101, 102, 103, 104, 105, 106, 107, 108, 109, 110, 111, 112, 113, 114, 115, 116, 117, 118] rfl (by decide +kernel)
set_option maxRecDepth 20000 in
theorem gX9_takesResolve_X9_same : GoodIn wsX9_takesResolve (wsV RX9 235 RX9 yX9_same wsX9_same) := goodIn_app (goodIn_r _ [72, 73, 74, 5] rfl (by decide +kernel)) ggX9_takesResolve_X9_same
set_option maxRecDepth 20000 in
theorem ggX9_takesResolve_X9_isEnd : GoodIn wsX9_takesResolve wsX9_isEnd := goodIn_r _ [83, 16, 23, 24, 25, 5, 26, 27, 28, 29, 30, 31, 32, 33, 34, 35, 36, 37, 38, 39, 40, 41, 42, 43, 44, 45, 46, 47, 92, 93, 94, 95, 96, 97, 98, 99, 100, 101, 102, 103, 104, 105, 106, 107, 108, 109, 110, 111, 112, 113, 114, 115, 116, 117, 118] rfl (by decide +kernel)
set_option maxRecDepth 20000 in
theorem gX9_takesResolve_X9_isEnd : GoodIn wsX9_takesResolve (wsV RX9 238 RX9 yX9_isEnd wsX9_isEnd) := goodIn_app (goodIn_r _ [80, 81, 82, 5] rfl (by decide +kernel)) ggX9_takesResolve_X9_isEnd
set_option maxRecDepth 20000 in
theorem ggX9_takesResolve_X9_addsResolvent : GoodIn wsX9_takesResolve wsX9_addsResolvent := goodIn_r _ [87, 64, 65, 66, 5, 67, 56, 57, 58, 59, 11, 60, 61, 62, 63, 52, 53, 54, 55, 7, 8, 9, 10, 68, 69, 70, 71, 88, 89, 90, 91, 92, 93, 94, 95, 96, 97, 98, 99, 100, 101, 102, 103, 104, 105, 106, 107, 108, 109, 110, 111, 112, 113, 114, 115, 116, 117, 118] rfl (by decide +kernel)
set_option maxRecDepth 20000 in
theorem gX9_takesResolve_X9_addsResolvent : GoodIn wsX9_takesResolve (wsV RX9 109 RX9 yX9_addsResolvent wsX9_addsResolvent) := goodIn_app (goodIn_r _ [84, 85, 86, 5] rfl (by decide +kernel)) ggX9_takesResolve_X9_addsResolvent
theorem dX9_takesResolve_0 : decode cX9_takesResolve 0 = .ok (.aload_n 0, 1) := by decide +kernel
theorem dX9_takesResolve_1 : decode cX9_takesResolve 1 = .ok (.invokevirtual 241, 3) := by decide +kernel
theorem dX9_takesResolve_4 : decode cX9_takesResolve 4 = .ok (.istore_n 1, 1) := by decide +kernel
theorem dX9_takesResolve_5 : decode cX9_takesResolve 5 = .ok (.aload_n 0, 1) := by decide +kernel
theorem dX9_takesResolve_6 : decode cX9_takesResolve 6 = .ok (.invokevirtual 241, 3) := by decide +kernel
theorem dX9_takesResolve_9 : decode cX9_takesResolve 9 = .ok (.istore_n 2, 1) := by decide +kernel
theorem dX9_takesResolve_10 : decode cX9_takesResolve 10 = .ok (.aload_n 0, 1) := by decide +kernel
theorem dX9_takesResolve_11 : decode cX9_takesResolve 11 = .ok (.invokevirtual 185, 3) := by decide +kernel
theorem dX9_takesResolve_14 : decode cX9_takesResolve 14 = .ok (.ifCond .ne 31, 3) := by decide +kernel
theorem dX9_takesResolve_17 : decode cX9_takesResolve 17 = .ok (.aload_n 0, 1) := by decide +kernel
theorem dX9_takesResolve_18 : decode cX9_takesResolve 18 = .ok (.invokevirtual 56, 3) := by decide +kernel
theorem dX9_takesResolve_21 : decode cX9_takesResolve 21 = .ok (.bipush 60, 2) := by decide +kernel
theorem dX9_takesResolve_23 : decode cX9_takesResolve 23 = .ok (.if_icmp .eq 13, 3) := by decide +kernel
theorem dX9_takesResolve_26 : decode cX9_takesResolve 26 = .ok (.aload_n 0, 1) := by decide +kernel
theorem dX9_takesResolve_27 : decode cX9_takesResolve 27 = .ok (.iload_n 1, 1) := by decide +kernel
theorem dX9_takesResolve_28 : decode cX9_takesResolve 28 = .ok (.iload_n 2, 1) := by decide +kernel
theorem dX9_takesResolve_29 : decode cX9_takesResolve 29 = .ok (.invokevirtual 99, 3) := by decide +kernel
theorem dX9_takesResolve_32 : decode cX9_takesResolve 32 = .ok (.iconst 1, 1) := by decide +kernel
theorem dX9_takesResolve_33 : decode cX9_takesResolve 33 = .ok (.if_icmp .eq 12, 3) := by decide +kernel
theorem dX9_takesResolve_36 : decode cX9_takesResolve 36 = .ok (.aload_n 0, 1) := by decide +kernel
theorem dX9_takesResolve_37 : decode cX9_takesResolve 37 = .ok (.aload_n 0, 1) := by decide +kernel
theorem dX9_takesResolve_38 : decode cX9_takesResolve 38 = .ok (.getfield 194, 3) := by decide +kernel
theorem dX9_takesResolve_41 : decode cX9_takesResolve 41 = .ok (.iconst 4, 1) := by decide +kernel
theorem dX9_takesResolve_42 : decode cX9_takesResolve 42 = .ok (.invokevirtual 217, 3) := by decide +kernel
theorem dX9_takesResolve_45 : decode cX9_takesResolve 45 = .ok (.aload_n 0, 1) := by decide +kernel
theorem dX9_takesResolve_46 : decode cX9_takesResolve 46 = .ok (.invokevirtual 185, 3) := by decide +kernel
theorem dX9_takesResolve_49 : decode cX9_takesResolve 49 = .ok (.ifCond .ne 26, 3) := by decide +kernel
theorem dX9_takesResolve_52 : decode cX9_takesResolve 52 = .ok (.aload_n 0, 1) := by decide +kernel
theorem dX9_takesResolve_53 : decode cX9_takesResolve 53 = .ok (.iload_n 1, 1) := by decide +kernel
theorem dX9_takesResolve_54 : decode cX9_takesResolve 54 = .ok (.iload_n 2, 1) := by decide +kernel
theorem dX9_takesResolve_55 : decode cX9_takesResolve 55 = .ok (.invokevirtual 78, 3) := by decide +kernel
theorem dX9_takesResolve_58 : decode cX9_takesResolve 58 = .ok (.aload_n 0, 1) := by decide +kernel
theorem dX9_takesResolve_59 : decode cX9_takesResolve 59 = .ok (.invokevirtual 235, 3) := by decide +kernel
theorem dX9_takesResolve_62 : decode cX9_takesResolve 62 = .ok (.iconst (-1), 1) := by decide +kernel
theorem dX9_takesResolve_63 : decode cX9_takesResolve 63 = .ok (.if_icmp .eq 12, 3) := by decide +kernel
theorem dX9_takesResolve_66 : decode cX9_takesResolve 66 = .ok (.aload_n 0, 1) := by decide +kernel
theorem dX9_takesResolve_67 : decode cX9_takesResolve 67 = .ok (.aload_n 0, 1) := by decide +kernel
theorem dX9_takesResolve_68 : decode cX9_takesResolve 68 = .ok (.getfield 194, 3) := by decide +kernel
theorem dX9_takesResolve_71 : decode cX9_takesResolve 71 = .ok (.iconst 4, 1) := by decide +kernel
theorem dX9_takesResolve_72 : decode cX9_takesResolve 72 = .ok (.invokevirtual 217, 3) := by decide +kernel
theorem dX9_takesResolve_75 : decode cX9_takesResolve 75 = .ok (.aload_n 0, 1) := by decide +kernel
theorem dX9_takesResolve_76 : decode cX9_takesResolve 76 = .ok (.invokevirtual 238, 3) := by decide +kernel
theorem dX9_takesResolve_79 : decode cX9_takesResolve 79 = .ok (.ifCond .eq 10, 3) := by decide +kernel
theorem dX9_takesResolve_82 : decode cX9_takesResolve 82 = .ok (.aload_n 0, 1) := by decide +kernel
theorem dX9_takesResolve_83 : decode cX9_takesResolve 83 = .ok (.iload_n 1, 1) := by decide +kernel
theorem dX9_takesResolve_84 : decode cX9_takesResolve 84 = .ok (.iload_n 2, 1) := by decide +kernel
theorem dX9_takesResolve_85 : decode cX9_takesResolve 85 = .ok (.invokevirtual 109, 3) := by decide +kernel
theorem dX9_takesResolve_88 : decode cX9_takesResolve 88 = .ok (.istore_n 3, 1) := by decide +kernel
theorem dX9_takesResolve_89 : decode cX9_takesResolve 89 = .ok (.return_, 1) := by decide +kernel
set_option maxRecDepth 20000 in
theorem ggX9_takesDrop_X9_takesClause : GoodIn wsX9_takesDrop wsX9_takesClause := goodIn_r _ [6, 7, 8, 9, 5, 10, 11, 12, 13, 14, 15, 16, 1, 17, 18, 19, 20, 21, 22, 23, 24, 25, 26, 27, 28, 29, 30, 31, 32, 33, 34, 35, 36, 37, 38, 39, 40, 41, 42, 43, 44, 45, 46, 47, 68, 69, 70, 71, 72, 73, 74, 75, 76, 77, 78, 79, 80, 81, 82, 83, 84, 85, 86, 87, 88, 89, 90, 91, 92, 93, 94] rfl (by decide +kernel)
set_option maxRecDepth 20000 in
theorem gX9_takesDrop_X9_takesClause : GoodIn wsX9_takesDrop (wsV RX9 241 RX9 yX9_takesClause wsX9_takesClause) := goodIn_app (goodIn_r _ [2, 3, 4, 5] rfl (by decide +kernel)) ggX9_takesDrop_X9_takesClause
set_option maxRecDepth 20000 in
theorem ggX9_takesDrop_X9_hasFailed : GoodIn wsX9_takesDrop wsX9_hasFailed := goodIn_r _ [26, 27, 68, 69, 70, 71, 72, 73, 74, 75, 76, 77, 78, 79, 80, 81, 82, 83, 84, 85, 86, 87, 88, 89, 90, 91, 92, 93, 94] rfl (by decide +kernel)
set_option maxRecDepth 20000 in
theorem gX9_takesDrop_X9_hasFailed : GoodIn wsX9_takesDrop (wsV RX9 185 RX9 yX9_hasFailed wsX9_hasFailed) := goodIn_app (goodIn_r _ [23, 24, 25, 5] rfl (by decide +kernel)) ggX9_takesDrop_X9_hasFailed
set_option maxRecDepth 20000 in
theorem ggX9_takesDrop_X9_isParent : GoodIn wsX9_takesDrop wsX9_isParent := goodIn_r _ [51, 11, 7, 8, 9, 5, 10, 68, 69, 70, 71, 72, 73, 74, 75, 76, 77, 78, 79, 80, 81, 82, 83, 84, 85, 86, 87, 88, 89, 90, 91, 92, 93, 94] rfl (by decide +kernel)
set_option maxRecDepth 20000 in
theorem gX9_takesDrop_X9_isParent : GoodIn wsX9_takesDrop (wsV RX9 119 RX9 yX9_isParent wsX9_isParent) := goodIn_app (goodIn_r _ [48, 49, 50, 5] rfl (by decide +kernel)) ggX9_takesDrop_X9_isParent
set_option maxRecDepth 20000 in
theorem ggX9_takesDrop_X9_fails : GoodIn wsX9_takesDrop wsX9_fails := goodIn_r _ [46, 27, 47, 23, 24, 25, 5, 26, 68, 69, 70, 71, 72, 73, 74, 75, 76, 77, 78, 79, 80, 81, 82, 83, 84, 85, 86, 87, 88, 89, 90, 91, 92, 93, 94] rfl (by decide +kernel)
set_option maxRecDepth 20000 in
theorem gX9_takesDrop_X9_fails : GoodIn wsX9_takesDrop (wsV RX9 217 RX9 yX9_fails wsX9_fails) := goodIn_app (goodIn_r _ [43, 44, 45, 5] rfl (by decide +kernel)) ggX9_takesDrop_X9_fails
set_option maxRecDepth 20000 in
theorem ggX9_takesDrop_X9_isEnd : GoodIn wsX9_takesDrop wsX9_isEnd := goodIn_r _ [55, 16, 23, 24, 25, 5, 26, 27, 28, 29, 30, 31, 32, 33, 34, 35, 36, 37, 38, 39, 40, 41, 42, 43, 44, 45, 46, 47, 68, 69, 70, 71, 72, 73, 74, 75, 76, 77, 78, 79, 80, 81, 82, 83, 84, 85, 86, 87, 88, 89, 90, 91, 92, 93, 94] rfl (by decide +kernel)
set_option maxRecDepth 20000 in
theorem gX9_takesDrop_X9_isEnd : GoodIn wsX9_takesDrop (wsV RX9 238 RX9 yX9_isEnd wsX9_isEnd) := goodIn_app (goodIn_r _ [52, 53, 54, 5] rfl (by decide +kernel)) ggX9_takesDrop_X9_isEnd
set_option maxRecDepth 20000 in
theorem ggX9_takesDrop_X9_drops : GoodIn wsX9_takesDrop wsX9_drops := goodIn_r _ [59, 11, 7, 8, 9, 5, 10, 60, 61, 62, 63, 64, 65, 66, 67, 68, 69, 70, 71, 72, 73, 74, 75, 76, 77, 78, 79, 80, 81, 82, 83, 84, 85, 86, 87, 88, 89, 90, 91, 92, 93, 94] rfl (by decide +kernel)
set_option maxRecDepth 20000 in
theorem gX9_takesDrop_X9_drops : GoodIn wsX9_takesDrop (wsV RX9 122 RX9 yX9_drops wsX9_drops) := goodIn_app (goodIn_r _ [56, 57, 58, 5] rfl (by decide +kernel)) ggX9_takesDrop_X9_drops
theorem dX9_takesDrop_0 : decode cX9_takesDrop 0 = .ok (.aload_n 0, 1) := by decide +kernel
theorem dX9_takesDrop_1 : decode cX9_takesDrop 1 = .ok (.invokevirtual 241, 3) := by decide +kernel
theorem dX9_takesDrop_4 : decode cX9_takesDrop 4 = .ok (.istore_n 1, 1) := by decide +kernel
theorem dX9_takesDrop_5 : decode cX9_takesDrop 5 = .ok (.aload_n 0, 1) := by decide +kernel
theorem dX9_takesDrop_6 : decode cX9_takesDrop 6 = .ok (.invokevirtual 185, 3) := by decide +kernel
theorem dX9_takesDrop_9 : decode cX9_takesDrop 9 = .ok (.ifCond .ne 20, 3) := by decide +kernel
theorem dX9_takesDrop_12 : decode cX9_takesDrop 12 = .ok (.aload_n 0, 1) := by decide +kernel
theorem dX9_takesDrop_13 : decode cX9_takesDrop 13 = .ok (.iload_n 1, 1) := by decide +kernel
theorem dX9_takesDrop_14 : decode cX9_takesDrop 14 = .ok (.invokevirtual 119, 3) := by decide +kernel
theorem dX9_takesDrop_17 : decode cX9_takesDrop 17 = .ok (.ifCond .eq 12, 3) := by decide +kernel
theorem dX9_takesDrop_20 : decode cX9_takesDrop 20 = .ok (.aload_n 0, 1) := by decide +kernel
theorem dX9_takesDrop_21 : decode cX9_takesDrop 21 = .ok (.aload_n 0, 1) := by decide +kernel
theorem dX9_takesDrop_22 : decode cX9_takesDrop 22 = .ok (.getfield 194, 3) := by decide +kernel
theorem dX9_takesDrop_25 : decode cX9_takesDrop 25 = .ok (.iconst 4, 1) := by decide +kernel
theorem dX9_takesDrop_26 : decode cX9_takesDrop 26 = .ok (.invokevirtual 217, 3) := by decide +kernel
theorem dX9_takesDrop_29 : decode cX9_takesDrop 29 = .ok (.aload_n 0, 1) := by decide +kernel
theorem dX9_takesDrop_30 : decode cX9_takesDrop 30 = .ok (.invokevirtual 238, 3) := by decide +kernel
theorem dX9_takesDrop_33 : decode cX9_takesDrop 33 = .ok (.ifCond .eq 8, 3) := by decide +kernel
theorem dX9_takesDrop_36 : decode cX9_takesDrop 36 = .ok (.aload_n 0, 1) := by decide +kernel
theorem dX9_takesDrop_37 : decode cX9_takesDrop 37 = .ok (.iload_n 1, 1) := by decide +kernel
theorem dX9_takesDrop_38 : decode cX9_takesDrop 38 = .ok (.invokevirtual 122, 3) := by decide +kernel
theorem dX9_takesDrop_41 : decode cX9_takesDrop 41 = .ok (.return_, 1) := by decide +kernel
set_option maxRecDepth 20000 in
theorem ggX9_isLiteralFixed_X9_skips : GoodIn wsX9_isLiteralFixed wsX9_skips := goodIn_r _ [6, 7, 8, 1, 9, 10, 11, 5, 12, 13, 14, 15, 16, 17, 76, 77, 78, 79, 80, 81, 82, 83, 84, 85, 86, 87, 88, 89, 90, 91, 92, 93, 94, 95, 96, 97, 98, 99, 100, 101, 102] rfl (by decide +kernel)
set_option maxRecDepth 20000 in
theorem gX9_isLiteralFixed_X9_skips : GoodIn wsX9_isLiteralFixed (wsV RX9 191 RX9 yX9_skips wsX9_skips) := goodIn_app (goodIn_r _ [2, 3, 4, 5] rfl (by decide +kernel)) ggX9_isLiteralFixed_X9_skips
set_option maxRecDepth 20000 in
theorem ggX9_isLiteralFixed_X9_ahead : GoodIn wsX9_isLiteralFixed wsX9_ahead := goodIn_r _ [12, 1, 13, 14, 76, 77, 78, 79, 80, 81, 82, 83, 84, 85, 86, 87, 88, 89, 90, 91, 92, 93, 94, 95, 96, 97, 98, 99, 100, 101, 102] rfl (by decide +kernel)
set_option maxRecDepth 20000 in
theorem gX9_isLiteralFixed_X9_ahead : GoodIn wsX9_isLiteralFixed (wsV RX9 171 RX9 yX9_ahead wsX9_ahead) := goodIn_app (goodIn_r _ [9, 10, 11, 5] rfl (by decide +kernel)) ggX9_isLiteralFixed_X9_ahead
set_option maxRecDepth 20000 in
theorem ggX9_isLiteralFixed_X9_takesVariable : GoodIn wsX9_isLiteralFixed wsX9_takesVariable := goodIn_r _ [21, 22, 23, 14, 24, 25, 26, 5, 27, 28, 29, 30, 31, 32, 1, 33, 34, 2, 3, 4, 6, 7, 8, 9, 10, 11, 12, 13, 15, 16, 17, 35, 36, 37, 38, 39, 40, 41, 42, 43, 44, 76, 77, 78, 79, 80, 81, 82, 83, 84, 85, 86, 87, 88, 89, 90, 91, 92, 93, 94, 95, 96, 97, 98, 99, 100, 101, 102] rfl (by decide +kernel)
set_option maxRecDepth 20000 in
theorem gX9_isLiteralFixed_X9_takesVariable : GoodIn wsX9_isLiteralFixed (wsV RX9 226 RX9 yX9_takesVariable wsX9_takesVariable) := goodIn_app (goodIn_r _ [18, 19, 20, 5] rfl (by decide +kernel)) ggX9_isLiteralFixed_X9_takesVariable
set_option maxRecDepth 20000 in
theorem ggX9_isLiteralFixed_X9_hasFailed : GoodIn wsX9_isLiteralFixed wsX9_hasFailed := goodIn_r _ [27, 28, 76, 77, 78, 79, 80, 81, 82, 83, 84, 85, 86, 87, 88, 89, 90, 91, 92, 93, 94, 95, 96, 97, 98, 99, 100, 101, 102] rfl (by decide +kernel)
set_option maxRecDepth 20000 in
theorem gX9_isLiteralFixed_X9_hasFailed : GoodIn wsX9_isLiteralFixed (wsV RX9 185 RX9 yX9_hasFailed wsX9_hasFailed) := goodIn_app (goodIn_r _ [24, 25, 26, 5] rfl (by decide +kernel)) ggX9_isLiteralFixed_X9_hasFailed
set_option maxRecDepth 20000 in
theorem ggX9_isLiteralFixed_X9_propagates : GoodIn wsX9_isLiteralFixed wsX9_propagates := goodIn_r _ [48, 49, 50, 51, 52, 53, 54, 5, 55, 44, 56, 57, 58, 59, 40, 41, 42, 43, 60, 61, 62, 63, 64, 65, 66, 67, 68, 69, 70, 71, 72, 73, 74, 75, 76, 77, 78, 79, 80, 81, 82, 83, 84, 85, 86, 87, 88, 89, 90, 91, 92, 93, 94, 95, 96, 97, 98, 99, 100, 101, 102] rfl (by decide +kernel)
set_option maxRecDepth 20000 in
theorem gX9_isLiteralFixed_X9_propagates : GoodIn wsX9_isLiteralFixed (wsV RX9 244 RX9 yX9_propagates wsX9_propagates) := goodIn_app (goodIn_r _ [45, 46, 47, 5] rfl (by decide +kernel)) ggX9_isLiteralFixed_X9_propagates
set_option maxRecDepth 20000 in
theorem ggX9_isLiteralFixed_X9_isFixed : GoodIn wsX9_isLiteralFixed wsX9_isFixed := goodIn_r _ [67, 49, 50, 76, 77, 78, 79, 80, 81, 82, 83, 84, 85, 86, 87, 88, 89, 90, 91, 92, 93, 94, 95, 96, 97, 98, 99, 100, 101, 102] rfl (by decide +kernel)
set_option maxRecDepth 20000 in
theorem gX9_isLiteralFixed_X9_isFixed : GoodIn wsX9_isLiteralFixed (wsV RX9 156 RX9 yX9_isFixed wsX9_isFixed) := goodIn_app (goodIn_r _ [64, 65, 66, 5] rfl (by decide +kernel)) ggX9_isLiteralFixed_X9_isFixed
theorem dX9_isLiteralFixed_0 : decode cX9_isLiteralFixed 0 = .ok (.aload_n 0, 1) := by decide +kernel
theorem dX9_isLiteralFixed_1 : decode cX9_isLiteralFixed 1 = .ok (.invokevirtual 191, 3) := by decide +kernel
theorem dX9_isLiteralFixed_4 : decode cX9_isLiteralFixed 4 = .ok (.aload_n 0, 1) := by decide +kernel
theorem dX9_isLiteralFixed_5 : decode cX9_isLiteralFixed 5 = .ok (.invokevirtual 171, 3) := by decide +kernel
theorem dX9_isLiteralFixed_8 : decode cX9_isLiteralFixed 8 = .ok (.bipush 45, 2) := by decide +kernel
theorem dX9_isLiteralFixed_10 : decode cX9_isLiteralFixed 10 = .ok (.if_icmp .ne 7, 3) := by decide +kernel
theorem dX9_isLiteralFixed_13 : decode cX9_isLiteralFixed 13 = .ok (.iconst 1, 1) := by decide +kernel
theorem dX9_isLiteralFixed_14 : decode cX9_isLiteralFixed 14 = .ok (.goto 4, 3) := by decide +kernel
theorem dX9_isLiteralFixed_17 : decode cX9_isLiteralFixed 17 = .ok (.iconst 0, 1) := by decide +kernel
theorem dX9_isLiteralFixed_18 : decode cX9_isLiteralFixed 18 = .ok (.istore_n 1, 1) := by decide +kernel
theorem dX9_isLiteralFixed_19 : decode cX9_isLiteralFixed 19 = .ok (.aload_n 0, 1) := by decide +kernel
theorem dX9_isLiteralFixed_20 : decode cX9_isLiteralFixed 20 = .ok (.dup, 1) := by decide +kernel
theorem dX9_isLiteralFixed_21 : decode cX9_isLiteralFixed 21 = .ok (.getfield 165, 3) := by decide +kernel
theorem dX9_isLiteralFixed_24 : decode cX9_isLiteralFixed 24 = .ok (.iload_n 1, 1) := by decide +kernel
theorem dX9_isLiteralFixed_25 : decode cX9_isLiteralFixed 25 = .ok (.ifCond .eq 7, 3) := by decide +kernel
theorem dX9_isLiteralFixed_28 : decode cX9_isLiteralFixed 28 = .ok (.iconst 1, 1) := by decide +kernel
theorem dX9_isLiteralFixed_29 : decode cX9_isLiteralFixed 29 = .ok (.goto 4, 3) := by decide +kernel
theorem dX9_isLiteralFixed_32 : decode cX9_isLiteralFixed 32 = .ok (.iconst 0, 1) := by decide +kernel
theorem dX9_isLiteralFixed_33 : decode cX9_isLiteralFixed 33 = .ok (.iadd, 1) := by decide +kernel
theorem dX9_isLiteralFixed_34 : decode cX9_isLiteralFixed 34 = .ok (.putfield 165, 3) := by decide +kernel
theorem dX9_isLiteralFixed_37 : decode cX9_isLiteralFixed 37 = .ok (.aload_n 0, 1) := by decide +kernel
theorem dX9_isLiteralFixed_38 : decode cX9_isLiteralFixed 38 = .ok (.invokevirtual 226, 3) := by decide +kernel
theorem dX9_isLiteralFixed_41 : decode cX9_isLiteralFixed 41 = .ok (.istore_n 2, 1) := by decide +kernel
theorem dX9_isLiteralFixed_42 : decode cX9_isLiteralFixed 42 = .ok (.aload_n 0, 1) := by decide +kernel
theorem dX9_isLiteralFixed_43 : decode cX9_isLiteralFixed 43 = .ok (.invokevirtual 185, 3) := by decide +kernel
theorem dX9_isLiteralFixed_46 : decode cX9_isLiteralFixed 46 = .ok (.ifCond .eq 5, 3) := by decide +kernel
theorem dX9_isLiteralFixed_49 : decode cX9_isLiteralFixed 49 = .ok (.iconst 0, 1) := by decide +kernel
theorem dX9_isLiteralFixed_50 : decode cX9_isLiteralFixed 50 = .ok (.ireturn, 1) := by decide +kernel
theorem dX9_isLiteralFixed_51 : decode cX9_isLiteralFixed 51 = .ok (.aload_n 0, 1) := by decide +kernel
theorem dX9_isLiteralFixed_52 : decode cX9_isLiteralFixed 52 = .ok (.invokevirtual 244, 3) := by decide +kernel
theorem dX9_isLiteralFixed_55 : decode cX9_isLiteralFixed 55 = .ok (.aload_n 0, 1) := by decide +kernel
theorem dX9_isLiteralFixed_56 : decode cX9_isLiteralFixed 56 = .ok (.iload_n 2, 1) := by decide +kernel
theorem dX9_isLiteralFixed_57 : decode cX9_isLiteralFixed 57 = .ok (.iload_n 1, 1) := by decide +kernel
theorem dX9_isLiteralFixed_58 : decode cX9_isLiteralFixed 58 = .ok (.ifCond .eq 7, 3) := by decide +kernel
theorem dX9_isLiteralFixed_61 : decode cX9_isLiteralFixed 61 = .ok (.iconst 2, 1) := by decide +kernel
theorem dX9_isLiteralFixed_62 : decode cX9_isLiteralFixed 62 = .ok (.goto 4, 3) := by decide +kernel
theorem dX9_isLiteralFixed_65 : decode cX9_isLiteralFixed 65 = .ok (.iconst 1, 1) := by decide +kernel
theorem dX9_isLiteralFixed_66 : decode cX9_isLiteralFixed 66 = .ok (.invokevirtual 156, 3) := by decide +kernel
theorem dX9_isLiteralFixed_69 : decode cX9_isLiteralFixed 69 = .ok (.ireturn, 1) := by decide +kernel
set_option maxRecDepth 20000 in
theorem ggX9_takesExpect_X9_takesWord : GoodIn wsX9_takesExpect wsX9_takesWord := goodIn_r _ [6, 7, 1, 8, 9, 10, 11, 12, 13, 5, 14, 15, 16, 17, 18, 19, 20, 21, 22, 23, 24, 25, 212, 213, 214, 215, 216, 217, 218, 219, 220, 221, 222, 223, 224, 225, 226, 227, 228, 229, 230, 231, 232, 233, 234, 235, 236, 237, 238] rfl (by decide +kernel)
set_option maxRecDepth 20000 in
theorem gX9_takesExpect_X9_takesWord : GoodIn wsX9_takesExpect (wsV RX9 220 RX9 yX9_takesWord wsX9_takesWord) := goodIn_app (goodIn_r _ [2, 3, 4, 5] rfl (by decide +kernel)) ggX9_takesExpect_X9_takesWord
set_option maxRecDepth 20000 in
theorem ggX9_takesExpect_X9_isToken : GoodIn wsX9_takesExpect wsX9_isToken := goodIn_r _ [29, 10, 22, 1, 30, 31, 32, 33, 34, 35, 36, 37, 38, 39, 40, 41, 42, 43, 44, 45, 46, 47, 48, 49, 50, 51, 52, 53, 54, 55, 56, 57, 58, 59, 60, 61, 62, 63, 64, 65, 66, 67, 68, 69, 70, 71, 72, 73, 74, 75, 76, 77, 78, 212, 213, 214, 215, 216, 217, 218, 219, 220, 221, 222, 223, 224, 225, 226, 227, 228, 229, 230, 231, 232, 233, 234, 235, 236, 237, 238] rfl (by decide +kernel)
set_option maxRecDepth 20000 in
theorem gX9_takesExpect_X9_isToken : GoodIn wsX9_takesExpect (wsV RX9 249 RX9 yX9_isToken wsX9_isToken) := goodIn_app (goodIn_r _ [26, 27, 28, 5] rfl (by decide +kernel)) ggX9_takesExpect_X9_isToken
set_option maxRecDepth 20000 in
theorem ggX9_takesExpect_X9_number : GoodIn wsX9_takesExpect wsX9_number := goodIn_r _ [82, 7, 1, 83, 84, 85, 86, 87, 88, 89, 90, 91, 5, 92, 93, 11, 12, 13, 14, 15, 16, 17, 18, 19, 20, 21, 22, 23, 24, 25, 94, 95, 96, 97, 98, 212, 213, 214, 215, 216, 217, 218, 219, 220, 221, 222, 223, 224, 225, 226, 227, 228, 229, 230, 231, 232, 233, 234, 235, 236, 237, 238] rfl (by decide +kernel)
set_option maxRecDepth 20000 in
theorem gX9_takesExpect_X9_number : GoodIn wsX9_takesExpect (wsV RX9 229 RX9 yX9_number wsX9_number) := goodIn_app (goodIn_r _ [79, 80, 81, 5] rfl (by decide +kernel)) ggX9_takesExpect_X9_number
set_option maxRecDepth 20000 in
theorem ggX9_takesExpect_X9_many : GoodIn wsX9_takesExpect wsX9_many := goodIn_r _ [102, 103, 212, 213, 214, 215, 216, 217, 218, 219, 220, 221, 222, 223, 224, 225, 226, 227, 228, 229, 230, 231, 232, 233, 234, 235, 236, 237, 238] rfl (by decide +kernel)
set_option maxRecDepth 20000 in
theorem gX9_takesExpect_X9_many : GoodIn wsX9_takesExpect (wsV RX9 56 RX9 yX9_many wsX9_many) := goodIn_app (goodIn_r _ [99, 100, 101, 5] rfl (by decide +kernel)) ggX9_takesExpect_X9_many
set_option maxRecDepth 20000 in
theorem ggX9_takesExpect_X9_models : GoodIn wsX9_takesExpect wsX9_models := goodIn_r _ [107, 108, 109, 110, 5, 111, 112, 113, 114, 115, 103, 116, 117, 118, 119, 99, 100, 101, 102, 120, 121, 122, 123, 124, 125, 126, 127, 212, 213, 214, 215, 216, 217, 218, 219, 220, 221, 222, 223, 224, 225, 226, 227, 228, 229, 230, 231, 232, 233, 234, 235, 236, 237, 238] rfl (by decide +kernel)
set_option maxRecDepth 20000 in
theorem gX9_takesExpect_X9_models : GoodIn wsX9_takesExpect (wsV RX9 255 RX9 yX9_models wsX9_models) := goodIn_app (goodIn_r _ [104, 105, 106, 5] rfl (by decide +kernel)) ggX9_takesExpect_X9_models
set_option maxRecDepth 20000 in
theorem ggX9_takesExpect_X9_empty : GoodIn wsX9_takesExpect wsX9_empty := goodIn_r _ [131, 99, 100, 101, 5, 102, 103, 132, 133, 134, 135, 112, 113, 114, 115, 124, 125, 126, 127, 212, 213, 214, 215, 216, 217, 218, 219, 220, 221, 222, 223, 224, 225, 226, 227, 228, 229, 230, 231, 232, 233, 234, 235, 236, 237, 238] rfl (by decide +kernel)
set_option maxRecDepth 20000 in
theorem gX9_takesExpect_X9_empty : GoodIn wsX9_takesExpect (wsV RX9 96 RX9 yX9_empty wsX9_empty) := goodIn_app (goodIn_r _ [128, 129, 130, 5] rfl (by decide +kernel)) ggX9_takesExpect_X9_empty
set_option maxRecDepth 20000 in
theorem ggX9_takesExpect_X9_isLiteralFixed : GoodIn wsX9_takesExpect wsX9_isLiteralFixed := goodIn_r _ [139, 7, 11, 12, 13, 5, 14, 15, 16, 17, 18, 19, 20, 21, 22, 23, 24, 25, 140, 141, 142, 143, 10, 1, 89, 90, 91, 92, 93, 2, 3, 4, 6, 8, 9, 94, 95, 96, 97, 98, 112, 113, 114, 115, 103, 144, 145, 146, 147, 148, 149, 150, 99, 100, 101, 102, 151, 152, 153, 154, 124, 125, 126, 127, 155, 156, 157, 158, 132, 133, 134, 135, 159, 160, 161, 162, 212, 213, 214, 215, 216, 217, 218, 219, 220, 221, 222, 223, 224, 225, 226, 227, 228, 229, 230, 231, 232, 233, 234, 235, 236, 237, 238] rfl (by decide +kernel)
set_option maxRecDepth 20000 in
theorem gX9_takesExpect_X9_isLiteralFixed : GoodIn wsX9_takesExpect (wsV RX9 263 RX9 yX9_isLiteralFixed wsX9_isLiteralFixed) := goodIn_app (goodIn_r _ [136, 137, 138, 5] rfl (by decide +kernel)) ggX9_takesExpect_X9_isLiteralFixed
set_option maxRecDepth 20000 in
theorem ggX9_takesExpect_X9_subsumed : GoodIn wsX9_takesExpect wsX9_subsumed := goodIn_r _ [166, 99, 100, 101, 5, 102, 103, 167, 168, 169, 170, 171, 172, 173, 174, 175, 176, 177, 178, 112, 113, 114, 115, 124, 125, 126, 127, 212, 213, 214, 215, 216, 217, 218, 219, 220, 221, 222, 223, 224, 225, 226, 227, 228, 229, 230, 231, 232, 233, 234, 235, 236, 237, 238] rfl (by decide +kernel)
set_option maxRecDepth 20000 in
theorem gX9_takesExpect_X9_subsumed : GoodIn wsX9_takesExpect (wsV RX9 268 RX9 yX9_subsumed wsX9_subsumed) := goodIn_app (goodIn_r _ [163, 164, 165, 5] rfl (by decide +kernel)) ggX9_takesExpect_X9_subsumed
set_option maxRecDepth 20000 in
theorem ggX9_takesExpect_X9_takesClause : GoodIn wsX9_takesExpect wsX9_takesClause := goodIn_r _ [182, 99, 100, 101, 5, 102, 103, 79, 80, 81, 82, 7, 1, 83, 84, 85, 86, 87, 88, 89, 90, 91, 92, 93, 11, 12, 13, 14, 15, 16, 17, 18, 19, 20, 21, 22, 23, 24, 25, 94, 95, 96, 97, 98, 212, 213, 214, 215, 216, 217, 218, 219, 220, 221, 222, 223, 224, 225, 226, 227, 228, 229, 230, 231, 232, 233, 234, 235, 236, 237, 238] rfl (by decide +kernel)
set_option maxRecDepth 20000 in
theorem gX9_takesExpect_X9_takesClause : GoodIn wsX9_takesExpect (wsV RX9 241 RX9 yX9_takesClause wsX9_takesClause) := goodIn_app (goodIn_r _ [179, 180, 181, 5] rfl (by decide +kernel)) ggX9_takesExpect_X9_takesClause
set_option maxRecDepth 20000 in
theorem ggX9_takesExpect_X9_hasFailed : GoodIn wsX9_takesExpect wsX9_hasFailed := goodIn_r _ [92, 93, 212, 213, 214, 215, 216, 217, 218, 219, 220, 221, 222, 223, 224, 225, 226, 227, 228, 229, 230, 231, 232, 233, 234, 235, 236, 237, 238] rfl (by decide +kernel)
set_option maxRecDepth 20000 in
theorem gX9_takesExpect_X9_hasFailed : GoodIn wsX9_takesExpect (wsV RX9 185 RX9 yX9_hasFailed wsX9_hasFailed) := goodIn_app (goodIn_r _ [89, 90, 91, 5] rfl (by decide +kernel)) ggX9_takesExpect_X9_hasFailed
set_option maxRecDepth 20000 in
theorem ggX9_takesExpect_X9_literals : GoodIn wsX9_takesExpect wsX9_literals := goodIn_r _ [135, 112, 113, 114, 5, 115, 103, 124, 125, 126, 127, 212, 213, 214, 215, 216, 217, 218, 219, 220, 221, 222, 223, 224, 225, 226, 227, 228, 229, 230, 231, 232, 233, 234, 235, 236, 237, 238] rfl (by decide +kernel)
set_option maxRecDepth 20000 in
theorem gX9_takesExpect_X9_literals : GoodIn wsX9_takesExpect (wsV RX9 86 RX9 yX9_literals wsX9_literals) := goodIn_app (goodIn_r _ [132, 133, 134, 5] rfl (by decide +kernel)) ggX9_takesExpect_X9_literals
set_option maxRecDepth 20000 in
theorem ggX9_takesExpect_X9_depthAt : GoodIn wsX9_takesExpect wsX9_depthAt := goodIn_r _ [186, 187, 188, 189, 190, 5, 191, 103, 85, 86, 87, 88, 212, 213, 214, 215, 216, 217, 218, 219, 220, 221, 222, 223, 224, 225, 226, 227, 228, 229, 230, 231, 232, 233, 234, 235, 236, 237, 238] rfl (by decide +kernel)
set_option maxRecDepth 20000 in
theorem gX9_takesExpect_X9_depthAt : GoodIn wsX9_takesExpect (wsV RX9 273 RX9 yX9_depthAt wsX9_depthAt) := goodIn_app (goodIn_r _ [183, 184, 185, 5] rfl (by decide +kernel)) ggX9_takesExpect_X9_depthAt
set_option maxRecDepth 20000 in
theorem ggX9_takesExpect_X9_takesLiterals : GoodIn wsX9_takesExpect wsX9_takesLiterals := goodIn_r _ [195, 8, 9, 7, 1, 196, 197, 198, 5, 199, 99, 100, 101, 102, 103, 200, 201, 202, 203, 11, 12, 13, 14, 15, 16, 17, 18, 19, 20, 21, 22, 23, 24, 25, 89, 90, 91, 92, 93, 140, 141, 142, 143, 10, 2, 3, 4, 6, 94, 95, 96, 97, 98, 112, 113, 114, 115, 124, 125, 126, 127, 212, 213, 214, 215, 216, 217, 218, 219, 220, 221, 222, 223, 224, 225, 226, 227, 228, 229, 230, 231, 232, 233, 234, 235, 236, 237, 238] rfl (by decide +kernel)
set_option maxRecDepth 20000 in
theorem gX9_takesExpect_X9_takesLiterals : GoodIn wsX9_takesExpect (wsV RX9 232 RX9 yX9_takesLiterals wsX9_takesLiterals) := goodIn_app (goodIn_r _ [192, 193, 194, 5] rfl (by decide +kernel)) ggX9_takesExpect_X9_takesLiterals
set_option maxRecDepth 20000 in
theorem ggX9_takesExpect_X9_follows : GoodIn wsX9_takesExpect wsX9_follows := goodIn_r _ [207, 108, 109, 110, 5, 111, 112, 113, 114, 115, 103, 116, 117, 118, 119, 99, 100, 101, 102, 120, 121, 122, 123, 124, 125, 126, 127, 212, 213, 214, 215, 216, 217, 218, 219, 220, 221, 222, 223, 224, 225, 226, 227, 228, 229, 230, 231, 232, 233, 234, 235, 236, 237, 238] rfl (by decide +kernel)
set_option maxRecDepth 20000 in
theorem gX9_takesExpect_X9_follows : GoodIn wsX9_takesExpect (wsV RX9 278 RX9 yX9_follows wsX9_follows) := goodIn_app (goodIn_r _ [204, 205, 206, 5] rfl (by decide +kernel)) ggX9_takesExpect_X9_follows
set_option maxRecDepth 20000 in
theorem ggX9_takesExpect_X9_fails : GoodIn wsX9_takesExpect wsX9_fails := goodIn_r _ [97, 93, 98, 89, 90, 91, 5, 92, 212, 213, 214, 215, 216, 217, 218, 219, 220, 221, 222, 223, 224, 225, 226, 227, 228, 229, 230, 231, 232, 233, 234, 235, 236, 237, 238] rfl (by decide +kernel)
set_option maxRecDepth 20000 in
theorem gX9_takesExpect_X9_fails : GoodIn wsX9_takesExpect (wsV RX9 217 RX9 yX9_fails wsX9_fails) := goodIn_app (goodIn_r _ [94, 95, 96, 5] rfl (by decide +kernel)) ggX9_takesExpect_X9_fails
set_option maxRecDepth 20000 in
theorem ggX9_takesExpect_X9_isEnd : GoodIn wsX9_takesExpect wsX9_isEnd := goodIn_r _ [211, 7, 89, 90, 91, 5, 92, 93, 11, 12, 13, 14, 15, 16, 17, 18, 19, 20, 21, 22, 23, 24, 25, 94, 95, 96, 97, 98, 212, 213, 214, 215, 216, 217, 218, 219, 220, 221, 222, 223, 224, 225, 226, 227, 228, 229, 230, 231, 232, 233, 234, 235, 236, 237, 238] rfl (by decide +kernel)
set_option maxRecDepth 20000 in
theorem gX9_takesExpect_X9_isEnd : GoodIn wsX9_takesExpect (wsV RX9 238 RX9 yX9_isEnd wsX9_isEnd) := goodIn_app (goodIn_r _ [208, 209, 210, 5] rfl (by decide +kernel)) ggX9_takesExpect_X9_isEnd
theorem dX9_takesExpect_0 : decode cX9_takesExpect 0 = .ok (.aload_n 0, 1) := by decide +kernel
theorem dX9_takesExpect_1 : decode cX9_takesExpect 1 = .ok (.invokevirtual 220, 3) := by decide +kernel
theorem dX9_takesExpect_4 : decode cX9_takesExpect 4 = .ok (.iconst 0, 1) := by decide +kernel
theorem dX9_takesExpect_5 : decode cX9_takesExpect 5 = .ok (.istore_n 2, 1) := by decide +kernel
theorem dX9_takesExpect_6 : decode cX9_takesExpect 6 = .ok (.aload_n 0, 1) := by decide +kernel
theorem dX9_takesExpect_7 : decode cX9_takesExpect 7 = .ok (.ldc 247, 2) := by decide +kernel
theorem dX9_takesExpect_9 : decode cX9_takesExpect 9 = .ok (.invokevirtual 249, 3) := by decide +kernel
theorem dX9_takesExpect_12 : decode cX9_takesExpect 12 = .ok (.ifCond .eq 27, 3) := by decide +kernel
theorem dX9_takesExpect_15 : decode cX9_takesExpect 15 = .ok (.aload_n 0, 1) := by decide +kernel
theorem dX9_takesExpect_16 : decode cX9_takesExpect 16 = .ok (.iconst 0, 1) := by decide +kernel
theorem dX9_takesExpect_17 : decode cX9_takesExpect 17 = .ok (.sipush 9999, 3) := by decide +kernel
theorem dX9_takesExpect_20 : decode cX9_takesExpect 20 = .ok (.invokevirtual 229, 3) := by decide +kernel
theorem dX9_takesExpect_23 : decode cX9_takesExpect 23 = .ok (.aload_n 0, 1) := by decide +kernel
theorem dX9_takesExpect_24 : decode cX9_takesExpect 24 = .ok (.invokevirtual 56, 3) := by decide +kernel
theorem dX9_takesExpect_27 : decode cX9_takesExpect 27 = .ok (.if_icmp .ne 7, 3) := by decide +kernel
theorem dX9_takesExpect_30 : decode cX9_takesExpect 30 = .ok (.iconst 1, 1) := by decide +kernel
theorem dX9_takesExpect_31 : decode cX9_takesExpect 31 = .ok (.goto 4, 3) := by decide +kernel
theorem dX9_takesExpect_34 : decode cX9_takesExpect 34 = .ok (.iconst 0, 1) := by decide +kernel
theorem dX9_takesExpect_35 : decode cX9_takesExpect 35 = .ok (.istore_n 2, 1) := by decide +kernel
theorem dX9_takesExpect_36 : decode cX9_takesExpect 36 = .ok (.goto 295, 3) := by decide +kernel
theorem dX9_takesExpect_39 : decode cX9_takesExpect 39 = .ok (.aload_n 0, 1) := by decide +kernel
theorem dX9_takesExpect_40 : decode cX9_takesExpect 40 = .ok (.ldc 253, 2) := by decide +kernel
theorem dX9_takesExpect_42 : decode cX9_takesExpect 42 = .ok (.invokevirtual 249, 3) := by decide +kernel
theorem dX9_takesExpect_45 : decode cX9_takesExpect 45 = .ok (.ifCond .eq 27, 3) := by decide +kernel
theorem dX9_takesExpect_48 : decode cX9_takesExpect 48 = .ok (.aload_n 0, 1) := by decide +kernel
theorem dX9_takesExpect_49 : decode cX9_takesExpect 49 = .ok (.iconst 0, 1) := by decide +kernel
theorem dX9_takesExpect_50 : decode cX9_takesExpect 50 = .ok (.sipush 9999, 3) := by decide +kernel
theorem dX9_takesExpect_53 : decode cX9_takesExpect 53 = .ok (.invokevirtual 229, 3) := by decide +kernel
theorem dX9_takesExpect_56 : decode cX9_takesExpect 56 = .ok (.aload_n 0, 1) := by decide +kernel
theorem dX9_takesExpect_57 : decode cX9_takesExpect 57 = .ok (.invokevirtual 255, 3) := by decide +kernel
theorem dX9_takesExpect_60 : decode cX9_takesExpect 60 = .ok (.if_icmp .ne 7, 3) := by decide +kernel
theorem dX9_takesExpect_63 : decode cX9_takesExpect 63 = .ok (.iconst 1, 1) := by decide +kernel
theorem dX9_takesExpect_64 : decode cX9_takesExpect 64 = .ok (.goto 4, 3) := by decide +kernel
theorem dX9_takesExpect_67 : decode cX9_takesExpect 67 = .ok (.iconst 0, 1) := by decide +kernel
theorem dX9_takesExpect_68 : decode cX9_takesExpect 68 = .ok (.istore_n 2, 1) := by decide +kernel
theorem dX9_takesExpect_69 : decode cX9_takesExpect 69 = .ok (.goto 262, 3) := by decide +kernel
theorem dX9_takesExpect_72 : decode cX9_takesExpect 72 = .ok (.aload_n 0, 1) := by decide +kernel
theorem dX9_takesExpect_73 : decode cX9_takesExpect 73 = .ok (.ldc_w 257, 3) := by decide +kernel
theorem dX9_takesExpect_76 : decode cX9_takesExpect 76 = .ok (.invokevirtual 249, 3) := by decide +kernel
theorem dX9_takesExpect_79 : decode cX9_takesExpect 79 = .ok (.ifCond .eq 20, 3) := by decide +kernel
theorem dX9_takesExpect_82 : decode cX9_takesExpect 82 = .ok (.aload_n 0, 1) := by decide +kernel
theorem dX9_takesExpect_83 : decode cX9_takesExpect 83 = .ok (.invokevirtual 96, 3) := by decide +kernel
theorem dX9_takesExpect_86 : decode cX9_takesExpect 86 = .ok (.iconst (-1), 1) := by decide +kernel
theorem dX9_takesExpect_87 : decode cX9_takesExpect 87 = .ok (.if_icmp .eq 7, 3) := by decide +kernel
theorem dX9_takesExpect_90 : decode cX9_takesExpect 90 = .ok (.iconst 1, 1) := by decide +kernel
theorem dX9_takesExpect_91 : decode cX9_takesExpect 91 = .ok (.goto 4, 3) := by decide +kernel
theorem dX9_takesExpect_94 : decode cX9_takesExpect 94 = .ok (.iconst 0, 1) := by decide +kernel
theorem dX9_takesExpect_95 : decode cX9_takesExpect 95 = .ok (.istore_n 2, 1) := by decide +kernel
theorem dX9_takesExpect_96 : decode cX9_takesExpect 96 = .ok (.goto 235, 3) := by decide +kernel
theorem dX9_takesExpect_99 : decode cX9_takesExpect 99 = .ok (.aload_n 0, 1) := by decide +kernel
theorem dX9_takesExpect_100 : decode cX9_takesExpect 100 = .ok (.ldc_w 259, 3) := by decide +kernel
theorem dX9_takesExpect_103 : decode cX9_takesExpect 103 = .ok (.invokevirtual 249, 3) := by decide +kernel
theorem dX9_takesExpect_106 : decode cX9_takesExpect 106 = .ok (.ifCond .eq 20, 3) := by decide +kernel
theorem dX9_takesExpect_109 : decode cX9_takesExpect 109 = .ok (.aload_n 0, 1) := by decide +kernel
theorem dX9_takesExpect_110 : decode cX9_takesExpect 110 = .ok (.invokevirtual 96, 3) := by decide +kernel
theorem dX9_takesExpect_113 : decode cX9_takesExpect 113 = .ok (.iconst (-1), 1) := by decide +kernel
theorem dX9_takesExpect_114 : decode cX9_takesExpect 114 = .ok (.if_icmp .ne 7, 3) := by decide +kernel
theorem dX9_takesExpect_117 : decode cX9_takesExpect 117 = .ok (.iconst 1, 1) := by decide +kernel
theorem dX9_takesExpect_118 : decode cX9_takesExpect 118 = .ok (.goto 4, 3) := by decide +kernel
theorem dX9_takesExpect_121 : decode cX9_takesExpect 121 = .ok (.iconst 0, 1) := by decide +kernel
theorem dX9_takesExpect_122 : decode cX9_takesExpect 122 = .ok (.istore_n 2, 1) := by decide +kernel
theorem dX9_takesExpect_123 : decode cX9_takesExpect 123 = .ok (.goto 208, 3) := by decide +kernel
theorem dX9_takesExpect_126 : decode cX9_takesExpect 126 = .ok (.aload_n 0, 1) := by decide +kernel
theorem dX9_takesExpect_127 : decode cX9_takesExpect 127 = .ok (.ldc_w 261, 3) := by decide +kernel
theorem dX9_takesExpect_130 : decode cX9_takesExpect 130 = .ok (.invokevirtual 249, 3) := by decide +kernel
theorem dX9_takesExpect_133 : decode cX9_takesExpect 133 = .ok (.ifCond .eq 11, 3) := by decide +kernel
theorem dX9_takesExpect_136 : decode cX9_takesExpect 136 = .ok (.aload_n 0, 1) := by decide +kernel
theorem dX9_takesExpect_137 : decode cX9_takesExpect 137 = .ok (.invokevirtual 263, 3) := by decide +kernel
theorem dX9_takesExpect_140 : decode cX9_takesExpect 140 = .ok (.istore_n 2, 1) := by decide +kernel
theorem dX9_takesExpect_141 : decode cX9_takesExpect 141 = .ok (.goto 190, 3) := by decide +kernel
theorem dX9_takesExpect_144 : decode cX9_takesExpect 144 = .ok (.aload_n 0, 1) := by decide +kernel
theorem dX9_takesExpect_145 : decode cX9_takesExpect 145 = .ok (.ldc_w 266, 3) := by decide +kernel
theorem dX9_takesExpect_148 : decode cX9_takesExpect 148 = .ok (.invokevirtual 249, 3) := by decide +kernel
theorem dX9_takesExpect_151 : decode cX9_takesExpect 151 = .ok (.ifCond .eq 27, 3) := by decide +kernel
theorem dX9_takesExpect_154 : decode cX9_takesExpect 154 = .ok (.aload_n 0, 1) := by decide +kernel
theorem dX9_takesExpect_155 : decode cX9_takesExpect 155 = .ok (.iconst 0, 1) := by decide +kernel
theorem dX9_takesExpect_156 : decode cX9_takesExpect 156 = .ok (.sipush 9999, 3) := by decide +kernel
theorem dX9_takesExpect_159 : decode cX9_takesExpect 159 = .ok (.invokevirtual 229, 3) := by decide +kernel
theorem dX9_takesExpect_162 : decode cX9_takesExpect 162 = .ok (.aload_n 0, 1) := by decide +kernel
theorem dX9_takesExpect_163 : decode cX9_takesExpect 163 = .ok (.invokevirtual 268, 3) := by decide +kernel
theorem dX9_takesExpect_166 : decode cX9_takesExpect 166 = .ok (.if_icmp .ne 7, 3) := by decide +kernel
theorem dX9_takesExpect_169 : decode cX9_takesExpect 169 = .ok (.iconst 1, 1) := by decide +kernel
theorem dX9_takesExpect_170 : decode cX9_takesExpect 170 = .ok (.goto 4, 3) := by decide +kernel
theorem dX9_takesExpect_173 : decode cX9_takesExpect 173 = .ok (.iconst 0, 1) := by decide +kernel
theorem dX9_takesExpect_174 : decode cX9_takesExpect 174 = .ok (.istore_n 2, 1) := by decide +kernel
theorem dX9_takesExpect_175 : decode cX9_takesExpect 175 = .ok (.goto 156, 3) := by decide +kernel
theorem dX9_takesExpect_178 : decode cX9_takesExpect 178 = .ok (.aload_n 0, 1) := by decide +kernel
theorem dX9_takesExpect_179 : decode cX9_takesExpect 179 = .ok (.ldc_w 270, 3) := by decide +kernel
theorem dX9_takesExpect_182 : decode cX9_takesExpect 182 = .ok (.invokevirtual 249, 3) := by decide +kernel
theorem dX9_takesExpect_185 : decode cX9_takesExpect 185 = .ok (.ifCond .eq 44, 3) := by decide +kernel
theorem dX9_takesExpect_188 : decode cX9_takesExpect 188 = .ok (.aload_n 0, 1) := by decide +kernel
theorem dX9_takesExpect_189 : decode cX9_takesExpect 189 = .ok (.invokevirtual 241, 3) := by decide +kernel
theorem dX9_takesExpect_192 : decode cX9_takesExpect 192 = .ok (.istore_n 3, 1) := by decide +kernel
theorem dX9_takesExpect_193 : decode cX9_takesExpect 193 = .ok (.aload_n 0, 1) := by decide +kernel
theorem dX9_takesExpect_194 : decode cX9_takesExpect 194 = .ok (.iconst 0, 1) := by decide +kernel
theorem dX9_takesExpect_195 : decode cX9_takesExpect 195 = .ok (.sipush 9999, 3) := by decide +kernel
theorem dX9_takesExpect_198 : decode cX9_takesExpect 198 = .ok (.invokevirtual 229, 3) := by decide +kernel
theorem dX9_takesExpect_201 : decode cX9_takesExpect 201 = .ok (.istore 4, 2) := by decide +kernel
theorem dX9_takesExpect_203 : decode cX9_takesExpect 203 = .ok (.aload_n 0, 1) := by decide +kernel
theorem dX9_takesExpect_204 : decode cX9_takesExpect 204 = .ok (.invokevirtual 185, 3) := by decide +kernel
theorem dX9_takesExpect_207 : decode cX9_takesExpect 207 = .ok (.ifCond .ne 17, 3) := by decide +kernel
theorem dX9_takesExpect_210 : decode cX9_takesExpect 210 = .ok (.aload_n 0, 1) := by decide +kernel
theorem dX9_takesExpect_211 : decode cX9_takesExpect 211 = .ok (.iload_n 3, 1) := by decide +kernel
theorem dX9_takesExpect_212 : decode cX9_takesExpect 212 = .ok (.invokevirtual 86, 3) := by decide +kernel
theorem dX9_takesExpect_215 : decode cX9_takesExpect 215 = .ok (.iload 4, 2) := by decide +kernel
theorem dX9_takesExpect_217 : decode cX9_takesExpect 217 = .ok (.if_icmp .ne 7, 3) := by decide +kernel
theorem dX9_takesExpect_220 : decode cX9_takesExpect 220 = .ok (.iconst 1, 1) := by decide +kernel
theorem dX9_takesExpect_221 : decode cX9_takesExpect 221 = .ok (.goto 4, 3) := by decide +kernel
theorem dX9_takesExpect_224 : decode cX9_takesExpect 224 = .ok (.iconst 0, 1) := by decide +kernel
theorem dX9_takesExpect_225 : decode cX9_takesExpect 225 = .ok (.istore_n 2, 1) := by decide +kernel
theorem dX9_takesExpect_226 : decode cX9_takesExpect 226 = .ok (.goto 105, 3) := by decide +kernel
theorem dX9_takesExpect_229 : decode cX9_takesExpect 229 = .ok (.aload_n 0, 1) := by decide +kernel
theorem dX9_takesExpect_230 : decode cX9_takesExpect 230 = .ok (.ldc_w 272, 3) := by decide +kernel
theorem dX9_takesExpect_233 : decode cX9_takesExpect 233 = .ok (.invokevirtual 249, 3) := by decide +kernel
theorem dX9_takesExpect_236 : decode cX9_takesExpect 236 = .ok (.ifCond .eq 44, 3) := by decide +kernel
theorem dX9_takesExpect_239 : decode cX9_takesExpect 239 = .ok (.aload_n 0, 1) := by decide +kernel
theorem dX9_takesExpect_240 : decode cX9_takesExpect 240 = .ok (.invokevirtual 241, 3) := by decide +kernel
theorem dX9_takesExpect_243 : decode cX9_takesExpect 243 = .ok (.istore_n 3, 1) := by decide +kernel
theorem dX9_takesExpect_244 : decode cX9_takesExpect 244 = .ok (.aload_n 0, 1) := by decide +kernel
theorem dX9_takesExpect_245 : decode cX9_takesExpect 245 = .ok (.iconst 0, 1) := by decide +kernel
theorem dX9_takesExpect_246 : decode cX9_takesExpect 246 = .ok (.sipush 9999, 3) := by decide +kernel
theorem dX9_takesExpect_249 : decode cX9_takesExpect 249 = .ok (.invokevirtual 229, 3) := by decide +kernel
theorem dX9_takesExpect_252 : decode cX9_takesExpect 252 = .ok (.istore 4, 2) := by decide +kernel
theorem dX9_takesExpect_254 : decode cX9_takesExpect 254 = .ok (.aload_n 0, 1) := by decide +kernel
theorem dX9_takesExpect_255 : decode cX9_takesExpect 255 = .ok (.invokevirtual 185, 3) := by decide +kernel
theorem dX9_takesExpect_258 : decode cX9_takesExpect 258 = .ok (.ifCond .ne 17, 3) := by decide +kernel
theorem dX9_takesExpect_261 : decode cX9_takesExpect 261 = .ok (.aload_n 0, 1) := by decide +kernel
theorem dX9_takesExpect_262 : decode cX9_takesExpect 262 = .ok (.iload_n 3, 1) := by decide +kernel
theorem dX9_takesExpect_263 : decode cX9_takesExpect 263 = .ok (.invokevirtual 273, 3) := by decide +kernel
theorem dX9_takesExpect_266 : decode cX9_takesExpect 266 = .ok (.iload 4, 2) := by decide +kernel
theorem dX9_takesExpect_268 : decode cX9_takesExpect 268 = .ok (.if_icmp .ne 7, 3) := by decide +kernel
theorem dX9_takesExpect_271 : decode cX9_takesExpect 271 = .ok (.iconst 1, 1) := by decide +kernel
theorem dX9_takesExpect_272 : decode cX9_takesExpect 272 = .ok (.goto 4, 3) := by decide +kernel
theorem dX9_takesExpect_275 : decode cX9_takesExpect 275 = .ok (.iconst 0, 1) := by decide +kernel
theorem dX9_takesExpect_276 : decode cX9_takesExpect 276 = .ok (.istore_n 2, 1) := by decide +kernel
theorem dX9_takesExpect_277 : decode cX9_takesExpect 277 = .ok (.goto 54, 3) := by decide +kernel
theorem dX9_takesExpect_280 : decode cX9_takesExpect 280 = .ok (.aload_n 0, 1) := by decide +kernel
theorem dX9_takesExpect_281 : decode cX9_takesExpect 281 = .ok (.ldc_w 276, 3) := by decide +kernel
theorem dX9_takesExpect_284 : decode cX9_takesExpect 284 = .ok (.invokevirtual 249, 3) := by decide +kernel
theorem dX9_takesExpect_287 : decode cX9_takesExpect 287 = .ok (.ifCond .eq 35, 3) := by decide +kernel
theorem dX9_takesExpect_290 : decode cX9_takesExpect 290 = .ok (.aload_n 0, 1) := by decide +kernel
theorem dX9_takesExpect_291 : decode cX9_takesExpect 291 = .ok (.invokevirtual 232, 3) := by decide +kernel
theorem dX9_takesExpect_294 : decode cX9_takesExpect 294 = .ok (.aload_n 0, 1) := by decide +kernel
theorem dX9_takesExpect_295 : decode cX9_takesExpect 295 = .ok (.invokevirtual 185, 3) := by decide +kernel
theorem dX9_takesExpect_298 : decode cX9_takesExpect 298 = .ok (.ifCond .ne 19, 3) := by decide +kernel
theorem dX9_takesExpect_301 : decode cX9_takesExpect 301 = .ok (.aload_n 0, 1) := by decide +kernel
theorem dX9_takesExpect_302 : decode cX9_takesExpect 302 = .ok (.aload_n 0, 1) := by decide +kernel
theorem dX9_takesExpect_303 : decode cX9_takesExpect 303 = .ok (.invokevirtual 56, 3) := by decide +kernel
theorem dX9_takesExpect_306 : decode cX9_takesExpect 306 = .ok (.iconst (-1), 1) := by decide +kernel
theorem dX9_takesExpect_307 : decode cX9_takesExpect 307 = .ok (.invokevirtual 278, 3) := by decide +kernel
theorem dX9_takesExpect_310 : decode cX9_takesExpect 310 = .ok (.ifCond .eq 7, 3) := by decide +kernel
theorem dX9_takesExpect_313 : decode cX9_takesExpect 313 = .ok (.iconst 1, 1) := by decide +kernel
theorem dX9_takesExpect_314 : decode cX9_takesExpect 314 = .ok (.goto 4, 3) := by decide +kernel
theorem dX9_takesExpect_317 : decode cX9_takesExpect 317 = .ok (.iconst 0, 1) := by decide +kernel
theorem dX9_takesExpect_318 : decode cX9_takesExpect 318 = .ok (.istore_n 2, 1) := by decide +kernel
theorem dX9_takesExpect_319 : decode cX9_takesExpect 319 = .ok (.goto 12, 3) := by decide +kernel
theorem dX9_takesExpect_322 : decode cX9_takesExpect 322 = .ok (.aload_n 0, 1) := by decide +kernel
theorem dX9_takesExpect_323 : decode cX9_takesExpect 323 = .ok (.aload_n 0, 1) := by decide +kernel
theorem dX9_takesExpect_324 : decode cX9_takesExpect 324 = .ok (.getfield 194, 3) := by decide +kernel
theorem dX9_takesExpect_327 : decode cX9_takesExpect 327 = .ok (.iconst 1, 1) := by decide +kernel
theorem dX9_takesExpect_328 : decode cX9_takesExpect 328 = .ok (.invokevirtual 217, 3) := by decide +kernel
theorem dX9_takesExpect_331 : decode cX9_takesExpect 331 = .ok (.iload_n 2, 1) := by decide +kernel
theorem dX9_takesExpect_332 : decode cX9_takesExpect 332 = .ok (.ifCond .ne 9, 3) := by decide +kernel
theorem dX9_takesExpect_335 : decode cX9_takesExpect 335 = .ok (.aload_n 0, 1) := by decide +kernel
theorem dX9_takesExpect_336 : decode cX9_takesExpect 336 = .ok (.iload_n 1, 1) := by decide +kernel
theorem dX9_takesExpect_337 : decode cX9_takesExpect 337 = .ok (.iconst 5, 1) := by decide +kernel
theorem dX9_takesExpect_338 : decode cX9_takesExpect 338 = .ok (.invokevirtual 217, 3) := by decide +kernel
theorem dX9_takesExpect_341 : decode cX9_takesExpect 341 = .ok (.aload_n 0, 1) := by decide +kernel
theorem dX9_takesExpect_342 : decode cX9_takesExpect 342 = .ok (.invokevirtual 238, 3) := by decide +kernel
theorem dX9_takesExpect_345 : decode cX9_takesExpect 345 = .ok (.istore_n 3, 1) := by decide +kernel
theorem dX9_takesExpect_346 : decode cX9_takesExpect 346 = .ok (.return_, 1) := by decide +kernel
set_option maxRecDepth 20000 in
theorem ggX9_takesCommand_X9_takesWord : GoodIn wsX9_takesCommand wsX9_takesWord := goodIn_r _ [6, 7, 1, 8, 9, 10, 11, 12, 13, 5, 14, 15, 16, 17, 18, 19, 20, 21, 22, 23, 24, 25, 282, 283, 284, 285, 286, 287, 288, 289, 290, 291, 292, 293, 294, 295, 296, 297, 298, 299, 300, 301, 302, 303, 304, 305, 306, 307, 308] rfl (by decide +kernel)
set_option maxRecDepth 20000 in
theorem gX9_takesCommand_X9_takesWord : GoodIn wsX9_takesCommand (wsV RX9 220 RX9 yX9_takesWord wsX9_takesWord) := goodIn_app (goodIn_r _ [2, 3, 4, 5] rfl (by decide +kernel)) ggX9_takesCommand_X9_takesWord
set_option maxRecDepth 20000 in
theorem ggX9_takesCommand_X9_isToken : GoodIn wsX9_takesCommand wsX9_isToken := goodIn_r _ [29, 10, 22, 1, 30, 31, 32, 33, 34, 35, 36, 37, 38, 39, 40, 41, 42, 43, 44, 45, 46, 47, 48, 49, 50, 51, 52, 53, 54, 55, 56, 57, 58, 59, 60, 61, 62, 63, 64, 65, 66, 67, 68, 69, 70, 71, 72, 73, 74, 75, 76, 77, 78, 282, 283, 284, 285, 286, 287, 288, 289, 290, 291, 292, 293, 294, 295, 296, 297, 298, 299, 300, 301, 302, 303, 304, 305, 306, 307, 308] rfl (by decide +kernel)
set_option maxRecDepth 20000 in
theorem gX9_takesCommand_X9_isToken : GoodIn wsX9_takesCommand (wsV RX9 249 RX9 yX9_isToken wsX9_isToken) := goodIn_app (goodIn_r _ [26, 27, 28, 5] rfl (by decide +kernel)) ggX9_takesCommand_X9_isToken
set_option maxRecDepth 20000 in
theorem ggX9_takesCommand_X9_takesNewClause : GoodIn wsX9_takesCommand wsX9_takesNewClause := goodIn_r _ [82, 83, 84, 85, 5, 86, 87, 88, 89, 90, 91, 92, 93, 94, 95, 96, 97, 98, 99, 100, 101, 8, 9, 7, 1, 102, 103, 104, 105, 106, 107, 108, 109, 11, 12, 13, 14, 15, 16, 17, 18, 19, 20, 21, 22, 23, 24, 25, 110, 111, 112, 113, 10, 2, 3, 4, 6, 114, 115, 116, 117, 118, 119, 120, 121, 122, 123, 124, 125, 126, 127, 128, 129, 130, 131, 132, 133, 134, 135, 136, 137, 282, 283, 284, 285, 286, 287, 288, 289, 290, 291, 292, 293, 294, 295, 296, 297, 298, 299, 300, 301, 302, 303, 304, 305, 306, 307, 308] rfl (by decide +kernel)
set_option maxRecDepth 20000 in
theorem gX9_takesCommand_X9_takesNewClause : GoodIn wsX9_takesCommand (wsV RX9 283 RX9 yX9_takesNewClause wsX9_takesNewClause) := goodIn_app (goodIn_r _ [79, 80, 81, 5] rfl (by decide +kernel)) ggX9_takesCommand_X9_takesNewClause
set_option maxRecDepth 20000 in
theorem ggX9_takesCommand_X9_takesResolve : GoodIn wsX9_takesCommand wsX9_takesResolve := goodIn_r _ [141, 1, 142, 143, 144, 5, 145, 83, 84, 85, 86, 87, 146, 147, 148, 149, 7, 150, 151, 152, 153, 154, 155, 94, 95, 96, 97, 92, 11, 12, 13, 14, 15, 16, 17, 18, 19, 20, 21, 22, 23, 24, 25, 88, 89, 90, 91, 93, 156, 157, 158, 159, 114, 115, 116, 117, 118, 119, 120, 121, 160, 161, 162, 163, 164, 165, 166, 167, 106, 107, 108, 109, 122, 123, 124, 125, 126, 127, 128, 129, 130, 131, 132, 133, 168, 169, 170, 171, 134, 135, 136, 137, 282, 283, 284, 285, 286, 287, 288, 289, 290, 291, 292, 293, 294, 295, 296, 297, 298, 299, 300, 301, 302, 303, 304, 305, 306, 307, 308] rfl (by decide +kernel)
set_option maxRecDepth 20000 in
theorem gX9_takesCommand_X9_takesResolve : GoodIn wsX9_takesCommand (wsV RX9 288 RX9 yX9_takesResolve wsX9_takesResolve) := goodIn_app (goodIn_r _ [138, 139, 140, 5] rfl (by decide +kernel)) ggX9_takesCommand_X9_takesResolve
set_option maxRecDepth 20000 in
theorem ggX9_takesCommand_X9_number : GoodIn wsX9_takesCommand wsX9_number := goodIn_r _ [149, 7, 1, 150, 151, 152, 153, 154, 155, 94, 95, 96, 5, 97, 92, 11, 12, 13, 14, 15, 16, 17, 18, 19, 20, 21, 22, 23, 24, 25, 88, 89, 90, 91, 93, 282, 283, 284, 285, 286, 287, 288, 289, 290, 291, 292, 293, 294, 295, 296, 297, 298, 299, 300, 301, 302, 303, 304, 305, 306, 307, 308] rfl (by decide +kernel)
set_option maxRecDepth 20000 in
theorem gX9_takesCommand_X9_number : GoodIn wsX9_takesCommand (wsV RX9 229 RX9 yX9_number wsX9_number) := goodIn_app (goodIn_r _ [146, 147, 148, 5] rfl (by decide +kernel)) ggX9_takesCommand_X9_number
set_option maxRecDepth 20000 in
theorem ggX9_takesCommand_X9_isEnd : GoodIn wsX9_takesCommand wsX9_isEnd := goodIn_r _ [133, 7, 94, 95, 96, 5, 97, 92, 11, 12, 13, 14, 15, 16, 17, 18, 19, 20, 21, 22, 23, 24, 25, 88, 89, 90, 91, 93, 282, 283, 284, 285, 286, 287, 288, 289, 290, 291, 292, 293, 294, 295, 296, 297, 298, 299, 300, 301, 302, 303, 304, 305, 306, 307, 308] rfl (by decide +kernel)
set_option maxRecDepth 20000 in
theorem gX9_takesCommand_X9_isEnd : GoodIn wsX9_takesCommand (wsV RX9 238 RX9 yX9_isEnd wsX9_isEnd) := goodIn_app (goodIn_r _ [130, 131, 132, 5] rfl (by decide +kernel)) ggX9_takesCommand_X9_isEnd
set_option maxRecDepth 20000 in
theorem ggX9_takesCommand_X9_steps : GoodIn wsX9_takesCommand wsX9_steps := goodIn_r _ [175, 176, 177, 178, 179, 180, 5, 181, 182, 183, 184, 185, 83, 84, 85, 86, 87, 186, 187, 188, 189, 114, 115, 116, 117, 118, 119, 120, 121, 156, 157, 158, 159, 160, 161, 162, 163, 164, 165, 166, 167, 106, 107, 108, 109, 190, 191, 192, 193, 126, 127, 128, 129, 168, 169, 170, 171, 134, 135, 136, 137, 282, 283, 284, 285, 286, 287, 288, 289, 290, 291, 292, 293, 294, 295, 296, 297, 298, 299, 300, 301, 302, 303, 304, 305, 306, 307, 308] rfl (by decide +kernel)
set_option maxRecDepth 20000 in
theorem gX9_takesCommand_X9_steps : GoodIn wsX9_takesCommand (wsV RX9 293 RX9 yX9_steps wsX9_steps) := goodIn_app (goodIn_r _ [172, 173, 174, 5] rfl (by decide +kernel)) ggX9_takesCommand_X9_steps
set_option maxRecDepth 20000 in
theorem ggX9_takesCommand_X9_takesDrop : GoodIn wsX9_takesCommand wsX9_takesDrop := goodIn_r _ [197, 1, 142, 143, 144, 5, 145, 83, 84, 85, 86, 87, 146, 147, 148, 149, 7, 150, 151, 152, 153, 154, 155, 94, 95, 96, 97, 92, 11, 12, 13, 14, 15, 16, 17, 18, 19, 20, 21, 22, 23, 24, 25, 88, 89, 90, 91, 93, 198, 199, 200, 201, 130, 131, 132, 133, 202, 203, 204, 205, 118, 119, 120, 121, 106, 107, 108, 109, 282, 283, 284, 285, 286, 287, 288, 289, 290, 291, 292, 293, 294, 295, 296, 297, 298, 299, 300, 301, 302, 303, 304, 305, 306, 307, 308] rfl (by decide +kernel)
set_option maxRecDepth 20000 in
theorem gX9_takesCommand_X9_takesDrop : GoodIn wsX9_takesCommand (wsV RX9 298 RX9 yX9_takesDrop wsX9_takesDrop) := goodIn_app (goodIn_r _ [194, 195, 196, 5] rfl (by decide +kernel)) ggX9_takesCommand_X9_takesDrop
set_option maxRecDepth 20000 in
theorem ggX9_takesCommand_X9_takesVariable : GoodIn wsX9_takesCommand wsX9_takesVariable := goodIn_r _ [113, 10, 1, 22, 94, 95, 96, 5, 97, 92, 2, 3, 4, 6, 7, 8, 9, 11, 12, 13, 14, 15, 16, 17, 18, 19, 20, 21, 23, 24, 25, 88, 89, 90, 91, 93, 114, 115, 116, 117, 87, 282, 283, 284, 285, 286, 287, 288, 289, 290, 291, 292, 293, 294, 295, 296, 297, 298, 299, 300, 301, 302, 303, 304, 305, 306, 307, 308] rfl (by decide +kernel)
set_option maxRecDepth 20000 in
theorem gX9_takesCommand_X9_takesVariable : GoodIn wsX9_takesCommand (wsV RX9 226 RX9 yX9_takesVariable wsX9_takesVariable) := goodIn_app (goodIn_r _ [110, 111, 112, 5] rfl (by decide +kernel)) ggX9_takesCommand_X9_takesVariable
set_option maxRecDepth 20000 in
theorem ggX9_takesCommand_X9_negates : GoodIn wsX9_takesCommand wsX9_negates := goodIn_r _ [209, 87, 83, 84, 85, 5, 86, 118, 119, 120, 121, 106, 107, 108, 109, 282, 283, 284, 285, 286, 287, 288, 289, 290, 291, 292, 293, 294, 295, 296, 297, 298, 299, 300, 301, 302, 303, 304, 305, 306, 307, 308] rfl (by decide +kernel)
set_option maxRecDepth 20000 in
theorem gX9_takesCommand_X9_negates : GoodIn wsX9_takesCommand (wsV RX9 303 RX9 yX9_negates wsX9_negates) := goodIn_app (goodIn_r _ [206, 207, 208, 5] rfl (by decide +kernel)) ggX9_takesCommand_X9_negates
set_option maxRecDepth 20000 in
theorem ggX9_takesCommand_X9_wide : GoodIn wsX9_takesCommand wsX9_wide := goodIn_r _ [117, 87, 282, 283, 284, 285, 286, 287, 288, 289, 290, 291, 292, 293, 294, 295, 296, 297, 298, 299, 300, 301, 302, 303, 304, 305, 306, 307, 308] rfl (by decide +kernel)
set_option maxRecDepth 20000 in
theorem gX9_takesCommand_X9_wide : GoodIn wsX9_takesCommand (wsV RX9 64 RX9 yX9_wide wsX9_wide) := goodIn_app (goodIn_r _ [114, 115, 116, 5] rfl (by decide +kernel)) ggX9_takesCommand_X9_wide
set_option maxRecDepth 20000 in
theorem ggX9_takesCommand_X9_reduces : GoodIn wsX9_takesCommand wsX9_reduces := goodIn_r _ [213, 83, 84, 85, 5, 86, 87, 198, 199, 200, 201, 214, 215, 216, 217, 218, 219, 220, 221, 126, 127, 128, 129, 114, 115, 116, 117, 118, 119, 120, 121, 202, 203, 204, 205, 106, 107, 108, 109, 282, 283, 284, 285, 286, 287, 288, 289, 290, 291, 292, 293, 294, 295, 296, 297, 298, 299, 300, 301, 302, 303, 304, 305, 306, 307, 308] rfl (by decide +kernel)
set_option maxRecDepth 20000 in
theorem gX9_takesCommand_X9_reduces : GoodIn wsX9_takesCommand (wsV RX9 310 RX9 yX9_reduces wsX9_reduces) := goodIn_app (goodIn_r _ [210, 211, 212, 5] rfl (by decide +kernel)) ggX9_takesCommand_X9_reduces
set_option maxRecDepth 20000 in
theorem ggX9_takesCommand_X9_takesExpect : GoodIn wsX9_takesCommand wsX9_takesExpect := goodIn_r _ [225, 1, 2, 3, 4, 5, 6, 7, 8, 9, 10, 11, 12, 13, 14, 15, 16, 17, 18, 19, 20, 21, 22, 23, 24, 25, 26, 27, 28, 29, 30, 31, 32, 33, 34, 35, 36, 37, 38, 39, 40, 41, 42, 43, 44, 45, 46, 47, 48, 49, 50, 51, 52, 53, 54, 55, 56, 57, 58, 59, 60, 61, 62, 63, 64, 65, 66, 67, 68, 69, 70, 71, 72, 73, 74, 75, 76, 77, 78, 146, 147, 148, 149, 150, 151, 152, 153, 154, 155, 94, 95, 96, 97, 92, 88, 89, 90, 91, 93, 83, 84, 85, 86, 87, 226, 227, 228, 229, 230, 231, 232, 233, 114, 115, 116, 117, 234, 235, 236, 237, 238, 239, 240, 241, 118, 119, 120, 121, 182, 183, 184, 185, 186, 187, 188, 189, 242, 243, 244, 245, 110, 111, 112, 113, 246, 247, 248, 249, 250, 251, 252, 253, 254, 255, 256, 257, 258, 259, 260, 261, 262, 263, 264, 265, 266, 267, 268, 214, 215, 216, 217, 218, 219, 220, 221, 126, 127, 128, 129, 142, 143, 144, 145, 269, 270, 271, 272, 273, 274, 275, 276, 277, 98, 99, 100, 101, 102, 103, 104, 105, 106, 107, 108, 109, 278, 279, 280, 281, 130, 131, 132, 133, 282, 283, 284, 285, 286, 287, 288, 289, 290, 291, 292, 293, 294, 295, 296, 297, 298, 299, 300, 301, 302, 303, 304, 305, 306, 307, 308] rfl (by decide +kernel)
set_option maxRecDepth 20000 in
theorem gX9_takesCommand_X9_takesExpect : GoodIn wsX9_takesCommand (wsV RX9 315 RX9 yX9_takesExpect wsX9_takesExpect) := goodIn_app (goodIn_r _ [222, 223, 224, 5] rfl (by decide +kernel)) ggX9_takesCommand_X9_takesExpect
set_option maxRecDepth 20000 in
theorem ggX9_takesCommand_X9_fails : GoodIn wsX9_takesCommand wsX9_fails := goodIn_r _ [91, 92, 93, 94, 95, 96, 5, 97, 282, 283, 284, 285, 286, 287, 288, 289, 290, 291, 292, 293, 294, 295, 296, 297, 298, 299, 300, 301, 302, 303, 304, 305, 306, 307, 308] rfl (by decide +kernel)
set_option maxRecDepth 20000 in
theorem gX9_takesCommand_X9_fails : GoodIn wsX9_takesCommand (wsV RX9 217 RX9 yX9_fails wsX9_fails) := goodIn_app (goodIn_r _ [88, 89, 90, 5] rfl (by decide +kernel)) ggX9_takesCommand_X9_fails
theorem dX9_takesCommand_0 : decode cX9_takesCommand 0 = .ok (.aload_n 0, 1) := by decide +kernel
theorem dX9_takesCommand_1 : decode cX9_takesCommand 1 = .ok (.invokevirtual 220, 3) := by decide +kernel
theorem dX9_takesCommand_4 : decode cX9_takesCommand 4 = .ok (.aload_n 0, 1) := by decide +kernel
theorem dX9_takesCommand_5 : decode cX9_takesCommand 5 = .ok (.getfield 194, 3) := by decide +kernel
theorem dX9_takesCommand_8 : decode cX9_takesCommand 8 = .ok (.istore_n 1, 1) := by decide +kernel
theorem dX9_takesCommand_9 : decode cX9_takesCommand 9 = .ok (.aload_n 0, 1) := by decide +kernel
theorem dX9_takesCommand_10 : decode cX9_takesCommand 10 = .ok (.ldc_w 281, 3) := by decide +kernel
theorem dX9_takesCommand_13 : decode cX9_takesCommand 13 = .ok (.invokevirtual 249, 3) := by decide +kernel
theorem dX9_takesCommand_16 : decode cX9_takesCommand 16 = .ok (.ifCond .eq 11, 3) := by decide +kernel
theorem dX9_takesCommand_19 : decode cX9_takesCommand 19 = .ok (.aload_n 0, 1) := by decide +kernel
theorem dX9_takesCommand_20 : decode cX9_takesCommand 20 = .ok (.iload_n 1, 1) := by decide +kernel
theorem dX9_takesCommand_21 : decode cX9_takesCommand 21 = .ok (.invokevirtual 283, 3) := by decide +kernel
theorem dX9_takesCommand_24 : decode cX9_takesCommand 24 = .ok (.goto 193, 3) := by decide +kernel
theorem dX9_takesCommand_27 : decode cX9_takesCommand 27 = .ok (.aload_n 0, 1) := by decide +kernel
theorem dX9_takesCommand_28 : decode cX9_takesCommand 28 = .ok (.ldc_w 286, 3) := by decide +kernel
theorem dX9_takesCommand_31 : decode cX9_takesCommand 31 = .ok (.invokevirtual 249, 3) := by decide +kernel
theorem dX9_takesCommand_34 : decode cX9_takesCommand 34 = .ok (.ifCond .eq 10, 3) := by decide +kernel
theorem dX9_takesCommand_37 : decode cX9_takesCommand 37 = .ok (.aload_n 0, 1) := by decide +kernel
theorem dX9_takesCommand_38 : decode cX9_takesCommand 38 = .ok (.invokevirtual 288, 3) := by decide +kernel
theorem dX9_takesCommand_41 : decode cX9_takesCommand 41 = .ok (.goto 176, 3) := by decide +kernel
theorem dX9_takesCommand_44 : decode cX9_takesCommand 44 = .ok (.aload_n 0, 1) := by decide +kernel
theorem dX9_takesCommand_45 : decode cX9_takesCommand 45 = .ok (.ldc_w 291, 3) := by decide +kernel
theorem dX9_takesCommand_48 : decode cX9_takesCommand 48 = .ok (.invokevirtual 249, 3) := by decide +kernel
theorem dX9_takesCommand_51 : decode cX9_takesCommand 51 = .ok (.ifCond .eq 27, 3) := by decide +kernel
theorem dX9_takesCommand_54 : decode cX9_takesCommand 54 = .ok (.aload_n 0, 1) := by decide +kernel
theorem dX9_takesCommand_55 : decode cX9_takesCommand 55 = .ok (.iconst 1, 1) := by decide +kernel
theorem dX9_takesCommand_56 : decode cX9_takesCommand 56 = .ok (.bipush 99, 2) := by decide +kernel
theorem dX9_takesCommand_58 : decode cX9_takesCommand 58 = .ok (.invokevirtual 229, 3) := by decide +kernel
theorem dX9_takesCommand_61 : decode cX9_takesCommand 61 = .ok (.istore_n 2, 1) := by decide +kernel
theorem dX9_takesCommand_62 : decode cX9_takesCommand 62 = .ok (.aload_n 0, 1) := by decide +kernel
theorem dX9_takesCommand_63 : decode cX9_takesCommand 63 = .ok (.invokevirtual 238, 3) := by decide +kernel
theorem dX9_takesCommand_66 : decode cX9_takesCommand 66 = .ok (.ifCond .eq 9, 3) := by decide +kernel
theorem dX9_takesCommand_69 : decode cX9_takesCommand 69 = .ok (.aload_n 0, 1) := by decide +kernel
theorem dX9_takesCommand_70 : decode cX9_takesCommand 70 = .ok (.iload_n 2, 1) := by decide +kernel
theorem dX9_takesCommand_71 : decode cX9_takesCommand 71 = .ok (.invokevirtual 293, 3) := by decide +kernel
theorem dX9_takesCommand_74 : decode cX9_takesCommand 74 = .ok (.istore_n 3, 1) := by decide +kernel
theorem dX9_takesCommand_75 : decode cX9_takesCommand 75 = .ok (.goto 142, 3) := by decide +kernel
theorem dX9_takesCommand_78 : decode cX9_takesCommand 78 = .ok (.aload_n 0, 1) := by decide +kernel
theorem dX9_takesCommand_79 : decode cX9_takesCommand 79 = .ok (.ldc_w 296, 3) := by decide +kernel
theorem dX9_takesCommand_82 : decode cX9_takesCommand 82 = .ok (.invokevirtual 249, 3) := by decide +kernel
theorem dX9_takesCommand_85 : decode cX9_takesCommand 85 = .ok (.ifCond .eq 10, 3) := by decide +kernel
theorem dX9_takesCommand_88 : decode cX9_takesCommand 88 = .ok (.aload_n 0, 1) := by decide +kernel
theorem dX9_takesCommand_89 : decode cX9_takesCommand 89 = .ok (.invokevirtual 298, 3) := by decide +kernel
theorem dX9_takesCommand_92 : decode cX9_takesCommand 92 = .ok (.goto 125, 3) := by decide +kernel
theorem dX9_takesCommand_95 : decode cX9_takesCommand 95 = .ok (.aload_n 0, 1) := by decide +kernel
theorem dX9_takesCommand_96 : decode cX9_takesCommand 96 = .ok (.ldc_w 301, 3) := by decide +kernel
theorem dX9_takesCommand_99 : decode cX9_takesCommand 99 = .ok (.invokevirtual 249, 3) := by decide +kernel
theorem dX9_takesCommand_102 : decode cX9_takesCommand 102 = .ok (.ifCond .eq 24, 3) := by decide +kernel
theorem dX9_takesCommand_105 : decode cX9_takesCommand 105 = .ok (.aload_n 0, 1) := by decide +kernel
theorem dX9_takesCommand_106 : decode cX9_takesCommand 106 = .ok (.invokevirtual 226, 3) := by decide +kernel
theorem dX9_takesCommand_109 : decode cX9_takesCommand 109 = .ok (.istore_n 2, 1) := by decide +kernel
theorem dX9_takesCommand_110 : decode cX9_takesCommand 110 = .ok (.aload_n 0, 1) := by decide +kernel
theorem dX9_takesCommand_111 : decode cX9_takesCommand 111 = .ok (.invokevirtual 238, 3) := by decide +kernel
theorem dX9_takesCommand_114 : decode cX9_takesCommand 114 = .ok (.ifCond .eq 9, 3) := by decide +kernel
theorem dX9_takesCommand_117 : decode cX9_takesCommand 117 = .ok (.aload_n 0, 1) := by decide +kernel
theorem dX9_takesCommand_118 : decode cX9_takesCommand 118 = .ok (.iload_n 2, 1) := by decide +kernel
theorem dX9_takesCommand_119 : decode cX9_takesCommand 119 = .ok (.invokevirtual 303, 3) := by decide +kernel
theorem dX9_takesCommand_122 : decode cX9_takesCommand 122 = .ok (.istore_n 3, 1) := by decide +kernel
theorem dX9_takesCommand_123 : decode cX9_takesCommand 123 = .ok (.goto 94, 3) := by decide +kernel
theorem dX9_takesCommand_126 : decode cX9_takesCommand 126 = .ok (.aload_n 0, 1) := by decide +kernel
theorem dX9_takesCommand_127 : decode cX9_takesCommand 127 = .ok (.ldc_w 306, 3) := by decide +kernel
theorem dX9_takesCommand_130 : decode cX9_takesCommand 130 = .ok (.invokevirtual 249, 3) := by decide +kernel
theorem dX9_takesCommand_133 : decode cX9_takesCommand 133 = .ok (.ifCond .eq 35, 3) := by decide +kernel
theorem dX9_takesCommand_136 : decode cX9_takesCommand 136 = .ok (.aload_n 0, 1) := by decide +kernel
theorem dX9_takesCommand_137 : decode cX9_takesCommand 137 = .ok (.invokevirtual 238, 3) := by decide +kernel
theorem dX9_takesCommand_140 : decode cX9_takesCommand 140 = .ok (.ifCond .eq 77, 3) := by decide +kernel
theorem dX9_takesCommand_143 : decode cX9_takesCommand 143 = .ok (.iconst 0, 1) := by decide +kernel
theorem dX9_takesCommand_144 : decode cX9_takesCommand 144 = .ok (.istore_n 2, 1) := by decide +kernel
theorem dX9_takesCommand_145 : decode cX9_takesCommand 145 = .ok (.iload_n 2, 1) := by decide +kernel
theorem dX9_takesCommand_146 : decode cX9_takesCommand 146 = .ok (.aload_n 0, 1) := by decide +kernel
theorem dX9_takesCommand_147 : decode cX9_takesCommand 147 = .ok (.invokevirtual 64, 3) := by decide +kernel
theorem dX9_takesCommand_150 : decode cX9_takesCommand 150 = .ok (.if_icmp .ge 15, 3) := by decide +kernel
theorem dX9_takesCommand_153 : decode cX9_takesCommand 153 = .ok (.aload_n 0, 1) := by decide +kernel
theorem dX9_takesCommand_154 : decode cX9_takesCommand 154 = .ok (.iload_n 2, 1) := by decide +kernel
theorem dX9_takesCommand_155 : decode cX9_takesCommand 155 = .ok (.invokevirtual 303, 3) := by decide +kernel
theorem dX9_takesCommand_158 : decode cX9_takesCommand 158 = .ok (.istore_n 3, 1) := by decide +kernel
theorem dX9_takesCommand_159 : decode cX9_takesCommand 159 = .ok (.iinc 2 1, 3) := by decide +kernel
theorem dX9_takesCommand_162 : decode cX9_takesCommand 162 = .ok (.goto (-17), 3) := by decide +kernel
theorem dX9_takesCommand_165 : decode cX9_takesCommand 165 = .ok (.goto 52, 3) := by decide +kernel
theorem dX9_takesCommand_168 : decode cX9_takesCommand 168 = .ok (.aload_n 0, 1) := by decide +kernel
theorem dX9_takesCommand_169 : decode cX9_takesCommand 169 = .ok (.ldc_w 308, 3) := by decide +kernel
theorem dX9_takesCommand_172 : decode cX9_takesCommand 172 = .ok (.invokevirtual 249, 3) := by decide +kernel
theorem dX9_takesCommand_175 : decode cX9_takesCommand 175 = .ok (.ifCond .eq 18, 3) := by decide +kernel
theorem dX9_takesCommand_178 : decode cX9_takesCommand 178 = .ok (.aload_n 0, 1) := by decide +kernel
theorem dX9_takesCommand_179 : decode cX9_takesCommand 179 = .ok (.invokevirtual 238, 3) := by decide +kernel
theorem dX9_takesCommand_182 : decode cX9_takesCommand 182 = .ok (.ifCond .eq 35, 3) := by decide +kernel
theorem dX9_takesCommand_185 : decode cX9_takesCommand 185 = .ok (.aload_n 0, 1) := by decide +kernel
theorem dX9_takesCommand_186 : decode cX9_takesCommand 186 = .ok (.invokevirtual 310, 3) := by decide +kernel
theorem dX9_takesCommand_189 : decode cX9_takesCommand 189 = .ok (.istore_n 2, 1) := by decide +kernel
theorem dX9_takesCommand_190 : decode cX9_takesCommand 190 = .ok (.goto 27, 3) := by decide +kernel
theorem dX9_takesCommand_193 : decode cX9_takesCommand 193 = .ok (.aload_n 0, 1) := by decide +kernel
theorem dX9_takesCommand_194 : decode cX9_takesCommand 194 = .ok (.ldc_w 313, 3) := by decide +kernel
theorem dX9_takesCommand_197 : decode cX9_takesCommand 197 = .ok (.invokevirtual 249, 3) := by decide +kernel
theorem dX9_takesCommand_200 : decode cX9_takesCommand 200 = .ok (.ifCond .eq 11, 3) := by decide +kernel
theorem dX9_takesCommand_203 : decode cX9_takesCommand 203 = .ok (.aload_n 0, 1) := by decide +kernel
theorem dX9_takesCommand_204 : decode cX9_takesCommand 204 = .ok (.iload_n 1, 1) := by decide +kernel
theorem dX9_takesCommand_205 : decode cX9_takesCommand 205 = .ok (.invokevirtual 315, 3) := by decide +kernel
theorem dX9_takesCommand_208 : decode cX9_takesCommand 208 = .ok (.goto 9, 3) := by decide +kernel
theorem dX9_takesCommand_211 : decode cX9_takesCommand 211 = .ok (.aload_n 0, 1) := by decide +kernel
theorem dX9_takesCommand_212 : decode cX9_takesCommand 212 = .ok (.iload_n 1, 1) := by decide +kernel
theorem dX9_takesCommand_213 : decode cX9_takesCommand 213 = .ok (.iconst 1, 1) := by decide +kernel
theorem dX9_takesCommand_214 : decode cX9_takesCommand 214 = .ok (.invokevirtual 217, 3) := by decide +kernel
theorem dX9_takesCommand_217 : decode cX9_takesCommand 217 = .ok (.return_, 1) := by decide +kernel
set_option maxRecDepth 20000 in
theorem ggX9_takesCommands_X9_skips : GoodIn wsX9_takesCommands wsX9_skips := goodIn_r _ [7, 8, 9, 1, 10, 11, 12, 6, 13, 2, 14, 15, 16, 17, 286, 287, 288, 289, 290, 291, 292, 293, 294, 295, 296, 297, 298, 299, 300, 301, 302, 303, 304, 305, 306, 307, 308, 309, 310, 311, 312] rfl (by decide +kernel)
set_option maxRecDepth 20000 in
theorem gX9_takesCommands_X9_skips : GoodIn wsX9_takesCommands (wsV RX9 191 RX9 yX9_skips wsX9_skips) := goodIn_app (goodIn_r _ [3, 4, 5, 6] rfl (by decide +kernel)) ggX9_takesCommands_X9_skips
set_option maxRecDepth 20000 in
theorem ggX9_takesCommands_X9_hasFailed : GoodIn wsX9_takesCommands wsX9_hasFailed := goodIn_r _ [21, 22, 286, 287, 288, 289, 290, 291, 292, 293, 294, 295, 296, 297, 298, 299, 300, 301, 302, 303, 304, 305, 306, 307, 308, 309, 310, 311, 312] rfl (by decide +kernel)
set_option maxRecDepth 20000 in
theorem gX9_takesCommands_X9_hasFailed : GoodIn wsX9_takesCommands (wsV RX9 185 RX9 yX9_hasFailed wsX9_hasFailed) := goodIn_app (goodIn_r _ [18, 19, 20, 6] rfl (by decide +kernel)) ggX9_takesCommands_X9_hasFailed
set_option maxRecDepth 20000 in
theorem ggX9_takesCommands_X9_takesCommand : GoodIn wsX9_takesCommands wsX9_takesCommand := goodIn_r _ [26, 27, 28, 29, 30, 6, 31, 1, 32, 33, 34, 3, 4, 5, 7, 8, 9, 10, 11, 12, 13, 2, 14, 15, 16, 17, 35, 36, 37, 38, 39, 40, 41, 42, 43, 44, 45, 46, 47, 48, 49, 50, 51, 52, 53, 54, 55, 56, 57, 58, 59, 60, 61, 62, 63, 64, 65, 66, 67, 68, 69, 70, 71, 72, 73, 74, 75, 76, 77, 78, 79, 80, 81, 82, 83, 84, 85, 86, 87, 88, 89, 90, 91, 92, 93, 94, 95, 96, 97, 98, 99, 100, 22, 101, 18, 19, 20, 21, 102, 103, 104, 105, 106, 107, 108, 109, 110, 111, 112, 113, 114, 115, 116, 117, 118, 119, 120, 121, 122, 123, 124, 125, 126, 127, 128, 129, 130, 131, 132, 133, 134, 135, 136, 137, 138, 139, 140, 141, 142, 143, 144, 145, 146, 147, 148, 149, 150, 151, 152, 153, 154, 155, 156, 157, 158, 159, 160, 161, 162, 163, 164, 165, 166, 167, 168, 169, 170, 171, 172, 173, 174, 175, 176, 177, 178, 179, 180, 181, 182, 183, 184, 185, 186, 187, 188, 189, 190, 191, 192, 193, 194, 195, 196, 197, 198, 199, 200, 201, 202, 203, 204, 205, 206, 207, 208, 209, 210, 211, 212, 213, 214, 215, 216, 217, 218, 219, 220, 221, 222, 223, 224, 225, 226, 227, 228, 229, 230, 231, 232, 233, 234, 235, 236, 237, 238, 239, 240, 241, 242, 243, 244, 245, 246, 247, 248, 249, 250, 251, 252, 253, 254, 255, 256, 257, 258, 259, 260, 261, 262, 263, 264, 265, 266, 267, 268, 269, 270, 271, 272, 273, 274, 275, 276, 277, 278, 279, 280, 281, 282, 283, 284, 285, 286, 287, 288, 289, 290, 291, 292, 293, 294, 295, 296, 297, 298, 299, 300, 301, 302, 303, 304, 305, 306, 307, 308, 309, 310, 311, 312] rfl (by decide +kernel)
set_option maxRecDepth 20000 in
theorem gX9_takesCommands_X9_takesCommand : GoodIn wsX9_takesCommands (wsV RX9 318 RX9 yX9_takesCommand wsX9_takesCommand) := goodIn_app (goodIn_r _ [23, 24, 25, 6] rfl (by decide +kernel)) ggX9_takesCommands_X9_takesCommand
theorem dX9_takesCommands_0 : decode cX9_takesCommands 0 = .ok (.iconst 0, 1) := by decide +kernel
theorem dX9_takesCommands_1 : decode cX9_takesCommands 1 = .ok (.istore_n 1, 1) := by decide +kernel
theorem dX9_takesCommands_2 : decode cX9_takesCommands 2 = .ok (.aload_n 0, 1) := by decide +kernel
theorem dX9_takesCommands_3 : decode cX9_takesCommands 3 = .ok (.invokevirtual 191, 3) := by decide +kernel
theorem dX9_takesCommands_6 : decode cX9_takesCommands 6 = .ok (.aload_n 0, 1) := by decide +kernel
theorem dX9_takesCommands_7 : decode cX9_takesCommands 7 = .ok (.invokevirtual 185, 3) := by decide +kernel
theorem dX9_takesCommands_10 : decode cX9_takesCommands 10 = .ok (.ifCond .ne 28, 3) := by decide +kernel
theorem dX9_takesCommands_13 : decode cX9_takesCommands 13 = .ok (.aload_n 0, 1) := by decide +kernel
theorem dX9_takesCommands_14 : decode cX9_takesCommands 14 = .ok (.getfield 165, 3) := by decide +kernel
theorem dX9_takesCommands_17 : decode cX9_takesCommands 17 = .ok (.aload_n 0, 1) := by decide +kernel
theorem dX9_takesCommands_18 : decode cX9_takesCommands 18 = .ok (.getfield 168, 3) := by decide +kernel
theorem dX9_takesCommands_21 : decode cX9_takesCommands 21 = .ok (.if_icmp .ge 17, 3) := by decide +kernel
theorem dX9_takesCommands_24 : decode cX9_takesCommands 24 = .ok (.aload_n 0, 1) := by decide +kernel
theorem dX9_takesCommands_25 : decode cX9_takesCommands 25 = .ok (.invokevirtual 318, 3) := by decide +kernel
theorem dX9_takesCommands_28 : decode cX9_takesCommands 28 = .ok (.aload_n 0, 1) := by decide +kernel
theorem dX9_takesCommands_29 : decode cX9_takesCommands 29 = .ok (.invokevirtual 191, 3) := by decide +kernel
theorem dX9_takesCommands_32 : decode cX9_takesCommands 32 = .ok (.iinc 1 1, 3) := by decide +kernel
theorem dX9_takesCommands_35 : decode cX9_takesCommands 35 = .ok (.goto (-29), 3) := by decide +kernel
theorem dX9_takesCommands_38 : decode cX9_takesCommands 38 = .ok (.iload_n 1, 1) := by decide +kernel
theorem dX9_takesCommands_39 : decode cX9_takesCommands 39 = .ok (.ireturn, 1) := by decide +kernel
set_option maxRecDepth 20000 in
theorem ggX9_opensTape_X9_keeps : GoodIn wsX9_opensTape wsX9_keeps := goodIn_r _ [10, 11, 12, 13, 14, 9, 15, 16, 17, 18, 19, 20, 21, 22, 23, 24, 25, 26, 27, 28, 29, 30, 31, 32, 33, 34, 35, 36, 37, 38, 39, 40, 41, 42] rfl (by decide +kernel)
set_option maxRecDepth 20000 in
theorem gX9_opensTape_X9_keeps : GoodIn wsX9_opensTape (wsV RX9 321 RX9 yX9_keeps wsX9_keeps) := goodIn_app (goodIn_r _ [6, 7, 8, 9] rfl (by decide +kernel)) ggX9_opensTape_X9_keeps
theorem dX9_opensTape_0 : decode cX9_opensTape 0 = .ok (.aload_n 0, 1) := by decide +kernel
theorem dX9_opensTape_1 : decode cX9_opensTape 1 = .ok (.aload_n 0, 1) := by decide +kernel
theorem dX9_opensTape_2 : decode cX9_opensTape 2 = .ok (.getfield 162, 3) := by decide +kernel
theorem dX9_opensTape_5 : decode cX9_opensTape 5 = .ok (.putfield 168, 3) := by decide +kernel
theorem dX9_opensTape_8 : decode cX9_opensTape 8 = .ok (.aload_n 0, 1) := by decide +kernel
theorem dX9_opensTape_9 : decode cX9_opensTape 9 = .ok (.iconst 0, 1) := by decide +kernel
theorem dX9_opensTape_10 : decode cX9_opensTape 10 = .ok (.putfield 162, 3) := by decide +kernel
theorem dX9_opensTape_13 : decode cX9_opensTape 13 = .ok (.aload_n 0, 1) := by decide +kernel
theorem dX9_opensTape_14 : decode cX9_opensTape 14 = .ok (.iconst 0, 1) := by decide +kernel
theorem dX9_opensTape_15 : decode cX9_opensTape 15 = .ok (.putfield 165, 3) := by decide +kernel
theorem dX9_opensTape_18 : decode cX9_opensTape 18 = .ok (.aload_n 0, 1) := by decide +kernel
theorem dX9_opensTape_19 : decode cX9_opensTape 19 = .ok (.iconst (-1), 1) := by decide +kernel
theorem dX9_opensTape_20 : decode cX9_opensTape 20 = .ok (.putfield 182, 3) := by decide +kernel
theorem dX9_opensTape_23 : decode cX9_opensTape 23 = .ok (.aload_n 0, 1) := by decide +kernel
theorem dX9_opensTape_24 : decode cX9_opensTape 24 = .ok (.iconst 0, 1) := by decide +kernel
theorem dX9_opensTape_25 : decode cX9_opensTape 25 = .ok (.putfield 188, 3) := by decide +kernel
theorem dX9_opensTape_28 : decode cX9_opensTape 28 = .ok (.aload_n 0, 1) := by decide +kernel
theorem dX9_opensTape_29 : decode cX9_opensTape 29 = .ok (.invokevirtual 321, 3) := by decide +kernel
theorem dX9_opensTape_32 : decode cX9_opensTape 32 = .ok (.return_, 1) := by decide +kernel
set_option maxRecDepth 20000 in
theorem ggX9_hasEnded_X9_hasFailed : GoodIn wsX9_hasEnded wsX9_hasFailed := goodIn_r _ [11, 1, 20, 21, 22, 23, 24, 25, 26, 27, 28, 29, 30, 31, 32, 33, 34, 35, 36, 37, 38, 39, 40, 41, 42, 43, 44, 45, 46] rfl (by decide +kernel)
set_option maxRecDepth 20000 in
theorem gX9_hasEnded_X9_hasFailed : GoodIn wsX9_hasEnded (wsV RX9 185 RX9 yX9_hasFailed wsX9_hasFailed) := goodIn_app (goodIn_r _ [7, 8, 9, 10] rfl (by decide +kernel)) ggX9_hasEnded_X9_hasFailed
set_option maxRecDepth 20000 in
theorem ggX9_hasEnded_X9_copies : GoodIn wsX9_hasEnded wsX9_copies := goodIn_r _ [14] rfl (by decide +kernel)
set_option maxRecDepth 20000 in
theorem gX9_hasEnded_X9_copies : GoodIn wsX9_hasEnded (va_wsS RX9 49 yX9_copies wsX9_copies) := goodIn_app (goodIn_r _ [12, 13, 10] rfl (by decide +kernel)) ggX9_hasEnded_X9_copies
set_option maxRecDepth 20000 in
theorem ggX9_hasEnded_X9_throwsIf : GoodIn wsX9_hasEnded wsX9_throwsIf := goodIn_r _ [18, 19, 20, 21, 22, 23, 24, 25, 26, 27, 28, 29, 30, 31, 32, 33, 34, 35, 36, 37, 38, 39, 40, 41, 42, 43, 44, 45, 46] rfl (by decide +kernel)
set_option maxRecDepth 20000 in
theorem gX9_hasEnded_X9_throwsIf : GoodIn wsX9_hasEnded (wsV RX9 327 RX9 yX9_throwsIf wsX9_throwsIf) := goodIn_app (goodIn_r _ [15, 16, 17, 10] rfl (by decide +kernel)) ggX9_hasEnded_X9_throwsIf
theorem dX9_hasEnded_0 : decode cX9_hasEnded 0 = .ok (.aload_n 0, 1) := by decide +kernel
theorem dX9_hasEnded_1 : decode cX9_hasEnded 1 = .ok (.aload_n 0, 1) := by decide +kernel
theorem dX9_hasEnded_2 : decode cX9_hasEnded 2 = .ok (.getfield 182, 3) := by decide +kernel
theorem dX9_hasEnded_5 : decode cX9_hasEnded 5 = .ok (.putfield 39, 3) := by decide +kernel
theorem dX9_hasEnded_8 : decode cX9_hasEnded 8 = .ok (.aload_n 0, 1) := by decide +kernel
theorem dX9_hasEnded_9 : decode cX9_hasEnded 9 = .ok (.aload_n 0, 1) := by decide +kernel
theorem dX9_hasEnded_10 : decode cX9_hasEnded 10 = .ok (.getfield 188, 3) := by decide +kernel
theorem dX9_hasEnded_13 : decode cX9_hasEnded 13 = .ok (.putfield 324, 3) := by decide +kernel
theorem dX9_hasEnded_16 : decode cX9_hasEnded 16 = .ok (.aload_n 0, 1) := by decide +kernel
theorem dX9_hasEnded_17 : decode cX9_hasEnded 17 = .ok (.invokevirtual 185, 3) := by decide +kernel
theorem dX9_hasEnded_20 : decode cX9_hasEnded 20 = .ok (.ifCond .eq 16, 3) := by decide +kernel
theorem dX9_hasEnded_23 : decode cX9_hasEnded 23 = .ok (.aload_n 0, 1) := by decide +kernel
theorem dX9_hasEnded_24 : decode cX9_hasEnded 24 = .ok (.getfield 13, 3) := by decide +kernel
theorem dX9_hasEnded_27 : decode cX9_hasEnded 27 = .ok (.iconst 0, 1) := by decide +kernel
theorem dX9_hasEnded_28 : decode cX9_hasEnded 28 = .ok (.aload_n 0, 1) := by decide +kernel
theorem dX9_hasEnded_29 : decode cX9_hasEnded 29 = .ok (.getfield 9, 3) := by decide +kernel
theorem dX9_hasEnded_32 : decode cX9_hasEnded 32 = .ok (.iconst 0, 1) := by decide +kernel
theorem dX9_hasEnded_33 : decode cX9_hasEnded 33 = .ok (.invokestatic 49, 3) := by decide +kernel
theorem dX9_hasEnded_36 : decode cX9_hasEnded 36 = .ok (.aload_n 0, 1) := by decide +kernel
theorem dX9_hasEnded_37 : decode cX9_hasEnded 37 = .ok (.aload_n 0, 1) := by decide +kernel
theorem dX9_hasEnded_38 : decode cX9_hasEnded 38 = .ok (.invokevirtual 185, 3) := by decide +kernel
theorem dX9_hasEnded_41 : decode cX9_hasEnded 41 = .ok (.iconst 1, 1) := by decide +kernel
theorem dX9_hasEnded_42 : decode cX9_hasEnded 42 = .ok (.invokevirtual 327, 3) := by decide +kernel
theorem dX9_hasEnded_45 : decode cX9_hasEnded 45 = .ok (.ireturn, 1) := by decide +kernel
set_option maxRecDepth 20000 in
theorem ggX9_load_X9_opensTape : GoodIn wsX9_load wsX9_opensTape := goodIn_r _ [10, 11, 12, 13, 14, 15, 16, 17, 18, 9, 19, 3, 20, 21, 22, 23, 316, 317, 318, 319, 320, 321, 322, 323, 324, 325, 326, 327, 328, 329, 330, 331, 332, 333, 334, 335, 336, 337, 338, 339, 340, 341, 342] rfl (by decide +kernel)
set_option maxRecDepth 20000 in
theorem gX9_load_X9_opensTape : GoodIn wsX9_load (wsV RX9 331 RX9 yX9_opensTape wsX9_opensTape) := goodIn_app (goodIn_r _ [6, 7, 8, 9] rfl (by decide +kernel)) ggX9_load_X9_opensTape
set_option maxRecDepth 20000 in
theorem ggX9_load_X9_takesWord : GoodIn wsX9_load wsX9_takesWord := goodIn_r _ [27, 13, 2, 28, 29, 30, 31, 32, 33, 9, 34, 35, 36, 37, 38, 39, 40, 12, 41, 42, 43, 44, 316, 317, 318, 319, 320, 321, 322, 323, 324, 325, 326, 327, 328, 329, 330, 331, 332, 333, 334, 335, 336, 337, 338, 339, 340, 341, 342] rfl (by decide +kernel)
set_option maxRecDepth 20000 in
theorem gX9_load_X9_takesWord : GoodIn wsX9_load (wsV RX9 220 RX9 yX9_takesWord wsX9_takesWord) := goodIn_app (goodIn_r _ [24, 25, 26, 9] rfl (by decide +kernel)) ggX9_load_X9_takesWord
set_option maxRecDepth 20000 in
theorem ggX9_load_X9_isToken : GoodIn wsX9_load wsX9_isToken := goodIn_r _ [48, 30, 41, 2, 49, 50, 51, 52, 53, 54, 55, 56, 57, 58, 59, 60, 61, 62, 63, 64, 65, 66, 67, 68, 69, 70, 71, 72, 73, 74, 75, 76, 77, 78, 79, 80, 81, 82, 83, 84, 85, 86, 87, 88, 89, 90, 91, 92, 93, 94, 95, 96, 97, 316, 317, 318, 319, 320, 321, 322, 323, 324, 325, 326, 327, 328, 329, 330, 331, 332, 333, 334, 335, 336, 337, 338, 339, 340, 341, 342] rfl (by decide +kernel)
set_option maxRecDepth 20000 in
theorem gX9_load_X9_isToken : GoodIn wsX9_load (wsV RX9 249 RX9 yX9_isToken wsX9_isToken) := goodIn_app (goodIn_r _ [45, 46, 47, 9] rfl (by decide +kernel)) ggX9_load_X9_isToken
set_option maxRecDepth 20000 in
theorem ggX9_load_X9_fails : GoodIn wsX9_load wsX9_fails := goodIn_r _ [101, 14, 15, 102, 103, 104, 9, 105, 316, 317, 318, 319, 320, 321, 322, 323, 324, 325, 326, 327, 328, 329, 330, 331, 332, 333, 334, 335, 336, 337, 338, 339, 340, 341, 342] rfl (by decide +kernel)
set_option maxRecDepth 20000 in
theorem gX9_load_X9_fails : GoodIn wsX9_load (wsV RX9 217 RX9 yX9_fails wsX9_fails) := goodIn_app (goodIn_r _ [98, 99, 100, 9] rfl (by decide +kernel)) ggX9_load_X9_fails
set_option maxRecDepth 20000 in
theorem ggX9_load_X9_number : GoodIn wsX9_load wsX9_number := goodIn_r _ [109, 13, 2, 110, 111, 112, 113, 114, 115, 102, 103, 104, 9, 105, 14, 31, 32, 33, 34, 35, 36, 37, 38, 39, 40, 12, 41, 42, 43, 44, 98, 99, 100, 101, 15, 316, 317, 318, 319, 320, 321, 322, 323, 324, 325, 326, 327, 328, 329, 330, 331, 332, 333, 334, 335, 336, 337, 338, 339, 340, 341, 342] rfl (by decide +kernel)
set_option maxRecDepth 20000 in
theorem gX9_load_X9_number : GoodIn wsX9_load (wsV RX9 229 RX9 yX9_number wsX9_number) := goodIn_app (goodIn_r _ [106, 107, 108, 9] rfl (by decide +kernel)) ggX9_load_X9_number
set_option maxRecDepth 20000 in
theorem ggX9_load_X9_isEnd : GoodIn wsX9_load wsX9_isEnd := goodIn_r _ [119, 13, 102, 103, 104, 9, 105, 14, 31, 32, 33, 34, 35, 36, 37, 38, 39, 40, 12, 41, 42, 43, 44, 98, 99, 100, 101, 15, 316, 317, 318, 319, 320, 321, 322, 323, 324, 325, 326, 327, 328, 329, 330, 331, 332, 333, 334, 335, 336, 337, 338, 339, 340, 341, 342] rfl (by decide +kernel)
set_option maxRecDepth 20000 in
theorem gX9_load_X9_isEnd : GoodIn wsX9_load (wsV RX9 238 RX9 yX9_isEnd wsX9_isEnd) := goodIn_app (goodIn_r _ [116, 117, 118, 9] rfl (by decide +kernel)) ggX9_load_X9_isEnd
set_option maxRecDepth 20000 in
theorem ggX9_load_X9_takesCommands : GoodIn wsX9_load wsX9_takesCommands := goodIn_r _ [123, 13, 12, 31, 32, 33, 9, 34, 35, 36, 37, 38, 39, 40, 41, 42, 43, 44, 102, 103, 104, 105, 14, 124, 125, 126, 127, 2, 24, 25, 26, 27, 28, 29, 30, 45, 46, 47, 48, 49, 50, 51, 52, 53, 54, 55, 56, 57, 58, 59, 60, 61, 62, 63, 64, 65, 66, 67, 68, 69, 70, 71, 72, 73, 74, 75, 76, 77, 78, 79, 80, 81, 82, 83, 84, 85, 86, 87, 88, 89, 90, 91, 92, 93, 94, 95, 96, 97, 128, 129, 130, 131, 132, 133, 134, 135, 3, 98, 99, 100, 101, 15, 136, 137, 138, 139, 140, 141, 142, 143, 144, 145, 146, 147, 148, 149, 150, 151, 152, 153, 154, 155, 156, 157, 158, 159, 160, 161, 162, 163, 164, 165, 166, 167, 116, 117, 118, 119, 168, 169, 170, 171, 172, 173, 174, 175, 176, 177, 178, 179, 106, 107, 108, 109, 110, 111, 112, 113, 114, 115, 180, 181, 182, 183, 184, 185, 186, 187, 188, 189, 190, 191, 192, 193, 194, 195, 196, 197, 198, 199, 200, 201, 202, 203, 204, 205, 206, 207, 208, 209, 210, 211, 212, 213, 214, 215, 216, 217, 218, 219, 220, 221, 222, 223, 224, 225, 226, 227, 228, 229, 230, 231, 232, 233, 234, 235, 236, 237, 238, 239, 240, 241, 242, 243, 244, 245, 246, 247, 248, 249, 250, 251, 252, 253, 254, 255, 256, 257, 258, 259, 260, 261, 262, 263, 264, 265, 266, 267, 268, 269, 270, 271, 272, 273, 274, 275, 276, 277, 278, 279, 280, 281, 282, 283, 284, 285, 286, 287, 288, 289, 290, 291, 292, 293, 294, 295, 296, 297, 298, 299, 300, 301, 302, 303, 304, 305, 316, 317, 318, 319, 320, 321, 322, 323, 324, 325, 326, 327, 328, 329, 330, 331, 332, 333, 334, 335, 336, 337, 338, 339, 340, 341, 342] rfl (by decide +kernel)
set_option maxRecDepth 20000 in
theorem gX9_load_X9_takesCommands : GoodIn wsX9_load (wsV RX9 336 RX9 yX9_takesCommands wsX9_takesCommands) := goodIn_app (goodIn_r _ [120, 121, 122, 9] rfl (by decide +kernel)) ggX9_load_X9_takesCommands
set_option maxRecDepth 20000 in
theorem ggX9_load_X9_hasEnded : GoodIn wsX9_load wsX9_hasEnded := goodIn_r _ [309, 14, 310, 15, 311, 20, 3, 102, 103, 104, 9, 105, 21, 22, 23, 312, 313, 314, 315, 1, 316, 317, 318, 319, 320, 321, 322, 323, 324, 325, 326, 327, 328, 329, 330, 331, 332, 333, 334, 335, 336, 337, 338, 339, 340, 341, 342] rfl (by decide +kernel)
set_option maxRecDepth 20000 in
theorem gX9_load_X9_hasEnded : GoodIn wsX9_load (wsV RX9 339 RX9 yX9_hasEnded wsX9_hasEnded) := goodIn_app (goodIn_r _ [306, 307, 308, 9] rfl (by decide +kernel)) ggX9_load_X9_hasEnded
set_option maxRecDepth 20000 in
theorem ggX9_load_X9_many : GoodIn wsX9_load wsX9_many := goodIn_r _ [135, 3, 316, 317, 318, 319, 320, 321, 322, 323, 324, 325, 326, 327, 328, 329, 330, 331, 332, 333, 334, 335, 336, 337, 338, 339, 340, 341, 342] rfl (by decide +kernel)
set_option maxRecDepth 20000 in
theorem gX9_load_X9_many : GoodIn wsX9_load (wsV RX9 56 RX9 yX9_many wsX9_many) := goodIn_app (goodIn_r _ [132, 133, 134, 9] rfl (by decide +kernel)) ggX9_load_X9_many
theorem dX9_load_0 : decode cX9_load 0 = .ok (.aload_n 0, 1) := by decide +kernel
theorem dX9_load_1 : decode cX9_load 1 = .ok (.iconst 0, 1) := by decide +kernel
theorem dX9_load_2 : decode cX9_load 2 = .ok (.putfield 46, 3) := by decide +kernel
theorem dX9_load_5 : decode cX9_load 5 = .ok (.aload_n 0, 1) := by decide +kernel
theorem dX9_load_6 : decode cX9_load 6 = .ok (.invokevirtual 331, 3) := by decide +kernel
theorem dX9_load_9 : decode cX9_load 9 = .ok (.aload_n 0, 1) := by decide +kernel
theorem dX9_load_10 : decode cX9_load 10 = .ok (.invokevirtual 220, 3) := by decide +kernel
theorem dX9_load_13 : decode cX9_load 13 = .ok (.aload_n 0, 1) := by decide +kernel
theorem dX9_load_14 : decode cX9_load 14 = .ok (.ldc_w 334, 3) := by decide +kernel
theorem dX9_load_17 : decode cX9_load 17 = .ok (.invokevirtual 249, 3) := by decide +kernel
theorem dX9_load_20 : decode cX9_load 20 = .ok (.ifCond .ne 12, 3) := by decide +kernel
theorem dX9_load_23 : decode cX9_load 23 = .ok (.aload_n 0, 1) := by decide +kernel
theorem dX9_load_24 : decode cX9_load 24 = .ok (.aload_n 0, 1) := by decide +kernel
theorem dX9_load_25 : decode cX9_load 25 = .ok (.getfield 194, 3) := by decide +kernel
theorem dX9_load_28 : decode cX9_load 28 = .ok (.iconst 1, 1) := by decide +kernel
theorem dX9_load_29 : decode cX9_load 29 = .ok (.invokevirtual 217, 3) := by decide +kernel
theorem dX9_load_32 : decode cX9_load 32 = .ok (.aload_n 0, 1) := by decide +kernel
theorem dX9_load_33 : decode cX9_load 33 = .ok (.iconst 1, 1) := by decide +kernel
theorem dX9_load_34 : decode cX9_load 34 = .ok (.bipush 12, 2) := by decide +kernel
theorem dX9_load_36 : decode cX9_load 36 = .ok (.invokevirtual 229, 3) := by decide +kernel
theorem dX9_load_39 : decode cX9_load 39 = .ok (.istore_n 1, 1) := by decide +kernel
theorem dX9_load_40 : decode cX9_load 40 = .ok (.aload_n 0, 1) := by decide +kernel
theorem dX9_load_41 : decode cX9_load 41 = .ok (.invokevirtual 238, 3) := by decide +kernel
theorem dX9_load_44 : decode cX9_load 44 = .ok (.ifCond .eq 22, 3) := by decide +kernel
theorem dX9_load_47 : decode cX9_load 47 = .ok (.aload_n 0, 1) := by decide +kernel
theorem dX9_load_48 : decode cX9_load 48 = .ok (.getfield 9, 3) := by decide +kernel
theorem dX9_load_51 : decode cX9_load 51 = .ok (.iconst 0, 1) := by decide +kernel
theorem dX9_load_52 : decode cX9_load 52 = .ok (.iload_n 1, 1) := by decide +kernel
theorem dX9_load_53 : decode cX9_load 53 = .ok (.iastore, 1) := by decide +kernel
theorem dX9_load_54 : decode cX9_load 54 = .ok (.aload_n 0, 1) := by decide +kernel
theorem dX9_load_55 : decode cX9_load 55 = .ok (.getfield 9, 3) := by decide +kernel
theorem dX9_load_58 : decode cX9_load 58 = .ok (.iconst 1, 1) := by decide +kernel
theorem dX9_load_59 : decode cX9_load 59 = .ok (.iconst 0, 1) := by decide +kernel
theorem dX9_load_60 : decode cX9_load 60 = .ok (.iastore, 1) := by decide +kernel
theorem dX9_load_61 : decode cX9_load 61 = .ok (.aload_n 0, 1) := by decide +kernel
theorem dX9_load_62 : decode cX9_load 62 = .ok (.invokevirtual 336, 3) := by decide +kernel
theorem dX9_load_65 : decode cX9_load 65 = .ok (.istore_n 2, 1) := by decide +kernel
theorem dX9_load_66 : decode cX9_load 66 = .ok (.aload_n 0, 1) := by decide +kernel
theorem dX9_load_67 : decode cX9_load 67 = .ok (.invokevirtual 339, 3) := by decide +kernel
theorem dX9_load_70 : decode cX9_load 70 = .ok (.ifCond .eq 5, 3) := by decide +kernel
theorem dX9_load_73 : decode cX9_load 73 = .ok (.iconst 0, 1) := by decide +kernel
theorem dX9_load_74 : decode cX9_load 74 = .ok (.ireturn, 1) := by decide +kernel
theorem dX9_load_75 : decode cX9_load 75 = .ok (.aload_n 0, 1) := by decide +kernel
theorem dX9_load_76 : decode cX9_load 76 = .ok (.iconst 0, 1) := by decide +kernel
theorem dX9_load_77 : decode cX9_load 77 = .ok (.putfield 53, 3) := by decide +kernel
theorem dX9_load_80 : decode cX9_load 80 = .ok (.aload_n 0, 1) := by decide +kernel
theorem dX9_load_81 : decode cX9_load 81 = .ok (.getfield 25, 3) := by decide +kernel
theorem dX9_load_84 : decode cX9_load 84 = .ok (.iconst 0, 1) := by decide +kernel
theorem dX9_load_85 : decode cX9_load 85 = .ok (.iconst 0, 1) := by decide +kernel
theorem dX9_load_86 : decode cX9_load 86 = .ok (.bastore, 1) := by decide +kernel
theorem dX9_load_87 : decode cX9_load 87 = .ok (.aload_n 0, 1) := by decide +kernel
theorem dX9_load_88 : decode cX9_load 88 = .ok (.getfield 25, 3) := by decide +kernel
theorem dX9_load_91 : decode cX9_load 91 = .ok (.iconst 1, 1) := by decide +kernel
theorem dX9_load_92 : decode cX9_load 92 = .ok (.iconst 0, 1) := by decide +kernel
theorem dX9_load_93 : decode cX9_load 93 = .ok (.bastore, 1) := by decide +kernel
theorem dX9_load_94 : decode cX9_load 94 = .ok (.aload_n 0, 1) := by decide +kernel
theorem dX9_load_95 : decode cX9_load 95 = .ok (.invokevirtual 56, 3) := by decide +kernel
theorem dX9_load_98 : decode cX9_load 98 = .ok (.ireturn, 1) := by decide +kernel
set_option maxRecDepth 20000 in
theorem ggX9_play_X9_opensTape : GoodIn wsX9_play wsX9_opensTape := goodIn_r _ [6, 7, 8, 9, 10, 11, 12, 13, 14, 5, 15, 16, 17, 18, 19, 20, 320, 321, 322, 323, 324, 325, 326, 327, 328, 329, 330, 331, 332, 333, 334, 335, 336, 337, 338, 339, 340, 341, 342, 343, 344, 345, 346] rfl (by decide +kernel)
set_option maxRecDepth 20000 in
theorem gX9_play_X9_opensTape : GoodIn wsX9_play (wsV RX9 331 RX9 yX9_opensTape wsX9_opensTape) := goodIn_app (goodIn_r _ [2, 3, 4, 5] rfl (by decide +kernel)) ggX9_play_X9_opensTape
set_option maxRecDepth 20000 in
theorem ggX9_play_X9_takesCommands : GoodIn wsX9_play wsX9_takesCommands := goodIn_r _ [24, 9, 8, 25, 26, 27, 5, 28, 29, 30, 31, 32, 33, 34, 35, 36, 37, 38, 39, 40, 41, 42, 10, 43, 44, 45, 46, 47, 48, 49, 50, 51, 52, 53, 54, 55, 56, 57, 58, 59, 60, 61, 62, 63, 64, 65, 66, 67, 68, 69, 70, 71, 72, 73, 74, 75, 76, 77, 78, 79, 80, 81, 82, 83, 84, 85, 86, 87, 88, 89, 90, 91, 92, 93, 94, 95, 96, 97, 98, 99, 100, 101, 102, 103, 104, 105, 106, 107, 108, 109, 110, 111, 112, 113, 114, 115, 16, 116, 117, 118, 119, 11, 120, 121, 122, 123, 124, 125, 126, 127, 128, 129, 130, 131, 132, 133, 134, 135, 136, 137, 138, 139, 140, 141, 142, 143, 144, 145, 146, 147, 148, 149, 150, 151, 152, 153, 154, 155, 156, 157, 158, 159, 160, 161, 162, 163, 164, 165, 166, 167, 168, 169, 170, 171, 172, 173, 174, 175, 176, 177, 178, 179, 180, 181, 182, 183, 184, 185, 186, 187, 188, 189, 190, 191, 192, 193, 194, 195, 196, 197, 198, 199, 200, 201, 202, 203, 204, 205, 206, 207, 208, 209, 210, 211, 212, 213, 214, 215, 216, 217, 218, 219, 220, 221, 222, 223, 224, 225, 226, 227, 228, 229, 230, 231, 232, 233, 234, 235, 236, 237, 238, 239, 240, 241, 242, 243, 244, 245, 246, 247, 248, 249, 250, 251, 252, 253, 254, 255, 256, 257, 258, 259, 260, 261, 262, 263, 264, 265, 266, 267, 268, 269, 270, 271, 272, 273, 274, 275, 276, 277, 278, 279, 280, 281, 282, 283, 284, 285, 286, 287, 288, 289, 290, 291, 292, 293, 294, 295, 296, 297, 298, 299, 300, 301, 302, 303, 320, 321, 322, 323, 324, 325, 326, 327, 328, 329, 330, 331, 332, 333, 334, 335, 336, 337, 338, 339, 340, 341, 342, 343, 344, 345, 346] rfl (by decide +kernel)
set_option maxRecDepth 20000 in
theorem gX9_play_X9_takesCommands : GoodIn wsX9_play (wsV RX9 336 RX9 yX9_takesCommands wsX9_takesCommands) := goodIn_app (goodIn_r _ [21, 22, 23, 5] rfl (by decide +kernel)) ggX9_play_X9_takesCommands
set_option maxRecDepth 20000 in
theorem ggX9_play_X9_hasEnded : GoodIn wsX9_play wsX9_hasEnded := goodIn_r _ [307, 10, 308, 11, 309, 17, 16, 39, 40, 41, 5, 42, 18, 19, 20, 310, 311, 312, 313, 1, 320, 321, 322, 323, 324, 325, 326, 327, 328, 329, 330, 331, 332, 333, 334, 335, 336, 337, 338, 339, 340, 341, 342, 343, 344, 345, 346] rfl (by decide +kernel)
set_option maxRecDepth 20000 in
theorem gX9_play_X9_hasEnded : GoodIn wsX9_play (wsV RX9 339 RX9 yX9_hasEnded wsX9_hasEnded) := goodIn_app (goodIn_r _ [304, 305, 306, 5] rfl (by decide +kernel)) ggX9_play_X9_hasEnded
set_option maxRecDepth 20000 in
theorem ggX9_play_X9_records : GoodIn wsX9_play wsX9_records := goodIn_r _ [317, 318, 319, 17, 18, 19, 5, 20, 320, 321, 322, 323, 324, 325, 326, 327, 328, 329, 330, 331, 332, 333, 334, 335, 336, 337, 338, 339, 340, 341, 342, 343, 344, 345, 346] rfl (by decide +kernel)
set_option maxRecDepth 20000 in
theorem gX9_play_X9_records : GoodIn wsX9_play (wsV RX9 342 RX9 yX9_records wsX9_records) := goodIn_app (goodIn_r _ [314, 315, 316, 5] rfl (by decide +kernel)) ggX9_play_X9_records
theorem dX9_play_0 : decode cX9_play 0 = .ok (.aload_n 0, 1) := by decide +kernel
theorem dX9_play_1 : decode cX9_play 1 = .ok (.iconst 0, 1) := by decide +kernel
theorem dX9_play_2 : decode cX9_play 2 = .ok (.putfield 46, 3) := by decide +kernel
theorem dX9_play_5 : decode cX9_play 5 = .ok (.aload_n 0, 1) := by decide +kernel
theorem dX9_play_6 : decode cX9_play 6 = .ok (.invokevirtual 331, 3) := by decide +kernel
theorem dX9_play_9 : decode cX9_play 9 = .ok (.aload_n 0, 1) := by decide +kernel
theorem dX9_play_10 : decode cX9_play 10 = .ok (.invokevirtual 336, 3) := by decide +kernel
theorem dX9_play_13 : decode cX9_play 13 = .ok (.istore_n 1, 1) := by decide +kernel
theorem dX9_play_14 : decode cX9_play 14 = .ok (.aload_n 0, 1) := by decide +kernel
theorem dX9_play_15 : decode cX9_play 15 = .ok (.invokevirtual 339, 3) := by decide +kernel
theorem dX9_play_18 : decode cX9_play 18 = .ok (.ifCond .eq 5, 3) := by decide +kernel
theorem dX9_play_21 : decode cX9_play 21 = .ok (.iconst 0, 1) := by decide +kernel
theorem dX9_play_22 : decode cX9_play 22 = .ok (.ireturn, 1) := by decide +kernel
theorem dX9_play_23 : decode cX9_play 23 = .ok (.aload_n 0, 1) := by decide +kernel
theorem dX9_play_24 : decode cX9_play 24 = .ok (.iload_n 1, 1) := by decide +kernel
theorem dX9_play_25 : decode cX9_play 25 = .ok (.invokevirtual 342, 3) := by decide +kernel
theorem dX9_play_28 : decode cX9_play 28 = .ok (.ireturn, 1) := by decide +kernel
theorem dX9_parseError_0 : decode cX9_parseError 0 = .ok (.aload_n 0, 1) := by decide +kernel
theorem dX9_parseError_1 : decode cX9_parseError 1 = .ok (.iconst 0, 1) := by decide +kernel
theorem dX9_parseError_2 : decode cX9_parseError 2 = .ok (.putfield 46, 3) := by decide +kernel
theorem dX9_parseError_5 : decode cX9_parseError 5 = .ok (.aload_n 0, 1) := by decide +kernel
theorem dX9_parseError_6 : decode cX9_parseError 6 = .ok (.getfield 324, 3) := by decide +kernel
theorem dX9_parseError_9 : decode cX9_parseError 9 = .ok (.ireturn, 1) := by decide +kernel
theorem dX9_parseErrorPosition_0 : decode cX9_parseErrorPosition 0 = .ok (.aload_n 0, 1) := by decide +kernel
theorem dX9_parseErrorPosition_1 : decode cX9_parseErrorPosition 1 = .ok (.iconst 0, 1) := by decide +kernel
theorem dX9_parseErrorPosition_2 : decode cX9_parseErrorPosition 2 = .ok (.putfield 46, 3) := by decide +kernel
theorem dX9_parseErrorPosition_5 : decode cX9_parseErrorPosition 5 = .ok (.aload_n 0, 1) := by decide +kernel
theorem dX9_parseErrorPosition_6 : decode cX9_parseErrorPosition 6 = .ok (.getfield 39, 3) := by decide +kernel
theorem dX9_parseErrorPosition_9 : decode cX9_parseErrorPosition 9 = .ok (.ireturn, 1) := by decide +kernel
set_option maxRecDepth 20000 in
theorem ggX9_noClause_X9_many : GoodIn wsX9_noClause wsX9_many := goodIn_r _ [5, 6, 15, 16, 17, 18, 19, 20, 21, 22, 23, 24, 25, 26, 27, 28, 29, 30, 31, 32, 33, 34, 35, 36, 37, 38, 39, 40, 41] rfl (by decide +kernel)
set_option maxRecDepth 20000 in
theorem gX9_noClause_X9_many : GoodIn wsX9_noClause (wsV RX9 56 RX9 yX9_many wsX9_many) := goodIn_app (goodIn_r _ [1, 2, 3, 4] rfl (by decide +kernel)) ggX9_noClause_X9_many
set_option maxRecDepth 20000 in
theorem ggX9_noClause_X9_in : GoodIn wsX9_noClause wsX9_in := goodIn_r _ [9] rfl (by decide +kernel)
set_option maxRecDepth 20000 in
theorem gX9_noClause_X9_in : GoodIn wsX9_noClause (va_wsS RX9 178 yX9_in wsX9_in) := goodIn_app (goodIn_r _ [7, 8, 4] rfl (by decide +kernel)) ggX9_noClause_X9_in
set_option maxRecDepth 20000 in
theorem ggX9_noClause_X9_throwsIf : GoodIn wsX9_noClause wsX9_throwsIf := goodIn_r _ [13, 14, 15, 16, 17, 18, 19, 20, 21, 22, 23, 24, 25, 26, 27, 28, 29, 30, 31, 32, 33, 34, 35, 36, 37, 38, 39, 40, 41] rfl (by decide +kernel)
set_option maxRecDepth 20000 in
theorem gX9_noClause_X9_throwsIf : GoodIn wsX9_noClause (wsV RX9 327 RX9 yX9_throwsIf wsX9_throwsIf) := goodIn_app (goodIn_r _ [10, 11, 12, 4] rfl (by decide +kernel)) ggX9_noClause_X9_throwsIf
theorem dX9_noClause_0 : decode cX9_noClause 0 = .ok (.aload_n 0, 1) := by decide +kernel
theorem dX9_noClause_1 : decode cX9_noClause 1 = .ok (.iload_n 1, 1) := by decide +kernel
theorem dX9_noClause_2 : decode cX9_noClause 2 = .ok (.i2l, 1) := by decide +kernel
theorem dX9_noClause_3 : decode cX9_noClause 3 = .ok (.lconst 0, 1) := by decide +kernel
theorem dX9_noClause_4 : decode cX9_noClause 4 = .ok (.aload_n 0, 1) := by decide +kernel
theorem dX9_noClause_5 : decode cX9_noClause 5 = .ok (.invokevirtual 56, 3) := by decide +kernel
theorem dX9_noClause_8 : decode cX9_noClause 8 = .ok (.iconst 1, 1) := by decide +kernel
theorem dX9_noClause_9 : decode cX9_noClause 9 = .ok (.isub, 1) := by decide +kernel
theorem dX9_noClause_10 : decode cX9_noClause 10 = .ok (.i2l, 1) := by decide +kernel
theorem dX9_noClause_11 : decode cX9_noClause 11 = .ok (.invokestatic 178, 3) := by decide +kernel
theorem dX9_noClause_14 : decode cX9_noClause 14 = .ok (.ifCond .ne 7, 3) := by decide +kernel
theorem dX9_noClause_17 : decode cX9_noClause 17 = .ok (.iconst 1, 1) := by decide +kernel
theorem dX9_noClause_18 : decode cX9_noClause 18 = .ok (.goto 4, 3) := by decide +kernel
theorem dX9_noClause_21 : decode cX9_noClause 21 = .ok (.iconst 0, 1) := by decide +kernel
theorem dX9_noClause_22 : decode cX9_noClause 22 = .ok (.iconst 1, 1) := by decide +kernel
theorem dX9_noClause_23 : decode cX9_noClause 23 = .ok (.invokevirtual 327, 3) := by decide +kernel
theorem dX9_noClause_26 : decode cX9_noClause 26 = .ok (.ireturn, 1) := by decide +kernel
set_option maxRecDepth 20000 in
theorem ggX9_noPair_X9_noClause : GoodIn wsX9_noPair wsX9_noClause := goodIn_r _ [5, 6, 7, 8, 4, 9, 10, 11, 12, 13, 14, 15, 16, 17, 18, 19, 20, 21, 22, 23, 24, 25, 26, 27, 28, 29, 30, 31, 32, 33, 34, 35, 36, 37, 38, 39, 40, 41, 42, 43, 44, 45] rfl (by decide +kernel)
set_option maxRecDepth 20000 in
theorem gX9_noPair_X9_noClause : GoodIn wsX9_noPair (wsV RX9 345 RX9 yX9_noClause wsX9_noClause) := goodIn_app (goodIn_r _ [1, 2, 3, 4] rfl (by decide +kernel)) ggX9_noPair_X9_noClause
theorem dX9_noPair_0 : decode cX9_noPair 0 = .ok (.aload_n 0, 1) := by decide +kernel
theorem dX9_noPair_1 : decode cX9_noPair 1 = .ok (.iload_n 1, 1) := by decide +kernel
theorem dX9_noPair_2 : decode cX9_noPair 2 = .ok (.invokevirtual 345, 3) := by decide +kernel
theorem dX9_noPair_5 : decode cX9_noPair 5 = .ok (.ifCond .ne 11, 3) := by decide +kernel
theorem dX9_noPair_8 : decode cX9_noPair 8 = .ok (.aload_n 0, 1) := by decide +kernel
theorem dX9_noPair_9 : decode cX9_noPair 9 = .ok (.iload_n 2, 1) := by decide +kernel
theorem dX9_noPair_10 : decode cX9_noPair 10 = .ok (.invokevirtual 345, 3) := by decide +kernel
theorem dX9_noPair_13 : decode cX9_noPair 13 = .ok (.ifCond .eq 7, 3) := by decide +kernel
theorem dX9_noPair_16 : decode cX9_noPair 16 = .ok (.iconst 1, 1) := by decide +kernel
theorem dX9_noPair_17 : decode cX9_noPair 17 = .ok (.goto 4, 3) := by decide +kernel
theorem dX9_noPair_20 : decode cX9_noPair 20 = .ok (.iconst 0, 1) := by decide +kernel
theorem dX9_noPair_21 : decode cX9_noPair 21 = .ok (.ireturn, 1) := by decide +kernel
set_option maxRecDepth 20000 in
theorem ggX9_noVariable_X9_wide : GoodIn wsX9_noVariable wsX9_wide := goodIn_r _ [5, 6, 15, 16, 17, 18, 19, 20, 21, 22, 23, 24, 25, 26, 27, 28, 29, 30, 31, 32, 33, 34, 35, 36, 37, 38, 39, 40, 41] rfl (by decide +kernel)
set_option maxRecDepth 20000 in
theorem gX9_noVariable_X9_wide : GoodIn wsX9_noVariable (wsV RX9 64 RX9 yX9_wide wsX9_wide) := goodIn_app (goodIn_r _ [1, 2, 3, 4] rfl (by decide +kernel)) ggX9_noVariable_X9_wide
set_option maxRecDepth 20000 in
theorem ggX9_noVariable_X9_in : GoodIn wsX9_noVariable wsX9_in := goodIn_r _ [9] rfl (by decide +kernel)
set_option maxRecDepth 20000 in
theorem gX9_noVariable_X9_in : GoodIn wsX9_noVariable (va_wsS RX9 178 yX9_in wsX9_in) := goodIn_app (goodIn_r _ [7, 8, 4] rfl (by decide +kernel)) ggX9_noVariable_X9_in
set_option maxRecDepth 20000 in
theorem ggX9_noVariable_X9_throwsIf : GoodIn wsX9_noVariable wsX9_throwsIf := goodIn_r _ [13, 14, 15, 16, 17, 18, 19, 20, 21, 22, 23, 24, 25, 26, 27, 28, 29, 30, 31, 32, 33, 34, 35, 36, 37, 38, 39, 40, 41] rfl (by decide +kernel)
set_option maxRecDepth 20000 in
theorem gX9_noVariable_X9_throwsIf : GoodIn wsX9_noVariable (wsV RX9 327 RX9 yX9_throwsIf wsX9_throwsIf) := goodIn_app (goodIn_r _ [10, 11, 12, 4] rfl (by decide +kernel)) ggX9_noVariable_X9_throwsIf
theorem dX9_noVariable_0 : decode cX9_noVariable 0 = .ok (.aload_n 0, 1) := by decide +kernel
theorem dX9_noVariable_1 : decode cX9_noVariable 1 = .ok (.iload_n 1, 1) := by decide +kernel
theorem dX9_noVariable_2 : decode cX9_noVariable 2 = .ok (.i2l, 1) := by decide +kernel
theorem dX9_noVariable_3 : decode cX9_noVariable 3 = .ok (.lconst 0, 1) := by decide +kernel
theorem dX9_noVariable_4 : decode cX9_noVariable 4 = .ok (.aload_n 0, 1) := by decide +kernel
theorem dX9_noVariable_5 : decode cX9_noVariable 5 = .ok (.invokevirtual 64, 3) := by decide +kernel
theorem dX9_noVariable_8 : decode cX9_noVariable 8 = .ok (.iconst 1, 1) := by decide +kernel
theorem dX9_noVariable_9 : decode cX9_noVariable 9 = .ok (.isub, 1) := by decide +kernel
theorem dX9_noVariable_10 : decode cX9_noVariable 10 = .ok (.i2l, 1) := by decide +kernel
theorem dX9_noVariable_11 : decode cX9_noVariable 11 = .ok (.invokestatic 178, 3) := by decide +kernel
theorem dX9_noVariable_14 : decode cX9_noVariable 14 = .ok (.ifCond .ne 7, 3) := by decide +kernel
theorem dX9_noVariable_17 : decode cX9_noVariable 17 = .ok (.iconst 1, 1) := by decide +kernel
theorem dX9_noVariable_18 : decode cX9_noVariable 18 = .ok (.goto 4, 3) := by decide +kernel
theorem dX9_noVariable_21 : decode cX9_noVariable 21 = .ok (.iconst 0, 1) := by decide +kernel
theorem dX9_noVariable_22 : decode cX9_noVariable 22 = .ok (.iconst 1, 1) := by decide +kernel
theorem dX9_noVariable_23 : decode cX9_noVariable 23 = .ok (.invokevirtual 327, 3) := by decide +kernel
theorem dX9_noVariable_26 : decode cX9_noVariable 26 = .ok (.ireturn, 1) := by decide +kernel
set_option maxRecDepth 20000 in
theorem ggX9_isMask_X9_assignments : GoodIn wsX9_isMask wsX9_assignments := goodIn_r _ [5, 6, 7, 8, 4, 9, 10, 14, 15, 16, 17, 18, 19, 20, 21, 22, 23, 24, 25, 26, 27, 28, 29, 30, 31, 32, 33, 34, 35, 36, 37, 38, 39, 40] rfl (by decide +kernel)
set_option maxRecDepth 20000 in
theorem gX9_isMask_X9_assignments : GoodIn wsX9_isMask (wsV RX9 137 RX9 yX9_assignments wsX9_assignments) := goodIn_app (goodIn_r _ [1, 2, 3, 4] rfl (by decide +kernel)) ggX9_isMask_X9_assignments
set_option maxRecDepth 20000 in
theorem ggX9_isMask_X9_in : GoodIn wsX9_isMask wsX9_in := goodIn_r _ [13] rfl (by decide +kernel)
set_option maxRecDepth 20000 in
theorem gX9_isMask_X9_in : GoodIn wsX9_isMask (va_wsS RX9 178 yX9_in wsX9_in) := goodIn_app (goodIn_r _ [11, 12, 4] rfl (by decide +kernel)) ggX9_isMask_X9_in
theorem dX9_isMask_0 : decode cX9_isMask 0 = .ok (.iload_n 1, 1) := by decide +kernel
theorem dX9_isMask_1 : decode cX9_isMask 1 = .ok (.i2l, 1) := by decide +kernel
theorem dX9_isMask_2 : decode cX9_isMask 2 = .ok (.lconst 0, 1) := by decide +kernel
theorem dX9_isMask_3 : decode cX9_isMask 3 = .ok (.aload_n 0, 1) := by decide +kernel
theorem dX9_isMask_4 : decode cX9_isMask 4 = .ok (.invokevirtual 137, 3) := by decide +kernel
theorem dX9_isMask_7 : decode cX9_isMask 7 = .ok (.iconst 1, 1) := by decide +kernel
theorem dX9_isMask_8 : decode cX9_isMask 8 = .ok (.isub, 1) := by decide +kernel
theorem dX9_isMask_9 : decode cX9_isMask 9 = .ok (.i2l, 1) := by decide +kernel
theorem dX9_isMask_10 : decode cX9_isMask 10 = .ok (.invokestatic 178, 3) := by decide +kernel
theorem dX9_isMask_13 : decode cX9_isMask 13 = .ok (.ireturn, 1) := by decide +kernel
set_option maxRecDepth 20000 in
theorem ggX9_noMasks_X9_isMask : GoodIn wsX9_noMasks wsX9_isMask := goodIn_r _ [5, 6, 7, 8, 4, 9, 10, 11, 12, 13, 14, 15, 16, 17, 35, 36, 37, 38, 39, 40, 41, 42, 43, 44, 45, 46, 47, 48, 49, 50, 51, 52, 53, 54, 55, 56, 57, 58, 59, 60, 61] rfl (by decide +kernel)
set_option maxRecDepth 20000 in
theorem gX9_noMasks_X9_isMask : GoodIn wsX9_noMasks (wsV RX9 348 RX9 yX9_isMask wsX9_isMask) := goodIn_app (goodIn_r _ [1, 2, 3, 4] rfl (by decide +kernel)) ggX9_noMasks_X9_isMask
set_option maxRecDepth 20000 in
theorem ggX9_noMasks_X9_throwsIf : GoodIn wsX9_noMasks wsX9_throwsIf := goodIn_r _ [21, 22, 35, 36, 37, 38, 39, 40, 41, 42, 43, 44, 45, 46, 47, 48, 49, 50, 51, 52, 53, 54, 55, 56, 57, 58, 59, 60, 61] rfl (by decide +kernel)
set_option maxRecDepth 20000 in
theorem gX9_noMasks_X9_throwsIf : GoodIn wsX9_noMasks (wsV RX9 327 RX9 yX9_throwsIf wsX9_throwsIf) := goodIn_app (goodIn_r _ [18, 19, 20, 4] rfl (by decide +kernel)) ggX9_noMasks_X9_throwsIf
set_option maxRecDepth 20000 in
theorem ggX9_noMasks_X9_lays : GoodIn wsX9_noMasks wsX9_lays := goodIn_r _ [26, 27, 28, 29, 4, 30, 14, 31, 32, 33, 34, 35, 36, 37, 38, 39, 40, 41, 42, 43, 44, 45, 46, 47, 48, 49, 50, 51, 52, 53, 54, 55, 56, 57, 58, 59, 60, 61] rfl (by decide +kernel)
set_option maxRecDepth 20000 in
theorem gX9_noMasks_X9_lays : GoodIn wsX9_noMasks (wsV RX9 223 RX9 yX9_lays wsX9_lays) := goodIn_app (goodIn_r _ [23, 24, 25, 4] rfl (by decide +kernel)) ggX9_noMasks_X9_lays
theorem dX9_noMasks_0 : decode cX9_noMasks 0 = .ok (.aload_n 0, 1) := by decide +kernel
theorem dX9_noMasks_1 : decode cX9_noMasks 1 = .ok (.aload_n 0, 1) := by decide +kernel
theorem dX9_noMasks_2 : decode cX9_noMasks 2 = .ok (.iload_n 1, 1) := by decide +kernel
theorem dX9_noMasks_3 : decode cX9_noMasks 3 = .ok (.invokevirtual 348, 3) := by decide +kernel
theorem dX9_noMasks_6 : decode cX9_noMasks 6 = .ok (.ifCond .eq 17, 3) := by decide +kernel
theorem dX9_noMasks_9 : decode cX9_noMasks 9 = .ok (.aload_n 0, 1) := by decide +kernel
theorem dX9_noMasks_10 : decode cX9_noMasks 10 = .ok (.iload_n 2, 1) := by decide +kernel
theorem dX9_noMasks_11 : decode cX9_noMasks 11 = .ok (.invokevirtual 348, 3) := by decide +kernel
theorem dX9_noMasks_14 : decode cX9_noMasks 14 = .ok (.ifCond .eq 9, 3) := by decide +kernel
theorem dX9_noMasks_17 : decode cX9_noMasks 17 = .ok (.iload_n 1, 1) := by decide +kernel
theorem dX9_noMasks_18 : decode cX9_noMasks 18 = .ok (.iload_n 2, 1) := by decide +kernel
theorem dX9_noMasks_19 : decode cX9_noMasks 19 = .ok (.iand, 1) := by decide +kernel
theorem dX9_noMasks_20 : decode cX9_noMasks 20 = .ok (.ifCond .eq 7, 3) := by decide +kernel
theorem dX9_noMasks_23 : decode cX9_noMasks 23 = .ok (.iconst 1, 1) := by decide +kernel
theorem dX9_noMasks_24 : decode cX9_noMasks 24 = .ok (.goto 4, 3) := by decide +kernel
theorem dX9_noMasks_27 : decode cX9_noMasks 27 = .ok (.iconst 0, 1) := by decide +kernel
theorem dX9_noMasks_28 : decode cX9_noMasks 28 = .ok (.iconst 1, 1) := by decide +kernel
theorem dX9_noMasks_29 : decode cX9_noMasks 29 = .ok (.invokevirtual 327, 3) := by decide +kernel
theorem dX9_noMasks_32 : decode cX9_noMasks 32 = .ok (.ifCond .eq 5, 3) := by decide +kernel
theorem dX9_noMasks_35 : decode cX9_noMasks 35 = .ok (.iconst 1, 1) := by decide +kernel
theorem dX9_noMasks_36 : decode cX9_noMasks 36 = .ok (.ireturn, 1) := by decide +kernel
theorem dX9_noMasks_37 : decode cX9_noMasks 37 = .ok (.aload_n 0, 1) := by decide +kernel
theorem dX9_noMasks_38 : decode cX9_noMasks 38 = .ok (.iload_n 1, 1) := by decide +kernel
theorem dX9_noMasks_39 : decode cX9_noMasks 39 = .ok (.iload_n 2, 1) := by decide +kernel
theorem dX9_noMasks_40 : decode cX9_noMasks 40 = .ok (.invokevirtual 223, 3) := by decide +kernel
theorem dX9_noMasks_43 : decode cX9_noMasks 43 = .ok (.iconst 0, 1) := by decide +kernel
theorem dX9_noMasks_44 : decode cX9_noMasks 44 = .ok (.ireturn, 1) := by decide +kernel
set_option maxRecDepth 20000 in
theorem ggX9_variableCount_X9_wide : GoodIn wsX9_variableCount wsX9_wide := goodIn_r _ [6, 7, 8, 9, 10, 11, 12, 13, 14, 15, 16, 17, 18, 19, 20, 21, 22, 23, 24, 25, 26, 27, 28, 29, 30, 31, 32, 33, 34] rfl (by decide +kernel)
set_option maxRecDepth 20000 in
theorem gX9_variableCount_X9_wide : GoodIn wsX9_variableCount (wsV RX9 64 RX9 yX9_wide wsX9_wide) := goodIn_app (goodIn_r _ [2, 3, 4, 5] rfl (by decide +kernel)) ggX9_variableCount_X9_wide
theorem dX9_variableCount_0 : decode cX9_variableCount 0 = .ok (.aload_n 0, 1) := by decide +kernel
theorem dX9_variableCount_1 : decode cX9_variableCount 1 = .ok (.iconst 0, 1) := by decide +kernel
theorem dX9_variableCount_2 : decode cX9_variableCount 2 = .ok (.putfield 46, 3) := by decide +kernel
theorem dX9_variableCount_5 : decode cX9_variableCount 5 = .ok (.aload_n 0, 1) := by decide +kernel
theorem dX9_variableCount_6 : decode cX9_variableCount 6 = .ok (.invokevirtual 64, 3) := by decide +kernel
theorem dX9_variableCount_9 : decode cX9_variableCount 9 = .ok (.ireturn, 1) := by decide +kernel
set_option maxRecDepth 20000 in
theorem ggX9_clauseCount_X9_many : GoodIn wsX9_clauseCount wsX9_many := goodIn_r _ [6, 7, 8, 9, 10, 11, 12, 13, 14, 15, 16, 17, 18, 19, 20, 21, 22, 23, 24, 25, 26, 27, 28, 29, 30, 31, 32, 33, 34] rfl (by decide +kernel)
set_option maxRecDepth 20000 in
theorem gX9_clauseCount_X9_many : GoodIn wsX9_clauseCount (wsV RX9 56 RX9 yX9_many wsX9_many) := goodIn_app (goodIn_r _ [2, 3, 4, 5] rfl (by decide +kernel)) ggX9_clauseCount_X9_many
theorem dX9_clauseCount_0 : decode cX9_clauseCount 0 = .ok (.aload_n 0, 1) := by decide +kernel
theorem dX9_clauseCount_1 : decode cX9_clauseCount 1 = .ok (.iconst 0, 1) := by decide +kernel
theorem dX9_clauseCount_2 : decode cX9_clauseCount 2 = .ok (.putfield 46, 3) := by decide +kernel
theorem dX9_clauseCount_5 : decode cX9_clauseCount 5 = .ok (.aload_n 0, 1) := by decide +kernel
theorem dX9_clauseCount_6 : decode cX9_clauseCount 6 = .ok (.invokevirtual 56, 3) := by decide +kernel
theorem dX9_clauseCount_9 : decode cX9_clauseCount 9 = .ok (.ireturn, 1) := by decide +kernel
set_option maxRecDepth 20000 in
theorem ggX9_positiveOf_X9_noClause : GoodIn wsX9_positiveOf wsX9_noClause := goodIn_r _ [6, 7, 8, 9, 5, 10, 11, 12, 13, 14, 15, 16, 17, 18, 1, 31, 32, 33, 34, 35, 36, 37, 38, 39, 40, 41, 42, 43, 44, 45, 46, 47, 48, 49, 50, 51, 52, 53, 54, 55, 56, 57] rfl (by decide +kernel)
set_option maxRecDepth 20000 in
theorem gX9_positiveOf_X9_noClause : GoodIn wsX9_positiveOf (wsV RX9 345 RX9 yX9_noClause wsX9_noClause) := goodIn_app (goodIn_r _ [2, 3, 4, 5] rfl (by decide +kernel)) ggX9_positiveOf_X9_noClause
set_option maxRecDepth 20000 in
theorem ggX9_positiveOf_X9_mask : GoodIn wsX9_positiveOf wsX9_mask := goodIn_r _ [22, 23, 24, 25, 5, 26, 11, 27, 28, 29, 30, 31, 32, 33, 34, 35, 36, 37, 38, 39, 40, 41, 42, 43, 44, 45, 46, 47, 48, 49, 50, 51, 52, 53, 54, 55, 56, 57] rfl (by decide +kernel)
set_option maxRecDepth 20000 in
theorem gX9_positiveOf_X9_mask : GoodIn wsX9_positiveOf (wsV RX9 351 RX9 yX9_mask wsX9_mask) := goodIn_app (goodIn_r _ [19, 20, 21, 5] rfl (by decide +kernel)) ggX9_positiveOf_X9_mask
theorem dX9_positiveOf_0 : decode cX9_positiveOf 0 = .ok (.aload_n 0, 1) := by decide +kernel
theorem dX9_positiveOf_1 : decode cX9_positiveOf 1 = .ok (.iconst 0, 1) := by decide +kernel
theorem dX9_positiveOf_2 : decode cX9_positiveOf 2 = .ok (.putfield 46, 3) := by decide +kernel
theorem dX9_positiveOf_5 : decode cX9_positiveOf 5 = .ok (.aload_n 0, 1) := by decide +kernel
theorem dX9_positiveOf_6 : decode cX9_positiveOf 6 = .ok (.iload_n 1, 1) := by decide +kernel
theorem dX9_positiveOf_7 : decode cX9_positiveOf 7 = .ok (.invokevirtual 345, 3) := by decide +kernel
theorem dX9_positiveOf_10 : decode cX9_positiveOf 10 = .ok (.ifCond .eq 7, 3) := by decide +kernel
theorem dX9_positiveOf_13 : decode cX9_positiveOf 13 = .ok (.iconst 0, 1) := by decide +kernel
theorem dX9_positiveOf_14 : decode cX9_positiveOf 14 = .ok (.goto 9, 3) := by decide +kernel
theorem dX9_positiveOf_17 : decode cX9_positiveOf 17 = .ok (.aload_n 0, 1) := by decide +kernel
theorem dX9_positiveOf_18 : decode cX9_positiveOf 18 = .ok (.iload_n 1, 1) := by decide +kernel
theorem dX9_positiveOf_19 : decode cX9_positiveOf 19 = .ok (.iconst 1, 1) := by decide +kernel
theorem dX9_positiveOf_20 : decode cX9_positiveOf 20 = .ok (.invokevirtual 351, 3) := by decide +kernel
theorem dX9_positiveOf_23 : decode cX9_positiveOf 23 = .ok (.ireturn, 1) := by decide +kernel
set_option maxRecDepth 20000 in
theorem ggX9_negativeOf_X9_noClause : GoodIn wsX9_negativeOf wsX9_noClause := goodIn_r _ [6, 7, 8, 9, 5, 10, 11, 12, 13, 14, 15, 16, 17, 18, 1, 31, 32, 33, 34, 35, 36, 37, 38, 39, 40, 41, 42, 43, 44, 45, 46, 47, 48, 49, 50, 51, 52, 53, 54, 55, 56, 57] rfl (by decide +kernel)
set_option maxRecDepth 20000 in
theorem gX9_negativeOf_X9_noClause : GoodIn wsX9_negativeOf (wsV RX9 345 RX9 yX9_noClause wsX9_noClause) := goodIn_app (goodIn_r _ [2, 3, 4, 5] rfl (by decide +kernel)) ggX9_negativeOf_X9_noClause
set_option maxRecDepth 20000 in
theorem ggX9_negativeOf_X9_mask : GoodIn wsX9_negativeOf wsX9_mask := goodIn_r _ [22, 23, 24, 25, 5, 26, 11, 27, 28, 29, 30, 31, 32, 33, 34, 35, 36, 37, 38, 39, 40, 41, 42, 43, 44, 45, 46, 47, 48, 49, 50, 51, 52, 53, 54, 55, 56, 57] rfl (by decide +kernel)
set_option maxRecDepth 20000 in
theorem gX9_negativeOf_X9_mask : GoodIn wsX9_negativeOf (wsV RX9 351 RX9 yX9_mask wsX9_mask) := goodIn_app (goodIn_r _ [19, 20, 21, 5] rfl (by decide +kernel)) ggX9_negativeOf_X9_mask
theorem dX9_negativeOf_0 : decode cX9_negativeOf 0 = .ok (.aload_n 0, 1) := by decide +kernel
theorem dX9_negativeOf_1 : decode cX9_negativeOf 1 = .ok (.iconst 0, 1) := by decide +kernel
theorem dX9_negativeOf_2 : decode cX9_negativeOf 2 = .ok (.putfield 46, 3) := by decide +kernel
theorem dX9_negativeOf_5 : decode cX9_negativeOf 5 = .ok (.aload_n 0, 1) := by decide +kernel
theorem dX9_negativeOf_6 : decode cX9_negativeOf 6 = .ok (.iload_n 1, 1) := by decide +kernel
theorem dX9_negativeOf_7 : decode cX9_negativeOf 7 = .ok (.invokevirtual 345, 3) := by decide +kernel
theorem dX9_negativeOf_10 : decode cX9_negativeOf 10 = .ok (.ifCond .eq 7, 3) := by decide +kernel
theorem dX9_negativeOf_13 : decode cX9_negativeOf 13 = .ok (.iconst 0, 1) := by decide +kernel
theorem dX9_negativeOf_14 : decode cX9_negativeOf 14 = .ok (.goto 9, 3) := by decide +kernel
theorem dX9_negativeOf_17 : decode cX9_negativeOf 17 = .ok (.aload_n 0, 1) := by decide +kernel
theorem dX9_negativeOf_18 : decode cX9_negativeOf 18 = .ok (.iload_n 1, 1) := by decide +kernel
theorem dX9_negativeOf_19 : decode cX9_negativeOf 19 = .ok (.iconst 2, 1) := by decide +kernel
theorem dX9_negativeOf_20 : decode cX9_negativeOf 20 = .ok (.invokevirtual 351, 3) := by decide +kernel
theorem dX9_negativeOf_23 : decode cX9_negativeOf 23 = .ok (.ireturn, 1) := by decide +kernel
set_option maxRecDepth 20000 in
theorem ggX9_sizeOf_X9_noClause : GoodIn wsX9_sizeOf wsX9_noClause := goodIn_r _ [6, 7, 8, 9, 5, 10, 11, 12, 13, 14, 15, 16, 17, 18, 1, 31, 32, 33, 34, 35, 36, 37, 38, 39, 40, 41, 42, 43, 44, 45, 46, 47, 48, 49, 50, 51, 52, 53, 54, 55, 56, 57] rfl (by decide +kernel)
set_option maxRecDepth 20000 in
theorem gX9_sizeOf_X9_noClause : GoodIn wsX9_sizeOf (wsV RX9 345 RX9 yX9_noClause wsX9_noClause) := goodIn_app (goodIn_r _ [2, 3, 4, 5] rfl (by decide +kernel)) ggX9_sizeOf_X9_noClause
set_option maxRecDepth 20000 in
theorem ggX9_sizeOf_X9_literals : GoodIn wsX9_sizeOf wsX9_literals := goodIn_r _ [22, 23, 24, 25, 5, 26, 11, 27, 28, 29, 30, 31, 32, 33, 34, 35, 36, 37, 38, 39, 40, 41, 42, 43, 44, 45, 46, 47, 48, 49, 50, 51, 52, 53, 54, 55, 56, 57] rfl (by decide +kernel)
set_option maxRecDepth 20000 in
theorem gX9_sizeOf_X9_literals : GoodIn wsX9_sizeOf (wsV RX9 86 RX9 yX9_literals wsX9_literals) := goodIn_app (goodIn_r _ [19, 20, 21, 5] rfl (by decide +kernel)) ggX9_sizeOf_X9_literals
theorem dX9_sizeOf_0 : decode cX9_sizeOf 0 = .ok (.aload_n 0, 1) := by decide +kernel
theorem dX9_sizeOf_1 : decode cX9_sizeOf 1 = .ok (.iconst 0, 1) := by decide +kernel
theorem dX9_sizeOf_2 : decode cX9_sizeOf 2 = .ok (.putfield 46, 3) := by decide +kernel
theorem dX9_sizeOf_5 : decode cX9_sizeOf 5 = .ok (.aload_n 0, 1) := by decide +kernel
theorem dX9_sizeOf_6 : decode cX9_sizeOf 6 = .ok (.iload_n 1, 1) := by decide +kernel
theorem dX9_sizeOf_7 : decode cX9_sizeOf 7 = .ok (.invokevirtual 345, 3) := by decide +kernel
theorem dX9_sizeOf_10 : decode cX9_sizeOf 10 = .ok (.ifCond .eq 7, 3) := by decide +kernel
theorem dX9_sizeOf_13 : decode cX9_sizeOf 13 = .ok (.iconst 0, 1) := by decide +kernel
theorem dX9_sizeOf_14 : decode cX9_sizeOf 14 = .ok (.goto 8, 3) := by decide +kernel
theorem dX9_sizeOf_17 : decode cX9_sizeOf 17 = .ok (.aload_n 0, 1) := by decide +kernel
theorem dX9_sizeOf_18 : decode cX9_sizeOf 18 = .ok (.iload_n 1, 1) := by decide +kernel
theorem dX9_sizeOf_19 : decode cX9_sizeOf 19 = .ok (.invokevirtual 86, 3) := by decide +kernel
theorem dX9_sizeOf_22 : decode cX9_sizeOf 22 = .ok (.ireturn, 1) := by decide +kernel
set_option maxRecDepth 20000 in
theorem ggX9_find_X9_noMasks : GoodIn wsX9_find wsX9_noMasks := goodIn_r _ [6, 7, 8, 9, 5, 10, 11, 12, 13, 14, 15, 16, 17, 18, 19, 20, 21, 22, 23, 24, 25, 26, 1, 27, 28, 29, 30, 31, 32, 33, 34, 35, 36, 37, 38, 51, 52, 53, 54, 55, 56, 57, 58, 59, 60, 61, 62, 63, 64, 65, 66, 67, 68, 69, 70, 71, 72, 73, 74, 75, 76, 77] rfl (by decide +kernel)
set_option maxRecDepth 20000 in
theorem gX9_find_X9_noMasks : GoodIn wsX9_find (wsV RX9 354 RX9 yX9_noMasks wsX9_noMasks) := goodIn_app (goodIn_r _ [2, 3, 4, 5] rfl (by decide +kernel)) ggX9_find_X9_noMasks
set_option maxRecDepth 20000 in
theorem ggX9_find_X9_same : GoodIn wsX9_find wsX9_same := goodIn_r _ [42, 31, 32, 33, 5, 34, 19, 43, 44, 45, 46, 15, 16, 17, 18, 47, 48, 49, 50, 51, 52, 53, 54, 55, 56, 57, 58, 59, 60, 61, 62, 63, 64, 65, 66, 67, 68, 69, 70, 71, 72, 73, 74, 75, 76, 77] rfl (by decide +kernel)
set_option maxRecDepth 20000 in
theorem gX9_find_X9_same : GoodIn wsX9_find (wsV RX9 235 RX9 yX9_same wsX9_same) := goodIn_app (goodIn_r _ [39, 40, 41, 5] rfl (by decide +kernel)) ggX9_find_X9_same
theorem dX9_find_0 : decode cX9_find 0 = .ok (.aload_n 0, 1) := by decide +kernel
theorem dX9_find_1 : decode cX9_find 1 = .ok (.iconst 0, 1) := by decide +kernel
theorem dX9_find_2 : decode cX9_find 2 = .ok (.putfield 46, 3) := by decide +kernel
theorem dX9_find_5 : decode cX9_find 5 = .ok (.aload_n 0, 1) := by decide +kernel
theorem dX9_find_6 : decode cX9_find 6 = .ok (.iload_n 1, 1) := by decide +kernel
theorem dX9_find_7 : decode cX9_find 7 = .ok (.iload_n 2, 1) := by decide +kernel
theorem dX9_find_8 : decode cX9_find 8 = .ok (.invokevirtual 354, 3) := by decide +kernel
theorem dX9_find_11 : decode cX9_find 11 = .ok (.ifCond .eq 7, 3) := by decide +kernel
theorem dX9_find_14 : decode cX9_find 14 = .ok (.iconst 0, 1) := by decide +kernel
theorem dX9_find_15 : decode cX9_find 15 = .ok (.goto 7, 3) := by decide +kernel
theorem dX9_find_18 : decode cX9_find 18 = .ok (.aload_n 0, 1) := by decide +kernel
theorem dX9_find_19 : decode cX9_find 19 = .ok (.invokevirtual 235, 3) := by decide +kernel
theorem dX9_find_22 : decode cX9_find 22 = .ok (.ireturn, 1) := by decide +kernel
set_option maxRecDepth 20000 in
theorem ggX9_isGiven_X9_noClause : GoodIn wsX9_isGiven wsX9_noClause := goodIn_r _ [7, 8, 9, 10, 6, 11, 2, 12, 13, 14, 15, 16, 17, 18, 1, 19, 20, 21, 22, 23, 24, 25, 26, 27, 28, 29, 30, 31, 32, 33, 34, 35, 36, 37, 38, 39, 40, 41, 42, 43, 44, 45] rfl (by decide +kernel)
set_option maxRecDepth 20000 in
theorem gX9_isGiven_X9_noClause : GoodIn wsX9_isGiven (wsV RX9 345 RX9 yX9_noClause wsX9_noClause) := goodIn_app (goodIn_r _ [3, 4, 5, 6] rfl (by decide +kernel)) ggX9_isGiven_X9_noClause
theorem dX9_isGiven_0 : decode cX9_isGiven 0 = .ok (.aload_n 0, 1) := by decide +kernel
theorem dX9_isGiven_1 : decode cX9_isGiven 1 = .ok (.iconst 0, 1) := by decide +kernel
theorem dX9_isGiven_2 : decode cX9_isGiven 2 = .ok (.putfield 46, 3) := by decide +kernel
theorem dX9_isGiven_5 : decode cX9_isGiven 5 = .ok (.aload_n 0, 1) := by decide +kernel
theorem dX9_isGiven_6 : decode cX9_isGiven 6 = .ok (.iload_n 1, 1) := by decide +kernel
theorem dX9_isGiven_7 : decode cX9_isGiven 7 = .ok (.invokevirtual 345, 3) := by decide +kernel
theorem dX9_isGiven_10 : decode cX9_isGiven 10 = .ok (.ifCond .ne 21, 3) := by decide +kernel
theorem dX9_isGiven_13 : decode cX9_isGiven 13 = .ok (.aload_n 0, 1) := by decide +kernel
theorem dX9_isGiven_14 : decode cX9_isGiven 14 = .ok (.getfield 9, 3) := by decide +kernel
theorem dX9_isGiven_17 : decode cX9_isGiven 17 = .ok (.sipush 856, 3) := by decide +kernel
theorem dX9_isGiven_20 : decode cX9_isGiven 20 = .ok (.iload_n 1, 1) := by decide +kernel
theorem dX9_isGiven_21 : decode cX9_isGiven 21 = .ok (.iadd, 1) := by decide +kernel
theorem dX9_isGiven_22 : decode cX9_isGiven 22 = .ok (.iaload, 1) := by decide +kernel
theorem dX9_isGiven_23 : decode cX9_isGiven 23 = .ok (.iconst (-1), 1) := by decide +kernel
theorem dX9_isGiven_24 : decode cX9_isGiven 24 = .ok (.if_icmp .ne 7, 3) := by decide +kernel
theorem dX9_isGiven_27 : decode cX9_isGiven 27 = .ok (.iconst 1, 1) := by decide +kernel
theorem dX9_isGiven_28 : decode cX9_isGiven 28 = .ok (.goto 4, 3) := by decide +kernel
theorem dX9_isGiven_31 : decode cX9_isGiven 31 = .ok (.iconst 0, 1) := by decide +kernel
theorem dX9_isGiven_32 : decode cX9_isGiven 32 = .ok (.ireturn, 1) := by decide +kernel
set_option maxRecDepth 20000 in
theorem ggX9_positiveParent_X9_noClause : GoodIn wsX9_positiveParent wsX9_noClause := goodIn_r _ [7, 8, 9, 10, 6, 11, 2, 12, 13, 14, 15, 16, 17, 18, 1, 19, 20, 21, 22, 23, 24, 25, 26, 27, 28, 29, 30, 31, 32, 33, 34, 35, 36, 37, 38, 39, 40, 41, 42, 43, 44, 45] rfl (by decide +kernel)
set_option maxRecDepth 20000 in
theorem gX9_positiveParent_X9_noClause : GoodIn wsX9_positiveParent (wsV RX9 345 RX9 yX9_noClause wsX9_noClause) := goodIn_app (goodIn_r _ [3, 4, 5, 6] rfl (by decide +kernel)) ggX9_positiveParent_X9_noClause
theorem dX9_positiveParent_0 : decode cX9_positiveParent 0 = .ok (.aload_n 0, 1) := by decide +kernel
theorem dX9_positiveParent_1 : decode cX9_positiveParent 1 = .ok (.iconst 0, 1) := by decide +kernel
theorem dX9_positiveParent_2 : decode cX9_positiveParent 2 = .ok (.putfield 46, 3) := by decide +kernel
theorem dX9_positiveParent_5 : decode cX9_positiveParent 5 = .ok (.aload_n 0, 1) := by decide +kernel
theorem dX9_positiveParent_6 : decode cX9_positiveParent 6 = .ok (.iload_n 1, 1) := by decide +kernel
theorem dX9_positiveParent_7 : decode cX9_positiveParent 7 = .ok (.invokevirtual 345, 3) := by decide +kernel
theorem dX9_positiveParent_10 : decode cX9_positiveParent 10 = .ok (.ifCond .eq 7, 3) := by decide +kernel
theorem dX9_positiveParent_13 : decode cX9_positiveParent 13 = .ok (.iconst 0, 1) := by decide +kernel
theorem dX9_positiveParent_14 : decode cX9_positiveParent 14 = .ok (.goto 13, 3) := by decide +kernel
theorem dX9_positiveParent_17 : decode cX9_positiveParent 17 = .ok (.aload_n 0, 1) := by decide +kernel
theorem dX9_positiveParent_18 : decode cX9_positiveParent 18 = .ok (.getfield 9, 3) := by decide +kernel
theorem dX9_positiveParent_21 : decode cX9_positiveParent 21 = .ok (.sipush 734, 3) := by decide +kernel
theorem dX9_positiveParent_24 : decode cX9_positiveParent 24 = .ok (.iload_n 1, 1) := by decide +kernel
theorem dX9_positiveParent_25 : decode cX9_positiveParent 25 = .ok (.iadd, 1) := by decide +kernel
theorem dX9_positiveParent_26 : decode cX9_positiveParent 26 = .ok (.iaload, 1) := by decide +kernel
theorem dX9_positiveParent_27 : decode cX9_positiveParent 27 = .ok (.ireturn, 1) := by decide +kernel
set_option maxRecDepth 20000 in
theorem ggX9_negativeParent_X9_noClause : GoodIn wsX9_negativeParent wsX9_noClause := goodIn_r _ [7, 8, 9, 10, 6, 11, 2, 12, 13, 14, 15, 16, 17, 18, 1, 19, 20, 21, 22, 23, 24, 25, 26, 27, 28, 29, 30, 31, 32, 33, 34, 35, 36, 37, 38, 39, 40, 41, 42, 43, 44, 45] rfl (by decide +kernel)
set_option maxRecDepth 20000 in
theorem gX9_negativeParent_X9_noClause : GoodIn wsX9_negativeParent (wsV RX9 345 RX9 yX9_noClause wsX9_noClause) := goodIn_app (goodIn_r _ [3, 4, 5, 6] rfl (by decide +kernel)) ggX9_negativeParent_X9_noClause
theorem dX9_negativeParent_0 : decode cX9_negativeParent 0 = .ok (.aload_n 0, 1) := by decide +kernel
theorem dX9_negativeParent_1 : decode cX9_negativeParent 1 = .ok (.iconst 0, 1) := by decide +kernel
theorem dX9_negativeParent_2 : decode cX9_negativeParent 2 = .ok (.putfield 46, 3) := by decide +kernel
theorem dX9_negativeParent_5 : decode cX9_negativeParent 5 = .ok (.aload_n 0, 1) := by decide +kernel
theorem dX9_negativeParent_6 : decode cX9_negativeParent 6 = .ok (.iload_n 1, 1) := by decide +kernel
theorem dX9_negativeParent_7 : decode cX9_negativeParent 7 = .ok (.invokevirtual 345, 3) := by decide +kernel
theorem dX9_negativeParent_10 : decode cX9_negativeParent 10 = .ok (.ifCond .eq 7, 3) := by decide +kernel
theorem dX9_negativeParent_13 : decode cX9_negativeParent 13 = .ok (.iconst 0, 1) := by decide +kernel
theorem dX9_negativeParent_14 : decode cX9_negativeParent 14 = .ok (.goto 13, 3) := by decide +kernel
theorem dX9_negativeParent_17 : decode cX9_negativeParent 17 = .ok (.aload_n 0, 1) := by decide +kernel
theorem dX9_negativeParent_18 : decode cX9_negativeParent 18 = .ok (.getfield 9, 3) := by decide +kernel
theorem dX9_negativeParent_21 : decode cX9_negativeParent 21 = .ok (.sipush 795, 3) := by decide +kernel
theorem dX9_negativeParent_24 : decode cX9_negativeParent 24 = .ok (.iload_n 1, 1) := by decide +kernel
theorem dX9_negativeParent_25 : decode cX9_negativeParent 25 = .ok (.iadd, 1) := by decide +kernel
theorem dX9_negativeParent_26 : decode cX9_negativeParent 26 = .ok (.iaload, 1) := by decide +kernel
theorem dX9_negativeParent_27 : decode cX9_negativeParent 27 = .ok (.ireturn, 1) := by decide +kernel
set_option maxRecDepth 20000 in
theorem ggX9_variableOf_X9_noClause : GoodIn wsX9_variableOf wsX9_noClause := goodIn_r _ [7, 8, 9, 10, 6, 11, 2, 12, 13, 14, 15, 16, 17, 18, 1, 19, 20, 21, 22, 23, 24, 25, 26, 27, 28, 29, 30, 31, 32, 33, 34, 35, 36, 37, 38, 39, 40, 41, 42, 43, 44, 45] rfl (by decide +kernel)
set_option maxRecDepth 20000 in
theorem gX9_variableOf_X9_noClause : GoodIn wsX9_variableOf (wsV RX9 345 RX9 yX9_noClause wsX9_noClause) := goodIn_app (goodIn_r _ [3, 4, 5, 6] rfl (by decide +kernel)) ggX9_variableOf_X9_noClause
theorem dX9_variableOf_0 : decode cX9_variableOf 0 = .ok (.aload_n 0, 1) := by decide +kernel
theorem dX9_variableOf_1 : decode cX9_variableOf 1 = .ok (.iconst 0, 1) := by decide +kernel
theorem dX9_variableOf_2 : decode cX9_variableOf 2 = .ok (.putfield 46, 3) := by decide +kernel
theorem dX9_variableOf_5 : decode cX9_variableOf 5 = .ok (.aload_n 0, 1) := by decide +kernel
theorem dX9_variableOf_6 : decode cX9_variableOf 6 = .ok (.iload_n 1, 1) := by decide +kernel
theorem dX9_variableOf_7 : decode cX9_variableOf 7 = .ok (.invokevirtual 345, 3) := by decide +kernel
theorem dX9_variableOf_10 : decode cX9_variableOf 10 = .ok (.ifCond .eq 7, 3) := by decide +kernel
theorem dX9_variableOf_13 : decode cX9_variableOf 13 = .ok (.iconst 0, 1) := by decide +kernel
theorem dX9_variableOf_14 : decode cX9_variableOf 14 = .ok (.goto 13, 3) := by decide +kernel
theorem dX9_variableOf_17 : decode cX9_variableOf 17 = .ok (.aload_n 0, 1) := by decide +kernel
theorem dX9_variableOf_18 : decode cX9_variableOf 18 = .ok (.getfield 9, 3) := by decide +kernel
theorem dX9_variableOf_21 : decode cX9_variableOf 21 = .ok (.sipush 856, 3) := by decide +kernel
theorem dX9_variableOf_24 : decode cX9_variableOf 24 = .ok (.iload_n 1, 1) := by decide +kernel
theorem dX9_variableOf_25 : decode cX9_variableOf 25 = .ok (.iadd, 1) := by decide +kernel
theorem dX9_variableOf_26 : decode cX9_variableOf 26 = .ok (.iaload, 1) := by decide +kernel
theorem dX9_variableOf_27 : decode cX9_variableOf 27 = .ok (.ireturn, 1) := by decide +kernel
set_option maxRecDepth 20000 in
theorem ggX9_depthOf_X9_noClause : GoodIn wsX9_depthOf wsX9_noClause := goodIn_r _ [6, 7, 8, 9, 5, 10, 11, 12, 13, 14, 15, 16, 17, 18, 1, 32, 33, 34, 35, 36, 37, 38, 39, 40, 41, 42, 43, 44, 45, 46, 47, 48, 49, 50, 51, 52, 53, 54, 55, 56, 57, 58] rfl (by decide +kernel)
set_option maxRecDepth 20000 in
theorem gX9_depthOf_X9_noClause : GoodIn wsX9_depthOf (wsV RX9 345 RX9 yX9_noClause wsX9_noClause) := goodIn_app (goodIn_r _ [2, 3, 4, 5] rfl (by decide +kernel)) ggX9_depthOf_X9_noClause
set_option maxRecDepth 20000 in
theorem ggX9_depthOf_X9_depthAt : GoodIn wsX9_depthOf wsX9_depthAt := goodIn_r _ [22, 23, 24, 25, 26, 5, 27, 11, 28, 29, 30, 31, 32, 33, 34, 35, 36, 37, 38, 39, 40, 41, 42, 43, 44, 45, 46, 47, 48, 49, 50, 51, 52, 53, 54, 55, 56, 57, 58] rfl (by decide +kernel)
set_option maxRecDepth 20000 in
theorem gX9_depthOf_X9_depthAt : GoodIn wsX9_depthOf (wsV RX9 273 RX9 yX9_depthAt wsX9_depthAt) := goodIn_app (goodIn_r _ [19, 20, 21, 5] rfl (by decide +kernel)) ggX9_depthOf_X9_depthAt
theorem dX9_depthOf_0 : decode cX9_depthOf 0 = .ok (.aload_n 0, 1) := by decide +kernel
theorem dX9_depthOf_1 : decode cX9_depthOf 1 = .ok (.iconst 0, 1) := by decide +kernel
theorem dX9_depthOf_2 : decode cX9_depthOf 2 = .ok (.putfield 46, 3) := by decide +kernel
theorem dX9_depthOf_5 : decode cX9_depthOf 5 = .ok (.aload_n 0, 1) := by decide +kernel
theorem dX9_depthOf_6 : decode cX9_depthOf 6 = .ok (.iload_n 1, 1) := by decide +kernel
theorem dX9_depthOf_7 : decode cX9_depthOf 7 = .ok (.invokevirtual 345, 3) := by decide +kernel
theorem dX9_depthOf_10 : decode cX9_depthOf 10 = .ok (.ifCond .eq 7, 3) := by decide +kernel
theorem dX9_depthOf_13 : decode cX9_depthOf 13 = .ok (.iconst 0, 1) := by decide +kernel
theorem dX9_depthOf_14 : decode cX9_depthOf 14 = .ok (.goto 8, 3) := by decide +kernel
theorem dX9_depthOf_17 : decode cX9_depthOf 17 = .ok (.aload_n 0, 1) := by decide +kernel
theorem dX9_depthOf_18 : decode cX9_depthOf 18 = .ok (.iload_n 1, 1) := by decide +kernel
theorem dX9_depthOf_19 : decode cX9_depthOf 19 = .ok (.invokevirtual 273, 3) := by decide +kernel
theorem dX9_depthOf_22 : decode cX9_depthOf 22 = .ok (.ireturn, 1) := by decide +kernel
set_option maxRecDepth 20000 in
theorem ggX9_deepestClause_X9_many : GoodIn wsX9_deepestClause wsX9_many := goodIn_r _ [6, 7, 21, 22, 23, 24, 25, 26, 27, 28, 29, 30, 31, 32, 33, 34, 35, 36, 37, 38, 39, 40, 41, 42, 43, 44, 45, 46, 47] rfl (by decide +kernel)
set_option maxRecDepth 20000 in
theorem gX9_deepestClause_X9_many : GoodIn wsX9_deepestClause (wsV RX9 56 RX9 yX9_many wsX9_many) := goodIn_app (goodIn_r _ [2, 3, 4, 5] rfl (by decide +kernel)) ggX9_deepestClause_X9_many
set_option maxRecDepth 20000 in
theorem ggX9_deepestClause_X9_depthAt : GoodIn wsX9_deepestClause wsX9_depthAt := goodIn_r _ [11, 12, 13, 14, 15, 5, 16, 7, 17, 18, 19, 20, 21, 22, 23, 24, 25, 26, 27, 28, 29, 30, 31, 32, 33, 34, 35, 36, 37, 38, 39, 40, 41, 42, 43, 44, 45, 46, 47] rfl (by decide +kernel)
set_option maxRecDepth 20000 in
theorem gX9_deepestClause_X9_depthAt : GoodIn wsX9_deepestClause (wsV RX9 273 RX9 yX9_depthAt wsX9_depthAt) := goodIn_app (goodIn_r _ [8, 9, 10, 5] rfl (by decide +kernel)) ggX9_deepestClause_X9_depthAt
theorem dX9_deepestClause_0 : decode cX9_deepestClause 0 = .ok (.aload_n 0, 1) := by decide +kernel
theorem dX9_deepestClause_1 : decode cX9_deepestClause 1 = .ok (.iconst 0, 1) := by decide +kernel
theorem dX9_deepestClause_2 : decode cX9_deepestClause 2 = .ok (.putfield 46, 3) := by decide +kernel
theorem dX9_deepestClause_5 : decode cX9_deepestClause 5 = .ok (.iconst (-1), 1) := by decide +kernel
theorem dX9_deepestClause_6 : decode cX9_deepestClause 6 = .ok (.istore_n 1, 1) := by decide +kernel
theorem dX9_deepestClause_7 : decode cX9_deepestClause 7 = .ok (.iconst (-1), 1) := by decide +kernel
theorem dX9_deepestClause_8 : decode cX9_deepestClause 8 = .ok (.istore_n 2, 1) := by decide +kernel
theorem dX9_deepestClause_9 : decode cX9_deepestClause 9 = .ok (.iconst 0, 1) := by decide +kernel
theorem dX9_deepestClause_10 : decode cX9_deepestClause 10 = .ok (.istore_n 3, 1) := by decide +kernel
theorem dX9_deepestClause_11 : decode cX9_deepestClause 11 = .ok (.iload_n 3, 1) := by decide +kernel
theorem dX9_deepestClause_12 : decode cX9_deepestClause 12 = .ok (.aload_n 0, 1) := by decide +kernel
theorem dX9_deepestClause_13 : decode cX9_deepestClause 13 = .ok (.invokevirtual 56, 3) := by decide +kernel
theorem dX9_deepestClause_16 : decode cX9_deepestClause 16 = .ok (.if_icmp .ge 26, 3) := by decide +kernel
theorem dX9_deepestClause_19 : decode cX9_deepestClause 19 = .ok (.aload_n 0, 1) := by decide +kernel
theorem dX9_deepestClause_20 : decode cX9_deepestClause 20 = .ok (.iload_n 3, 1) := by decide +kernel
theorem dX9_deepestClause_21 : decode cX9_deepestClause 21 = .ok (.invokevirtual 273, 3) := by decide +kernel
theorem dX9_deepestClause_24 : decode cX9_deepestClause 24 = .ok (.iload_n 2, 1) := by decide +kernel
theorem dX9_deepestClause_25 : decode cX9_deepestClause 25 = .ok (.if_icmp .le 11, 3) := by decide +kernel
theorem dX9_deepestClause_28 : decode cX9_deepestClause 28 = .ok (.iload_n 3, 1) := by decide +kernel
theorem dX9_deepestClause_29 : decode cX9_deepestClause 29 = .ok (.istore_n 1, 1) := by decide +kernel
theorem dX9_deepestClause_30 : decode cX9_deepestClause 30 = .ok (.aload_n 0, 1) := by decide +kernel
theorem dX9_deepestClause_31 : decode cX9_deepestClause 31 = .ok (.iload_n 3, 1) := by decide +kernel
theorem dX9_deepestClause_32 : decode cX9_deepestClause 32 = .ok (.invokevirtual 273, 3) := by decide +kernel
theorem dX9_deepestClause_35 : decode cX9_deepestClause 35 = .ok (.istore_n 2, 1) := by decide +kernel
theorem dX9_deepestClause_36 : decode cX9_deepestClause 36 = .ok (.iinc 3 1, 3) := by decide +kernel
theorem dX9_deepestClause_39 : decode cX9_deepestClause 39 = .ok (.goto (-28), 3) := by decide +kernel
theorem dX9_deepestClause_42 : decode cX9_deepestClause 42 = .ok (.iload_n 1, 1) := by decide +kernel
theorem dX9_deepestClause_43 : decode cX9_deepestClause 43 = .ok (.ireturn, 1) := by decide +kernel
set_option maxRecDepth 20000 in
theorem ggX9_derivationSize_X9_noClause : GoodIn wsX9_derivationSize wsX9_noClause := goodIn_r _ [7, 8, 9, 10, 6, 11, 12, 13, 14, 15, 16, 17, 18, 19, 1, 24, 25, 26, 27, 28, 29, 30, 31, 32, 33, 34, 35, 36, 37, 38, 39, 40, 41, 42, 43, 44, 45, 46, 47, 48, 49, 50] rfl (by decide +kernel)
set_option maxRecDepth 20000 in
theorem gX9_derivationSize_X9_noClause : GoodIn wsX9_derivationSize (wsV RX9 345 RX9 yX9_noClause wsX9_noClause) := goodIn_app (goodIn_r _ [3, 4, 5, 6] rfl (by decide +kernel)) ggX9_derivationSize_X9_noClause
set_option maxRecDepth 20000 in
theorem ggX9_derivationSize_X9_derives : GoodIn wsX9_derivationSize wsX9_derives := goodIn_r _ [23, 2, 12, 24, 25, 26, 27, 28, 29, 30, 31, 32, 33, 34, 35, 36, 37, 38, 39, 40, 41, 42, 43, 44, 45, 46, 47, 48, 49, 50] rfl (by decide +kernel)
set_option maxRecDepth 20000 in
theorem gX9_derivationSize_X9_derives : GoodIn wsX9_derivationSize (wsV RX9 357 RX9 yX9_derives wsX9_derives) := goodIn_app (goodIn_r _ [20, 21, 22, 6] rfl (by decide +kernel)) ggX9_derivationSize_X9_derives
theorem dX9_derivationSize_0 : decode cX9_derivationSize 0 = .ok (.aload_n 0, 1) := by decide +kernel
theorem dX9_derivationSize_1 : decode cX9_derivationSize 1 = .ok (.iconst 0, 1) := by decide +kernel
theorem dX9_derivationSize_2 : decode cX9_derivationSize 2 = .ok (.putfield 46, 3) := by decide +kernel
theorem dX9_derivationSize_5 : decode cX9_derivationSize 5 = .ok (.aload_n 0, 1) := by decide +kernel
theorem dX9_derivationSize_6 : decode cX9_derivationSize 6 = .ok (.iload_n 1, 1) := by decide +kernel
theorem dX9_derivationSize_7 : decode cX9_derivationSize 7 = .ok (.invokevirtual 345, 3) := by decide +kernel
theorem dX9_derivationSize_10 : decode cX9_derivationSize 10 = .ok (.ifCond .eq 5, 3) := by decide +kernel
theorem dX9_derivationSize_13 : decode cX9_derivationSize 13 = .ok (.iconst 0, 1) := by decide +kernel
theorem dX9_derivationSize_14 : decode cX9_derivationSize 14 = .ok (.ireturn, 1) := by decide +kernel
theorem dX9_derivationSize_15 : decode cX9_derivationSize 15 = .ok (.aload_n 0, 1) := by decide +kernel
theorem dX9_derivationSize_16 : decode cX9_derivationSize 16 = .ok (.iload_n 1, 1) := by decide +kernel
theorem dX9_derivationSize_17 : decode cX9_derivationSize 17 = .ok (.invokevirtual 357, 3) := by decide +kernel
theorem dX9_derivationSize_20 : decode cX9_derivationSize 20 = .ok (.iconst 0, 1) := by decide +kernel
theorem dX9_derivationSize_21 : decode cX9_derivationSize 21 = .ok (.istore_n 2, 1) := by decide +kernel
theorem dX9_derivationSize_22 : decode cX9_derivationSize 22 = .ok (.iconst 0, 1) := by decide +kernel
theorem dX9_derivationSize_23 : decode cX9_derivationSize 23 = .ok (.istore_n 3, 1) := by decide +kernel
theorem dX9_derivationSize_24 : decode cX9_derivationSize 24 = .ok (.iload_n 3, 1) := by decide +kernel
theorem dX9_derivationSize_25 : decode cX9_derivationSize 25 = .ok (.bipush 60, 2) := by decide +kernel
theorem dX9_derivationSize_27 : decode cX9_derivationSize 27 = .ok (.if_icmp .ge 26, 3) := by decide +kernel
theorem dX9_derivationSize_30 : decode cX9_derivationSize 30 = .ok (.iload_n 2, 1) := by decide +kernel
theorem dX9_derivationSize_31 : decode cX9_derivationSize 31 = .ok (.aload_n 0, 1) := by decide +kernel
theorem dX9_derivationSize_32 : decode cX9_derivationSize 32 = .ok (.getfield 32, 3) := by decide +kernel
theorem dX9_derivationSize_35 : decode cX9_derivationSize 35 = .ok (.iload_n 3, 1) := by decide +kernel
theorem dX9_derivationSize_36 : decode cX9_derivationSize 36 = .ok (.baload, 1) := by decide +kernel
theorem dX9_derivationSize_37 : decode cX9_derivationSize 37 = .ok (.ifCond .eq 7, 3) := by decide +kernel
theorem dX9_derivationSize_40 : decode cX9_derivationSize 40 = .ok (.iconst 1, 1) := by decide +kernel
theorem dX9_derivationSize_41 : decode cX9_derivationSize 41 = .ok (.goto 4, 3) := by decide +kernel
theorem dX9_derivationSize_44 : decode cX9_derivationSize 44 = .ok (.iconst 0, 1) := by decide +kernel
theorem dX9_derivationSize_45 : decode cX9_derivationSize 45 = .ok (.iadd, 1) := by decide +kernel
theorem dX9_derivationSize_46 : decode cX9_derivationSize 46 = .ok (.istore_n 2, 1) := by decide +kernel
theorem dX9_derivationSize_47 : decode cX9_derivationSize 47 = .ok (.iinc 3 1, 3) := by decide +kernel
theorem dX9_derivationSize_50 : decode cX9_derivationSize 50 = .ok (.goto (-26), 3) := by decide +kernel
theorem dX9_derivationSize_53 : decode cX9_derivationSize 53 = .ok (.iload_n 2, 1) := by decide +kernel
theorem dX9_derivationSize_54 : decode cX9_derivationSize 54 = .ok (.ireturn, 1) := by decide +kernel
set_option maxRecDepth 20000 in
theorem ggX9_premises_X9_noClause : GoodIn wsX9_premises wsX9_noClause := goodIn_r _ [8, 9, 10, 11, 7, 12, 3, 13, 14, 15, 16, 17, 18, 19, 1, 24, 25, 26, 27, 28, 29, 30, 31, 32, 33, 34, 35, 36, 37, 38, 39, 40, 41, 42, 43, 44, 45, 46, 47, 48, 49, 50] rfl (by decide +kernel)
set_option maxRecDepth 20000 in
theorem gX9_premises_X9_noClause : GoodIn wsX9_premises (wsV RX9 345 RX9 yX9_noClause wsX9_noClause) := goodIn_app (goodIn_r _ [4, 5, 6, 7] rfl (by decide +kernel)) ggX9_premises_X9_noClause
set_option maxRecDepth 20000 in
theorem ggX9_premises_X9_derives : GoodIn wsX9_premises wsX9_derives := goodIn_r _ [23, 2, 3, 24, 25, 26, 27, 28, 29, 30, 31, 32, 33, 34, 35, 36, 37, 38, 39, 40, 41, 42, 43, 44, 45, 46, 47, 48, 49, 50] rfl (by decide +kernel)
set_option maxRecDepth 20000 in
theorem gX9_premises_X9_derives : GoodIn wsX9_premises (wsV RX9 357 RX9 yX9_derives wsX9_derives) := goodIn_app (goodIn_r _ [20, 21, 22, 7] rfl (by decide +kernel)) ggX9_premises_X9_derives
set_option maxRecDepth 20000 in
theorem ggX9_premises_X9_many : GoodIn wsX9_premises wsX9_many := goodIn_r _ [12, 3, 24, 25, 26, 27, 28, 29, 30, 31, 32, 33, 34, 35, 36, 37, 38, 39, 40, 41, 42, 43, 44, 45, 46, 47, 48, 49, 50] rfl (by decide +kernel)
set_option maxRecDepth 20000 in
theorem gX9_premises_X9_many : GoodIn wsX9_premises (wsV RX9 56 RX9 yX9_many wsX9_many) := goodIn_app (goodIn_r _ [9, 10, 11, 7] rfl (by decide +kernel)) ggX9_premises_X9_many
theorem dX9_premises_0 : decode cX9_premises 0 = .ok (.aload_n 0, 1) := by decide +kernel
theorem dX9_premises_1 : decode cX9_premises 1 = .ok (.iconst 0, 1) := by decide +kernel
theorem dX9_premises_2 : decode cX9_premises 2 = .ok (.putfield 46, 3) := by decide +kernel
theorem dX9_premises_5 : decode cX9_premises 5 = .ok (.aload_n 0, 1) := by decide +kernel
theorem dX9_premises_6 : decode cX9_premises 6 = .ok (.iload_n 1, 1) := by decide +kernel
theorem dX9_premises_7 : decode cX9_premises 7 = .ok (.invokevirtual 345, 3) := by decide +kernel
theorem dX9_premises_10 : decode cX9_premises 10 = .ok (.ifCond .eq 5, 3) := by decide +kernel
theorem dX9_premises_13 : decode cX9_premises 13 = .ok (.lconst 0, 1) := by decide +kernel
theorem dX9_premises_14 : decode cX9_premises 14 = .ok (.lreturn, 1) := by decide +kernel
theorem dX9_premises_15 : decode cX9_premises 15 = .ok (.aload_n 0, 1) := by decide +kernel
theorem dX9_premises_16 : decode cX9_premises 16 = .ok (.iload_n 1, 1) := by decide +kernel
theorem dX9_premises_17 : decode cX9_premises 17 = .ok (.invokevirtual 357, 3) := by decide +kernel
theorem dX9_premises_20 : decode cX9_premises 20 = .ok (.lconst 0, 1) := by decide +kernel
theorem dX9_premises_21 : decode cX9_premises 21 = .ok (.lstore_n 2, 1) := by decide +kernel
theorem dX9_premises_22 : decode cX9_premises 22 = .ok (.iconst 0, 1) := by decide +kernel
theorem dX9_premises_23 : decode cX9_premises 23 = .ok (.istore 4, 2) := by decide +kernel
theorem dX9_premises_25 : decode cX9_premises 25 = .ok (.iload 4, 2) := by decide +kernel
theorem dX9_premises_27 : decode cX9_premises 27 = .ok (.aload_n 0, 1) := by decide +kernel
theorem dX9_premises_28 : decode cX9_premises 28 = .ok (.invokevirtual 56, 3) := by decide +kernel
theorem dX9_premises_31 : decode cX9_premises 31 = .ok (.if_icmp .ge 45, 3) := by decide +kernel
theorem dX9_premises_34 : decode cX9_premises 34 = .ok (.lload_n 2, 1) := by decide +kernel
theorem dX9_premises_35 : decode cX9_premises 35 = .ok (.aload_n 0, 1) := by decide +kernel
theorem dX9_premises_36 : decode cX9_premises 36 = .ok (.getfield 32, 3) := by decide +kernel
theorem dX9_premises_39 : decode cX9_premises 39 = .ok (.iload 4, 2) := by decide +kernel
theorem dX9_premises_41 : decode cX9_premises 41 = .ok (.baload, 1) := by decide +kernel
theorem dX9_premises_42 : decode cX9_premises 42 = .ok (.ifCond .eq 25, 3) := by decide +kernel
theorem dX9_premises_45 : decode cX9_premises 45 = .ok (.aload_n 0, 1) := by decide +kernel
theorem dX9_premises_46 : decode cX9_premises 46 = .ok (.getfield 9, 3) := by decide +kernel
theorem dX9_premises_49 : decode cX9_premises 49 = .ok (.sipush 856, 3) := by decide +kernel
theorem dX9_premises_52 : decode cX9_premises 52 = .ok (.iload 4, 2) := by decide +kernel
theorem dX9_premises_54 : decode cX9_premises 54 = .ok (.iadd, 1) := by decide +kernel
theorem dX9_premises_55 : decode cX9_premises 55 = .ok (.iaload, 1) := by decide +kernel
theorem dX9_premises_56 : decode cX9_premises 56 = .ok (.iconst (-1), 1) := by decide +kernel
theorem dX9_premises_57 : decode cX9_premises 57 = .ok (.if_icmp .ne 10, 3) := by decide +kernel
theorem dX9_premises_60 : decode cX9_premises 60 = .ok (.lconst 1, 1) := by decide +kernel
theorem dX9_premises_61 : decode cX9_premises 61 = .ok (.iload 4, 2) := by decide +kernel
theorem dX9_premises_63 : decode cX9_premises 63 = .ok (.lshl, 1) := by decide +kernel
theorem dX9_premises_64 : decode cX9_premises 64 = .ok (.goto 4, 3) := by decide +kernel
theorem dX9_premises_67 : decode cX9_premises 67 = .ok (.lconst 0, 1) := by decide +kernel
theorem dX9_premises_68 : decode cX9_premises 68 = .ok (.lor, 1) := by decide +kernel
theorem dX9_premises_69 : decode cX9_premises 69 = .ok (.lstore_n 2, 1) := by decide +kernel
theorem dX9_premises_70 : decode cX9_premises 70 = .ok (.iinc 4 1, 3) := by decide +kernel
theorem dX9_premises_73 : decode cX9_premises 73 = .ok (.goto (-48), 3) := by decide +kernel
theorem dX9_premises_76 : decode cX9_premises 76 = .ok (.lload_n 2, 1) := by decide +kernel
theorem dX9_premises_77 : decode cX9_premises 77 = .ok (.lreturn, 1) := by decide +kernel
set_option maxRecDepth 20000 in
theorem ggX9_emptyClause_X9_empty : GoodIn wsX9_emptyClause wsX9_empty := goodIn_r _ [6, 7, 8, 9, 5, 10, 11, 12, 13, 14, 15, 16, 17, 18, 19, 20, 21, 22, 23, 24, 25, 26, 27, 28, 29, 30, 31, 32, 33, 34, 35, 36, 37, 38, 39, 40, 41, 42, 43, 44, 45, 46, 47, 48, 49, 50] rfl (by decide +kernel)
set_option maxRecDepth 20000 in
theorem gX9_emptyClause_X9_empty : GoodIn wsX9_emptyClause (wsV RX9 96 RX9 yX9_empty wsX9_empty) := goodIn_app (goodIn_r _ [2, 3, 4, 5] rfl (by decide +kernel)) ggX9_emptyClause_X9_empty
theorem dX9_emptyClause_0 : decode cX9_emptyClause 0 = .ok (.aload_n 0, 1) := by decide +kernel
theorem dX9_emptyClause_1 : decode cX9_emptyClause 1 = .ok (.iconst 0, 1) := by decide +kernel
theorem dX9_emptyClause_2 : decode cX9_emptyClause 2 = .ok (.putfield 46, 3) := by decide +kernel
theorem dX9_emptyClause_5 : decode cX9_emptyClause 5 = .ok (.aload_n 0, 1) := by decide +kernel
theorem dX9_emptyClause_6 : decode cX9_emptyClause 6 = .ok (.invokevirtual 96, 3) := by decide +kernel
theorem dX9_emptyClause_9 : decode cX9_emptyClause 9 = .ok (.ireturn, 1) := by decide +kernel
set_option maxRecDepth 20000 in
theorem ggX9_clausesOfSize_X9_many : GoodIn wsX9_clausesOfSize wsX9_many := goodIn_r _ [6, 7, 20, 21, 22, 23, 24, 25, 26, 27, 28, 29, 30, 31, 32, 33, 34, 35, 36, 37, 38, 39, 40, 41, 42, 43, 44, 45, 46] rfl (by decide +kernel)
set_option maxRecDepth 20000 in
theorem gX9_clausesOfSize_X9_many : GoodIn wsX9_clausesOfSize (wsV RX9 56 RX9 yX9_many wsX9_many) := goodIn_app (goodIn_r _ [2, 3, 4, 5] rfl (by decide +kernel)) ggX9_clausesOfSize_X9_many
set_option maxRecDepth 20000 in
theorem ggX9_clausesOfSize_X9_literals : GoodIn wsX9_clausesOfSize wsX9_literals := goodIn_r _ [11, 12, 13, 14, 5, 15, 7, 16, 17, 18, 19, 20, 21, 22, 23, 24, 25, 26, 27, 28, 29, 30, 31, 32, 33, 34, 35, 36, 37, 38, 39, 40, 41, 42, 43, 44, 45, 46] rfl (by decide +kernel)
set_option maxRecDepth 20000 in
theorem gX9_clausesOfSize_X9_literals : GoodIn wsX9_clausesOfSize (wsV RX9 86 RX9 yX9_literals wsX9_literals) := goodIn_app (goodIn_r _ [8, 9, 10, 5] rfl (by decide +kernel)) ggX9_clausesOfSize_X9_literals
theorem dX9_clausesOfSize_0 : decode cX9_clausesOfSize 0 = .ok (.aload_n 0, 1) := by decide +kernel
theorem dX9_clausesOfSize_1 : decode cX9_clausesOfSize 1 = .ok (.iconst 0, 1) := by decide +kernel
theorem dX9_clausesOfSize_2 : decode cX9_clausesOfSize 2 = .ok (.putfield 46, 3) := by decide +kernel
theorem dX9_clausesOfSize_5 : decode cX9_clausesOfSize 5 = .ok (.iconst 0, 1) := by decide +kernel
theorem dX9_clausesOfSize_6 : decode cX9_clausesOfSize 6 = .ok (.istore_n 2, 1) := by decide +kernel
theorem dX9_clausesOfSize_7 : decode cX9_clausesOfSize 7 = .ok (.iconst 0, 1) := by decide +kernel
theorem dX9_clausesOfSize_8 : decode cX9_clausesOfSize 8 = .ok (.istore_n 3, 1) := by decide +kernel
theorem dX9_clausesOfSize_9 : decode cX9_clausesOfSize 9 = .ok (.iload_n 3, 1) := by decide +kernel
theorem dX9_clausesOfSize_10 : decode cX9_clausesOfSize 10 = .ok (.aload_n 0, 1) := by decide +kernel
theorem dX9_clausesOfSize_11 : decode cX9_clausesOfSize 11 = .ok (.invokevirtual 56, 3) := by decide +kernel
theorem dX9_clausesOfSize_14 : decode cX9_clausesOfSize 14 = .ok (.if_icmp .ge 26, 3) := by decide +kernel
theorem dX9_clausesOfSize_17 : decode cX9_clausesOfSize 17 = .ok (.iload_n 2, 1) := by decide +kernel
theorem dX9_clausesOfSize_18 : decode cX9_clausesOfSize 18 = .ok (.aload_n 0, 1) := by decide +kernel
theorem dX9_clausesOfSize_19 : decode cX9_clausesOfSize 19 = .ok (.iload_n 3, 1) := by decide +kernel
theorem dX9_clausesOfSize_20 : decode cX9_clausesOfSize 20 = .ok (.invokevirtual 86, 3) := by decide +kernel
theorem dX9_clausesOfSize_23 : decode cX9_clausesOfSize 23 = .ok (.iload_n 1, 1) := by decide +kernel
theorem dX9_clausesOfSize_24 : decode cX9_clausesOfSize 24 = .ok (.if_icmp .ne 7, 3) := by decide +kernel
theorem dX9_clausesOfSize_27 : decode cX9_clausesOfSize 27 = .ok (.iconst 1, 1) := by decide +kernel
theorem dX9_clausesOfSize_28 : decode cX9_clausesOfSize 28 = .ok (.goto 4, 3) := by decide +kernel
theorem dX9_clausesOfSize_31 : decode cX9_clausesOfSize 31 = .ok (.iconst 0, 1) := by decide +kernel
theorem dX9_clausesOfSize_32 : decode cX9_clausesOfSize 32 = .ok (.iadd, 1) := by decide +kernel
theorem dX9_clausesOfSize_33 : decode cX9_clausesOfSize 33 = .ok (.istore_n 2, 1) := by decide +kernel
theorem dX9_clausesOfSize_34 : decode cX9_clausesOfSize 34 = .ok (.iinc 3 1, 3) := by decide +kernel
theorem dX9_clausesOfSize_37 : decode cX9_clausesOfSize 37 = .ok (.goto (-28), 3) := by decide +kernel
theorem dX9_clausesOfSize_40 : decode cX9_clausesOfSize 40 = .ok (.iload_n 2, 1) := by decide +kernel
theorem dX9_clausesOfSize_41 : decode cX9_clausesOfSize 41 = .ok (.ireturn, 1) := by decide +kernel
set_option maxRecDepth 20000 in
theorem ggX9_hornClauses_X9_many : GoodIn wsX9_hornClauses wsX9_many := goodIn_r _ [6, 7, 27, 28, 29, 30, 31, 32, 33, 34, 35, 36, 37, 38, 39, 40, 41, 42, 43, 44, 45, 46, 47, 48, 49, 50, 51, 52, 53] rfl (by decide +kernel)
set_option maxRecDepth 20000 in
theorem gX9_hornClauses_X9_many : GoodIn wsX9_hornClauses (wsV RX9 56 RX9 yX9_many wsX9_many) := goodIn_app (goodIn_r _ [2, 3, 4, 5] rfl (by decide +kernel)) ggX9_hornClauses_X9_many
set_option maxRecDepth 20000 in
theorem ggX9_hornClauses_X9_mask : GoodIn wsX9_hornClauses wsX9_mask := goodIn_r _ [11, 12, 13, 14, 5, 15, 7, 16, 17, 18, 19, 27, 28, 29, 30, 31, 32, 33, 34, 35, 36, 37, 38, 39, 40, 41, 42, 43, 44, 45, 46, 47, 48, 49, 50, 51, 52, 53] rfl (by decide +kernel)
set_option maxRecDepth 20000 in
theorem gX9_hornClauses_X9_mask : GoodIn wsX9_hornClauses (wsV RX9 351 RX9 yX9_mask wsX9_mask) := goodIn_app (goodIn_r _ [8, 9, 10, 5] rfl (by decide +kernel)) ggX9_hornClauses_X9_mask
set_option maxRecDepth 20000 in
theorem ggX9_hornClauses_J6_bitCount_0f7a4 : GoodIn wsX9_hornClauses wsJ6_bitCount_0f7a4 := goodIn_r _ [23, 24, 25, 26] rfl (by decide +kernel)
set_option maxRecDepth 20000 in
theorem gX9_hornClauses_J6_bitCount_0f7a4 : GoodIn wsX9_hornClauses (va_wsS RX9 360 yJ6_bitCount_0f7a4 wsJ6_bitCount_0f7a4) := goodIn_app (goodIn_r _ [20, 21, 22] rfl (by decide +kernel)) ggX9_hornClauses_J6_bitCount_0f7a4
theorem dX9_hornClauses_0 : decode cX9_hornClauses 0 = .ok (.aload_n 0, 1) := by decide +kernel
theorem dX9_hornClauses_1 : decode cX9_hornClauses 1 = .ok (.iconst 0, 1) := by decide +kernel
theorem dX9_hornClauses_2 : decode cX9_hornClauses 2 = .ok (.putfield 46, 3) := by decide +kernel
theorem dX9_hornClauses_5 : decode cX9_hornClauses 5 = .ok (.iconst 0, 1) := by decide +kernel
theorem dX9_hornClauses_6 : decode cX9_hornClauses 6 = .ok (.istore_n 1, 1) := by decide +kernel
theorem dX9_hornClauses_7 : decode cX9_hornClauses 7 = .ok (.iconst 0, 1) := by decide +kernel
theorem dX9_hornClauses_8 : decode cX9_hornClauses 8 = .ok (.istore_n 2, 1) := by decide +kernel
theorem dX9_hornClauses_9 : decode cX9_hornClauses 9 = .ok (.iload_n 2, 1) := by decide +kernel
theorem dX9_hornClauses_10 : decode cX9_hornClauses 10 = .ok (.aload_n 0, 1) := by decide +kernel
theorem dX9_hornClauses_11 : decode cX9_hornClauses 11 = .ok (.invokevirtual 56, 3) := by decide +kernel
theorem dX9_hornClauses_14 : decode cX9_hornClauses 14 = .ok (.if_icmp .ge 30, 3) := by decide +kernel
theorem dX9_hornClauses_17 : decode cX9_hornClauses 17 = .ok (.iload_n 1, 1) := by decide +kernel
theorem dX9_hornClauses_18 : decode cX9_hornClauses 18 = .ok (.aload_n 0, 1) := by decide +kernel
theorem dX9_hornClauses_19 : decode cX9_hornClauses 19 = .ok (.iload_n 2, 1) := by decide +kernel
theorem dX9_hornClauses_20 : decode cX9_hornClauses 20 = .ok (.iconst 1, 1) := by decide +kernel
theorem dX9_hornClauses_21 : decode cX9_hornClauses 21 = .ok (.invokevirtual 351, 3) := by decide +kernel
theorem dX9_hornClauses_24 : decode cX9_hornClauses 24 = .ok (.invokestatic 360, 3) := by decide +kernel
theorem dX9_hornClauses_27 : decode cX9_hornClauses 27 = .ok (.iconst 1, 1) := by decide +kernel
theorem dX9_hornClauses_28 : decode cX9_hornClauses 28 = .ok (.if_icmp .gt 7, 3) := by decide +kernel
theorem dX9_hornClauses_31 : decode cX9_hornClauses 31 = .ok (.iconst 1, 1) := by decide +kernel
theorem dX9_hornClauses_32 : decode cX9_hornClauses 32 = .ok (.goto 4, 3) := by decide +kernel
theorem dX9_hornClauses_35 : decode cX9_hornClauses 35 = .ok (.iconst 0, 1) := by decide +kernel
theorem dX9_hornClauses_36 : decode cX9_hornClauses 36 = .ok (.iadd, 1) := by decide +kernel
theorem dX9_hornClauses_37 : decode cX9_hornClauses 37 = .ok (.istore_n 1, 1) := by decide +kernel
theorem dX9_hornClauses_38 : decode cX9_hornClauses 38 = .ok (.iinc 2 1, 3) := by decide +kernel
theorem dX9_hornClauses_41 : decode cX9_hornClauses 41 = .ok (.goto (-32), 3) := by decide +kernel
theorem dX9_hornClauses_44 : decode cX9_hornClauses 44 = .ok (.iload_n 1, 1) := by decide +kernel
theorem dX9_hornClauses_45 : decode cX9_hornClauses 45 = .ok (.ireturn, 1) := by decide +kernel
set_option maxRecDepth 20000 in
theorem ggX9_often_X9_many : GoodIn wsX9_often wsX9_many := goodIn_r _ [5, 6, 11, 12, 13, 14, 15, 16, 17, 18, 19, 20, 21, 22, 23, 24, 25, 26, 27, 28, 29, 30, 31, 32, 33, 34, 35, 36, 37] rfl (by decide +kernel)
set_option maxRecDepth 20000 in
theorem gX9_often_X9_many : GoodIn wsX9_often (wsV RX9 56 RX9 yX9_many wsX9_many) := goodIn_app (goodIn_r _ [1, 2, 3, 4] rfl (by decide +kernel)) ggX9_often_X9_many
set_option maxRecDepth 20000 in
theorem ggX9_often_X9_sign : GoodIn wsX9_often wsX9_sign := goodIn_r _ [10, 6, 11, 12, 13, 14, 15, 16, 17, 18, 19, 20, 21, 22, 23, 24, 25, 26, 27, 28, 29, 30, 31, 32, 33, 34, 35, 36, 37] rfl (by decide +kernel)
set_option maxRecDepth 20000 in
theorem gX9_often_X9_sign : GoodIn wsX9_often (wsV RX9 67 RX9 yX9_sign wsX9_sign) := goodIn_app (goodIn_r _ [7, 8, 9, 4] rfl (by decide +kernel)) ggX9_often_X9_sign
theorem dX9_often_0 : decode cX9_often 0 = .ok (.iconst 0, 1) := by decide +kernel
theorem dX9_often_1 : decode cX9_often 1 = .ok (.istore_n 3, 1) := by decide +kernel
theorem dX9_often_2 : decode cX9_often 2 = .ok (.iconst 0, 1) := by decide +kernel
theorem dX9_often_3 : decode cX9_often 3 = .ok (.istore 4, 2) := by decide +kernel
theorem dX9_often_5 : decode cX9_often 5 = .ok (.iload 4, 2) := by decide +kernel
theorem dX9_often_7 : decode cX9_often 7 = .ok (.aload_n 0, 1) := by decide +kernel
theorem dX9_often_8 : decode cX9_often 8 = .ok (.invokevirtual 56, 3) := by decide +kernel
theorem dX9_often_11 : decode cX9_often 11 = .ok (.if_icmp .ge 28, 3) := by decide +kernel
theorem dX9_often_14 : decode cX9_often 14 = .ok (.iload_n 3, 1) := by decide +kernel
theorem dX9_often_15 : decode cX9_often 15 = .ok (.aload_n 0, 1) := by decide +kernel
theorem dX9_often_16 : decode cX9_often 16 = .ok (.iload 4, 2) := by decide +kernel
theorem dX9_often_18 : decode cX9_often 18 = .ok (.iload_n 1, 1) := by decide +kernel
theorem dX9_often_19 : decode cX9_often 19 = .ok (.invokevirtual 67, 3) := by decide +kernel
theorem dX9_often_22 : decode cX9_often 22 = .ok (.iload_n 2, 1) := by decide +kernel
theorem dX9_often_23 : decode cX9_often 23 = .ok (.if_icmp .ne 7, 3) := by decide +kernel
theorem dX9_often_26 : decode cX9_often 26 = .ok (.iconst 1, 1) := by decide +kernel
theorem dX9_often_27 : decode cX9_often 27 = .ok (.goto 4, 3) := by decide +kernel
theorem dX9_often_30 : decode cX9_often 30 = .ok (.iconst 0, 1) := by decide +kernel
theorem dX9_often_31 : decode cX9_often 31 = .ok (.iadd, 1) := by decide +kernel
theorem dX9_often_32 : decode cX9_often 32 = .ok (.istore_n 3, 1) := by decide +kernel
theorem dX9_often_33 : decode cX9_often 33 = .ok (.iinc 4 1, 3) := by decide +kernel
theorem dX9_often_36 : decode cX9_often 36 = .ok (.goto (-31), 3) := by decide +kernel
theorem dX9_often_39 : decode cX9_often 39 = .ok (.iload_n 3, 1) := by decide +kernel
theorem dX9_often_40 : decode cX9_often 40 = .ok (.ireturn, 1) := by decide +kernel
set_option maxRecDepth 20000 in
theorem ggX9_occurrences_X9_noVariable : GoodIn wsX9_occurrences wsX9_noVariable := goodIn_r _ [6, 7, 8, 9, 5, 10, 11, 12, 13, 14, 15, 16, 17, 18, 1, 31, 32, 33, 34, 35, 36, 37, 38, 39, 40, 41, 42, 43, 44, 45, 46, 47, 48, 49, 50, 51, 52, 53, 54, 55, 56, 57] rfl (by decide +kernel)
set_option maxRecDepth 20000 in
theorem gX9_occurrences_X9_noVariable : GoodIn wsX9_occurrences (wsV RX9 365 RX9 yX9_noVariable wsX9_noVariable) := goodIn_app (goodIn_r _ [2, 3, 4, 5] rfl (by decide +kernel)) ggX9_occurrences_X9_noVariable
set_option maxRecDepth 20000 in
theorem ggX9_occurrences_X9_often : GoodIn wsX9_occurrences wsX9_often := goodIn_r _ [22, 23, 24, 25, 5, 26, 11, 27, 28, 29, 30, 31, 32, 33, 34, 35, 36, 37, 38, 39, 40, 41, 42, 43, 44, 45, 46, 47, 48, 49, 50, 51, 52, 53, 54, 55, 56, 57] rfl (by decide +kernel)
set_option maxRecDepth 20000 in
theorem gX9_occurrences_X9_often : GoodIn wsX9_occurrences (wsV RX9 368 RX9 yX9_often wsX9_often) := goodIn_app (goodIn_r _ [19, 20, 21, 5] rfl (by decide +kernel)) ggX9_occurrences_X9_often
theorem dX9_occurrences_0 : decode cX9_occurrences 0 = .ok (.aload_n 0, 1) := by decide +kernel
theorem dX9_occurrences_1 : decode cX9_occurrences 1 = .ok (.iconst 0, 1) := by decide +kernel
theorem dX9_occurrences_2 : decode cX9_occurrences 2 = .ok (.putfield 46, 3) := by decide +kernel
theorem dX9_occurrences_5 : decode cX9_occurrences 5 = .ok (.aload_n 0, 1) := by decide +kernel
theorem dX9_occurrences_6 : decode cX9_occurrences 6 = .ok (.iload_n 1, 1) := by decide +kernel
theorem dX9_occurrences_7 : decode cX9_occurrences 7 = .ok (.invokevirtual 365, 3) := by decide +kernel
theorem dX9_occurrences_10 : decode cX9_occurrences 10 = .ok (.ifCond .eq 7, 3) := by decide +kernel
theorem dX9_occurrences_13 : decode cX9_occurrences 13 = .ok (.iconst 0, 1) := by decide +kernel
theorem dX9_occurrences_14 : decode cX9_occurrences 14 = .ok (.goto 17, 3) := by decide +kernel
theorem dX9_occurrences_17 : decode cX9_occurrences 17 = .ok (.aload_n 0, 1) := by decide +kernel
theorem dX9_occurrences_18 : decode cX9_occurrences 18 = .ok (.iload_n 1, 1) := by decide +kernel
theorem dX9_occurrences_19 : decode cX9_occurrences 19 = .ok (.iload_n 2, 1) := by decide +kernel
theorem dX9_occurrences_20 : decode cX9_occurrences 20 = .ok (.ifCond .eq 7, 3) := by decide +kernel
theorem dX9_occurrences_23 : decode cX9_occurrences 23 = .ok (.iconst 1, 1) := by decide +kernel
theorem dX9_occurrences_24 : decode cX9_occurrences 24 = .ok (.goto 4, 3) := by decide +kernel
theorem dX9_occurrences_27 : decode cX9_occurrences 27 = .ok (.iconst 2, 1) := by decide +kernel
theorem dX9_occurrences_28 : decode cX9_occurrences 28 = .ok (.invokevirtual 368, 3) := by decide +kernel
theorem dX9_occurrences_31 : decode cX9_occurrences 31 = .ok (.ireturn, 1) := by decide +kernel
set_option maxRecDepth 20000 in
theorem ggX9_mostFrequentVariable_X9_wide : GoodIn wsX9_mostFrequentVariable wsX9_wide := goodIn_r _ [6, 7, 20, 21, 22, 23, 24, 25, 26, 27, 28, 29, 30, 31, 32, 33, 34, 35, 36, 37, 38, 39, 40, 41, 42, 43, 44, 45, 46] rfl (by decide +kernel)
set_option maxRecDepth 20000 in
theorem gX9_mostFrequentVariable_X9_wide : GoodIn wsX9_mostFrequentVariable (wsV RX9 64 RX9 yX9_wide wsX9_wide) := goodIn_app (goodIn_r _ [2, 3, 4, 5] rfl (by decide +kernel)) ggX9_mostFrequentVariable_X9_wide
set_option maxRecDepth 20000 in
theorem ggX9_mostFrequentVariable_X9_often : GoodIn wsX9_mostFrequentVariable wsX9_often := goodIn_r _ [11, 12, 13, 14, 5, 15, 7, 16, 17, 18, 19, 20, 21, 22, 23, 24, 25, 26, 27, 28, 29, 30, 31, 32, 33, 34, 35, 36, 37, 38, 39, 40, 41, 42, 43, 44, 45, 46] rfl (by decide +kernel)
set_option maxRecDepth 20000 in
theorem gX9_mostFrequentVariable_X9_often : GoodIn wsX9_mostFrequentVariable (wsV RX9 368 RX9 yX9_often wsX9_often) := goodIn_app (goodIn_r _ [8, 9, 10, 5] rfl (by decide +kernel)) ggX9_mostFrequentVariable_X9_often
theorem dX9_mostFrequentVariable_0 : decode cX9_mostFrequentVariable 0 = .ok (.aload_n 0, 1) := by decide +kernel
theorem dX9_mostFrequentVariable_1 : decode cX9_mostFrequentVariable 1 = .ok (.iconst 0, 1) := by decide +kernel
theorem dX9_mostFrequentVariable_2 : decode cX9_mostFrequentVariable 2 = .ok (.putfield 46, 3) := by decide +kernel
theorem dX9_mostFrequentVariable_5 : decode cX9_mostFrequentVariable 5 = .ok (.iconst 0, 1) := by decide +kernel
theorem dX9_mostFrequentVariable_6 : decode cX9_mostFrequentVariable 6 = .ok (.istore_n 1, 1) := by decide +kernel
theorem dX9_mostFrequentVariable_7 : decode cX9_mostFrequentVariable 7 = .ok (.iconst 0, 1) := by decide +kernel
theorem dX9_mostFrequentVariable_8 : decode cX9_mostFrequentVariable 8 = .ok (.istore_n 2, 1) := by decide +kernel
theorem dX9_mostFrequentVariable_9 : decode cX9_mostFrequentVariable 9 = .ok (.iconst 0, 1) := by decide +kernel
theorem dX9_mostFrequentVariable_10 : decode cX9_mostFrequentVariable 10 = .ok (.istore_n 3, 1) := by decide +kernel
theorem dX9_mostFrequentVariable_11 : decode cX9_mostFrequentVariable 11 = .ok (.iload_n 3, 1) := by decide +kernel
theorem dX9_mostFrequentVariable_12 : decode cX9_mostFrequentVariable 12 = .ok (.aload_n 0, 1) := by decide +kernel
theorem dX9_mostFrequentVariable_13 : decode cX9_mostFrequentVariable 13 = .ok (.invokevirtual 64, 3) := by decide +kernel
theorem dX9_mostFrequentVariable_16 : decode cX9_mostFrequentVariable 16 = .ok (.if_icmp .ge 35, 3) := by decide +kernel
theorem dX9_mostFrequentVariable_19 : decode cX9_mostFrequentVariable 19 = .ok (.aload_n 0, 1) := by decide +kernel
theorem dX9_mostFrequentVariable_20 : decode cX9_mostFrequentVariable 20 = .ok (.iload_n 3, 1) := by decide +kernel
theorem dX9_mostFrequentVariable_21 : decode cX9_mostFrequentVariable 21 = .ok (.iconst 1, 1) := by decide +kernel
theorem dX9_mostFrequentVariable_22 : decode cX9_mostFrequentVariable 22 = .ok (.invokevirtual 368, 3) := by decide +kernel
theorem dX9_mostFrequentVariable_25 : decode cX9_mostFrequentVariable 25 = .ok (.aload_n 0, 1) := by decide +kernel
theorem dX9_mostFrequentVariable_26 : decode cX9_mostFrequentVariable 26 = .ok (.iload_n 3, 1) := by decide +kernel
theorem dX9_mostFrequentVariable_27 : decode cX9_mostFrequentVariable 27 = .ok (.iconst 2, 1) := by decide +kernel
theorem dX9_mostFrequentVariable_28 : decode cX9_mostFrequentVariable 28 = .ok (.invokevirtual 368, 3) := by decide +kernel
theorem dX9_mostFrequentVariable_31 : decode cX9_mostFrequentVariable 31 = .ok (.iadd, 1) := by decide +kernel
theorem dX9_mostFrequentVariable_32 : decode cX9_mostFrequentVariable 32 = .ok (.istore 4, 2) := by decide +kernel
theorem dX9_mostFrequentVariable_34 : decode cX9_mostFrequentVariable 34 = .ok (.iload 4, 2) := by decide +kernel
theorem dX9_mostFrequentVariable_36 : decode cX9_mostFrequentVariable 36 = .ok (.iload_n 2, 1) := by decide +kernel
theorem dX9_mostFrequentVariable_37 : decode cX9_mostFrequentVariable 37 = .ok (.if_icmp .le 8, 3) := by decide +kernel
theorem dX9_mostFrequentVariable_40 : decode cX9_mostFrequentVariable 40 = .ok (.iload_n 3, 1) := by decide +kernel
theorem dX9_mostFrequentVariable_41 : decode cX9_mostFrequentVariable 41 = .ok (.istore_n 1, 1) := by decide +kernel
theorem dX9_mostFrequentVariable_42 : decode cX9_mostFrequentVariable 42 = .ok (.iload 4, 2) := by decide +kernel
theorem dX9_mostFrequentVariable_44 : decode cX9_mostFrequentVariable 44 = .ok (.istore_n 2, 1) := by decide +kernel
theorem dX9_mostFrequentVariable_45 : decode cX9_mostFrequentVariable 45 = .ok (.iinc 3 1, 3) := by decide +kernel
theorem dX9_mostFrequentVariable_48 : decode cX9_mostFrequentVariable 48 = .ok (.goto (-37), 3) := by decide +kernel
theorem dX9_mostFrequentVariable_51 : decode cX9_mostFrequentVariable 51 = .ok (.iload_n 1, 1) := by decide +kernel
theorem dX9_mostFrequentVariable_52 : decode cX9_mostFrequentVariable 52 = .ok (.ireturn, 1) := by decide +kernel
set_option maxRecDepth 20000 in
theorem ggX9_pure_X9_wide : GoodIn wsX9_pure wsX9_wide := goodIn_r _ [5, 6, 19, 20, 21, 22, 23, 24, 25, 26, 27, 28, 29, 30, 31, 32, 33, 34, 35, 36, 37, 38, 39, 40, 41, 42, 43, 44, 45] rfl (by decide +kernel)
set_option maxRecDepth 20000 in
theorem gX9_pure_X9_wide : GoodIn wsX9_pure (wsV RX9 64 RX9 yX9_wide wsX9_wide) := goodIn_app (goodIn_r _ [1, 2, 3, 4] rfl (by decide +kernel)) ggX9_pure_X9_wide
set_option maxRecDepth 20000 in
theorem ggX9_pure_X9_often : GoodIn wsX9_pure wsX9_often := goodIn_r _ [10, 11, 12, 13, 4, 14, 6, 15, 16, 17, 18, 19, 20, 21, 22, 23, 24, 25, 26, 27, 28, 29, 30, 31, 32, 33, 34, 35, 36, 37, 38, 39, 40, 41, 42, 43, 44, 45] rfl (by decide +kernel)
set_option maxRecDepth 20000 in
theorem gX9_pure_X9_often : GoodIn wsX9_pure (wsV RX9 368 RX9 yX9_often wsX9_often) := goodIn_app (goodIn_r _ [7, 8, 9, 4] rfl (by decide +kernel)) ggX9_pure_X9_often
theorem dX9_pure_0 : decode cX9_pure 0 = .ok (.iconst 0, 1) := by decide +kernel
theorem dX9_pure_1 : decode cX9_pure 1 = .ok (.istore_n 2, 1) := by decide +kernel
theorem dX9_pure_2 : decode cX9_pure 2 = .ok (.iconst 0, 1) := by decide +kernel
theorem dX9_pure_3 : decode cX9_pure 3 = .ok (.istore_n 3, 1) := by decide +kernel
theorem dX9_pure_4 : decode cX9_pure 4 = .ok (.iload_n 3, 1) := by decide +kernel
theorem dX9_pure_5 : decode cX9_pure 5 = .ok (.aload_n 0, 1) := by decide +kernel
theorem dX9_pure_6 : decode cX9_pure 6 = .ok (.invokevirtual 64, 3) := by decide +kernel
theorem dX9_pure_9 : decode cX9_pure 9 = .ok (.if_icmp .ge 39, 3) := by decide +kernel
theorem dX9_pure_12 : decode cX9_pure 12 = .ok (.iload_n 2, 1) := by decide +kernel
theorem dX9_pure_13 : decode cX9_pure 13 = .ok (.aload_n 0, 1) := by decide +kernel
theorem dX9_pure_14 : decode cX9_pure 14 = .ok (.iload_n 3, 1) := by decide +kernel
theorem dX9_pure_15 : decode cX9_pure 15 = .ok (.iload_n 1, 1) := by decide +kernel
theorem dX9_pure_16 : decode cX9_pure 16 = .ok (.invokevirtual 368, 3) := by decide +kernel
theorem dX9_pure_19 : decode cX9_pure 19 = .ok (.ifCond .le 20, 3) := by decide +kernel
theorem dX9_pure_22 : decode cX9_pure 22 = .ok (.aload_n 0, 1) := by decide +kernel
theorem dX9_pure_23 : decode cX9_pure 23 = .ok (.iload_n 3, 1) := by decide +kernel
theorem dX9_pure_24 : decode cX9_pure 24 = .ok (.iconst 3, 1) := by decide +kernel
theorem dX9_pure_25 : decode cX9_pure 25 = .ok (.iload_n 1, 1) := by decide +kernel
theorem dX9_pure_26 : decode cX9_pure 26 = .ok (.isub, 1) := by decide +kernel
theorem dX9_pure_27 : decode cX9_pure 27 = .ok (.invokevirtual 368, 3) := by decide +kernel
theorem dX9_pure_30 : decode cX9_pure 30 = .ok (.ifCond .ne 9, 3) := by decide +kernel
theorem dX9_pure_33 : decode cX9_pure 33 = .ok (.iconst 1, 1) := by decide +kernel
theorem dX9_pure_34 : decode cX9_pure 34 = .ok (.iload_n 3, 1) := by decide +kernel
theorem dX9_pure_35 : decode cX9_pure 35 = .ok (.ishl, 1) := by decide +kernel
theorem dX9_pure_36 : decode cX9_pure 36 = .ok (.goto 4, 3) := by decide +kernel
theorem dX9_pure_39 : decode cX9_pure 39 = .ok (.iconst 0, 1) := by decide +kernel
theorem dX9_pure_40 : decode cX9_pure 40 = .ok (.ior, 1) := by decide +kernel
theorem dX9_pure_41 : decode cX9_pure 41 = .ok (.istore_n 2, 1) := by decide +kernel
theorem dX9_pure_42 : decode cX9_pure 42 = .ok (.iinc 3 1, 3) := by decide +kernel
theorem dX9_pure_45 : decode cX9_pure 45 = .ok (.goto (-41), 3) := by decide +kernel
theorem dX9_pure_48 : decode cX9_pure 48 = .ok (.iload_n 2, 1) := by decide +kernel
theorem dX9_pure_49 : decode cX9_pure 49 = .ok (.ireturn, 1) := by decide +kernel
set_option maxRecDepth 20000 in
theorem ggX9_purePositive_X9_pure : GoodIn wsX9_purePositive wsX9_pure := goodIn_r _ [6, 7, 8, 9, 5, 10, 11, 12, 13, 14, 15, 16, 17, 18, 19, 20, 21, 22, 23, 24, 25, 26, 27, 28, 29, 30, 31, 32, 33, 34, 35, 36, 37, 38, 39, 40, 41, 42, 43, 44, 45, 46, 47, 48, 49, 50] rfl (by decide +kernel)
set_option maxRecDepth 20000 in
theorem gX9_purePositive_X9_pure : GoodIn wsX9_purePositive (wsV RX9 371 RX9 yX9_pure wsX9_pure) := goodIn_app (goodIn_r _ [2, 3, 4, 5] rfl (by decide +kernel)) ggX9_purePositive_X9_pure
theorem dX9_purePositive_0 : decode cX9_purePositive 0 = .ok (.aload_n 0, 1) := by decide +kernel
theorem dX9_purePositive_1 : decode cX9_purePositive 1 = .ok (.iconst 0, 1) := by decide +kernel
theorem dX9_purePositive_2 : decode cX9_purePositive 2 = .ok (.putfield 46, 3) := by decide +kernel
theorem dX9_purePositive_5 : decode cX9_purePositive 5 = .ok (.aload_n 0, 1) := by decide +kernel
theorem dX9_purePositive_6 : decode cX9_purePositive 6 = .ok (.iconst 1, 1) := by decide +kernel
theorem dX9_purePositive_7 : decode cX9_purePositive 7 = .ok (.invokevirtual 371, 3) := by decide +kernel
theorem dX9_purePositive_10 : decode cX9_purePositive 10 = .ok (.ireturn, 1) := by decide +kernel
set_option maxRecDepth 20000 in
theorem ggX9_pureNegative_X9_pure : GoodIn wsX9_pureNegative wsX9_pure := goodIn_r _ [6, 7, 8, 9, 5, 10, 11, 12, 13, 14, 15, 16, 17, 18, 19, 20, 21, 22, 23, 24, 25, 26, 27, 28, 29, 30, 31, 32, 33, 34, 35, 36, 37, 38, 39, 40, 41, 42, 43, 44, 45, 46, 47, 48, 49, 50] rfl (by decide +kernel)
set_option maxRecDepth 20000 in
theorem gX9_pureNegative_X9_pure : GoodIn wsX9_pureNegative (wsV RX9 371 RX9 yX9_pure wsX9_pure) := goodIn_app (goodIn_r _ [2, 3, 4, 5] rfl (by decide +kernel)) ggX9_pureNegative_X9_pure
theorem dX9_pureNegative_0 : decode cX9_pureNegative 0 = .ok (.aload_n 0, 1) := by decide +kernel
theorem dX9_pureNegative_1 : decode cX9_pureNegative 1 = .ok (.iconst 0, 1) := by decide +kernel
theorem dX9_pureNegative_2 : decode cX9_pureNegative 2 = .ok (.putfield 46, 3) := by decide +kernel
theorem dX9_pureNegative_5 : decode cX9_pureNegative 5 = .ok (.aload_n 0, 1) := by decide +kernel
theorem dX9_pureNegative_6 : decode cX9_pureNegative 6 = .ok (.iconst 2, 1) := by decide +kernel
theorem dX9_pureNegative_7 : decode cX9_pureNegative 7 = .ok (.invokevirtual 371, 3) := by decide +kernel
theorem dX9_pureNegative_10 : decode cX9_pureNegative 10 = .ok (.ireturn, 1) := by decide +kernel
set_option maxRecDepth 20000 in
theorem ggX9_clashes_X9_noPair : GoodIn wsX9_clashes wsX9_noPair := goodIn_r _ [6, 7, 8, 9, 5, 10, 11, 12, 13, 14, 15, 16, 17, 18, 19, 20, 21, 22, 1, 35, 36, 37, 38, 39, 40, 41, 42, 43, 44, 45, 46, 47, 48, 49, 50, 51, 52, 53, 54, 55, 56, 57, 58, 59, 60, 61] rfl (by decide +kernel)
set_option maxRecDepth 20000 in
theorem gX9_clashes_X9_noPair : GoodIn wsX9_clashes (wsV RX9 374 RX9 yX9_noPair wsX9_noPair) := goodIn_app (goodIn_r _ [2, 3, 4, 5] rfl (by decide +kernel)) ggX9_clashes_X9_noPair
set_option maxRecDepth 20000 in
theorem ggX9_clashes_X9_clashing : GoodIn wsX9_clashes wsX9_clashing := goodIn_r _ [26, 27, 28, 29, 5, 30, 15, 31, 32, 33, 34, 35, 36, 37, 38, 39, 40, 41, 42, 43, 44, 45, 46, 47, 48, 49, 50, 51, 52, 53, 54, 55, 56, 57, 58, 59, 60, 61] rfl (by decide +kernel)
set_option maxRecDepth 20000 in
theorem gX9_clashes_X9_clashing : GoodIn wsX9_clashes (wsV RX9 99 RX9 yX9_clashing wsX9_clashing) := goodIn_app (goodIn_r _ [23, 24, 25, 5] rfl (by decide +kernel)) ggX9_clashes_X9_clashing
theorem dX9_clashes_0 : decode cX9_clashes 0 = .ok (.aload_n 0, 1) := by decide +kernel
theorem dX9_clashes_1 : decode cX9_clashes 1 = .ok (.iconst 0, 1) := by decide +kernel
theorem dX9_clashes_2 : decode cX9_clashes 2 = .ok (.putfield 46, 3) := by decide +kernel
theorem dX9_clashes_5 : decode cX9_clashes 5 = .ok (.aload_n 0, 1) := by decide +kernel
theorem dX9_clashes_6 : decode cX9_clashes 6 = .ok (.iload_n 1, 1) := by decide +kernel
theorem dX9_clashes_7 : decode cX9_clashes 7 = .ok (.iload_n 2, 1) := by decide +kernel
theorem dX9_clashes_8 : decode cX9_clashes 8 = .ok (.invokevirtual 374, 3) := by decide +kernel
theorem dX9_clashes_11 : decode cX9_clashes 11 = .ok (.ifCond .eq 7, 3) := by decide +kernel
theorem dX9_clashes_14 : decode cX9_clashes 14 = .ok (.iconst 0, 1) := by decide +kernel
theorem dX9_clashes_15 : decode cX9_clashes 15 = .ok (.goto 9, 3) := by decide +kernel
theorem dX9_clashes_18 : decode cX9_clashes 18 = .ok (.aload_n 0, 1) := by decide +kernel
theorem dX9_clashes_19 : decode cX9_clashes 19 = .ok (.iload_n 1, 1) := by decide +kernel
theorem dX9_clashes_20 : decode cX9_clashes 20 = .ok (.iload_n 2, 1) := by decide +kernel
theorem dX9_clashes_21 : decode cX9_clashes 21 = .ok (.invokevirtual 99, 3) := by decide +kernel
theorem dX9_clashes_24 : decode cX9_clashes 24 = .ok (.ireturn, 1) := by decide +kernel
set_option maxRecDepth 20000 in
theorem ggX9_areResolvable_X9_noPair : GoodIn wsX9_areResolvable wsX9_noPair := goodIn_r _ [6, 7, 8, 9, 5, 10, 11, 12, 13, 14, 15, 16, 17, 18, 19, 20, 21, 22, 1, 35, 36, 37, 38, 39, 40, 41, 42, 43, 44, 45, 46, 47, 48, 49, 50, 51, 52, 53, 54, 55, 56, 57, 58, 59, 60, 61] rfl (by decide +kernel)
set_option maxRecDepth 20000 in
theorem gX9_areResolvable_X9_noPair : GoodIn wsX9_areResolvable (wsV RX9 374 RX9 yX9_noPair wsX9_noPair) := goodIn_app (goodIn_r _ [2, 3, 4, 5] rfl (by decide +kernel)) ggX9_areResolvable_X9_noPair
set_option maxRecDepth 20000 in
theorem ggX9_areResolvable_X9_clashing : GoodIn wsX9_areResolvable wsX9_clashing := goodIn_r _ [26, 27, 28, 29, 5, 30, 15, 31, 32, 33, 34, 35, 36, 37, 38, 39, 40, 41, 42, 43, 44, 45, 46, 47, 48, 49, 50, 51, 52, 53, 54, 55, 56, 57, 58, 59, 60, 61] rfl (by decide +kernel)
set_option maxRecDepth 20000 in
theorem gX9_areResolvable_X9_clashing : GoodIn wsX9_areResolvable (wsV RX9 99 RX9 yX9_clashing wsX9_clashing) := goodIn_app (goodIn_r _ [23, 24, 25, 5] rfl (by decide +kernel)) ggX9_areResolvable_X9_clashing
theorem dX9_areResolvable_0 : decode cX9_areResolvable 0 = .ok (.aload_n 0, 1) := by decide +kernel
theorem dX9_areResolvable_1 : decode cX9_areResolvable 1 = .ok (.iconst 0, 1) := by decide +kernel
theorem dX9_areResolvable_2 : decode cX9_areResolvable 2 = .ok (.putfield 46, 3) := by decide +kernel
theorem dX9_areResolvable_5 : decode cX9_areResolvable 5 = .ok (.aload_n 0, 1) := by decide +kernel
theorem dX9_areResolvable_6 : decode cX9_areResolvable 6 = .ok (.iload_n 1, 1) := by decide +kernel
theorem dX9_areResolvable_7 : decode cX9_areResolvable 7 = .ok (.iload_n 2, 1) := by decide +kernel
theorem dX9_areResolvable_8 : decode cX9_areResolvable 8 = .ok (.invokevirtual 374, 3) := by decide +kernel
theorem dX9_areResolvable_11 : decode cX9_areResolvable 11 = .ok (.ifCond .ne 17, 3) := by decide +kernel
theorem dX9_areResolvable_14 : decode cX9_areResolvable 14 = .ok (.aload_n 0, 1) := by decide +kernel
theorem dX9_areResolvable_15 : decode cX9_areResolvable 15 = .ok (.iload_n 1, 1) := by decide +kernel
theorem dX9_areResolvable_16 : decode cX9_areResolvable 16 = .ok (.iload_n 2, 1) := by decide +kernel
theorem dX9_areResolvable_17 : decode cX9_areResolvable 17 = .ok (.invokevirtual 99, 3) := by decide +kernel
theorem dX9_areResolvable_20 : decode cX9_areResolvable 20 = .ok (.iconst 1, 1) := by decide +kernel
theorem dX9_areResolvable_21 : decode cX9_areResolvable 21 = .ok (.if_icmp .ne 7, 3) := by decide +kernel
theorem dX9_areResolvable_24 : decode cX9_areResolvable 24 = .ok (.iconst 1, 1) := by decide +kernel
theorem dX9_areResolvable_25 : decode cX9_areResolvable 25 = .ok (.goto 4, 3) := by decide +kernel
theorem dX9_areResolvable_28 : decode cX9_areResolvable 28 = .ok (.iconst 0, 1) := by decide +kernel
theorem dX9_areResolvable_29 : decode cX9_areResolvable 29 = .ok (.ireturn, 1) := by decide +kernel
set_option maxRecDepth 20000 in
theorem ggX9_resolventOf_X9_noPair : GoodIn wsX9_resolventOf wsX9_noPair := goodIn_r _ [6, 7, 8, 9, 5, 10, 11, 12, 13, 14, 15, 16, 17, 18, 19, 20, 21, 22, 1, 51, 52, 53, 54, 55, 56, 57, 58, 59, 60, 61, 62, 63, 64, 65, 66, 67, 68, 69, 70, 71, 72, 73, 74, 75, 76, 77] rfl (by decide +kernel)
set_option maxRecDepth 20000 in
theorem gX9_resolventOf_X9_noPair : GoodIn wsX9_resolventOf (wsV RX9 374 RX9 yX9_noPair wsX9_noPair) := goodIn_app (goodIn_r _ [2, 3, 4, 5] rfl (by decide +kernel)) ggX9_resolventOf_X9_noPair
set_option maxRecDepth 20000 in
theorem ggX9_resolventOf_X9_clashing : GoodIn wsX9_resolventOf wsX9_clashing := goodIn_r _ [26, 27, 28, 29, 5, 30, 15, 31, 32, 33, 34, 51, 52, 53, 54, 55, 56, 57, 58, 59, 60, 61, 62, 63, 64, 65, 66, 67, 68, 69, 70, 71, 72, 73, 74, 75, 76, 77] rfl (by decide +kernel)
set_option maxRecDepth 20000 in
theorem gX9_resolventOf_X9_clashing : GoodIn wsX9_resolventOf (wsV RX9 99 RX9 yX9_clashing wsX9_clashing) := goodIn_app (goodIn_r _ [23, 24, 25, 5] rfl (by decide +kernel)) ggX9_resolventOf_X9_clashing
set_option maxRecDepth 20000 in
theorem ggX9_resolventOf_X9_resolves : GoodIn wsX9_resolventOf wsX9_resolves := goodIn_r _ [38, 39, 40, 41, 5, 42, 31, 32, 33, 34, 15, 27, 28, 29, 30, 11, 12, 13, 14, 43, 44, 45, 46, 51, 52, 53, 54, 55, 56, 57, 58, 59, 60, 61, 62, 63, 64, 65, 66, 67, 68, 69, 70, 71, 72, 73, 74, 75, 76, 77] rfl (by decide +kernel)
set_option maxRecDepth 20000 in
theorem gX9_resolventOf_X9_resolves : GoodIn wsX9_resolventOf (wsV RX9 78 RX9 yX9_resolves wsX9_resolves) := goodIn_app (goodIn_r _ [35, 36, 37, 5] rfl (by decide +kernel)) ggX9_resolventOf_X9_resolves
set_option maxRecDepth 20000 in
theorem ggX9_resolventOf_X9_many : GoodIn wsX9_resolventOf wsX9_many := goodIn_r _ [14, 15, 51, 52, 53, 54, 55, 56, 57, 58, 59, 60, 61, 62, 63, 64, 65, 66, 67, 68, 69, 70, 71, 72, 73, 74, 75, 76, 77] rfl (by decide +kernel)
set_option maxRecDepth 20000 in
theorem gX9_resolventOf_X9_many : GoodIn wsX9_resolventOf (wsV RX9 56 RX9 yX9_many wsX9_many) := goodIn_app (goodIn_r _ [11, 12, 13, 5] rfl (by decide +kernel)) ggX9_resolventOf_X9_many
set_option maxRecDepth 20000 in
theorem ggX9_resolventOf_X9_mask : GoodIn wsX9_resolventOf wsX9_mask := goodIn_r _ [50, 27, 28, 29, 5, 30, 15, 31, 32, 33, 34, 51, 52, 53, 54, 55, 56, 57, 58, 59, 60, 61, 62, 63, 64, 65, 66, 67, 68, 69, 70, 71, 72, 73, 74, 75, 76, 77] rfl (by decide +kernel)
set_option maxRecDepth 20000 in
theorem gX9_resolventOf_X9_mask : GoodIn wsX9_resolventOf (wsV RX9 351 RX9 yX9_mask wsX9_mask) := goodIn_app (goodIn_r _ [47, 48, 49, 5] rfl (by decide +kernel)) ggX9_resolventOf_X9_mask
theorem dX9_resolventOf_0 : decode cX9_resolventOf 0 = .ok (.aload_n 0, 1) := by decide +kernel
theorem dX9_resolventOf_1 : decode cX9_resolventOf 1 = .ok (.iconst 0, 1) := by decide +kernel
theorem dX9_resolventOf_2 : decode cX9_resolventOf 2 = .ok (.putfield 46, 3) := by decide +kernel
theorem dX9_resolventOf_5 : decode cX9_resolventOf 5 = .ok (.aload_n 0, 1) := by decide +kernel
theorem dX9_resolventOf_6 : decode cX9_resolventOf 6 = .ok (.iload_n 1, 1) := by decide +kernel
theorem dX9_resolventOf_7 : decode cX9_resolventOf 7 = .ok (.iload_n 2, 1) := by decide +kernel
theorem dX9_resolventOf_8 : decode cX9_resolventOf 8 = .ok (.invokevirtual 374, 3) := by decide +kernel
theorem dX9_resolventOf_11 : decode cX9_resolventOf 11 = .ok (.ifCond .eq 5, 3) := by decide +kernel
theorem dX9_resolventOf_14 : decode cX9_resolventOf 14 = .ok (.iconst 0, 1) := by decide +kernel
theorem dX9_resolventOf_15 : decode cX9_resolventOf 15 = .ok (.ireturn, 1) := by decide +kernel
theorem dX9_resolventOf_16 : decode cX9_resolventOf 16 = .ok (.aload_n 0, 1) := by decide +kernel
theorem dX9_resolventOf_17 : decode cX9_resolventOf 17 = .ok (.iload_n 1, 1) := by decide +kernel
theorem dX9_resolventOf_18 : decode cX9_resolventOf 18 = .ok (.iload_n 2, 1) := by decide +kernel
theorem dX9_resolventOf_19 : decode cX9_resolventOf 19 = .ok (.invokevirtual 99, 3) := by decide +kernel
theorem dX9_resolventOf_22 : decode cX9_resolventOf 22 = .ok (.iconst 1, 1) := by decide +kernel
theorem dX9_resolventOf_23 : decode cX9_resolventOf 23 = .ok (.if_icmp .eq 5, 3) := by decide +kernel
theorem dX9_resolventOf_26 : decode cX9_resolventOf 26 = .ok (.iconst (-1), 1) := by decide +kernel
theorem dX9_resolventOf_27 : decode cX9_resolventOf 27 = .ok (.ireturn, 1) := by decide +kernel
theorem dX9_resolventOf_28 : decode cX9_resolventOf 28 = .ok (.aload_n 0, 1) := by decide +kernel
theorem dX9_resolventOf_29 : decode cX9_resolventOf 29 = .ok (.iload_n 1, 1) := by decide +kernel
theorem dX9_resolventOf_30 : decode cX9_resolventOf 30 = .ok (.iload_n 2, 1) := by decide +kernel
theorem dX9_resolventOf_31 : decode cX9_resolventOf 31 = .ok (.invokevirtual 78, 3) := by decide +kernel
theorem dX9_resolventOf_34 : decode cX9_resolventOf 34 = .ok (.aload_n 0, 1) := by decide +kernel
theorem dX9_resolventOf_35 : decode cX9_resolventOf 35 = .ok (.aload_n 0, 1) := by decide +kernel
theorem dX9_resolventOf_36 : decode cX9_resolventOf 36 = .ok (.invokevirtual 56, 3) := by decide +kernel
theorem dX9_resolventOf_39 : decode cX9_resolventOf 39 = .ok (.iload_n 3, 1) := by decide +kernel
theorem dX9_resolventOf_40 : decode cX9_resolventOf 40 = .ok (.invokevirtual 351, 3) := by decide +kernel
theorem dX9_resolventOf_43 : decode cX9_resolventOf 43 = .ok (.ireturn, 1) := by decide +kernel
set_option maxRecDepth 20000 in
theorem ggX9_resolventPositive_X9_resolventOf : GoodIn wsX9_resolventPositive wsX9_resolventOf := goodIn_r _ [5, 6, 7, 8, 9, 4, 10, 11, 12, 13, 14, 15, 16, 17, 18, 19, 20, 21, 22, 23, 24, 25, 26, 27, 28, 29, 30, 31, 32, 33, 34, 35, 36, 37, 38, 39, 40, 41, 42, 43, 44, 45, 46, 47, 48, 49, 50, 51, 52, 53, 54, 55, 56, 57, 58, 59, 60, 61, 62, 63, 64, 65, 66, 67, 68, 69, 70, 71, 72, 73, 74, 75, 76, 77, 78, 79, 80, 81] rfl (by decide +kernel)
set_option maxRecDepth 20000 in
theorem gX9_resolventPositive_X9_resolventOf : GoodIn wsX9_resolventPositive (wsV RX9 377 RX9 yX9_resolventOf wsX9_resolventOf) := goodIn_app (goodIn_r _ [1, 2, 3, 4] rfl (by decide +kernel)) ggX9_resolventPositive_X9_resolventOf
theorem dX9_resolventPositive_0 : decode cX9_resolventPositive 0 = .ok (.aload_n 0, 1) := by decide +kernel
theorem dX9_resolventPositive_1 : decode cX9_resolventPositive 1 = .ok (.iload_n 1, 1) := by decide +kernel
theorem dX9_resolventPositive_2 : decode cX9_resolventPositive 2 = .ok (.iload_n 2, 1) := by decide +kernel
theorem dX9_resolventPositive_3 : decode cX9_resolventPositive 3 = .ok (.iconst 1, 1) := by decide +kernel
theorem dX9_resolventPositive_4 : decode cX9_resolventPositive 4 = .ok (.invokevirtual 377, 3) := by decide +kernel
theorem dX9_resolventPositive_7 : decode cX9_resolventPositive 7 = .ok (.ireturn, 1) := by decide +kernel
set_option maxRecDepth 20000 in
theorem ggX9_resolventNegative_X9_resolventOf : GoodIn wsX9_resolventNegative wsX9_resolventOf := goodIn_r _ [5, 6, 7, 8, 9, 4, 10, 11, 12, 13, 14, 15, 16, 17, 18, 19, 20, 21, 22, 23, 24, 25, 26, 27, 28, 29, 30, 31, 32, 33, 34, 35, 36, 37, 38, 39, 40, 41, 42, 43, 44, 45, 46, 47, 48, 49, 50, 51, 52, 53, 54, 55, 56, 57, 58, 59, 60, 61, 62, 63, 64, 65, 66, 67, 68, 69, 70, 71, 72, 73, 74, 75, 76, 77, 78, 79, 80, 81] rfl (by decide +kernel)
set_option maxRecDepth 20000 in
theorem gX9_resolventNegative_X9_resolventOf : GoodIn wsX9_resolventNegative (wsV RX9 377 RX9 yX9_resolventOf wsX9_resolventOf) := goodIn_app (goodIn_r _ [1, 2, 3, 4] rfl (by decide +kernel)) ggX9_resolventNegative_X9_resolventOf
theorem dX9_resolventNegative_0 : decode cX9_resolventNegative 0 = .ok (.aload_n 0, 1) := by decide +kernel
theorem dX9_resolventNegative_1 : decode cX9_resolventNegative 1 = .ok (.iload_n 1, 1) := by decide +kernel
theorem dX9_resolventNegative_2 : decode cX9_resolventNegative 2 = .ok (.iload_n 2, 1) := by decide +kernel
theorem dX9_resolventNegative_3 : decode cX9_resolventNegative 3 = .ok (.iconst 2, 1) := by decide +kernel
theorem dX9_resolventNegative_4 : decode cX9_resolventNegative 4 = .ok (.invokevirtual 377, 3) := by decide +kernel
theorem dX9_resolventNegative_7 : decode cX9_resolventNegative 7 = .ok (.ireturn, 1) := by decide +kernel
set_option maxRecDepth 20000 in
theorem ggX9_resolvablePairs_X9_many : GoodIn wsX9_resolvablePairs wsX9_many := goodIn_r _ [6, 7, 20, 21, 22, 23, 24, 25, 26, 27, 28, 29, 30, 31, 32, 33, 34, 35, 36, 37, 38, 39, 40, 41, 42, 43, 44, 45, 46] rfl (by decide +kernel)
set_option maxRecDepth 20000 in
theorem gX9_resolvablePairs_X9_many : GoodIn wsX9_resolvablePairs (wsV RX9 56 RX9 yX9_many wsX9_many) := goodIn_app (goodIn_r _ [2, 3, 4, 5] rfl (by decide +kernel)) ggX9_resolvablePairs_X9_many
set_option maxRecDepth 20000 in
theorem ggX9_resolvablePairs_X9_clashing : GoodIn wsX9_resolvablePairs wsX9_clashing := goodIn_r _ [11, 12, 13, 14, 5, 15, 7, 16, 17, 18, 19, 20, 21, 22, 23, 24, 25, 26, 27, 28, 29, 30, 31, 32, 33, 34, 35, 36, 37, 38, 39, 40, 41, 42, 43, 44, 45, 46] rfl (by decide +kernel)
set_option maxRecDepth 20000 in
theorem gX9_resolvablePairs_X9_clashing : GoodIn wsX9_resolvablePairs (wsV RX9 99 RX9 yX9_clashing wsX9_clashing) := goodIn_app (goodIn_r _ [8, 9, 10, 5] rfl (by decide +kernel)) ggX9_resolvablePairs_X9_clashing
theorem dX9_resolvablePairs_0 : decode cX9_resolvablePairs 0 = .ok (.aload_n 0, 1) := by decide +kernel
theorem dX9_resolvablePairs_1 : decode cX9_resolvablePairs 1 = .ok (.iconst 0, 1) := by decide +kernel
theorem dX9_resolvablePairs_2 : decode cX9_resolvablePairs 2 = .ok (.putfield 46, 3) := by decide +kernel
theorem dX9_resolvablePairs_5 : decode cX9_resolvablePairs 5 = .ok (.iconst 0, 1) := by decide +kernel
theorem dX9_resolvablePairs_6 : decode cX9_resolvablePairs 6 = .ok (.istore_n 1, 1) := by decide +kernel
theorem dX9_resolvablePairs_7 : decode cX9_resolvablePairs 7 = .ok (.iconst 0, 1) := by decide +kernel
theorem dX9_resolvablePairs_8 : decode cX9_resolvablePairs 8 = .ok (.istore_n 2, 1) := by decide +kernel
theorem dX9_resolvablePairs_9 : decode cX9_resolvablePairs 9 = .ok (.iload_n 2, 1) := by decide +kernel
theorem dX9_resolvablePairs_10 : decode cX9_resolvablePairs 10 = .ok (.aload_n 0, 1) := by decide +kernel
theorem dX9_resolvablePairs_11 : decode cX9_resolvablePairs 11 = .ok (.invokevirtual 56, 3) := by decide +kernel
theorem dX9_resolvablePairs_14 : decode cX9_resolvablePairs 14 = .ok (.if_icmp .ge 40, 3) := by decide +kernel
theorem dX9_resolvablePairs_17 : decode cX9_resolvablePairs 17 = .ok (.iconst 0, 1) := by decide +kernel
theorem dX9_resolvablePairs_18 : decode cX9_resolvablePairs 18 = .ok (.istore_n 3, 1) := by decide +kernel
theorem dX9_resolvablePairs_19 : decode cX9_resolvablePairs 19 = .ok (.iload_n 3, 1) := by decide +kernel
theorem dX9_resolvablePairs_20 : decode cX9_resolvablePairs 20 = .ok (.iload_n 2, 1) := by decide +kernel
theorem dX9_resolvablePairs_21 : decode cX9_resolvablePairs 21 = .ok (.if_icmp .ge 27, 3) := by decide +kernel
theorem dX9_resolvablePairs_24 : decode cX9_resolvablePairs 24 = .ok (.iload_n 1, 1) := by decide +kernel
theorem dX9_resolvablePairs_25 : decode cX9_resolvablePairs 25 = .ok (.aload_n 0, 1) := by decide +kernel
theorem dX9_resolvablePairs_26 : decode cX9_resolvablePairs 26 = .ok (.iload_n 3, 1) := by decide +kernel
theorem dX9_resolvablePairs_27 : decode cX9_resolvablePairs 27 = .ok (.iload_n 2, 1) := by decide +kernel
theorem dX9_resolvablePairs_28 : decode cX9_resolvablePairs 28 = .ok (.invokevirtual 99, 3) := by decide +kernel
theorem dX9_resolvablePairs_31 : decode cX9_resolvablePairs 31 = .ok (.iconst 1, 1) := by decide +kernel
theorem dX9_resolvablePairs_32 : decode cX9_resolvablePairs 32 = .ok (.if_icmp .ne 7, 3) := by decide +kernel
theorem dX9_resolvablePairs_35 : decode cX9_resolvablePairs 35 = .ok (.iconst 1, 1) := by decide +kernel
theorem dX9_resolvablePairs_36 : decode cX9_resolvablePairs 36 = .ok (.goto 4, 3) := by decide +kernel
theorem dX9_resolvablePairs_39 : decode cX9_resolvablePairs 39 = .ok (.iconst 0, 1) := by decide +kernel
theorem dX9_resolvablePairs_40 : decode cX9_resolvablePairs 40 = .ok (.iadd, 1) := by decide +kernel
theorem dX9_resolvablePairs_41 : decode cX9_resolvablePairs 41 = .ok (.istore_n 1, 1) := by decide +kernel
theorem dX9_resolvablePairs_42 : decode cX9_resolvablePairs 42 = .ok (.iinc 3 1, 3) := by decide +kernel
theorem dX9_resolvablePairs_45 : decode cX9_resolvablePairs 45 = .ok (.goto (-26), 3) := by decide +kernel
theorem dX9_resolvablePairs_48 : decode cX9_resolvablePairs 48 = .ok (.iinc 2 1, 3) := by decide +kernel
theorem dX9_resolvablePairs_51 : decode cX9_resolvablePairs 51 = .ok (.goto (-42), 3) := by decide +kernel
theorem dX9_resolvablePairs_54 : decode cX9_resolvablePairs 54 = .ok (.iload_n 1, 1) := by decide +kernel
theorem dX9_resolvablePairs_55 : decode cX9_resolvablePairs 55 = .ok (.ireturn, 1) := by decide +kernel
set_option maxRecDepth 20000 in
theorem ggX9_subsumes_X9_noPair : GoodIn wsX9_subsumes wsX9_noPair := goodIn_r _ [6, 7, 8, 9, 5, 10, 11, 12, 13, 14, 15, 16, 17, 18, 19, 20, 21, 22, 1, 35, 36, 37, 38, 39, 40, 41, 42, 43, 44, 45, 46, 47, 48, 49, 50, 51, 52, 53, 54, 55, 56, 57, 58, 59, 60, 61] rfl (by decide +kernel)
set_option maxRecDepth 20000 in
theorem gX9_subsumes_X9_noPair : GoodIn wsX9_subsumes (wsV RX9 374 RX9 yX9_noPair wsX9_noPair) := goodIn_app (goodIn_r _ [2, 3, 4, 5] rfl (by decide +kernel)) ggX9_subsumes_X9_noPair
set_option maxRecDepth 20000 in
theorem ggX9_subsumes_X9_isWithin : GoodIn wsX9_subsumes wsX9_isWithin := goodIn_r _ [26, 27, 28, 29, 5, 30, 15, 31, 32, 33, 34, 35, 36, 37, 38, 39, 40, 41, 42, 43, 44, 45, 46, 47, 48, 49, 50, 51, 52, 53, 54, 55, 56, 57, 58, 59, 60, 61] rfl (by decide +kernel)
set_option maxRecDepth 20000 in
theorem gX9_subsumes_X9_isWithin : GoodIn wsX9_subsumes (wsV RX9 71 RX9 yX9_isWithin wsX9_isWithin) := goodIn_app (goodIn_r _ [23, 24, 25, 5] rfl (by decide +kernel)) ggX9_subsumes_X9_isWithin
theorem dX9_subsumes_0 : decode cX9_subsumes 0 = .ok (.aload_n 0, 1) := by decide +kernel
theorem dX9_subsumes_1 : decode cX9_subsumes 1 = .ok (.iconst 0, 1) := by decide +kernel
theorem dX9_subsumes_2 : decode cX9_subsumes 2 = .ok (.putfield 46, 3) := by decide +kernel
theorem dX9_subsumes_5 : decode cX9_subsumes 5 = .ok (.aload_n 0, 1) := by decide +kernel
theorem dX9_subsumes_6 : decode cX9_subsumes 6 = .ok (.iload_n 1, 1) := by decide +kernel
theorem dX9_subsumes_7 : decode cX9_subsumes 7 = .ok (.iload_n 2, 1) := by decide +kernel
theorem dX9_subsumes_8 : decode cX9_subsumes 8 = .ok (.invokevirtual 374, 3) := by decide +kernel
theorem dX9_subsumes_11 : decode cX9_subsumes 11 = .ok (.ifCond .ne 16, 3) := by decide +kernel
theorem dX9_subsumes_14 : decode cX9_subsumes 14 = .ok (.aload_n 0, 1) := by decide +kernel
theorem dX9_subsumes_15 : decode cX9_subsumes 15 = .ok (.iload_n 1, 1) := by decide +kernel
theorem dX9_subsumes_16 : decode cX9_subsumes 16 = .ok (.iload_n 2, 1) := by decide +kernel
theorem dX9_subsumes_17 : decode cX9_subsumes 17 = .ok (.invokevirtual 71, 3) := by decide +kernel
theorem dX9_subsumes_20 : decode cX9_subsumes 20 = .ok (.ifCond .eq 7, 3) := by decide +kernel
theorem dX9_subsumes_23 : decode cX9_subsumes 23 = .ok (.iconst 1, 1) := by decide +kernel
theorem dX9_subsumes_24 : decode cX9_subsumes 24 = .ok (.goto 4, 3) := by decide +kernel
theorem dX9_subsumes_27 : decode cX9_subsumes 27 = .ok (.iconst 0, 1) := by decide +kernel
theorem dX9_subsumes_28 : decode cX9_subsumes 28 = .ok (.ireturn, 1) := by decide +kernel
set_option maxRecDepth 20000 in
theorem ggX9_subsumerOf_X9_noClause : GoodIn wsX9_subsumerOf wsX9_noClause := goodIn_r _ [6, 7, 8, 9, 5, 10, 11, 12, 13, 14, 15, 16, 17, 18, 1, 35, 36, 37, 38, 39, 40, 41, 42, 43, 44, 45, 46, 47, 48, 49, 50, 51, 52, 53, 54, 55, 56, 57, 58, 59, 60, 61] rfl (by decide +kernel)
set_option maxRecDepth 20000 in
theorem gX9_subsumerOf_X9_noClause : GoodIn wsX9_subsumerOf (wsV RX9 345 RX9 yX9_noClause wsX9_noClause) := goodIn_app (goodIn_r _ [2, 3, 4, 5] rfl (by decide +kernel)) ggX9_subsumerOf_X9_noClause
set_option maxRecDepth 20000 in
theorem ggX9_subsumerOf_X9_subsumer : GoodIn wsX9_subsumerOf wsX9_subsumer := goodIn_r _ [22, 7, 8, 9, 5, 10, 11, 23, 24, 25, 26, 27, 28, 29, 30, 31, 32, 33, 34, 35, 36, 37, 38, 39, 40, 41, 42, 43, 44, 45, 46, 47, 48, 49, 50, 51, 52, 53, 54, 55, 56, 57, 58, 59, 60, 61] rfl (by decide +kernel)
set_option maxRecDepth 20000 in
theorem gX9_subsumerOf_X9_subsumer : GoodIn wsX9_subsumerOf (wsV RX9 112 RX9 yX9_subsumer wsX9_subsumer) := goodIn_app (goodIn_r _ [19, 20, 21, 5] rfl (by decide +kernel)) ggX9_subsumerOf_X9_subsumer
theorem dX9_subsumerOf_0 : decode cX9_subsumerOf 0 = .ok (.aload_n 0, 1) := by decide +kernel
theorem dX9_subsumerOf_1 : decode cX9_subsumerOf 1 = .ok (.iconst 0, 1) := by decide +kernel
theorem dX9_subsumerOf_2 : decode cX9_subsumerOf 2 = .ok (.putfield 46, 3) := by decide +kernel
theorem dX9_subsumerOf_5 : decode cX9_subsumerOf 5 = .ok (.aload_n 0, 1) := by decide +kernel
theorem dX9_subsumerOf_6 : decode cX9_subsumerOf 6 = .ok (.iload_n 1, 1) := by decide +kernel
theorem dX9_subsumerOf_7 : decode cX9_subsumerOf 7 = .ok (.invokevirtual 345, 3) := by decide +kernel
theorem dX9_subsumerOf_10 : decode cX9_subsumerOf 10 = .ok (.ifCond .eq 7, 3) := by decide +kernel
theorem dX9_subsumerOf_13 : decode cX9_subsumerOf 13 = .ok (.iconst 0, 1) := by decide +kernel
theorem dX9_subsumerOf_14 : decode cX9_subsumerOf 14 = .ok (.goto 8, 3) := by decide +kernel
theorem dX9_subsumerOf_17 : decode cX9_subsumerOf 17 = .ok (.aload_n 0, 1) := by decide +kernel
theorem dX9_subsumerOf_18 : decode cX9_subsumerOf 18 = .ok (.iload_n 1, 1) := by decide +kernel
theorem dX9_subsumerOf_19 : decode cX9_subsumerOf 19 = .ok (.invokevirtual 112, 3) := by decide +kernel
theorem dX9_subsumerOf_22 : decode cX9_subsumerOf 22 = .ok (.ireturn, 1) := by decide +kernel
set_option maxRecDepth 20000 in
theorem ggX9_subsumedClauses_X9_subsumed : GoodIn wsX9_subsumedClauses wsX9_subsumed := goodIn_r _ [6, 7, 8, 9, 5, 10, 11, 12, 13, 14, 15, 16, 17, 18, 19, 20, 21, 22, 23, 24, 25, 26, 27, 28, 29, 30, 31, 32, 33, 34, 35, 36, 37, 38, 39, 40, 41, 42, 43, 44, 45, 46, 47, 48, 49, 50, 51, 52, 53, 54, 55, 56, 57, 58] rfl (by decide +kernel)
set_option maxRecDepth 20000 in
theorem gX9_subsumedClauses_X9_subsumed : GoodIn wsX9_subsumedClauses (wsV RX9 268 RX9 yX9_subsumed wsX9_subsumed) := goodIn_app (goodIn_r _ [2, 3, 4, 5] rfl (by decide +kernel)) ggX9_subsumedClauses_X9_subsumed
theorem dX9_subsumedClauses_0 : decode cX9_subsumedClauses 0 = .ok (.aload_n 0, 1) := by decide +kernel
theorem dX9_subsumedClauses_1 : decode cX9_subsumedClauses 1 = .ok (.iconst 0, 1) := by decide +kernel
theorem dX9_subsumedClauses_2 : decode cX9_subsumedClauses 2 = .ok (.putfield 46, 3) := by decide +kernel
theorem dX9_subsumedClauses_5 : decode cX9_subsumedClauses 5 = .ok (.aload_n 0, 1) := by decide +kernel
theorem dX9_subsumedClauses_6 : decode cX9_subsumedClauses 6 = .ok (.invokevirtual 268, 3) := by decide +kernel
theorem dX9_subsumedClauses_9 : decode cX9_subsumedClauses 9 = .ok (.ireturn, 1) := by decide +kernel
set_option maxRecDepth 20000 in
theorem ggX9_nextFirst_X9_hasStep : GoodIn wsX9_nextFirst wsX9_hasStep := goodIn_r _ [7, 2, 8, 9, 10, 11, 6, 12, 13, 14, 15, 16, 17, 18, 19, 20, 21, 22, 23, 24, 25, 26, 27, 28, 29, 30, 31, 32, 33, 34, 35, 36, 37, 38, 39, 40, 41, 42, 43, 44, 45, 46, 47, 48, 49, 50, 51, 52, 53, 54, 55, 56, 57, 58, 59, 60, 61, 62, 63, 64, 65, 66, 67, 68, 69, 70, 71, 72, 73, 74, 75, 76, 77, 78, 79, 80] rfl (by decide +kernel)
set_option maxRecDepth 20000 in
theorem gX9_nextFirst_X9_hasStep : GoodIn wsX9_nextFirst (wsV RX9 106 RX9 yX9_hasStep wsX9_hasStep) := goodIn_app (goodIn_r _ [3, 4, 5, 6] rfl (by decide +kernel)) ggX9_nextFirst_X9_hasStep
theorem dX9_nextFirst_0 : decode cX9_nextFirst 0 = .ok (.aload_n 0, 1) := by decide +kernel
theorem dX9_nextFirst_1 : decode cX9_nextFirst 1 = .ok (.iconst 0, 1) := by decide +kernel
theorem dX9_nextFirst_2 : decode cX9_nextFirst 2 = .ok (.putfield 46, 3) := by decide +kernel
theorem dX9_nextFirst_5 : decode cX9_nextFirst 5 = .ok (.aload_n 0, 1) := by decide +kernel
theorem dX9_nextFirst_6 : decode cX9_nextFirst 6 = .ok (.invokevirtual 106, 3) := by decide +kernel
theorem dX9_nextFirst_9 : decode cX9_nextFirst 9 = .ok (.istore_n 1, 1) := by decide +kernel
theorem dX9_nextFirst_10 : decode cX9_nextFirst 10 = .ok (.aload_n 0, 1) := by decide +kernel
theorem dX9_nextFirst_11 : decode cX9_nextFirst 11 = .ok (.getfield 90, 3) := by decide +kernel
theorem dX9_nextFirst_14 : decode cX9_nextFirst 14 = .ok (.ireturn, 1) := by decide +kernel
set_option maxRecDepth 20000 in
theorem ggX9_nextSecond_X9_hasStep : GoodIn wsX9_nextSecond wsX9_hasStep := goodIn_r _ [7, 8, 2, 9, 10, 11, 6, 12, 13, 14, 15, 16, 17, 18, 19, 20, 21, 22, 23, 24, 25, 26, 27, 28, 29, 30, 31, 32, 33, 34, 35, 36, 37, 38, 39, 40, 41, 42, 43, 44, 45, 46, 47, 48, 49, 50, 51, 52, 53, 54, 55, 56, 57, 58, 59, 60, 61, 62, 63, 64, 65, 66, 67, 68, 69, 70, 71, 72, 73, 74, 75, 76, 77, 78, 79, 80] rfl (by decide +kernel)
set_option maxRecDepth 20000 in
theorem gX9_nextSecond_X9_hasStep : GoodIn wsX9_nextSecond (wsV RX9 106 RX9 yX9_hasStep wsX9_hasStep) := goodIn_app (goodIn_r _ [3, 4, 5, 6] rfl (by decide +kernel)) ggX9_nextSecond_X9_hasStep
theorem dX9_nextSecond_0 : decode cX9_nextSecond 0 = .ok (.aload_n 0, 1) := by decide +kernel
theorem dX9_nextSecond_1 : decode cX9_nextSecond 1 = .ok (.iconst 0, 1) := by decide +kernel
theorem dX9_nextSecond_2 : decode cX9_nextSecond 2 = .ok (.putfield 46, 3) := by decide +kernel
theorem dX9_nextSecond_5 : decode cX9_nextSecond 5 = .ok (.aload_n 0, 1) := by decide +kernel
theorem dX9_nextSecond_6 : decode cX9_nextSecond 6 = .ok (.invokevirtual 106, 3) := by decide +kernel
theorem dX9_nextSecond_9 : decode cX9_nextSecond 9 = .ok (.istore_n 1, 1) := by decide +kernel
theorem dX9_nextSecond_10 : decode cX9_nextSecond 10 = .ok (.aload_n 0, 1) := by decide +kernel
theorem dX9_nextSecond_11 : decode cX9_nextSecond 11 = .ok (.getfield 93, 3) := by decide +kernel
theorem dX9_nextSecond_14 : decode cX9_nextSecond 14 = .ok (.ireturn, 1) := by decide +kernel
set_option maxRecDepth 20000 in
theorem ggX9_stepsToEmpty_X9_copies : GoodIn wsX9_stepsToEmpty wsX9_copies := goodIn_r _ [7] rfl (by decide +kernel)
set_option maxRecDepth 20000 in
theorem gX9_stepsToEmpty_X9_copies : GoodIn wsX9_stepsToEmpty (va_wsS RX9 49 yX9_copies wsX9_copies) := goodIn_app (goodIn_r _ [4, 5, 6] rfl (by decide +kernel)) ggX9_stepsToEmpty_X9_copies
set_option maxRecDepth 20000 in
theorem ggX9_stepsToEmpty_X9_steps : GoodIn wsX9_stepsToEmpty wsX9_steps := goodIn_r _ [11, 12, 13, 14, 15, 16, 6, 17, 18, 19, 20, 21, 22, 23, 24, 25, 2, 26, 27, 28, 29, 30, 31, 32, 33, 34, 35, 36, 37, 38, 39, 40, 41, 42, 43, 44, 45, 46, 47, 48, 49, 50, 51, 52, 53, 54, 55, 56, 57, 58, 59, 60, 61, 62, 63, 64, 65, 66, 67, 68, 69, 70, 71, 72, 73, 74, 75, 76, 77, 78, 79, 80, 81, 82, 83, 84, 85, 86, 87, 88, 89, 90, 91, 92, 93, 94, 95, 96] rfl (by decide +kernel)
set_option maxRecDepth 20000 in
theorem gX9_stepsToEmpty_X9_steps : GoodIn wsX9_stepsToEmpty (wsV RX9 293 RX9 yX9_steps wsX9_steps) := goodIn_app (goodIn_r _ [8, 9, 10, 6] rfl (by decide +kernel)) ggX9_stepsToEmpty_X9_steps
set_option maxRecDepth 20000 in
theorem ggX9_stepsToEmpty_X9_empty : GoodIn wsX9_stepsToEmpty wsX9_empty := goodIn_r _ [21, 22, 23, 24, 6, 25, 2, 26, 27, 28, 29, 30, 31, 32, 33, 34, 35, 36, 37, 70, 71, 72, 73, 74, 75, 76, 77, 78, 79, 80, 81, 82, 83, 84, 85, 86, 87, 88, 89, 90, 91, 92, 93, 94, 95, 96] rfl (by decide +kernel)
set_option maxRecDepth 20000 in
theorem gX9_stepsToEmpty_X9_empty : GoodIn wsX9_stepsToEmpty (wsV RX9 96 RX9 yX9_empty wsX9_empty) := goodIn_app (goodIn_r _ [18, 19, 20, 6] rfl (by decide +kernel)) ggX9_stepsToEmpty_X9_empty
theorem dX9_stepsToEmpty_0 : decode cX9_stepsToEmpty 0 = .ok (.aload_n 0, 1) := by decide +kernel
theorem dX9_stepsToEmpty_1 : decode cX9_stepsToEmpty 1 = .ok (.iconst 0, 1) := by decide +kernel
theorem dX9_stepsToEmpty_2 : decode cX9_stepsToEmpty 2 = .ok (.putfield 46, 3) := by decide +kernel
theorem dX9_stepsToEmpty_5 : decode cX9_stepsToEmpty 5 = .ok (.aload_n 0, 1) := by decide +kernel
theorem dX9_stepsToEmpty_6 : decode cX9_stepsToEmpty 6 = .ok (.getfield 9, 3) := by decide +kernel
theorem dX9_stepsToEmpty_9 : decode cX9_stepsToEmpty 9 = .ok (.iconst 0, 1) := by decide +kernel
theorem dX9_stepsToEmpty_10 : decode cX9_stepsToEmpty 10 = .ok (.aload_n 0, 1) := by decide +kernel
theorem dX9_stepsToEmpty_11 : decode cX9_stepsToEmpty 11 = .ok (.getfield 16, 3) := by decide +kernel
theorem dX9_stepsToEmpty_14 : decode cX9_stepsToEmpty 14 = .ok (.iconst 0, 1) := by decide +kernel
theorem dX9_stepsToEmpty_15 : decode cX9_stepsToEmpty 15 = .ok (.invokestatic 49, 3) := by decide +kernel
theorem dX9_stepsToEmpty_18 : decode cX9_stepsToEmpty 18 = .ok (.aload_n 0, 1) := by decide +kernel
theorem dX9_stepsToEmpty_19 : decode cX9_stepsToEmpty 19 = .ok (.bipush 60, 2) := by decide +kernel
theorem dX9_stepsToEmpty_21 : decode cX9_stepsToEmpty 21 = .ok (.invokevirtual 293, 3) := by decide +kernel
theorem dX9_stepsToEmpty_24 : decode cX9_stepsToEmpty 24 = .ok (.istore_n 1, 1) := by decide +kernel
theorem dX9_stepsToEmpty_25 : decode cX9_stepsToEmpty 25 = .ok (.aload_n 0, 1) := by decide +kernel
theorem dX9_stepsToEmpty_26 : decode cX9_stepsToEmpty 26 = .ok (.invokevirtual 96, 3) := by decide +kernel
theorem dX9_stepsToEmpty_29 : decode cX9_stepsToEmpty 29 = .ok (.iconst (-1), 1) := by decide +kernel
theorem dX9_stepsToEmpty_30 : decode cX9_stepsToEmpty 30 = .ok (.if_icmp .eq 7, 3) := by decide +kernel
theorem dX9_stepsToEmpty_33 : decode cX9_stepsToEmpty 33 = .ok (.iconst 1, 1) := by decide +kernel
theorem dX9_stepsToEmpty_34 : decode cX9_stepsToEmpty 34 = .ok (.goto 4, 3) := by decide +kernel
theorem dX9_stepsToEmpty_37 : decode cX9_stepsToEmpty 37 = .ok (.iconst 0, 1) := by decide +kernel
theorem dX9_stepsToEmpty_38 : decode cX9_stepsToEmpty 38 = .ok (.istore_n 2, 1) := by decide +kernel
theorem dX9_stepsToEmpty_39 : decode cX9_stepsToEmpty 39 = .ok (.aload_n 0, 1) := by decide +kernel
theorem dX9_stepsToEmpty_40 : decode cX9_stepsToEmpty 40 = .ok (.getfield 16, 3) := by decide +kernel
theorem dX9_stepsToEmpty_43 : decode cX9_stepsToEmpty 43 = .ok (.iconst 0, 1) := by decide +kernel
theorem dX9_stepsToEmpty_44 : decode cX9_stepsToEmpty 44 = .ok (.aload_n 0, 1) := by decide +kernel
theorem dX9_stepsToEmpty_45 : decode cX9_stepsToEmpty 45 = .ok (.getfield 9, 3) := by decide +kernel
theorem dX9_stepsToEmpty_48 : decode cX9_stepsToEmpty 48 = .ok (.iconst 0, 1) := by decide +kernel
theorem dX9_stepsToEmpty_49 : decode cX9_stepsToEmpty 49 = .ok (.invokestatic 49, 3) := by decide +kernel
theorem dX9_stepsToEmpty_52 : decode cX9_stepsToEmpty 52 = .ok (.iload_n 2, 1) := by decide +kernel
theorem dX9_stepsToEmpty_53 : decode cX9_stepsToEmpty 53 = .ok (.ifCond .eq 7, 3) := by decide +kernel
theorem dX9_stepsToEmpty_56 : decode cX9_stepsToEmpty 56 = .ok (.iload_n 1, 1) := by decide +kernel
theorem dX9_stepsToEmpty_57 : decode cX9_stepsToEmpty 57 = .ok (.goto 4, 3) := by decide +kernel
theorem dX9_stepsToEmpty_60 : decode cX9_stepsToEmpty 60 = .ok (.iconst (-1), 1) := by decide +kernel
theorem dX9_stepsToEmpty_61 : decode cX9_stepsToEmpty 61 = .ok (.ireturn, 1) := by decide +kernel
set_option maxRecDepth 20000 in
theorem ggX9_modelCount_X9_models : GoodIn wsX9_modelCount wsX9_models := goodIn_r _ [6, 7, 8, 9, 5, 10, 11, 12, 13, 14, 15, 16, 17, 18, 19, 20, 21, 22, 23, 24, 25, 26, 27, 28, 29, 30, 31, 32, 33, 34, 35, 36, 37, 38, 39, 40, 41, 42, 43, 44, 45, 46, 47, 48, 49, 50, 51, 52, 53, 54, 55, 56, 57, 58] rfl (by decide +kernel)
set_option maxRecDepth 20000 in
theorem gX9_modelCount_X9_models : GoodIn wsX9_modelCount (wsV RX9 255 RX9 yX9_models wsX9_models) := goodIn_app (goodIn_r _ [2, 3, 4, 5] rfl (by decide +kernel)) ggX9_modelCount_X9_models
theorem dX9_modelCount_0 : decode cX9_modelCount 0 = .ok (.aload_n 0, 1) := by decide +kernel
theorem dX9_modelCount_1 : decode cX9_modelCount 1 = .ok (.iconst 0, 1) := by decide +kernel
theorem dX9_modelCount_2 : decode cX9_modelCount 2 = .ok (.putfield 46, 3) := by decide +kernel
theorem dX9_modelCount_5 : decode cX9_modelCount 5 = .ok (.aload_n 0, 1) := by decide +kernel
theorem dX9_modelCount_6 : decode cX9_modelCount 6 = .ok (.invokevirtual 255, 3) := by decide +kernel
theorem dX9_modelCount_9 : decode cX9_modelCount 9 = .ok (.ireturn, 1) := by decide +kernel
set_option maxRecDepth 20000 in
theorem ggX9_firstModel_X9_assignments : GoodIn wsX9_firstModel wsX9_assignments := goodIn_r _ [6, 7, 8, 9, 5, 10, 11, 28, 29, 30, 31, 32, 33, 34, 35, 36, 37, 38, 39, 40, 41, 42, 43, 44, 45, 46, 47, 48, 49, 50, 51, 52, 53, 54] rfl (by decide +kernel)
set_option maxRecDepth 20000 in
theorem gX9_firstModel_X9_assignments : GoodIn wsX9_firstModel (wsV RX9 137 RX9 yX9_assignments wsX9_assignments) := goodIn_app (goodIn_r _ [2, 3, 4, 5] rfl (by decide +kernel)) ggX9_firstModel_X9_assignments
set_option maxRecDepth 20000 in
theorem ggX9_firstModel_X9_isModel : GoodIn wsX9_firstModel wsX9_isModel := goodIn_r _ [15, 16, 17, 18, 5, 19, 11, 20, 21, 22, 23, 7, 8, 9, 10, 24, 25, 26, 27, 28, 29, 30, 31, 32, 33, 34, 35, 36, 37, 38, 39, 40, 41, 42, 43, 44, 45, 46, 47, 48, 49, 50, 51, 52, 53, 54] rfl (by decide +kernel)
set_option maxRecDepth 20000 in
theorem gX9_firstModel_X9_isModel : GoodIn wsX9_firstModel (wsV RX9 140 RX9 yX9_isModel wsX9_isModel) := goodIn_app (goodIn_r _ [12, 13, 14, 5] rfl (by decide +kernel)) ggX9_firstModel_X9_isModel
theorem dX9_firstModel_0 : decode cX9_firstModel 0 = .ok (.aload_n 0, 1) := by decide +kernel
theorem dX9_firstModel_1 : decode cX9_firstModel 1 = .ok (.iconst 0, 1) := by decide +kernel
theorem dX9_firstModel_2 : decode cX9_firstModel 2 = .ok (.putfield 46, 3) := by decide +kernel
theorem dX9_firstModel_5 : decode cX9_firstModel 5 = .ok (.iconst 0, 1) := by decide +kernel
theorem dX9_firstModel_6 : decode cX9_firstModel 6 = .ok (.istore_n 1, 1) := by decide +kernel
theorem dX9_firstModel_7 : decode cX9_firstModel 7 = .ok (.iload_n 1, 1) := by decide +kernel
theorem dX9_firstModel_8 : decode cX9_firstModel 8 = .ok (.aload_n 0, 1) := by decide +kernel
theorem dX9_firstModel_9 : decode cX9_firstModel 9 = .ok (.invokevirtual 137, 3) := by decide +kernel
theorem dX9_firstModel_12 : decode cX9_firstModel 12 = .ok (.if_icmp .ge 20, 3) := by decide +kernel
theorem dX9_firstModel_15 : decode cX9_firstModel 15 = .ok (.aload_n 0, 1) := by decide +kernel
theorem dX9_firstModel_16 : decode cX9_firstModel 16 = .ok (.iload_n 1, 1) := by decide +kernel
theorem dX9_firstModel_17 : decode cX9_firstModel 17 = .ok (.iconst (-1), 1) := by decide +kernel
theorem dX9_firstModel_18 : decode cX9_firstModel 18 = .ok (.invokevirtual 140, 3) := by decide +kernel
theorem dX9_firstModel_21 : decode cX9_firstModel 21 = .ok (.ifCond .eq 5, 3) := by decide +kernel
theorem dX9_firstModel_24 : decode cX9_firstModel 24 = .ok (.iload_n 1, 1) := by decide +kernel
theorem dX9_firstModel_25 : decode cX9_firstModel 25 = .ok (.ireturn, 1) := by decide +kernel
theorem dX9_firstModel_26 : decode cX9_firstModel 26 = .ok (.iinc 1 1, 3) := by decide +kernel
theorem dX9_firstModel_29 : decode cX9_firstModel 29 = .ok (.goto (-22), 3) := by decide +kernel
theorem dX9_firstModel_32 : decode cX9_firstModel 32 = .ok (.iconst (-1), 1) := by decide +kernel
theorem dX9_firstModel_33 : decode cX9_firstModel 33 = .ok (.ireturn, 1) := by decide +kernel
set_option maxRecDepth 20000 in
theorem ggX9_modelAt_X9_assignments : GoodIn wsX9_modelAt wsX9_assignments := goodIn_r _ [6, 7, 8, 9, 5, 10, 11, 28, 29, 30, 31, 32, 33, 34, 35, 36, 37, 38, 39, 40, 41, 42, 43, 44, 45, 46, 47, 48, 49, 50, 51, 52, 53, 54] rfl (by decide +kernel)
set_option maxRecDepth 20000 in
theorem gX9_modelAt_X9_assignments : GoodIn wsX9_modelAt (wsV RX9 137 RX9 yX9_assignments wsX9_assignments) := goodIn_app (goodIn_r _ [2, 3, 4, 5] rfl (by decide +kernel)) ggX9_modelAt_X9_assignments
set_option maxRecDepth 20000 in
theorem ggX9_modelAt_X9_isModel : GoodIn wsX9_modelAt wsX9_isModel := goodIn_r _ [15, 16, 17, 18, 5, 19, 11, 20, 21, 22, 23, 7, 8, 9, 10, 24, 25, 26, 27, 28, 29, 30, 31, 32, 33, 34, 35, 36, 37, 38, 39, 40, 41, 42, 43, 44, 45, 46, 47, 48, 49, 50, 51, 52, 53, 54] rfl (by decide +kernel)
set_option maxRecDepth 20000 in
theorem gX9_modelAt_X9_isModel : GoodIn wsX9_modelAt (wsV RX9 140 RX9 yX9_isModel wsX9_isModel) := goodIn_app (goodIn_r _ [12, 13, 14, 5] rfl (by decide +kernel)) ggX9_modelAt_X9_isModel
theorem dX9_modelAt_0 : decode cX9_modelAt 0 = .ok (.aload_n 0, 1) := by decide +kernel
theorem dX9_modelAt_1 : decode cX9_modelAt 1 = .ok (.iconst 0, 1) := by decide +kernel
theorem dX9_modelAt_2 : decode cX9_modelAt 2 = .ok (.putfield 46, 3) := by decide +kernel
theorem dX9_modelAt_5 : decode cX9_modelAt 5 = .ok (.iconst 0, 1) := by decide +kernel
theorem dX9_modelAt_6 : decode cX9_modelAt 6 = .ok (.istore_n 2, 1) := by decide +kernel
theorem dX9_modelAt_7 : decode cX9_modelAt 7 = .ok (.iconst 0, 1) := by decide +kernel
theorem dX9_modelAt_8 : decode cX9_modelAt 8 = .ok (.istore_n 3, 1) := by decide +kernel
theorem dX9_modelAt_9 : decode cX9_modelAt 9 = .ok (.iload_n 3, 1) := by decide +kernel
theorem dX9_modelAt_10 : decode cX9_modelAt 10 = .ok (.aload_n 0, 1) := by decide +kernel
theorem dX9_modelAt_11 : decode cX9_modelAt 11 = .ok (.invokevirtual 137, 3) := by decide +kernel
theorem dX9_modelAt_14 : decode cX9_modelAt 14 = .ok (.if_icmp .ge 31, 3) := by decide +kernel
theorem dX9_modelAt_17 : decode cX9_modelAt 17 = .ok (.aload_n 0, 1) := by decide +kernel
theorem dX9_modelAt_18 : decode cX9_modelAt 18 = .ok (.iload_n 3, 1) := by decide +kernel
theorem dX9_modelAt_19 : decode cX9_modelAt 19 = .ok (.iconst (-1), 1) := by decide +kernel
theorem dX9_modelAt_20 : decode cX9_modelAt 20 = .ok (.invokevirtual 140, 3) := by decide +kernel
theorem dX9_modelAt_23 : decode cX9_modelAt 23 = .ok (.ifCond .ne 6, 3) := by decide +kernel
theorem dX9_modelAt_26 : decode cX9_modelAt 26 = .ok (.goto 13, 3) := by decide +kernel
theorem dX9_modelAt_29 : decode cX9_modelAt 29 = .ok (.iload_n 2, 1) := by decide +kernel
theorem dX9_modelAt_30 : decode cX9_modelAt 30 = .ok (.iload_n 1, 1) := by decide +kernel
theorem dX9_modelAt_31 : decode cX9_modelAt 31 = .ok (.if_icmp .ne 5, 3) := by decide +kernel
theorem dX9_modelAt_34 : decode cX9_modelAt 34 = .ok (.iload_n 3, 1) := by decide +kernel
theorem dX9_modelAt_35 : decode cX9_modelAt 35 = .ok (.ireturn, 1) := by decide +kernel
theorem dX9_modelAt_36 : decode cX9_modelAt 36 = .ok (.iinc 2 1, 3) := by decide +kernel
theorem dX9_modelAt_39 : decode cX9_modelAt 39 = .ok (.iinc 3 1, 3) := by decide +kernel
theorem dX9_modelAt_42 : decode cX9_modelAt 42 = .ok (.goto (-33), 3) := by decide +kernel
theorem dX9_modelAt_45 : decode cX9_modelAt 45 = .ok (.iconst (-1), 1) := by decide +kernel
theorem dX9_modelAt_46 : decode cX9_modelAt 46 = .ok (.ireturn, 1) := by decide +kernel
set_option maxRecDepth 20000 in
theorem ggX9_isTrue_X9_noClause : GoodIn wsX9_isTrue wsX9_noClause := goodIn_r _ [6, 7, 8, 9, 5, 10, 11, 12, 13, 14, 15, 16, 17, 18, 1, 39, 40, 41, 42, 43, 44, 45, 46, 47, 48, 49, 50, 51, 52, 53, 54, 55, 56, 57, 58, 59, 60, 61, 62, 63, 64, 65] rfl (by decide +kernel)
set_option maxRecDepth 20000 in
theorem gX9_isTrue_X9_noClause : GoodIn wsX9_isTrue (wsV RX9 345 RX9 yX9_noClause wsX9_noClause) := goodIn_app (goodIn_r _ [2, 3, 4, 5] rfl (by decide +kernel)) ggX9_isTrue_X9_noClause
set_option maxRecDepth 20000 in
theorem ggX9_isTrue_X9_isMask : GoodIn wsX9_isTrue wsX9_isMask := goodIn_r _ [22, 23, 24, 25, 5, 26, 27, 28, 29, 30, 11, 12, 13, 14, 39, 40, 41, 42, 43, 44, 45, 46, 47, 48, 49, 50, 51, 52, 53, 54, 55, 56, 57, 58, 59, 60, 61, 62, 63, 64, 65] rfl (by decide +kernel)
set_option maxRecDepth 20000 in
theorem gX9_isTrue_X9_isMask : GoodIn wsX9_isTrue (wsV RX9 348 RX9 yX9_isMask wsX9_isMask) := goodIn_app (goodIn_r _ [19, 20, 21, 5] rfl (by decide +kernel)) ggX9_isTrue_X9_isMask
set_option maxRecDepth 20000 in
theorem ggX9_isTrue_X9_throwsIf : GoodIn wsX9_isTrue wsX9_throwsIf := goodIn_r _ [18, 1, 39, 40, 41, 42, 43, 44, 45, 46, 47, 48, 49, 50, 51, 52, 53, 54, 55, 56, 57, 58, 59, 60, 61, 62, 63, 64, 65] rfl (by decide +kernel)
set_option maxRecDepth 20000 in
theorem gX9_isTrue_X9_throwsIf : GoodIn wsX9_isTrue (wsV RX9 327 RX9 yX9_throwsIf wsX9_throwsIf) := goodIn_app (goodIn_r _ [15, 16, 17, 5] rfl (by decide +kernel)) ggX9_isTrue_X9_throwsIf
set_option maxRecDepth 20000 in
theorem ggX9_isTrue_X9_holds : GoodIn wsX9_isTrue wsX9_holds := goodIn_r _ [34, 27, 28, 29, 5, 30, 11, 35, 36, 37, 38, 39, 40, 41, 42, 43, 44, 45, 46, 47, 48, 49, 50, 51, 52, 53, 54, 55, 56, 57, 58, 59, 60, 61, 62, 63, 64, 65] rfl (by decide +kernel)
set_option maxRecDepth 20000 in
theorem gX9_isTrue_X9_holds : GoodIn wsX9_isTrue (wsV RX9 134 RX9 yX9_holds wsX9_holds) := goodIn_app (goodIn_r _ [31, 32, 33, 5] rfl (by decide +kernel)) ggX9_isTrue_X9_holds
theorem dX9_isTrue_0 : decode cX9_isTrue 0 = .ok (.aload_n 0, 1) := by decide +kernel
theorem dX9_isTrue_1 : decode cX9_isTrue 1 = .ok (.iconst 0, 1) := by decide +kernel
theorem dX9_isTrue_2 : decode cX9_isTrue 2 = .ok (.putfield 46, 3) := by decide +kernel
theorem dX9_isTrue_5 : decode cX9_isTrue 5 = .ok (.aload_n 0, 1) := by decide +kernel
theorem dX9_isTrue_6 : decode cX9_isTrue 6 = .ok (.iload_n 1, 1) := by decide +kernel
theorem dX9_isTrue_7 : decode cX9_isTrue 7 = .ok (.invokevirtual 345, 3) := by decide +kernel
theorem dX9_isTrue_10 : decode cX9_isTrue 10 = .ok (.ifCond .ne 37, 3) := by decide +kernel
theorem dX9_isTrue_13 : decode cX9_isTrue 13 = .ok (.aload_n 0, 1) := by decide +kernel
theorem dX9_isTrue_14 : decode cX9_isTrue 14 = .ok (.aload_n 0, 1) := by decide +kernel
theorem dX9_isTrue_15 : decode cX9_isTrue 15 = .ok (.iload_n 2, 1) := by decide +kernel
theorem dX9_isTrue_16 : decode cX9_isTrue 16 = .ok (.invokevirtual 348, 3) := by decide +kernel
theorem dX9_isTrue_19 : decode cX9_isTrue 19 = .ok (.ifCond .ne 7, 3) := by decide +kernel
theorem dX9_isTrue_22 : decode cX9_isTrue 22 = .ok (.iconst 1, 1) := by decide +kernel
theorem dX9_isTrue_23 : decode cX9_isTrue 23 = .ok (.goto 4, 3) := by decide +kernel
theorem dX9_isTrue_26 : decode cX9_isTrue 26 = .ok (.iconst 0, 1) := by decide +kernel
theorem dX9_isTrue_27 : decode cX9_isTrue 27 = .ok (.iconst 2, 1) := by decide +kernel
theorem dX9_isTrue_28 : decode cX9_isTrue 28 = .ok (.invokevirtual 327, 3) := by decide +kernel
theorem dX9_isTrue_31 : decode cX9_isTrue 31 = .ok (.ifCond .ne 16, 3) := by decide +kernel
theorem dX9_isTrue_34 : decode cX9_isTrue 34 = .ok (.aload_n 0, 1) := by decide +kernel
theorem dX9_isTrue_35 : decode cX9_isTrue 35 = .ok (.iload_n 1, 1) := by decide +kernel
theorem dX9_isTrue_36 : decode cX9_isTrue 36 = .ok (.iload_n 2, 1) := by decide +kernel
theorem dX9_isTrue_37 : decode cX9_isTrue 37 = .ok (.invokevirtual 134, 3) := by decide +kernel
theorem dX9_isTrue_40 : decode cX9_isTrue 40 = .ok (.ifCond .eq 7, 3) := by decide +kernel
theorem dX9_isTrue_43 : decode cX9_isTrue 43 = .ok (.iconst 1, 1) := by decide +kernel
theorem dX9_isTrue_44 : decode cX9_isTrue 44 = .ok (.goto 4, 3) := by decide +kernel
theorem dX9_isTrue_47 : decode cX9_isTrue 47 = .ok (.iconst 0, 1) := by decide +kernel
theorem dX9_isTrue_48 : decode cX9_isTrue 48 = .ok (.ireturn, 1) := by decide +kernel
set_option maxRecDepth 20000 in
theorem ggX9_falseClauses_X9_isMask : GoodIn wsX9_falseClauses wsX9_isMask := goodIn_r _ [6, 7, 8, 9, 5, 10, 11, 12, 13, 14, 15, 16, 17, 18, 39, 40, 41, 42, 43, 44, 45, 46, 47, 48, 49, 50, 51, 52, 53, 54, 55, 56, 57, 58, 59, 60, 61, 62, 63, 64, 65] rfl (by decide +kernel)
set_option maxRecDepth 20000 in
theorem gX9_falseClauses_X9_isMask : GoodIn wsX9_falseClauses (wsV RX9 348 RX9 yX9_isMask wsX9_isMask) := goodIn_app (goodIn_r _ [2, 3, 4, 5] rfl (by decide +kernel)) ggX9_falseClauses_X9_isMask
set_option maxRecDepth 20000 in
theorem ggX9_falseClauses_X9_throwsIf : GoodIn wsX9_falseClauses wsX9_throwsIf := goodIn_r _ [22, 1, 39, 40, 41, 42, 43, 44, 45, 46, 47, 48, 49, 50, 51, 52, 53, 54, 55, 56, 57, 58, 59, 60, 61, 62, 63, 64, 65] rfl (by decide +kernel)
set_option maxRecDepth 20000 in
theorem gX9_falseClauses_X9_throwsIf : GoodIn wsX9_falseClauses (wsV RX9 327 RX9 yX9_throwsIf wsX9_throwsIf) := goodIn_app (goodIn_r _ [19, 20, 21, 5] rfl (by decide +kernel)) ggX9_falseClauses_X9_throwsIf
set_option maxRecDepth 20000 in
theorem ggX9_falseClauses_X9_falseUnder : GoodIn wsX9_falseClauses wsX9_falseUnder := goodIn_r _ [26, 27, 28, 29, 5, 30, 15, 31, 32, 33, 34, 11, 12, 13, 14, 35, 36, 37, 38, 39, 40, 41, 42, 43, 44, 45, 46, 47, 48, 49, 50, 51, 52, 53, 54, 55, 56, 57, 58, 59, 60, 61, 62, 63, 64, 65] rfl (by decide +kernel)
set_option maxRecDepth 20000 in
theorem gX9_falseClauses_X9_falseUnder : GoodIn wsX9_falseClauses (wsV RX9 380 RX9 yX9_falseUnder wsX9_falseUnder) := goodIn_app (goodIn_r _ [23, 24, 25, 5] rfl (by decide +kernel)) ggX9_falseClauses_X9_falseUnder
theorem dX9_falseClauses_0 : decode cX9_falseClauses 0 = .ok (.aload_n 0, 1) := by decide +kernel
theorem dX9_falseClauses_1 : decode cX9_falseClauses 1 = .ok (.iconst 0, 1) := by decide +kernel
theorem dX9_falseClauses_2 : decode cX9_falseClauses 2 = .ok (.putfield 46, 3) := by decide +kernel
theorem dX9_falseClauses_5 : decode cX9_falseClauses 5 = .ok (.aload_n 0, 1) := by decide +kernel
theorem dX9_falseClauses_6 : decode cX9_falseClauses 6 = .ok (.aload_n 0, 1) := by decide +kernel
theorem dX9_falseClauses_7 : decode cX9_falseClauses 7 = .ok (.iload_n 1, 1) := by decide +kernel
theorem dX9_falseClauses_8 : decode cX9_falseClauses 8 = .ok (.invokevirtual 348, 3) := by decide +kernel
theorem dX9_falseClauses_11 : decode cX9_falseClauses 11 = .ok (.ifCond .ne 7, 3) := by decide +kernel
theorem dX9_falseClauses_14 : decode cX9_falseClauses 14 = .ok (.iconst 1, 1) := by decide +kernel
theorem dX9_falseClauses_15 : decode cX9_falseClauses 15 = .ok (.goto 4, 3) := by decide +kernel
theorem dX9_falseClauses_18 : decode cX9_falseClauses 18 = .ok (.iconst 0, 1) := by decide +kernel
theorem dX9_falseClauses_19 : decode cX9_falseClauses 19 = .ok (.iconst 1, 1) := by decide +kernel
theorem dX9_falseClauses_20 : decode cX9_falseClauses 20 = .ok (.invokevirtual 327, 3) := by decide +kernel
theorem dX9_falseClauses_23 : decode cX9_falseClauses 23 = .ok (.ifCond .eq 7, 3) := by decide +kernel
theorem dX9_falseClauses_26 : decode cX9_falseClauses 26 = .ok (.iconst 0, 1) := by decide +kernel
theorem dX9_falseClauses_27 : decode cX9_falseClauses 27 = .ok (.goto 8, 3) := by decide +kernel
theorem dX9_falseClauses_30 : decode cX9_falseClauses 30 = .ok (.aload_n 0, 1) := by decide +kernel
theorem dX9_falseClauses_31 : decode cX9_falseClauses 31 = .ok (.iload_n 1, 1) := by decide +kernel
theorem dX9_falseClauses_32 : decode cX9_falseClauses 32 = .ok (.invokevirtual 380, 3) := by decide +kernel
theorem dX9_falseClauses_35 : decode cX9_falseClauses 35 = .ok (.ireturn, 1) := by decide +kernel
set_option maxRecDepth 20000 in
theorem ggX9_bestFlip_X9_isMask : GoodIn wsX9_bestFlip wsX9_isMask := goodIn_r _ [6, 7, 8, 9, 5, 10, 11, 12, 13, 14, 15, 16, 17, 18, 39, 40, 41, 42, 43, 44, 45, 46, 47, 48, 49, 50, 51, 52, 53, 54, 55, 56, 57, 58, 59, 60, 61, 62, 63, 64, 65] rfl (by decide +kernel)
set_option maxRecDepth 20000 in
theorem gX9_bestFlip_X9_isMask : GoodIn wsX9_bestFlip (wsV RX9 348 RX9 yX9_isMask wsX9_isMask) := goodIn_app (goodIn_r _ [2, 3, 4, 5] rfl (by decide +kernel)) ggX9_bestFlip_X9_isMask
set_option maxRecDepth 20000 in
theorem ggX9_bestFlip_X9_throwsIf : GoodIn wsX9_bestFlip wsX9_throwsIf := goodIn_r _ [22, 1, 39, 40, 41, 42, 43, 44, 45, 46, 47, 48, 49, 50, 51, 52, 53, 54, 55, 56, 57, 58, 59, 60, 61, 62, 63, 64, 65] rfl (by decide +kernel)
set_option maxRecDepth 20000 in
theorem gX9_bestFlip_X9_throwsIf : GoodIn wsX9_bestFlip (wsV RX9 327 RX9 yX9_throwsIf wsX9_throwsIf) := goodIn_app (goodIn_r _ [19, 20, 21, 5] rfl (by decide +kernel)) ggX9_bestFlip_X9_throwsIf
set_option maxRecDepth 20000 in
theorem ggX9_bestFlip_X9_wide : GoodIn wsX9_bestFlip wsX9_wide := goodIn_r _ [14, 15, 39, 40, 41, 42, 43, 44, 45, 46, 47, 48, 49, 50, 51, 52, 53, 54, 55, 56, 57, 58, 59, 60, 61, 62, 63, 64, 65] rfl (by decide +kernel)
set_option maxRecDepth 20000 in
theorem gX9_bestFlip_X9_wide : GoodIn wsX9_bestFlip (wsV RX9 64 RX9 yX9_wide wsX9_wide) := goodIn_app (goodIn_r _ [11, 12, 13, 5] rfl (by decide +kernel)) ggX9_bestFlip_X9_wide
set_option maxRecDepth 20000 in
theorem ggX9_bestFlip_X9_falseUnder : GoodIn wsX9_bestFlip wsX9_falseUnder := goodIn_r _ [26, 27, 28, 29, 5, 30, 15, 31, 32, 33, 34, 11, 12, 13, 14, 35, 36, 37, 38, 39, 40, 41, 42, 43, 44, 45, 46, 47, 48, 49, 50, 51, 52, 53, 54, 55, 56, 57, 58, 59, 60, 61, 62, 63, 64, 65] rfl (by decide +kernel)
set_option maxRecDepth 20000 in
theorem gX9_bestFlip_X9_falseUnder : GoodIn wsX9_bestFlip (wsV RX9 380 RX9 yX9_falseUnder wsX9_falseUnder) := goodIn_app (goodIn_r _ [23, 24, 25, 5] rfl (by decide +kernel)) ggX9_bestFlip_X9_falseUnder
theorem dX9_bestFlip_0 : decode cX9_bestFlip 0 = .ok (.aload_n 0, 1) := by decide +kernel
theorem dX9_bestFlip_1 : decode cX9_bestFlip 1 = .ok (.iconst 0, 1) := by decide +kernel
theorem dX9_bestFlip_2 : decode cX9_bestFlip 2 = .ok (.putfield 46, 3) := by decide +kernel
theorem dX9_bestFlip_5 : decode cX9_bestFlip 5 = .ok (.aload_n 0, 1) := by decide +kernel
theorem dX9_bestFlip_6 : decode cX9_bestFlip 6 = .ok (.aload_n 0, 1) := by decide +kernel
theorem dX9_bestFlip_7 : decode cX9_bestFlip 7 = .ok (.iload_n 1, 1) := by decide +kernel
theorem dX9_bestFlip_8 : decode cX9_bestFlip 8 = .ok (.invokevirtual 348, 3) := by decide +kernel
theorem dX9_bestFlip_11 : decode cX9_bestFlip 11 = .ok (.ifCond .ne 7, 3) := by decide +kernel
theorem dX9_bestFlip_14 : decode cX9_bestFlip 14 = .ok (.iconst 1, 1) := by decide +kernel
theorem dX9_bestFlip_15 : decode cX9_bestFlip 15 = .ok (.goto 4, 3) := by decide +kernel
theorem dX9_bestFlip_18 : decode cX9_bestFlip 18 = .ok (.iconst 0, 1) := by decide +kernel
theorem dX9_bestFlip_19 : decode cX9_bestFlip 19 = .ok (.iconst 1, 1) := by decide +kernel
theorem dX9_bestFlip_20 : decode cX9_bestFlip 20 = .ok (.invokevirtual 327, 3) := by decide +kernel
theorem dX9_bestFlip_23 : decode cX9_bestFlip 23 = .ok (.ifCond .eq 5, 3) := by decide +kernel
theorem dX9_bestFlip_26 : decode cX9_bestFlip 26 = .ok (.iconst 0, 1) := by decide +kernel
theorem dX9_bestFlip_27 : decode cX9_bestFlip 27 = .ok (.ireturn, 1) := by decide +kernel
theorem dX9_bestFlip_28 : decode cX9_bestFlip 28 = .ok (.iconst 0, 1) := by decide +kernel
theorem dX9_bestFlip_29 : decode cX9_bestFlip 29 = .ok (.istore_n 2, 1) := by decide +kernel
theorem dX9_bestFlip_30 : decode cX9_bestFlip 30 = .ok (.iconst 1, 1) := by decide +kernel
theorem dX9_bestFlip_31 : decode cX9_bestFlip 31 = .ok (.istore_n 3, 1) := by decide +kernel
theorem dX9_bestFlip_32 : decode cX9_bestFlip 32 = .ok (.iload_n 3, 1) := by decide +kernel
theorem dX9_bestFlip_33 : decode cX9_bestFlip 33 = .ok (.aload_n 0, 1) := by decide +kernel
theorem dX9_bestFlip_34 : decode cX9_bestFlip 34 = .ok (.invokevirtual 64, 3) := by decide +kernel
theorem dX9_bestFlip_37 : decode cX9_bestFlip 37 = .ok (.if_icmp .ge 32, 3) := by decide +kernel
theorem dX9_bestFlip_40 : decode cX9_bestFlip 40 = .ok (.aload_n 0, 1) := by decide +kernel
theorem dX9_bestFlip_41 : decode cX9_bestFlip 41 = .ok (.iload_n 1, 1) := by decide +kernel
theorem dX9_bestFlip_42 : decode cX9_bestFlip 42 = .ok (.iconst 1, 1) := by decide +kernel
theorem dX9_bestFlip_43 : decode cX9_bestFlip 43 = .ok (.iload_n 3, 1) := by decide +kernel
theorem dX9_bestFlip_44 : decode cX9_bestFlip 44 = .ok (.ishl, 1) := by decide +kernel
theorem dX9_bestFlip_45 : decode cX9_bestFlip 45 = .ok (.ixor, 1) := by decide +kernel
theorem dX9_bestFlip_46 : decode cX9_bestFlip 46 = .ok (.invokevirtual 380, 3) := by decide +kernel
theorem dX9_bestFlip_49 : decode cX9_bestFlip 49 = .ok (.aload_n 0, 1) := by decide +kernel
theorem dX9_bestFlip_50 : decode cX9_bestFlip 50 = .ok (.iload_n 1, 1) := by decide +kernel
theorem dX9_bestFlip_51 : decode cX9_bestFlip 51 = .ok (.iconst 1, 1) := by decide +kernel
theorem dX9_bestFlip_52 : decode cX9_bestFlip 52 = .ok (.iload_n 2, 1) := by decide +kernel
theorem dX9_bestFlip_53 : decode cX9_bestFlip 53 = .ok (.ishl, 1) := by decide +kernel
theorem dX9_bestFlip_54 : decode cX9_bestFlip 54 = .ok (.ixor, 1) := by decide +kernel
theorem dX9_bestFlip_55 : decode cX9_bestFlip 55 = .ok (.invokevirtual 380, 3) := by decide +kernel
theorem dX9_bestFlip_58 : decode cX9_bestFlip 58 = .ok (.if_icmp .ge 5, 3) := by decide +kernel
theorem dX9_bestFlip_61 : decode cX9_bestFlip 61 = .ok (.iload_n 3, 1) := by decide +kernel
theorem dX9_bestFlip_62 : decode cX9_bestFlip 62 = .ok (.istore_n 2, 1) := by decide +kernel
theorem dX9_bestFlip_63 : decode cX9_bestFlip 63 = .ok (.iinc 3 1, 3) := by decide +kernel
theorem dX9_bestFlip_66 : decode cX9_bestFlip 66 = .ok (.goto (-34), 3) := by decide +kernel
theorem dX9_bestFlip_69 : decode cX9_bestFlip 69 = .ok (.iload_n 2, 1) := by decide +kernel
theorem dX9_bestFlip_70 : decode cX9_bestFlip 70 = .ok (.ireturn, 1) := by decide +kernel
set_option maxRecDepth 20000 in
theorem ggX9_alwaysTrue_X9_always : GoodIn wsX9_alwaysTrue wsX9_always := goodIn_r _ [6, 7, 8, 9, 5, 10, 11, 12, 13, 14, 15, 16, 17, 18, 19, 20, 21, 22, 23, 24, 25, 26, 27, 28, 29, 30, 31, 32, 33, 34, 35, 36, 37, 38, 39, 40, 41, 42, 43, 44, 45, 46, 47, 48, 49, 50, 51, 52, 53, 54, 55, 56, 57, 58] rfl (by decide +kernel)
set_option maxRecDepth 20000 in
theorem gX9_alwaysTrue_X9_always : GoodIn wsX9_alwaysTrue (wsV RX9 383 RX9 yX9_always wsX9_always) := goodIn_app (goodIn_r _ [2, 3, 4, 5] rfl (by decide +kernel)) ggX9_alwaysTrue_X9_always
theorem dX9_alwaysTrue_0 : decode cX9_alwaysTrue 0 = .ok (.aload_n 0, 1) := by decide +kernel
theorem dX9_alwaysTrue_1 : decode cX9_alwaysTrue 1 = .ok (.iconst 0, 1) := by decide +kernel
theorem dX9_alwaysTrue_2 : decode cX9_alwaysTrue 2 = .ok (.putfield 46, 3) := by decide +kernel
theorem dX9_alwaysTrue_5 : decode cX9_alwaysTrue 5 = .ok (.aload_n 0, 1) := by decide +kernel
theorem dX9_alwaysTrue_6 : decode cX9_alwaysTrue 6 = .ok (.iconst 1, 1) := by decide +kernel
theorem dX9_alwaysTrue_7 : decode cX9_alwaysTrue 7 = .ok (.invokevirtual 383, 3) := by decide +kernel
theorem dX9_alwaysTrue_10 : decode cX9_alwaysTrue 10 = .ok (.ireturn, 1) := by decide +kernel
set_option maxRecDepth 20000 in
theorem ggX9_alwaysFalse_X9_always : GoodIn wsX9_alwaysFalse wsX9_always := goodIn_r _ [6, 7, 8, 9, 5, 10, 11, 12, 13, 14, 15, 16, 17, 18, 19, 20, 21, 22, 23, 24, 25, 26, 27, 28, 29, 30, 31, 32, 33, 34, 35, 36, 37, 38, 39, 40, 41, 42, 43, 44, 45, 46, 47, 48, 49, 50, 51, 52, 53, 54, 55, 56, 57, 58] rfl (by decide +kernel)
set_option maxRecDepth 20000 in
theorem gX9_alwaysFalse_X9_always : GoodIn wsX9_alwaysFalse (wsV RX9 383 RX9 yX9_always wsX9_always) := goodIn_app (goodIn_r _ [2, 3, 4, 5] rfl (by decide +kernel)) ggX9_alwaysFalse_X9_always
theorem dX9_alwaysFalse_0 : decode cX9_alwaysFalse 0 = .ok (.aload_n 0, 1) := by decide +kernel
theorem dX9_alwaysFalse_1 : decode cX9_alwaysFalse 1 = .ok (.iconst 0, 1) := by decide +kernel
theorem dX9_alwaysFalse_2 : decode cX9_alwaysFalse 2 = .ok (.putfield 46, 3) := by decide +kernel
theorem dX9_alwaysFalse_5 : decode cX9_alwaysFalse 5 = .ok (.aload_n 0, 1) := by decide +kernel
theorem dX9_alwaysFalse_6 : decode cX9_alwaysFalse 6 = .ok (.iconst 0, 1) := by decide +kernel
theorem dX9_alwaysFalse_7 : decode cX9_alwaysFalse 7 = .ok (.invokevirtual 383, 3) := by decide +kernel
theorem dX9_alwaysFalse_10 : decode cX9_alwaysFalse 10 = .ok (.ireturn, 1) := by decide +kernel
set_option maxRecDepth 20000 in
theorem ggX9_isImplied_X9_noMasks : GoodIn wsX9_isImplied wsX9_noMasks := goodIn_r _ [6, 7, 8, 9, 5, 10, 11, 12, 13, 14, 15, 16, 17, 18, 19, 20, 21, 22, 23, 24, 25, 26, 1, 27, 28, 29, 30, 31, 32, 33, 34, 35, 36, 37, 38, 55, 56, 57, 58, 59, 60, 61, 62, 63, 64, 65, 66, 67, 68, 69, 70, 71, 72, 73, 74, 75, 76, 77, 78, 79, 80, 81] rfl (by decide +kernel)
set_option maxRecDepth 20000 in
theorem gX9_isImplied_X9_noMasks : GoodIn wsX9_isImplied (wsV RX9 354 RX9 yX9_noMasks wsX9_noMasks) := goodIn_app (goodIn_r _ [2, 3, 4, 5] rfl (by decide +kernel)) ggX9_isImplied_X9_noMasks
set_option maxRecDepth 20000 in
theorem ggX9_isImplied_X9_many : GoodIn wsX9_isImplied wsX9_many := goodIn_r _ [34, 19, 55, 56, 57, 58, 59, 60, 61, 62, 63, 64, 65, 66, 67, 68, 69, 70, 71, 72, 73, 74, 75, 76, 77, 78, 79, 80, 81] rfl (by decide +kernel)
set_option maxRecDepth 20000 in
theorem gX9_isImplied_X9_many : GoodIn wsX9_isImplied (wsV RX9 56 RX9 yX9_many wsX9_many) := goodIn_app (goodIn_r _ [31, 32, 33, 5] rfl (by decide +kernel)) ggX9_isImplied_X9_many
set_option maxRecDepth 20000 in
theorem ggX9_isImplied_X9_follows : GoodIn wsX9_isImplied wsX9_follows := goodIn_r _ [42, 11, 12, 13, 5, 14, 15, 16, 17, 18, 19, 43, 44, 45, 46, 31, 32, 33, 34, 47, 48, 49, 50, 51, 52, 53, 54, 55, 56, 57, 58, 59, 60, 61, 62, 63, 64, 65, 66, 67, 68, 69, 70, 71, 72, 73, 74, 75, 76, 77, 78, 79, 80, 81] rfl (by decide +kernel)
set_option maxRecDepth 20000 in
theorem gX9_isImplied_X9_follows : GoodIn wsX9_isImplied (wsV RX9 278 RX9 yX9_follows wsX9_follows) := goodIn_app (goodIn_r _ [39, 40, 41, 5] rfl (by decide +kernel)) ggX9_isImplied_X9_follows
theorem dX9_isImplied_0 : decode cX9_isImplied 0 = .ok (.aload_n 0, 1) := by decide +kernel
theorem dX9_isImplied_1 : decode cX9_isImplied 1 = .ok (.iconst 0, 1) := by decide +kernel
theorem dX9_isImplied_2 : decode cX9_isImplied 2 = .ok (.putfield 46, 3) := by decide +kernel
theorem dX9_isImplied_5 : decode cX9_isImplied 5 = .ok (.aload_n 0, 1) := by decide +kernel
theorem dX9_isImplied_6 : decode cX9_isImplied 6 = .ok (.iload_n 1, 1) := by decide +kernel
theorem dX9_isImplied_7 : decode cX9_isImplied 7 = .ok (.iload_n 2, 1) := by decide +kernel
theorem dX9_isImplied_8 : decode cX9_isImplied 8 = .ok (.invokevirtual 354, 3) := by decide +kernel
theorem dX9_isImplied_11 : decode cX9_isImplied 11 = .ok (.ifCond .ne 19, 3) := by decide +kernel
theorem dX9_isImplied_14 : decode cX9_isImplied 14 = .ok (.aload_n 0, 1) := by decide +kernel
theorem dX9_isImplied_15 : decode cX9_isImplied 15 = .ok (.aload_n 0, 1) := by decide +kernel
theorem dX9_isImplied_16 : decode cX9_isImplied 16 = .ok (.invokevirtual 56, 3) := by decide +kernel
theorem dX9_isImplied_19 : decode cX9_isImplied 19 = .ok (.iconst (-1), 1) := by decide +kernel
theorem dX9_isImplied_20 : decode cX9_isImplied 20 = .ok (.invokevirtual 278, 3) := by decide +kernel
theorem dX9_isImplied_23 : decode cX9_isImplied 23 = .ok (.ifCond .eq 7, 3) := by decide +kernel
theorem dX9_isImplied_26 : decode cX9_isImplied 26 = .ok (.iconst 1, 1) := by decide +kernel
theorem dX9_isImplied_27 : decode cX9_isImplied 27 = .ok (.goto 4, 3) := by decide +kernel
theorem dX9_isImplied_30 : decode cX9_isImplied 30 = .ok (.iconst 0, 1) := by decide +kernel
theorem dX9_isImplied_31 : decode cX9_isImplied 31 = .ok (.ireturn, 1) := by decide +kernel
set_option maxRecDepth 20000 in
theorem ggX9_isRedundant_X9_noClause : GoodIn wsX9_isRedundant wsX9_noClause := goodIn_r _ [6, 7, 8, 9, 5, 10, 11, 12, 13, 14, 15, 16, 17, 18, 1, 43, 44, 45, 46, 47, 48, 49, 50, 51, 52, 53, 54, 55, 56, 57, 58, 59, 60, 61, 62, 63, 64, 65, 66, 67, 68, 69] rfl (by decide +kernel)
set_option maxRecDepth 20000 in
theorem gX9_isRedundant_X9_noClause : GoodIn wsX9_isRedundant (wsV RX9 345 RX9 yX9_noClause wsX9_noClause) := goodIn_app (goodIn_r _ [2, 3, 4, 5] rfl (by decide +kernel)) ggX9_isRedundant_X9_noClause
set_option maxRecDepth 20000 in
theorem ggX9_isRedundant_X9_follows : GoodIn wsX9_isRedundant wsX9_follows := goodIn_r _ [22, 23, 24, 25, 5, 26, 27, 28, 29, 30, 11, 31, 32, 33, 34, 7, 8, 9, 10, 35, 36, 37, 38, 39, 40, 41, 42, 43, 44, 45, 46, 47, 48, 49, 50, 51, 52, 53, 54, 55, 56, 57, 58, 59, 60, 61, 62, 63, 64, 65, 66, 67, 68, 69] rfl (by decide +kernel)
set_option maxRecDepth 20000 in
theorem gX9_isRedundant_X9_follows : GoodIn wsX9_isRedundant (wsV RX9 278 RX9 yX9_follows wsX9_follows) := goodIn_app (goodIn_r _ [19, 20, 21, 5] rfl (by decide +kernel)) ggX9_isRedundant_X9_follows
theorem dX9_isRedundant_0 : decode cX9_isRedundant 0 = .ok (.aload_n 0, 1) := by decide +kernel
theorem dX9_isRedundant_1 : decode cX9_isRedundant 1 = .ok (.iconst 0, 1) := by decide +kernel
theorem dX9_isRedundant_2 : decode cX9_isRedundant 2 = .ok (.putfield 46, 3) := by decide +kernel
theorem dX9_isRedundant_5 : decode cX9_isRedundant 5 = .ok (.aload_n 0, 1) := by decide +kernel
theorem dX9_isRedundant_6 : decode cX9_isRedundant 6 = .ok (.iload_n 1, 1) := by decide +kernel
theorem dX9_isRedundant_7 : decode cX9_isRedundant 7 = .ok (.invokevirtual 345, 3) := by decide +kernel
theorem dX9_isRedundant_10 : decode cX9_isRedundant 10 = .ok (.ifCond .ne 16, 3) := by decide +kernel
theorem dX9_isRedundant_13 : decode cX9_isRedundant 13 = .ok (.aload_n 0, 1) := by decide +kernel
theorem dX9_isRedundant_14 : decode cX9_isRedundant 14 = .ok (.iload_n 1, 1) := by decide +kernel
theorem dX9_isRedundant_15 : decode cX9_isRedundant 15 = .ok (.iload_n 1, 1) := by decide +kernel
theorem dX9_isRedundant_16 : decode cX9_isRedundant 16 = .ok (.invokevirtual 278, 3) := by decide +kernel
theorem dX9_isRedundant_19 : decode cX9_isRedundant 19 = .ok (.ifCond .eq 7, 3) := by decide +kernel
theorem dX9_isRedundant_22 : decode cX9_isRedundant 22 = .ok (.iconst 1, 1) := by decide +kernel
theorem dX9_isRedundant_23 : decode cX9_isRedundant 23 = .ok (.goto 4, 3) := by decide +kernel
theorem dX9_isRedundant_26 : decode cX9_isRedundant 26 = .ok (.iconst 0, 1) := by decide +kernel
theorem dX9_isRedundant_27 : decode cX9_isRedundant 27 = .ok (.ireturn, 1) := by decide +kernel
set_option maxRecDepth 20000 in
theorem ggX9_modelShare_X9_models : GoodIn wsX9_modelShare wsX9_models := goodIn_r _ [6, 7, 8, 9, 5, 10, 11, 12, 13, 14, 15, 16, 17, 18, 19, 20, 21, 22, 23, 24, 25, 26, 27, 28, 29, 30, 31, 32, 33, 34, 35, 36, 37, 38, 39, 40, 41, 42, 43, 44, 45, 46, 47, 48, 49, 50, 51, 52, 53, 54, 55, 56, 57, 58] rfl (by decide +kernel)
set_option maxRecDepth 20000 in
theorem gX9_modelShare_X9_models : GoodIn wsX9_modelShare (wsV RX9 255 RX9 yX9_models wsX9_models) := goodIn_app (goodIn_r _ [2, 3, 4, 5] rfl (by decide +kernel)) ggX9_modelShare_X9_models
set_option maxRecDepth 20000 in
theorem ggX9_modelShare_X9_assignments : GoodIn wsX9_modelShare wsX9_assignments := goodIn_r _ [10, 11, 12, 13, 5, 14, 15, 32, 33, 34, 35, 36, 37, 38, 39, 40, 41, 42, 43, 44, 45, 46, 47, 48, 49, 50, 51, 52, 53, 54, 55, 56, 57, 58] rfl (by decide +kernel)
set_option maxRecDepth 20000 in
theorem gX9_modelShare_X9_assignments : GoodIn wsX9_modelShare (wsV RX9 137 RX9 yX9_assignments wsX9_assignments) := goodIn_app (goodIn_r _ [7, 8, 9, 5] rfl (by decide +kernel)) ggX9_modelShare_X9_assignments
theorem dX9_modelShare_0 : decode cX9_modelShare 0 = .ok (.aload_n 0, 1) := by decide +kernel
theorem dX9_modelShare_1 : decode cX9_modelShare 1 = .ok (.iconst 0, 1) := by decide +kernel
theorem dX9_modelShare_2 : decode cX9_modelShare 2 = .ok (.putfield 46, 3) := by decide +kernel
theorem dX9_modelShare_5 : decode cX9_modelShare 5 = .ok (.aload_n 0, 1) := by decide +kernel
theorem dX9_modelShare_6 : decode cX9_modelShare 6 = .ok (.invokevirtual 255, 3) := by decide +kernel
theorem dX9_modelShare_9 : decode cX9_modelShare 9 = .ok (.i2d, 1) := by decide +kernel
theorem dX9_modelShare_10 : decode cX9_modelShare 10 = .ok (.aload_n 0, 1) := by decide +kernel
theorem dX9_modelShare_11 : decode cX9_modelShare 11 = .ok (.invokevirtual 137, 3) := by decide +kernel
theorem dX9_modelShare_14 : decode cX9_modelShare 14 = .ok (.i2d, 1) := by decide +kernel
theorem dX9_modelShare_15 : decode cX9_modelShare 15 = .ok (.ddiv, 1) := by decide +kernel
theorem dX9_modelShare_16 : decode cX9_modelShare 16 = .ok (.dreturn, 1) := by decide +kernel
set_option maxRecDepth 20000 in
theorem ggX9_fixedTrue_X9_propagates : GoodIn wsX9_fixedTrue wsX9_propagates := goodIn_r _ [7, 2, 8, 9, 10, 11, 12, 6, 13, 14, 15, 16, 17, 18, 19, 20, 21, 22, 23, 24, 25, 26, 27, 28, 29, 30, 31, 32, 33, 34, 35, 36, 37, 38, 39, 40, 41, 42, 43, 44, 45, 46, 47, 48, 49, 50, 51, 52, 53, 54, 55, 56, 57, 58, 59, 60, 61, 62, 63, 64, 65] rfl (by decide +kernel)
set_option maxRecDepth 20000 in
theorem gX9_fixedTrue_X9_propagates : GoodIn wsX9_fixedTrue (wsV RX9 244 RX9 yX9_propagates wsX9_propagates) := goodIn_app (goodIn_r _ [3, 4, 5, 6] rfl (by decide +kernel)) ggX9_fixedTrue_X9_propagates
theorem dX9_fixedTrue_0 : decode cX9_fixedTrue 0 = .ok (.aload_n 0, 1) := by decide +kernel
theorem dX9_fixedTrue_1 : decode cX9_fixedTrue 1 = .ok (.iconst 0, 1) := by decide +kernel
theorem dX9_fixedTrue_2 : decode cX9_fixedTrue 2 = .ok (.putfield 46, 3) := by decide +kernel
theorem dX9_fixedTrue_5 : decode cX9_fixedTrue 5 = .ok (.aload_n 0, 1) := by decide +kernel
theorem dX9_fixedTrue_6 : decode cX9_fixedTrue 6 = .ok (.invokevirtual 244, 3) := by decide +kernel
theorem dX9_fixedTrue_9 : decode cX9_fixedTrue 9 = .ok (.aload_n 0, 1) := by decide +kernel
theorem dX9_fixedTrue_10 : decode cX9_fixedTrue 10 = .ok (.getfield 143, 3) := by decide +kernel
theorem dX9_fixedTrue_13 : decode cX9_fixedTrue 13 = .ok (.ireturn, 1) := by decide +kernel
set_option maxRecDepth 20000 in
theorem ggX9_fixedFalse_X9_propagates : GoodIn wsX9_fixedFalse wsX9_propagates := goodIn_r _ [7, 8, 2, 9, 10, 11, 12, 6, 13, 14, 15, 16, 17, 18, 19, 20, 21, 22, 23, 24, 25, 26, 27, 28, 29, 30, 31, 32, 33, 34, 35, 36, 37, 38, 39, 40, 41, 42, 43, 44, 45, 46, 47, 48, 49, 50, 51, 52, 53, 54, 55, 56, 57, 58, 59, 60, 61, 62, 63, 64, 65] rfl (by decide +kernel)
set_option maxRecDepth 20000 in
theorem gX9_fixedFalse_X9_propagates : GoodIn wsX9_fixedFalse (wsV RX9 244 RX9 yX9_propagates wsX9_propagates) := goodIn_app (goodIn_r _ [3, 4, 5, 6] rfl (by decide +kernel)) ggX9_fixedFalse_X9_propagates
theorem dX9_fixedFalse_0 : decode cX9_fixedFalse 0 = .ok (.aload_n 0, 1) := by decide +kernel
theorem dX9_fixedFalse_1 : decode cX9_fixedFalse 1 = .ok (.iconst 0, 1) := by decide +kernel
theorem dX9_fixedFalse_2 : decode cX9_fixedFalse 2 = .ok (.putfield 46, 3) := by decide +kernel
theorem dX9_fixedFalse_5 : decode cX9_fixedFalse 5 = .ok (.aload_n 0, 1) := by decide +kernel
theorem dX9_fixedFalse_6 : decode cX9_fixedFalse 6 = .ok (.invokevirtual 244, 3) := by decide +kernel
theorem dX9_fixedFalse_9 : decode cX9_fixedFalse 9 = .ok (.aload_n 0, 1) := by decide +kernel
theorem dX9_fixedFalse_10 : decode cX9_fixedFalse 10 = .ok (.getfield 146, 3) := by decide +kernel
theorem dX9_fixedFalse_13 : decode cX9_fixedFalse 13 = .ok (.ireturn, 1) := by decide +kernel
set_option maxRecDepth 20000 in
theorem ggX9_hasConflict_X9_propagates : GoodIn wsX9_hasConflict wsX9_propagates := goodIn_r _ [7, 8, 9, 2, 10, 11, 12, 6, 13, 14, 15, 16, 17, 18, 19, 20, 21, 22, 23, 24, 25, 26, 27, 28, 29, 30, 31, 32, 33, 34, 35, 36, 37, 38, 39, 40, 41, 42, 43, 44, 45, 46, 47, 48, 49, 50, 51, 52, 53, 54, 55, 56, 57, 58, 59, 60, 61, 62, 63, 64, 65] rfl (by decide +kernel)
set_option maxRecDepth 20000 in
theorem gX9_hasConflict_X9_propagates : GoodIn wsX9_hasConflict (wsV RX9 244 RX9 yX9_propagates wsX9_propagates) := goodIn_app (goodIn_r _ [3, 4, 5, 6] rfl (by decide +kernel)) ggX9_hasConflict_X9_propagates
theorem dX9_hasConflict_0 : decode cX9_hasConflict 0 = .ok (.aload_n 0, 1) := by decide +kernel
theorem dX9_hasConflict_1 : decode cX9_hasConflict 1 = .ok (.iconst 0, 1) := by decide +kernel
theorem dX9_hasConflict_2 : decode cX9_hasConflict 2 = .ok (.putfield 46, 3) := by decide +kernel
theorem dX9_hasConflict_5 : decode cX9_hasConflict 5 = .ok (.aload_n 0, 1) := by decide +kernel
theorem dX9_hasConflict_6 : decode cX9_hasConflict 6 = .ok (.invokevirtual 244, 3) := by decide +kernel
theorem dX9_hasConflict_9 : decode cX9_hasConflict 9 = .ok (.aload_n 0, 1) := by decide +kernel
theorem dX9_hasConflict_10 : decode cX9_hasConflict 10 = .ok (.getfield 149, 3) := by decide +kernel
theorem dX9_hasConflict_13 : decode cX9_hasConflict 13 = .ok (.ireturn, 1) := by decide +kernel
set_option maxRecDepth 20000 in
theorem ggX9_addClause_X9_noMasks : GoodIn wsX9_addClause wsX9_noMasks := goodIn_r _ [6, 7, 8, 9, 5, 10, 11, 12, 13, 14, 15, 16, 17, 18, 19, 20, 21, 22, 23, 24, 25, 26, 1, 27, 28, 29, 30, 31, 32, 33, 34, 35, 36, 37, 38, 69, 70, 71, 72, 73, 74, 75, 76, 77, 78, 79, 80, 81, 82, 83, 84, 85, 86, 87, 88, 89, 90, 91, 92, 93, 94, 95] rfl (by decide +kernel)
set_option maxRecDepth 20000 in
theorem gX9_addClause_X9_noMasks : GoodIn wsX9_addClause (wsV RX9 354 RX9 yX9_noMasks wsX9_noMasks) := goodIn_app (goodIn_r _ [2, 3, 4, 5] rfl (by decide +kernel)) ggX9_addClause_X9_noMasks
set_option maxRecDepth 20000 in
theorem ggX9_addClause_X9_same : GoodIn wsX9_addClause wsX9_same := goodIn_r _ [42, 31, 32, 33, 5, 34, 19, 43, 44, 45, 46, 15, 16, 17, 18, 47, 48, 49, 50, 69, 70, 71, 72, 73, 74, 75, 76, 77, 78, 79, 80, 81, 82, 83, 84, 85, 86, 87, 88, 89, 90, 91, 92, 93, 94, 95] rfl (by decide +kernel)
set_option maxRecDepth 20000 in
theorem gX9_addClause_X9_same : GoodIn wsX9_addClause (wsV RX9 235 RX9 yX9_same wsX9_same) := goodIn_app (goodIn_r _ [39, 40, 41, 5] rfl (by decide +kernel)) ggX9_addClause_X9_same
set_option maxRecDepth 20000 in
theorem ggX9_addClause_X9_many : GoodIn wsX9_addClause wsX9_many := goodIn_r _ [34, 19, 69, 70, 71, 72, 73, 74, 75, 76, 77, 78, 79, 80, 81, 82, 83, 84, 85, 86, 87, 88, 89, 90, 91, 92, 93, 94, 95] rfl (by decide +kernel)
set_option maxRecDepth 20000 in
theorem gX9_addClause_X9_many : GoodIn wsX9_addClause (wsV RX9 56 RX9 yX9_many wsX9_many) := goodIn_app (goodIn_r _ [31, 32, 33, 5] rfl (by decide +kernel)) ggX9_addClause_X9_many
set_option maxRecDepth 20000 in
theorem ggX9_addClause_X9_throwsIf : GoodIn wsX9_addClause wsX9_throwsIf := goodIn_r _ [26, 1, 69, 70, 71, 72, 73, 74, 75, 76, 77, 78, 79, 80, 81, 82, 83, 84, 85, 86, 87, 88, 89, 90, 91, 92, 93, 94, 95] rfl (by decide +kernel)
set_option maxRecDepth 20000 in
theorem gX9_addClause_X9_throwsIf : GoodIn wsX9_addClause (wsV RX9 327 RX9 yX9_throwsIf wsX9_throwsIf) := goodIn_app (goodIn_r _ [23, 24, 25, 5] rfl (by decide +kernel)) ggX9_addClause_X9_throwsIf
set_option maxRecDepth 20000 in
theorem ggX9_addClause_X9_keeps : GoodIn wsX9_addClause wsX9_keeps := goodIn_r _ [54, 19, 55, 56, 57, 5, 58, 69, 70, 71, 72, 73, 74, 75, 76, 77, 78, 79, 80, 81, 82, 83, 84, 85, 86, 87, 88, 89, 90, 91, 92, 93, 94, 95] rfl (by decide +kernel)
set_option maxRecDepth 20000 in
theorem gX9_addClause_X9_keeps : GoodIn wsX9_addClause (wsV RX9 321 RX9 yX9_keeps wsX9_keeps) := goodIn_app (goodIn_r _ [51, 52, 53, 5] rfl (by decide +kernel)) ggX9_addClause_X9_keeps
set_option maxRecDepth 20000 in
theorem ggX9_addClause_X9_adds : GoodIn wsX9_addClause wsX9_adds := goodIn_r _ [62, 19, 31, 32, 33, 5, 34, 69, 70, 71, 72, 73, 74, 75, 76, 77, 78, 79, 80, 81, 82, 83, 84, 85, 86, 87, 88, 89, 90, 91, 92, 93, 94, 95] rfl (by decide +kernel)
set_option maxRecDepth 20000 in
theorem gX9_addClause_X9_adds : GoodIn wsX9_addClause (wsV RX9 82 RX9 yX9_adds wsX9_adds) := goodIn_app (goodIn_r _ [59, 60, 61, 5] rfl (by decide +kernel)) ggX9_addClause_X9_adds
set_option maxRecDepth 20000 in
theorem ggX9_addClause_X9_records : GoodIn wsX9_addClause wsX9_records := goodIn_r _ [66, 67, 68, 55, 56, 57, 5, 58, 69, 70, 71, 72, 73, 74, 75, 76, 77, 78, 79, 80, 81, 82, 83, 84, 85, 86, 87, 88, 89, 90, 91, 92, 93, 94, 95] rfl (by decide +kernel)
set_option maxRecDepth 20000 in
theorem gX9_addClause_X9_records : GoodIn wsX9_addClause (wsV RX9 342 RX9 yX9_records wsX9_records) := goodIn_app (goodIn_r _ [63, 64, 65, 5] rfl (by decide +kernel)) ggX9_addClause_X9_records
theorem dX9_addClause_0 : decode cX9_addClause 0 = .ok (.aload_n 0, 1) := by decide +kernel
theorem dX9_addClause_1 : decode cX9_addClause 1 = .ok (.iconst 0, 1) := by decide +kernel
theorem dX9_addClause_2 : decode cX9_addClause 2 = .ok (.putfield 46, 3) := by decide +kernel
theorem dX9_addClause_5 : decode cX9_addClause 5 = .ok (.aload_n 0, 1) := by decide +kernel
theorem dX9_addClause_6 : decode cX9_addClause 6 = .ok (.iload_n 1, 1) := by decide +kernel
theorem dX9_addClause_7 : decode cX9_addClause 7 = .ok (.iload_n 2, 1) := by decide +kernel
theorem dX9_addClause_8 : decode cX9_addClause 8 = .ok (.invokevirtual 354, 3) := by decide +kernel
theorem dX9_addClause_11 : decode cX9_addClause 11 = .ok (.ifCond .ne 33, 3) := by decide +kernel
theorem dX9_addClause_14 : decode cX9_addClause 14 = .ok (.aload_n 0, 1) := by decide +kernel
theorem dX9_addClause_15 : decode cX9_addClause 15 = .ok (.aload_n 0, 1) := by decide +kernel
theorem dX9_addClause_16 : decode cX9_addClause 16 = .ok (.invokevirtual 235, 3) := by decide +kernel
theorem dX9_addClause_19 : decode cX9_addClause 19 = .ok (.iconst (-1), 1) := by decide +kernel
theorem dX9_addClause_20 : decode cX9_addClause 20 = .ok (.if_icmp .ne 12, 3) := by decide +kernel
theorem dX9_addClause_23 : decode cX9_addClause 23 = .ok (.aload_n 0, 1) := by decide +kernel
theorem dX9_addClause_24 : decode cX9_addClause 24 = .ok (.invokevirtual 56, 3) := by decide +kernel
theorem dX9_addClause_27 : decode cX9_addClause 27 = .ok (.bipush 60, 2) := by decide +kernel
theorem dX9_addClause_29 : decode cX9_addClause 29 = .ok (.if_icmp .ne 7, 3) := by decide +kernel
theorem dX9_addClause_32 : decode cX9_addClause 32 = .ok (.iconst 1, 1) := by decide +kernel
theorem dX9_addClause_33 : decode cX9_addClause 33 = .ok (.goto 4, 3) := by decide +kernel
theorem dX9_addClause_36 : decode cX9_addClause 36 = .ok (.iconst 0, 1) := by decide +kernel
theorem dX9_addClause_37 : decode cX9_addClause 37 = .ok (.iconst 2, 1) := by decide +kernel
theorem dX9_addClause_38 : decode cX9_addClause 38 = .ok (.invokevirtual 327, 3) := by decide +kernel
theorem dX9_addClause_41 : decode cX9_addClause 41 = .ok (.ifCond .eq 5, 3) := by decide +kernel
theorem dX9_addClause_44 : decode cX9_addClause 44 = .ok (.iconst 0, 1) := by decide +kernel
theorem dX9_addClause_45 : decode cX9_addClause 45 = .ok (.ireturn, 1) := by decide +kernel
theorem dX9_addClause_46 : decode cX9_addClause 46 = .ok (.aload_n 0, 1) := by decide +kernel
theorem dX9_addClause_47 : decode cX9_addClause 47 = .ok (.invokevirtual 321, 3) := by decide +kernel
theorem dX9_addClause_50 : decode cX9_addClause 50 = .ok (.aload_n 0, 1) := by decide +kernel
theorem dX9_addClause_51 : decode cX9_addClause 51 = .ok (.aload_n 0, 1) := by decide +kernel
theorem dX9_addClause_52 : decode cX9_addClause 52 = .ok (.iconst (-1), 1) := by decide +kernel
theorem dX9_addClause_53 : decode cX9_addClause 53 = .ok (.iconst (-1), 1) := by decide +kernel
theorem dX9_addClause_54 : decode cX9_addClause 54 = .ok (.iconst (-1), 1) := by decide +kernel
theorem dX9_addClause_55 : decode cX9_addClause 55 = .ok (.invokevirtual 82, 3) := by decide +kernel
theorem dX9_addClause_58 : decode cX9_addClause 58 = .ok (.invokevirtual 342, 3) := by decide +kernel
theorem dX9_addClause_61 : decode cX9_addClause 61 = .ok (.ireturn, 1) := by decide +kernel
set_option maxRecDepth 20000 in
theorem ggX9_resolve_X9_noPair : GoodIn wsX9_resolve wsX9_noPair := goodIn_r _ [6, 7, 8, 9, 5, 10, 11, 12, 13, 14, 15, 16, 17, 18, 19, 20, 21, 22, 1, 77, 78, 79, 80, 81, 82, 83, 84, 85, 86, 87, 88, 89, 90, 91, 92, 93, 94, 95, 96, 97, 98, 99, 100, 101, 102, 103] rfl (by decide +kernel)
set_option maxRecDepth 20000 in
theorem gX9_resolve_X9_noPair : GoodIn wsX9_resolve (wsV RX9 374 RX9 yX9_noPair wsX9_noPair) := goodIn_app (goodIn_r _ [2, 3, 4, 5] rfl (by decide +kernel)) ggX9_resolve_X9_noPair
set_option maxRecDepth 20000 in
theorem ggX9_resolve_X9_clashing : GoodIn wsX9_resolve wsX9_clashing := goodIn_r _ [26, 27, 28, 29, 5, 30, 15, 31, 32, 33, 34, 77, 78, 79, 80, 81, 82, 83, 84, 85, 86, 87, 88, 89, 90, 91, 92, 93, 94, 95, 96, 97, 98, 99, 100, 101, 102, 103] rfl (by decide +kernel)
set_option maxRecDepth 20000 in
theorem gX9_resolve_X9_clashing : GoodIn wsX9_resolve (wsV RX9 99 RX9 yX9_clashing wsX9_clashing) := goodIn_app (goodIn_r _ [23, 24, 25, 5] rfl (by decide +kernel)) ggX9_resolve_X9_clashing
set_option maxRecDepth 20000 in
theorem ggX9_resolve_X9_throwsIf : GoodIn wsX9_resolve wsX9_throwsIf := goodIn_r _ [22, 1, 77, 78, 79, 80, 81, 82, 83, 84, 85, 86, 87, 88, 89, 90, 91, 92, 93, 94, 95, 96, 97, 98, 99, 100, 101, 102, 103] rfl (by decide +kernel)
set_option maxRecDepth 20000 in
theorem gX9_resolve_X9_throwsIf : GoodIn wsX9_resolve (wsV RX9 327 RX9 yX9_throwsIf wsX9_throwsIf) := goodIn_app (goodIn_r _ [19, 20, 21, 5] rfl (by decide +kernel)) ggX9_resolve_X9_throwsIf
set_option maxRecDepth 20000 in
theorem ggX9_resolve_X9_resolves : GoodIn wsX9_resolve wsX9_resolves := goodIn_r _ [38, 39, 40, 41, 5, 42, 31, 32, 33, 34, 15, 27, 28, 29, 30, 11, 12, 13, 14, 43, 44, 45, 46, 77, 78, 79, 80, 81, 82, 83, 84, 85, 86, 87, 88, 89, 90, 91, 92, 93, 94, 95, 96, 97, 98, 99, 100, 101, 102, 103] rfl (by decide +kernel)
set_option maxRecDepth 20000 in
theorem gX9_resolve_X9_resolves : GoodIn wsX9_resolve (wsV RX9 78 RX9 yX9_resolves wsX9_resolves) := goodIn_app (goodIn_r _ [35, 36, 37, 5] rfl (by decide +kernel)) ggX9_resolve_X9_resolves
set_option maxRecDepth 20000 in
theorem ggX9_resolve_X9_same : GoodIn wsX9_resolve wsX9_same := goodIn_r _ [50, 11, 12, 13, 5, 14, 15, 51, 52, 53, 54, 27, 28, 29, 30, 31, 32, 33, 34, 77, 78, 79, 80, 81, 82, 83, 84, 85, 86, 87, 88, 89, 90, 91, 92, 93, 94, 95, 96, 97, 98, 99, 100, 101, 102, 103] rfl (by decide +kernel)
set_option maxRecDepth 20000 in
theorem gX9_resolve_X9_same : GoodIn wsX9_resolve (wsV RX9 235 RX9 yX9_same wsX9_same) := goodIn_app (goodIn_r _ [47, 48, 49, 5] rfl (by decide +kernel)) ggX9_resolve_X9_same
set_option maxRecDepth 20000 in
theorem ggX9_resolve_X9_many : GoodIn wsX9_resolve wsX9_many := goodIn_r _ [14, 15, 77, 78, 79, 80, 81, 82, 83, 84, 85, 86, 87, 88, 89, 90, 91, 92, 93, 94, 95, 96, 97, 98, 99, 100, 101, 102, 103] rfl (by decide +kernel)
set_option maxRecDepth 20000 in
theorem gX9_resolve_X9_many : GoodIn wsX9_resolve (wsV RX9 56 RX9 yX9_many wsX9_many) := goodIn_app (goodIn_r _ [11, 12, 13, 5] rfl (by decide +kernel)) ggX9_resolve_X9_many
set_option maxRecDepth 20000 in
theorem ggX9_resolve_X9_keeps : GoodIn wsX9_resolve wsX9_keeps := goodIn_r _ [58, 15, 59, 60, 61, 5, 62, 77, 78, 79, 80, 81, 82, 83, 84, 85, 86, 87, 88, 89, 90, 91, 92, 93, 94, 95, 96, 97, 98, 99, 100, 101, 102, 103] rfl (by decide +kernel)
set_option maxRecDepth 20000 in
theorem gX9_resolve_X9_keeps : GoodIn wsX9_resolve (wsV RX9 321 RX9 yX9_keeps wsX9_keeps) := goodIn_app (goodIn_r _ [55, 56, 57, 5] rfl (by decide +kernel)) ggX9_resolve_X9_keeps
set_option maxRecDepth 20000 in
theorem ggX9_resolve_X9_addsResolvent : GoodIn wsX9_resolve wsX9_addsResolvent := goodIn_r _ [66, 39, 40, 41, 5, 42, 31, 32, 33, 34, 15, 35, 36, 37, 38, 27, 28, 29, 30, 11, 12, 13, 14, 43, 44, 45, 46, 67, 68, 69, 70, 77, 78, 79, 80, 81, 82, 83, 84, 85, 86, 87, 88, 89, 90, 91, 92, 93, 94, 95, 96, 97, 98, 99, 100, 101, 102, 103] rfl (by decide +kernel)
set_option maxRecDepth 20000 in
theorem gX9_resolve_X9_addsResolvent : GoodIn wsX9_resolve (wsV RX9 109 RX9 yX9_addsResolvent wsX9_addsResolvent) := goodIn_app (goodIn_r _ [63, 64, 65, 5] rfl (by decide +kernel)) ggX9_resolve_X9_addsResolvent
set_option maxRecDepth 20000 in
theorem ggX9_resolve_X9_records : GoodIn wsX9_resolve wsX9_records := goodIn_r _ [74, 75, 76, 59, 60, 61, 5, 62, 77, 78, 79, 80, 81, 82, 83, 84, 85, 86, 87, 88, 89, 90, 91, 92, 93, 94, 95, 96, 97, 98, 99, 100, 101, 102, 103] rfl (by decide +kernel)
set_option maxRecDepth 20000 in
theorem gX9_resolve_X9_records : GoodIn wsX9_resolve (wsV RX9 342 RX9 yX9_records wsX9_records) := goodIn_app (goodIn_r _ [71, 72, 73, 5] rfl (by decide +kernel)) ggX9_resolve_X9_records
theorem dX9_resolve_0 : decode cX9_resolve 0 = .ok (.aload_n 0, 1) := by decide +kernel
theorem dX9_resolve_1 : decode cX9_resolve 1 = .ok (.iconst 0, 1) := by decide +kernel
theorem dX9_resolve_2 : decode cX9_resolve 2 = .ok (.putfield 46, 3) := by decide +kernel
theorem dX9_resolve_5 : decode cX9_resolve 5 = .ok (.aload_n 0, 1) := by decide +kernel
theorem dX9_resolve_6 : decode cX9_resolve 6 = .ok (.iload_n 1, 1) := by decide +kernel
theorem dX9_resolve_7 : decode cX9_resolve 7 = .ok (.iload_n 2, 1) := by decide +kernel
theorem dX9_resolve_8 : decode cX9_resolve 8 = .ok (.invokevirtual 374, 3) := by decide +kernel
theorem dX9_resolve_11 : decode cX9_resolve 11 = .ok (.ifCond .ne 26, 3) := by decide +kernel
theorem dX9_resolve_14 : decode cX9_resolve 14 = .ok (.aload_n 0, 1) := by decide +kernel
theorem dX9_resolve_15 : decode cX9_resolve 15 = .ok (.aload_n 0, 1) := by decide +kernel
theorem dX9_resolve_16 : decode cX9_resolve 16 = .ok (.iload_n 1, 1) := by decide +kernel
theorem dX9_resolve_17 : decode cX9_resolve 17 = .ok (.iload_n 2, 1) := by decide +kernel
theorem dX9_resolve_18 : decode cX9_resolve 18 = .ok (.invokevirtual 99, 3) := by decide +kernel
theorem dX9_resolve_21 : decode cX9_resolve 21 = .ok (.iconst 1, 1) := by decide +kernel
theorem dX9_resolve_22 : decode cX9_resolve 22 = .ok (.if_icmp .eq 7, 3) := by decide +kernel
theorem dX9_resolve_25 : decode cX9_resolve 25 = .ok (.iconst 1, 1) := by decide +kernel
theorem dX9_resolve_26 : decode cX9_resolve 26 = .ok (.goto 4, 3) := by decide +kernel
theorem dX9_resolve_29 : decode cX9_resolve 29 = .ok (.iconst 0, 1) := by decide +kernel
theorem dX9_resolve_30 : decode cX9_resolve 30 = .ok (.iconst 2, 1) := by decide +kernel
theorem dX9_resolve_31 : decode cX9_resolve 31 = .ok (.invokevirtual 327, 3) := by decide +kernel
theorem dX9_resolve_34 : decode cX9_resolve 34 = .ok (.ifCond .eq 5, 3) := by decide +kernel
theorem dX9_resolve_37 : decode cX9_resolve 37 = .ok (.iconst 0, 1) := by decide +kernel
theorem dX9_resolve_38 : decode cX9_resolve 38 = .ok (.ireturn, 1) := by decide +kernel
theorem dX9_resolve_39 : decode cX9_resolve 39 = .ok (.aload_n 0, 1) := by decide +kernel
theorem dX9_resolve_40 : decode cX9_resolve 40 = .ok (.iload_n 1, 1) := by decide +kernel
theorem dX9_resolve_41 : decode cX9_resolve 41 = .ok (.iload_n 2, 1) := by decide +kernel
theorem dX9_resolve_42 : decode cX9_resolve 42 = .ok (.invokevirtual 78, 3) := by decide +kernel
theorem dX9_resolve_45 : decode cX9_resolve 45 = .ok (.aload_n 0, 1) := by decide +kernel
theorem dX9_resolve_46 : decode cX9_resolve 46 = .ok (.aload_n 0, 1) := by decide +kernel
theorem dX9_resolve_47 : decode cX9_resolve 47 = .ok (.invokevirtual 235, 3) := by decide +kernel
theorem dX9_resolve_50 : decode cX9_resolve 50 = .ok (.iconst (-1), 1) := by decide +kernel
theorem dX9_resolve_51 : decode cX9_resolve 51 = .ok (.if_icmp .ne 12, 3) := by decide +kernel
theorem dX9_resolve_54 : decode cX9_resolve 54 = .ok (.aload_n 0, 1) := by decide +kernel
theorem dX9_resolve_55 : decode cX9_resolve 55 = .ok (.invokevirtual 56, 3) := by decide +kernel
theorem dX9_resolve_58 : decode cX9_resolve 58 = .ok (.bipush 60, 2) := by decide +kernel
theorem dX9_resolve_60 : decode cX9_resolve 60 = .ok (.if_icmp .ne 7, 3) := by decide +kernel
theorem dX9_resolve_63 : decode cX9_resolve 63 = .ok (.iconst 1, 1) := by decide +kernel
theorem dX9_resolve_64 : decode cX9_resolve 64 = .ok (.goto 4, 3) := by decide +kernel
theorem dX9_resolve_67 : decode cX9_resolve 67 = .ok (.iconst 0, 1) := by decide +kernel
theorem dX9_resolve_68 : decode cX9_resolve 68 = .ok (.iconst 3, 1) := by decide +kernel
theorem dX9_resolve_69 : decode cX9_resolve 69 = .ok (.invokevirtual 327, 3) := by decide +kernel
theorem dX9_resolve_72 : decode cX9_resolve 72 = .ok (.ifCond .eq 5, 3) := by decide +kernel
theorem dX9_resolve_75 : decode cX9_resolve 75 = .ok (.iconst 0, 1) := by decide +kernel
theorem dX9_resolve_76 : decode cX9_resolve 76 = .ok (.ireturn, 1) := by decide +kernel
theorem dX9_resolve_77 : decode cX9_resolve 77 = .ok (.aload_n 0, 1) := by decide +kernel
theorem dX9_resolve_78 : decode cX9_resolve 78 = .ok (.invokevirtual 321, 3) := by decide +kernel
theorem dX9_resolve_81 : decode cX9_resolve 81 = .ok (.aload_n 0, 1) := by decide +kernel
theorem dX9_resolve_82 : decode cX9_resolve 82 = .ok (.aload_n 0, 1) := by decide +kernel
theorem dX9_resolve_83 : decode cX9_resolve 83 = .ok (.iload_n 1, 1) := by decide +kernel
theorem dX9_resolve_84 : decode cX9_resolve 84 = .ok (.iload_n 2, 1) := by decide +kernel
theorem dX9_resolve_85 : decode cX9_resolve 85 = .ok (.invokevirtual 109, 3) := by decide +kernel
theorem dX9_resolve_88 : decode cX9_resolve 88 = .ok (.invokevirtual 342, 3) := by decide +kernel
theorem dX9_resolve_91 : decode cX9_resolve 91 = .ok (.ireturn, 1) := by decide +kernel
set_option maxRecDepth 20000 in
theorem ggX9_saturate_X9_in : GoodIn wsX9_saturate wsX9_in := goodIn_r _ [6] rfl (by decide +kernel)
set_option maxRecDepth 20000 in
theorem gX9_saturate_X9_in : GoodIn wsX9_saturate (va_wsS RX9 178 yX9_in wsX9_in) := goodIn_app (goodIn_r _ [3, 4, 5] rfl (by decide +kernel)) ggX9_saturate_X9_in
set_option maxRecDepth 20000 in
theorem ggX9_saturate_X9_throwsIf : GoodIn wsX9_saturate wsX9_throwsIf := goodIn_r _ [10, 1, 88, 89, 90, 91, 92, 93, 94, 95, 96, 97, 98, 99, 100, 101, 102, 103, 104, 105, 106, 107, 108, 109, 110, 111, 112, 113, 114] rfl (by decide +kernel)
set_option maxRecDepth 20000 in
theorem gX9_saturate_X9_throwsIf : GoodIn wsX9_saturate (wsV RX9 327 RX9 yX9_throwsIf wsX9_throwsIf) := goodIn_app (goodIn_r _ [7, 8, 9, 5] rfl (by decide +kernel)) ggX9_saturate_X9_throwsIf
set_option maxRecDepth 20000 in
theorem ggX9_saturate_X9_hasStep : GoodIn wsX9_saturate wsX9_hasStep := goodIn_r _ [14, 15, 16, 17, 18, 19, 5, 20, 21, 22, 23, 24, 25, 26, 27, 28, 29, 30, 31, 32, 33, 34, 35, 36, 37, 38, 39, 40, 41, 42, 43, 44, 45, 46, 47, 48, 49, 50, 51, 52, 53, 54, 55, 56, 57, 58, 59, 60, 61, 88, 89, 90, 91, 92, 93, 94, 95, 96, 97, 98, 99, 100, 101, 102, 103, 104, 105, 106, 107, 108, 109, 110, 111, 112, 113, 114] rfl (by decide +kernel)
set_option maxRecDepth 20000 in
theorem gX9_saturate_X9_hasStep : GoodIn wsX9_saturate (wsV RX9 106 RX9 yX9_hasStep wsX9_hasStep) := goodIn_app (goodIn_r _ [11, 12, 13, 5] rfl (by decide +kernel)) ggX9_saturate_X9_hasStep
set_option maxRecDepth 20000 in
theorem ggX9_saturate_X9_keeps : GoodIn wsX9_saturate wsX9_keeps := goodIn_r _ [65, 25, 66, 67, 68, 5, 69, 88, 89, 90, 91, 92, 93, 94, 95, 96, 97, 98, 99, 100, 101, 102, 103, 104, 105, 106, 107, 108, 109, 110, 111, 112, 113, 114] rfl (by decide +kernel)
set_option maxRecDepth 20000 in
theorem gX9_saturate_X9_keeps : GoodIn wsX9_saturate (wsV RX9 321 RX9 yX9_keeps wsX9_keeps) := goodIn_app (goodIn_r _ [62, 63, 64, 5] rfl (by decide +kernel)) ggX9_saturate_X9_keeps
set_option maxRecDepth 20000 in
theorem ggX9_saturate_X9_steps : GoodIn wsX9_saturate wsX9_steps := goodIn_r _ [73, 15, 16, 11, 12, 13, 5, 14, 17, 18, 19, 20, 21, 22, 23, 24, 25, 26, 27, 28, 29, 30, 31, 32, 33, 34, 35, 36, 37, 38, 39, 40, 41, 42, 43, 44, 45, 46, 47, 48, 49, 50, 51, 52, 53, 54, 55, 56, 57, 58, 59, 60, 61, 74, 75, 76, 77, 78, 79, 80, 81, 88, 89, 90, 91, 92, 93, 94, 95, 96, 97, 98, 99, 100, 101, 102, 103, 104, 105, 106, 107, 108, 109, 110, 111, 112, 113, 114] rfl (by decide +kernel)
set_option maxRecDepth 20000 in
theorem gX9_saturate_X9_steps : GoodIn wsX9_saturate (wsV RX9 293 RX9 yX9_steps wsX9_steps) := goodIn_app (goodIn_r _ [70, 71, 72, 5] rfl (by decide +kernel)) ggX9_saturate_X9_steps
set_option maxRecDepth 20000 in
theorem ggX9_saturate_X9_records : GoodIn wsX9_saturate wsX9_records := goodIn_r _ [85, 86, 87, 66, 67, 68, 5, 69, 88, 89, 90, 91, 92, 93, 94, 95, 96, 97, 98, 99, 100, 101, 102, 103, 104, 105, 106, 107, 108, 109, 110, 111, 112, 113, 114] rfl (by decide +kernel)
set_option maxRecDepth 20000 in
theorem gX9_saturate_X9_records : GoodIn wsX9_saturate (wsV RX9 342 RX9 yX9_records wsX9_records) := goodIn_app (goodIn_r _ [82, 83, 84, 5] rfl (by decide +kernel)) ggX9_saturate_X9_records
theorem dX9_saturate_0 : decode cX9_saturate 0 = .ok (.aload_n 0, 1) := by decide +kernel
theorem dX9_saturate_1 : decode cX9_saturate 1 = .ok (.iconst 0, 1) := by decide +kernel
theorem dX9_saturate_2 : decode cX9_saturate 2 = .ok (.putfield 46, 3) := by decide +kernel
theorem dX9_saturate_5 : decode cX9_saturate 5 = .ok (.aload_n 0, 1) := by decide +kernel
theorem dX9_saturate_6 : decode cX9_saturate 6 = .ok (.iload_n 1, 1) := by decide +kernel
theorem dX9_saturate_7 : decode cX9_saturate 7 = .ok (.i2l, 1) := by decide +kernel
theorem dX9_saturate_8 : decode cX9_saturate 8 = .ok (.lconst 1, 1) := by decide +kernel
theorem dX9_saturate_9 : decode cX9_saturate 9 = .ok (.ldc2_w 386, 3) := by decide +kernel
theorem dX9_saturate_12 : decode cX9_saturate 12 = .ok (.invokestatic 178, 3) := by decide +kernel
theorem dX9_saturate_15 : decode cX9_saturate 15 = .ok (.ifCond .ne 7, 3) := by decide +kernel
theorem dX9_saturate_18 : decode cX9_saturate 18 = .ok (.iconst 1, 1) := by decide +kernel
theorem dX9_saturate_19 : decode cX9_saturate 19 = .ok (.goto 4, 3) := by decide +kernel
theorem dX9_saturate_22 : decode cX9_saturate 22 = .ok (.iconst 0, 1) := by decide +kernel
theorem dX9_saturate_23 : decode cX9_saturate 23 = .ok (.iconst 1, 1) := by decide +kernel
theorem dX9_saturate_24 : decode cX9_saturate 24 = .ok (.invokevirtual 327, 3) := by decide +kernel
theorem dX9_saturate_27 : decode cX9_saturate 27 = .ok (.ifCond .ne 23, 3) := by decide +kernel
theorem dX9_saturate_30 : decode cX9_saturate 30 = .ok (.aload_n 0, 1) := by decide +kernel
theorem dX9_saturate_31 : decode cX9_saturate 31 = .ok (.aload_n 0, 1) := by decide +kernel
theorem dX9_saturate_32 : decode cX9_saturate 32 = .ok (.invokevirtual 106, 3) := by decide +kernel
theorem dX9_saturate_35 : decode cX9_saturate 35 = .ok (.ifCond .ne 7, 3) := by decide +kernel
theorem dX9_saturate_38 : decode cX9_saturate 38 = .ok (.iconst 1, 1) := by decide +kernel
theorem dX9_saturate_39 : decode cX9_saturate 39 = .ok (.goto 4, 3) := by decide +kernel
theorem dX9_saturate_42 : decode cX9_saturate 42 = .ok (.iconst 0, 1) := by decide +kernel
theorem dX9_saturate_43 : decode cX9_saturate 43 = .ok (.iconst 2, 1) := by decide +kernel
theorem dX9_saturate_44 : decode cX9_saturate 44 = .ok (.invokevirtual 327, 3) := by decide +kernel
theorem dX9_saturate_47 : decode cX9_saturate 47 = .ok (.ifCond .eq 5, 3) := by decide +kernel
theorem dX9_saturate_50 : decode cX9_saturate 50 = .ok (.iconst 0, 1) := by decide +kernel
theorem dX9_saturate_51 : decode cX9_saturate 51 = .ok (.ireturn, 1) := by decide +kernel
theorem dX9_saturate_52 : decode cX9_saturate 52 = .ok (.aload_n 0, 1) := by decide +kernel
theorem dX9_saturate_53 : decode cX9_saturate 53 = .ok (.invokevirtual 321, 3) := by decide +kernel
theorem dX9_saturate_56 : decode cX9_saturate 56 = .ok (.aload_n 0, 1) := by decide +kernel
theorem dX9_saturate_57 : decode cX9_saturate 57 = .ok (.aload_n 0, 1) := by decide +kernel
theorem dX9_saturate_58 : decode cX9_saturate 58 = .ok (.iload_n 1, 1) := by decide +kernel
theorem dX9_saturate_59 : decode cX9_saturate 59 = .ok (.invokevirtual 293, 3) := by decide +kernel
theorem dX9_saturate_62 : decode cX9_saturate 62 = .ok (.invokevirtual 342, 3) := by decide +kernel
theorem dX9_saturate_65 : decode cX9_saturate 65 = .ok (.ireturn, 1) := by decide +kernel
set_option maxRecDepth 20000 in
theorem ggX9_dropClause_X9_noClause : GoodIn wsX9_dropClause wsX9_noClause := goodIn_r _ [6, 7, 8, 9, 5, 10, 11, 12, 13, 14, 15, 16, 17, 18, 1, 69, 70, 71, 72, 73, 74, 75, 76, 77, 78, 79, 80, 81, 82, 83, 84, 85, 86, 87, 88, 89, 90, 91, 92, 93, 94, 95] rfl (by decide +kernel)
set_option maxRecDepth 20000 in
theorem gX9_dropClause_X9_noClause : GoodIn wsX9_dropClause (wsV RX9 345 RX9 yX9_noClause wsX9_noClause) := goodIn_app (goodIn_r _ [2, 3, 4, 5] rfl (by decide +kernel)) ggX9_dropClause_X9_noClause
set_option maxRecDepth 20000 in
theorem ggX9_dropClause_X9_isParent : GoodIn wsX9_dropClause wsX9_isParent := goodIn_r _ [22, 11, 7, 8, 9, 5, 10, 69, 70, 71, 72, 73, 74, 75, 76, 77, 78, 79, 80, 81, 82, 83, 84, 85, 86, 87, 88, 89, 90, 91, 92, 93, 94, 95] rfl (by decide +kernel)
set_option maxRecDepth 20000 in
theorem gX9_dropClause_X9_isParent : GoodIn wsX9_dropClause (wsV RX9 119 RX9 yX9_isParent wsX9_isParent) := goodIn_app (goodIn_r _ [19, 20, 21, 5] rfl (by decide +kernel)) ggX9_dropClause_X9_isParent
set_option maxRecDepth 20000 in
theorem ggX9_dropClause_X9_throwsIf : GoodIn wsX9_dropClause wsX9_throwsIf := goodIn_r _ [18, 1, 69, 70, 71, 72, 73, 74, 75, 76, 77, 78, 79, 80, 81, 82, 83, 84, 85, 86, 87, 88, 89, 90, 91, 92, 93, 94, 95] rfl (by decide +kernel)
set_option maxRecDepth 20000 in
theorem gX9_dropClause_X9_throwsIf : GoodIn wsX9_dropClause (wsV RX9 327 RX9 yX9_throwsIf wsX9_throwsIf) := goodIn_app (goodIn_r _ [15, 16, 17, 5] rfl (by decide +kernel)) ggX9_dropClause_X9_throwsIf
set_option maxRecDepth 20000 in
theorem ggX9_dropClause_X9_keeps : GoodIn wsX9_dropClause wsX9_keeps := goodIn_r _ [26, 11, 27, 28, 29, 5, 30, 69, 70, 71, 72, 73, 74, 75, 76, 77, 78, 79, 80, 81, 82, 83, 84, 85, 86, 87, 88, 89, 90, 91, 92, 93, 94, 95] rfl (by decide +kernel)
set_option maxRecDepth 20000 in
theorem gX9_dropClause_X9_keeps : GoodIn wsX9_dropClause (wsV RX9 321 RX9 yX9_keeps wsX9_keeps) := goodIn_app (goodIn_r _ [23, 24, 25, 5] rfl (by decide +kernel)) ggX9_dropClause_X9_keeps
set_option maxRecDepth 20000 in
theorem ggX9_dropClause_X9_drops : GoodIn wsX9_dropClause wsX9_drops := goodIn_r _ [34, 11, 7, 8, 9, 5, 10, 35, 36, 37, 38, 39, 40, 41, 42, 69, 70, 71, 72, 73, 74, 75, 76, 77, 78, 79, 80, 81, 82, 83, 84, 85, 86, 87, 88, 89, 90, 91, 92, 93, 94, 95] rfl (by decide +kernel)
set_option maxRecDepth 20000 in
theorem gX9_dropClause_X9_drops : GoodIn wsX9_dropClause (wsV RX9 122 RX9 yX9_drops wsX9_drops) := goodIn_app (goodIn_r _ [31, 32, 33, 5] rfl (by decide +kernel)) ggX9_dropClause_X9_drops
set_option maxRecDepth 20000 in
theorem ggX9_dropClause_X9_models : GoodIn wsX9_dropClause wsX9_models := goodIn_r _ [46, 47, 48, 49, 5, 50, 51, 52, 53, 54, 11, 55, 56, 57, 58, 7, 8, 9, 10, 59, 60, 61, 62, 35, 36, 37, 38, 69, 70, 71, 72, 73, 74, 75, 76, 77, 78, 79, 80, 81, 82, 83, 84, 85, 86, 87, 88, 89, 90, 91, 92, 93, 94, 95] rfl (by decide +kernel)
set_option maxRecDepth 20000 in
theorem gX9_dropClause_X9_models : GoodIn wsX9_dropClause (wsV RX9 255 RX9 yX9_models wsX9_models) := goodIn_app (goodIn_r _ [43, 44, 45, 5] rfl (by decide +kernel)) ggX9_dropClause_X9_models
set_option maxRecDepth 20000 in
theorem ggX9_dropClause_X9_records : GoodIn wsX9_dropClause wsX9_records := goodIn_r _ [66, 67, 68, 27, 28, 29, 5, 30, 69, 70, 71, 72, 73, 74, 75, 76, 77, 78, 79, 80, 81, 82, 83, 84, 85, 86, 87, 88, 89, 90, 91, 92, 93, 94, 95] rfl (by decide +kernel)
set_option maxRecDepth 20000 in
theorem gX9_dropClause_X9_records : GoodIn wsX9_dropClause (wsV RX9 342 RX9 yX9_records wsX9_records) := goodIn_app (goodIn_r _ [63, 64, 65, 5] rfl (by decide +kernel)) ggX9_dropClause_X9_records
theorem dX9_dropClause_0 : decode cX9_dropClause 0 = .ok (.aload_n 0, 1) := by decide +kernel
theorem dX9_dropClause_1 : decode cX9_dropClause 1 = .ok (.iconst 0, 1) := by decide +kernel
theorem dX9_dropClause_2 : decode cX9_dropClause 2 = .ok (.putfield 46, 3) := by decide +kernel
theorem dX9_dropClause_5 : decode cX9_dropClause 5 = .ok (.aload_n 0, 1) := by decide +kernel
theorem dX9_dropClause_6 : decode cX9_dropClause 6 = .ok (.iload_n 1, 1) := by decide +kernel
theorem dX9_dropClause_7 : decode cX9_dropClause 7 = .ok (.invokevirtual 345, 3) := by decide +kernel
theorem dX9_dropClause_10 : decode cX9_dropClause 10 = .ok (.ifCond .ne 16, 3) := by decide +kernel
theorem dX9_dropClause_13 : decode cX9_dropClause 13 = .ok (.aload_n 0, 1) := by decide +kernel
theorem dX9_dropClause_14 : decode cX9_dropClause 14 = .ok (.aload_n 0, 1) := by decide +kernel
theorem dX9_dropClause_15 : decode cX9_dropClause 15 = .ok (.iload_n 1, 1) := by decide +kernel
theorem dX9_dropClause_16 : decode cX9_dropClause 16 = .ok (.invokevirtual 119, 3) := by decide +kernel
theorem dX9_dropClause_19 : decode cX9_dropClause 19 = .ok (.iconst 2, 1) := by decide +kernel
theorem dX9_dropClause_20 : decode cX9_dropClause 20 = .ok (.invokevirtual 327, 3) := by decide +kernel
theorem dX9_dropClause_23 : decode cX9_dropClause 23 = .ok (.ifCond .eq 5, 3) := by decide +kernel
theorem dX9_dropClause_26 : decode cX9_dropClause 26 = .ok (.iconst 0, 1) := by decide +kernel
theorem dX9_dropClause_27 : decode cX9_dropClause 27 = .ok (.ireturn, 1) := by decide +kernel
theorem dX9_dropClause_28 : decode cX9_dropClause 28 = .ok (.aload_n 0, 1) := by decide +kernel
theorem dX9_dropClause_29 : decode cX9_dropClause 29 = .ok (.invokevirtual 321, 3) := by decide +kernel
theorem dX9_dropClause_32 : decode cX9_dropClause 32 = .ok (.aload_n 0, 1) := by decide +kernel
theorem dX9_dropClause_33 : decode cX9_dropClause 33 = .ok (.iload_n 1, 1) := by decide +kernel
theorem dX9_dropClause_34 : decode cX9_dropClause 34 = .ok (.invokevirtual 122, 3) := by decide +kernel
theorem dX9_dropClause_37 : decode cX9_dropClause 37 = .ok (.aload_n 0, 1) := by decide +kernel
theorem dX9_dropClause_38 : decode cX9_dropClause 38 = .ok (.aload_n 0, 1) := by decide +kernel
theorem dX9_dropClause_39 : decode cX9_dropClause 39 = .ok (.invokevirtual 255, 3) := by decide +kernel
theorem dX9_dropClause_42 : decode cX9_dropClause 42 = .ok (.invokevirtual 342, 3) := by decide +kernel
theorem dX9_dropClause_45 : decode cX9_dropClause 45 = .ok (.ireturn, 1) := by decide +kernel
set_option maxRecDepth 20000 in
theorem ggX9_negateVariable_X9_noVariable : GoodIn wsX9_negateVariable wsX9_noVariable := goodIn_r _ [6, 7, 8, 9, 5, 10, 11, 12, 13, 14, 15, 16, 17, 18, 1, 49, 50, 51, 52, 53, 54, 55, 56, 57, 58, 59, 60, 61, 62, 63, 64, 65, 66, 67, 68, 69, 70, 71, 72, 73, 74, 75] rfl (by decide +kernel)
set_option maxRecDepth 20000 in
theorem gX9_negateVariable_X9_noVariable : GoodIn wsX9_negateVariable (wsV RX9 365 RX9 yX9_noVariable wsX9_noVariable) := goodIn_app (goodIn_r _ [2, 3, 4, 5] rfl (by decide +kernel)) ggX9_negateVariable_X9_noVariable
set_option maxRecDepth 20000 in
theorem ggX9_negateVariable_X9_keeps : GoodIn wsX9_negateVariable wsX9_keeps := goodIn_r _ [22, 11, 23, 24, 25, 5, 26, 49, 50, 51, 52, 53, 54, 55, 56, 57, 58, 59, 60, 61, 62, 63, 64, 65, 66, 67, 68, 69, 70, 71, 72, 73, 74, 75] rfl (by decide +kernel)
set_option maxRecDepth 20000 in
theorem gX9_negateVariable_X9_keeps : GoodIn wsX9_negateVariable (wsV RX9 321 RX9 yX9_keeps wsX9_keeps) := goodIn_app (goodIn_r _ [19, 20, 21, 5] rfl (by decide +kernel)) ggX9_negateVariable_X9_keeps
set_option maxRecDepth 20000 in
theorem ggX9_negateVariable_X9_negates : GoodIn wsX9_negateVariable wsX9_negates := goodIn_r _ [30, 11, 31, 32, 33, 5, 34, 35, 36, 37, 38, 39, 40, 41, 42, 49, 50, 51, 52, 53, 54, 55, 56, 57, 58, 59, 60, 61, 62, 63, 64, 65, 66, 67, 68, 69, 70, 71, 72, 73, 74, 75] rfl (by decide +kernel)
set_option maxRecDepth 20000 in
theorem gX9_negateVariable_X9_negates : GoodIn wsX9_negateVariable (wsV RX9 303 RX9 yX9_negates wsX9_negates) := goodIn_app (goodIn_r _ [27, 28, 29, 5] rfl (by decide +kernel)) ggX9_negateVariable_X9_negates
set_option maxRecDepth 20000 in
theorem ggX9_negateVariable_X9_records : GoodIn wsX9_negateVariable wsX9_records := goodIn_r _ [46, 47, 48, 23, 24, 25, 5, 26, 49, 50, 51, 52, 53, 54, 55, 56, 57, 58, 59, 60, 61, 62, 63, 64, 65, 66, 67, 68, 69, 70, 71, 72, 73, 74, 75] rfl (by decide +kernel)
set_option maxRecDepth 20000 in
theorem gX9_negateVariable_X9_records : GoodIn wsX9_negateVariable (wsV RX9 342 RX9 yX9_records wsX9_records) := goodIn_app (goodIn_r _ [43, 44, 45, 5] rfl (by decide +kernel)) ggX9_negateVariable_X9_records
theorem dX9_negateVariable_0 : decode cX9_negateVariable 0 = .ok (.aload_n 0, 1) := by decide +kernel
theorem dX9_negateVariable_1 : decode cX9_negateVariable 1 = .ok (.iconst 0, 1) := by decide +kernel
theorem dX9_negateVariable_2 : decode cX9_negateVariable 2 = .ok (.putfield 46, 3) := by decide +kernel
theorem dX9_negateVariable_5 : decode cX9_negateVariable 5 = .ok (.aload_n 0, 1) := by decide +kernel
theorem dX9_negateVariable_6 : decode cX9_negateVariable 6 = .ok (.iload_n 1, 1) := by decide +kernel
theorem dX9_negateVariable_7 : decode cX9_negateVariable 7 = .ok (.invokevirtual 365, 3) := by decide +kernel
theorem dX9_negateVariable_10 : decode cX9_negateVariable 10 = .ok (.ifCond .eq 5, 3) := by decide +kernel
theorem dX9_negateVariable_13 : decode cX9_negateVariable 13 = .ok (.iconst 0, 1) := by decide +kernel
theorem dX9_negateVariable_14 : decode cX9_negateVariable 14 = .ok (.ireturn, 1) := by decide +kernel
theorem dX9_negateVariable_15 : decode cX9_negateVariable 15 = .ok (.aload_n 0, 1) := by decide +kernel
theorem dX9_negateVariable_16 : decode cX9_negateVariable 16 = .ok (.invokevirtual 321, 3) := by decide +kernel
theorem dX9_negateVariable_19 : decode cX9_negateVariable 19 = .ok (.aload_n 0, 1) := by decide +kernel
theorem dX9_negateVariable_20 : decode cX9_negateVariable 20 = .ok (.aload_n 0, 1) := by decide +kernel
theorem dX9_negateVariable_21 : decode cX9_negateVariable 21 = .ok (.iload_n 1, 1) := by decide +kernel
theorem dX9_negateVariable_22 : decode cX9_negateVariable 22 = .ok (.invokevirtual 303, 3) := by decide +kernel
theorem dX9_negateVariable_25 : decode cX9_negateVariable 25 = .ok (.invokevirtual 342, 3) := by decide +kernel
theorem dX9_negateVariable_28 : decode cX9_negateVariable 28 = .ok (.ireturn, 1) := by decide +kernel
set_option maxRecDepth 20000 in
theorem ggX9_reduce_X9_keeps : GoodIn wsX9_reduce wsX9_keeps := goodIn_r _ [6, 7, 8, 9, 10, 5, 11, 58, 59, 60, 61, 62, 63, 64, 65, 66, 67, 68, 69, 70, 71, 72, 73, 74, 75, 76, 77, 78, 79, 80, 81, 82, 83, 84] rfl (by decide +kernel)
set_option maxRecDepth 20000 in
theorem gX9_reduce_X9_keeps : GoodIn wsX9_reduce (wsV RX9 321 RX9 yX9_keeps wsX9_keeps) := goodIn_app (goodIn_r _ [2, 3, 4, 5] rfl (by decide +kernel)) ggX9_reduce_X9_keeps
set_option maxRecDepth 20000 in
theorem ggX9_reduce_X9_reduces : GoodIn wsX9_reduce wsX9_reduces := goodIn_r _ [15, 16, 17, 18, 5, 19, 7, 20, 21, 22, 23, 24, 25, 26, 27, 28, 29, 30, 31, 32, 33, 34, 35, 36, 37, 38, 39, 40, 41, 42, 43, 44, 45, 46, 47, 48, 49, 50, 51, 58, 59, 60, 61, 62, 63, 64, 65, 66, 67, 68, 69, 70, 71, 72, 73, 74, 75, 76, 77, 78, 79, 80, 81, 82, 83, 84] rfl (by decide +kernel)
set_option maxRecDepth 20000 in
theorem gX9_reduce_X9_reduces : GoodIn wsX9_reduce (wsV RX9 310 RX9 yX9_reduces wsX9_reduces) := goodIn_app (goodIn_r _ [12, 13, 14, 5] rfl (by decide +kernel)) ggX9_reduce_X9_reduces
set_option maxRecDepth 20000 in
theorem ggX9_reduce_X9_records : GoodIn wsX9_reduce wsX9_records := goodIn_r _ [55, 56, 57, 8, 9, 10, 5, 11, 58, 59, 60, 61, 62, 63, 64, 65, 66, 67, 68, 69, 70, 71, 72, 73, 74, 75, 76, 77, 78, 79, 80, 81, 82, 83, 84] rfl (by decide +kernel)
set_option maxRecDepth 20000 in
theorem gX9_reduce_X9_records : GoodIn wsX9_reduce (wsV RX9 342 RX9 yX9_records wsX9_records) := goodIn_app (goodIn_r _ [52, 53, 54, 5] rfl (by decide +kernel)) ggX9_reduce_X9_records
theorem dX9_reduce_0 : decode cX9_reduce 0 = .ok (.aload_n 0, 1) := by decide +kernel
theorem dX9_reduce_1 : decode cX9_reduce 1 = .ok (.iconst 0, 1) := by decide +kernel
theorem dX9_reduce_2 : decode cX9_reduce 2 = .ok (.putfield 46, 3) := by decide +kernel
theorem dX9_reduce_5 : decode cX9_reduce 5 = .ok (.aload_n 0, 1) := by decide +kernel
theorem dX9_reduce_6 : decode cX9_reduce 6 = .ok (.invokevirtual 321, 3) := by decide +kernel
theorem dX9_reduce_9 : decode cX9_reduce 9 = .ok (.aload_n 0, 1) := by decide +kernel
theorem dX9_reduce_10 : decode cX9_reduce 10 = .ok (.aload_n 0, 1) := by decide +kernel
theorem dX9_reduce_11 : decode cX9_reduce 11 = .ok (.invokevirtual 310, 3) := by decide +kernel
theorem dX9_reduce_14 : decode cX9_reduce 14 = .ok (.invokevirtual 342, 3) := by decide +kernel
theorem dX9_reduce_17 : decode cX9_reduce 17 = .ok (.ireturn, 1) := by decide +kernel
set_option maxRecDepth 20000 in
theorem ggX9_undo_X9_throwsIf : GoodIn wsX9_undo wsX9_throwsIf := goodIn_r _ [9, 1, 13, 14, 15, 16, 17, 18, 19, 20, 21, 22, 23, 24, 25, 26, 27, 28, 29, 30, 31, 32, 33, 34, 35, 36, 37, 38, 39] rfl (by decide +kernel)
set_option maxRecDepth 20000 in
theorem gX9_undo_X9_throwsIf : GoodIn wsX9_undo (wsV RX9 327 RX9 yX9_throwsIf wsX9_throwsIf) := goodIn_app (goodIn_r _ [5, 6, 7, 8] rfl (by decide +kernel)) ggX9_undo_X9_throwsIf
set_option maxRecDepth 20000 in
theorem ggX9_undo_X9_copies : GoodIn wsX9_undo wsX9_copies := goodIn_r _ [12] rfl (by decide +kernel)
set_option maxRecDepth 20000 in
theorem gX9_undo_X9_copies : GoodIn wsX9_undo (va_wsS RX9 49 yX9_copies wsX9_copies) := goodIn_app (goodIn_r _ [10, 11, 8] rfl (by decide +kernel)) ggX9_undo_X9_copies
theorem dX9_undo_0 : decode cX9_undo 0 = .ok (.aload_n 0, 1) := by decide +kernel
theorem dX9_undo_1 : decode cX9_undo 1 = .ok (.iconst 0, 1) := by decide +kernel
theorem dX9_undo_2 : decode cX9_undo 2 = .ok (.putfield 46, 3) := by decide +kernel
theorem dX9_undo_5 : decode cX9_undo 5 = .ok (.aload_n 0, 1) := by decide +kernel
theorem dX9_undo_6 : decode cX9_undo 6 = .ok (.aload_n 0, 1) := by decide +kernel
theorem dX9_undo_7 : decode cX9_undo 7 = .ok (.getfield 53, 3) := by decide +kernel
theorem dX9_undo_10 : decode cX9_undo 10 = .ok (.ifCond .ne 7, 3) := by decide +kernel
theorem dX9_undo_13 : decode cX9_undo 13 = .ok (.iconst 1, 1) := by decide +kernel
theorem dX9_undo_14 : decode cX9_undo 14 = .ok (.goto 4, 3) := by decide +kernel
theorem dX9_undo_17 : decode cX9_undo 17 = .ok (.iconst 0, 1) := by decide +kernel
theorem dX9_undo_18 : decode cX9_undo 18 = .ok (.iconst 1, 1) := by decide +kernel
theorem dX9_undo_19 : decode cX9_undo 19 = .ok (.invokevirtual 327, 3) := by decide +kernel
theorem dX9_undo_22 : decode cX9_undo 22 = .ok (.ifCond .eq 5, 3) := by decide +kernel
theorem dX9_undo_25 : decode cX9_undo 25 = .ok (.iconst 0, 1) := by decide +kernel
theorem dX9_undo_26 : decode cX9_undo 26 = .ok (.ireturn, 1) := by decide +kernel
theorem dX9_undo_27 : decode cX9_undo 27 = .ok (.aload_n 0, 1) := by decide +kernel
theorem dX9_undo_28 : decode cX9_undo 28 = .ok (.dup, 1) := by decide +kernel
theorem dX9_undo_29 : decode cX9_undo 29 = .ok (.getfield 53, 3) := by decide +kernel
theorem dX9_undo_32 : decode cX9_undo 32 = .ok (.iconst 1, 1) := by decide +kernel
theorem dX9_undo_33 : decode cX9_undo 33 = .ok (.isub, 1) := by decide +kernel
theorem dX9_undo_34 : decode cX9_undo 34 = .ok (.putfield 53, 3) := by decide +kernel
theorem dX9_undo_37 : decode cX9_undo 37 = .ok (.aload_n 0, 1) := by decide +kernel
theorem dX9_undo_38 : decode cX9_undo 38 = .ok (.getfield 19, 3) := by decide +kernel
theorem dX9_undo_41 : decode cX9_undo 41 = .ok (.aload_n 0, 1) := by decide +kernel
theorem dX9_undo_42 : decode cX9_undo 42 = .ok (.getfield 53, 3) := by decide +kernel
theorem dX9_undo_45 : decode cX9_undo 45 = .ok (.aload_n 0, 1) := by decide +kernel
theorem dX9_undo_46 : decode cX9_undo 46 = .ok (.getfield 9, 3) := by decide +kernel
theorem dX9_undo_49 : decode cX9_undo 49 = .ok (.iconst 0, 1) := by decide +kernel
theorem dX9_undo_50 : decode cX9_undo 50 = .ok (.invokestatic 49, 3) := by decide +kernel
theorem dX9_undo_53 : decode cX9_undo 53 = .ok (.aload_n 0, 1) := by decide +kernel
theorem dX9_undo_54 : decode cX9_undo 54 = .ok (.getfield 53, 3) := by decide +kernel
theorem dX9_undo_57 : decode cX9_undo 57 = .ok (.ireturn, 1) := by decide +kernel
theorem dX9_undoDepth_0 : decode cX9_undoDepth 0 = .ok (.aload_n 0, 1) := by decide +kernel
theorem dX9_undoDepth_1 : decode cX9_undoDepth 1 = .ok (.iconst 0, 1) := by decide +kernel
theorem dX9_undoDepth_2 : decode cX9_undoDepth 2 = .ok (.putfield 46, 3) := by decide +kernel
theorem dX9_undoDepth_5 : decode cX9_undoDepth 5 = .ok (.aload_n 0, 1) := by decide +kernel
theorem dX9_undoDepth_6 : decode cX9_undoDepth 6 = .ok (.getfield 53, 3) := by decide +kernel
theorem dX9_undoDepth_9 : decode cX9_undoDepth 9 = .ok (.ireturn, 1) := by decide +kernel
set_option maxRecDepth 20000 in
theorem ggX9_noSlot_X9_in : GoodIn wsX9_noSlot wsX9_in := goodIn_r _ [4] rfl (by decide +kernel)
set_option maxRecDepth 20000 in
theorem gX9_noSlot_X9_in : GoodIn wsX9_noSlot (va_wsS RX9 178 yX9_in wsX9_in) := goodIn_app (goodIn_r _ [1, 2, 3] rfl (by decide +kernel)) ggX9_noSlot_X9_in
set_option maxRecDepth 20000 in
theorem ggX9_noSlot_X9_throwsIf : GoodIn wsX9_noSlot wsX9_throwsIf := goodIn_r _ [8, 9, 10, 11, 12, 13, 14, 15, 16, 17, 18, 19, 20, 21, 22, 23, 24, 25, 26, 27, 28, 29, 30, 31, 32, 33, 34, 35, 36] rfl (by decide +kernel)
set_option maxRecDepth 20000 in
theorem gX9_noSlot_X9_throwsIf : GoodIn wsX9_noSlot (wsV RX9 327 RX9 yX9_throwsIf wsX9_throwsIf) := goodIn_app (goodIn_r _ [5, 6, 7, 3] rfl (by decide +kernel)) ggX9_noSlot_X9_throwsIf
theorem dX9_noSlot_0 : decode cX9_noSlot 0 = .ok (.aload_n 0, 1) := by decide +kernel
theorem dX9_noSlot_1 : decode cX9_noSlot 1 = .ok (.iload_n 1, 1) := by decide +kernel
theorem dX9_noSlot_2 : decode cX9_noSlot 2 = .ok (.i2l, 1) := by decide +kernel
theorem dX9_noSlot_3 : decode cX9_noSlot 3 = .ok (.lconst 0, 1) := by decide +kernel
theorem dX9_noSlot_4 : decode cX9_noSlot 4 = .ok (.lconst 1, 1) := by decide +kernel
theorem dX9_noSlot_5 : decode cX9_noSlot 5 = .ok (.invokestatic 178, 3) := by decide +kernel
theorem dX9_noSlot_8 : decode cX9_noSlot 8 = .ok (.ifCond .ne 7, 3) := by decide +kernel
theorem dX9_noSlot_11 : decode cX9_noSlot 11 = .ok (.iconst 1, 1) := by decide +kernel
theorem dX9_noSlot_12 : decode cX9_noSlot 12 = .ok (.goto 4, 3) := by decide +kernel
theorem dX9_noSlot_15 : decode cX9_noSlot 15 = .ok (.iconst 0, 1) := by decide +kernel
theorem dX9_noSlot_16 : decode cX9_noSlot 16 = .ok (.iconst 1, 1) := by decide +kernel
theorem dX9_noSlot_17 : decode cX9_noSlot 17 = .ok (.invokevirtual 327, 3) := by decide +kernel
theorem dX9_noSlot_20 : decode cX9_noSlot 20 = .ok (.ireturn, 1) := by decide +kernel
set_option maxRecDepth 20000 in
theorem ggX9_save_X9_noSlot : GoodIn wsX9_save wsX9_noSlot := goodIn_r _ [9, 10, 11, 8, 12, 13, 14, 15, 16, 1, 20, 21, 22, 23, 24, 25, 26, 27, 28, 29, 30, 31, 32, 33, 34, 35, 36, 37, 38, 39, 40, 41, 42, 43, 44, 45, 46] rfl (by decide +kernel)
set_option maxRecDepth 20000 in
theorem gX9_save_X9_noSlot : GoodIn wsX9_save (wsV RX9 388 RX9 yX9_noSlot wsX9_noSlot) := goodIn_app (goodIn_r _ [5, 6, 7, 8] rfl (by decide +kernel)) ggX9_save_X9_noSlot
set_option maxRecDepth 20000 in
theorem ggX9_save_X9_copies : GoodIn wsX9_save wsX9_copies := goodIn_r _ [19] rfl (by decide +kernel)
set_option maxRecDepth 20000 in
theorem gX9_save_X9_copies : GoodIn wsX9_save (va_wsS RX9 49 yX9_copies wsX9_copies) := goodIn_app (goodIn_r _ [17, 18, 8] rfl (by decide +kernel)) ggX9_save_X9_copies
theorem dX9_save_0 : decode cX9_save 0 = .ok (.aload_n 0, 1) := by decide +kernel
theorem dX9_save_1 : decode cX9_save 1 = .ok (.iconst 0, 1) := by decide +kernel
theorem dX9_save_2 : decode cX9_save 2 = .ok (.putfield 46, 3) := by decide +kernel
theorem dX9_save_5 : decode cX9_save 5 = .ok (.aload_n 0, 1) := by decide +kernel
theorem dX9_save_6 : decode cX9_save 6 = .ok (.iload_n 1, 1) := by decide +kernel
theorem dX9_save_7 : decode cX9_save 7 = .ok (.invokevirtual 388, 3) := by decide +kernel
theorem dX9_save_10 : decode cX9_save 10 = .ok (.ifCond .eq 5, 3) := by decide +kernel
theorem dX9_save_13 : decode cX9_save 13 = .ok (.iconst 0, 1) := by decide +kernel
theorem dX9_save_14 : decode cX9_save 14 = .ok (.ireturn, 1) := by decide +kernel
theorem dX9_save_15 : decode cX9_save 15 = .ok (.aload_n 0, 1) := by decide +kernel
theorem dX9_save_16 : decode cX9_save 16 = .ok (.getfield 25, 3) := by decide +kernel
theorem dX9_save_19 : decode cX9_save 19 = .ok (.iload_n 1, 1) := by decide +kernel
theorem dX9_save_20 : decode cX9_save 20 = .ok (.baload, 1) := by decide +kernel
theorem dX9_save_21 : decode cX9_save 21 = .ok (.ifCond .ne 7, 3) := by decide +kernel
theorem dX9_save_24 : decode cX9_save 24 = .ok (.iconst 1, 1) := by decide +kernel
theorem dX9_save_25 : decode cX9_save 25 = .ok (.goto 4, 3) := by decide +kernel
theorem dX9_save_28 : decode cX9_save 28 = .ok (.iconst 0, 1) := by decide +kernel
theorem dX9_save_29 : decode cX9_save 29 = .ok (.istore_n 2, 1) := by decide +kernel
theorem dX9_save_30 : decode cX9_save 30 = .ok (.aload_n 0, 1) := by decide +kernel
theorem dX9_save_31 : decode cX9_save 31 = .ok (.getfield 25, 3) := by decide +kernel
theorem dX9_save_34 : decode cX9_save 34 = .ok (.iload_n 1, 1) := by decide +kernel
theorem dX9_save_35 : decode cX9_save 35 = .ok (.iconst 1, 1) := by decide +kernel
theorem dX9_save_36 : decode cX9_save 36 = .ok (.bastore, 1) := by decide +kernel
theorem dX9_save_37 : decode cX9_save 37 = .ok (.aload_n 0, 1) := by decide +kernel
theorem dX9_save_38 : decode cX9_save 38 = .ok (.getfield 9, 3) := by decide +kernel
theorem dX9_save_41 : decode cX9_save 41 = .ok (.iconst 0, 1) := by decide +kernel
theorem dX9_save_42 : decode cX9_save 42 = .ok (.aload_n 0, 1) := by decide +kernel
theorem dX9_save_43 : decode cX9_save 43 = .ok (.getfield 22, 3) := by decide +kernel
theorem dX9_save_46 : decode cX9_save 46 = .ok (.iload_n 1, 1) := by decide +kernel
theorem dX9_save_47 : decode cX9_save 47 = .ok (.invokestatic 49, 3) := by decide +kernel
theorem dX9_save_50 : decode cX9_save 50 = .ok (.iload_n 2, 1) := by decide +kernel
theorem dX9_save_51 : decode cX9_save 51 = .ok (.ireturn, 1) := by decide +kernel
set_option maxRecDepth 20000 in
theorem ggX9_restore_X9_noSlot : GoodIn wsX9_restore wsX9_noSlot := goodIn_r _ [10, 11, 12, 9, 13, 14, 15, 16, 17, 1, 25, 26, 27, 28, 29, 30, 31, 32, 33, 34, 35, 36, 37, 38, 39, 40, 41, 42, 43, 44, 45, 46, 47, 48, 49, 50, 51] rfl (by decide +kernel)
set_option maxRecDepth 20000 in
theorem gX9_restore_X9_noSlot : GoodIn wsX9_restore (wsV RX9 388 RX9 yX9_noSlot wsX9_noSlot) := goodIn_app (goodIn_r _ [6, 7, 8, 9] rfl (by decide +kernel)) ggX9_restore_X9_noSlot
set_option maxRecDepth 20000 in
theorem ggX9_restore_X9_throwsIf : GoodIn wsX9_restore wsX9_throwsIf := goodIn_r _ [17, 1, 25, 26, 27, 28, 29, 30, 31, 32, 33, 34, 35, 36, 37, 38, 39, 40, 41, 42, 43, 44, 45, 46, 47, 48, 49, 50, 51] rfl (by decide +kernel)
set_option maxRecDepth 20000 in
theorem gX9_restore_X9_throwsIf : GoodIn wsX9_restore (wsV RX9 327 RX9 yX9_throwsIf wsX9_throwsIf) := goodIn_app (goodIn_r _ [14, 15, 16, 9] rfl (by decide +kernel)) ggX9_restore_X9_throwsIf
set_option maxRecDepth 20000 in
theorem ggX9_restore_X9_copies : GoodIn wsX9_restore wsX9_copies := goodIn_r _ [20] rfl (by decide +kernel)
set_option maxRecDepth 20000 in
theorem gX9_restore_X9_copies : GoodIn wsX9_restore (va_wsS RX9 49 yX9_copies wsX9_copies) := goodIn_app (goodIn_r _ [18, 19, 9] rfl (by decide +kernel)) ggX9_restore_X9_copies
set_option maxRecDepth 20000 in
theorem ggX9_restore_X9_many : GoodIn wsX9_restore wsX9_many := goodIn_r _ [24, 4, 25, 26, 27, 28, 29, 30, 31, 32, 33, 34, 35, 36, 37, 38, 39, 40, 41, 42, 43, 44, 45, 46, 47, 48, 49, 50, 51] rfl (by decide +kernel)
set_option maxRecDepth 20000 in
theorem gX9_restore_X9_many : GoodIn wsX9_restore (wsV RX9 56 RX9 yX9_many wsX9_many) := goodIn_app (goodIn_r _ [21, 22, 23, 9] rfl (by decide +kernel)) ggX9_restore_X9_many
theorem dX9_restore_0 : decode cX9_restore 0 = .ok (.aload_n 0, 1) := by decide +kernel
theorem dX9_restore_1 : decode cX9_restore 1 = .ok (.iconst 0, 1) := by decide +kernel
theorem dX9_restore_2 : decode cX9_restore 2 = .ok (.putfield 46, 3) := by decide +kernel
theorem dX9_restore_5 : decode cX9_restore 5 = .ok (.aload_n 0, 1) := by decide +kernel
theorem dX9_restore_6 : decode cX9_restore 6 = .ok (.iload_n 1, 1) := by decide +kernel
theorem dX9_restore_7 : decode cX9_restore 7 = .ok (.invokevirtual 388, 3) := by decide +kernel
theorem dX9_restore_10 : decode cX9_restore 10 = .ok (.ifCond .ne 25, 3) := by decide +kernel
theorem dX9_restore_13 : decode cX9_restore 13 = .ok (.aload_n 0, 1) := by decide +kernel
theorem dX9_restore_14 : decode cX9_restore 14 = .ok (.aload_n 0, 1) := by decide +kernel
theorem dX9_restore_15 : decode cX9_restore 15 = .ok (.getfield 25, 3) := by decide +kernel
theorem dX9_restore_18 : decode cX9_restore 18 = .ok (.iload_n 1, 1) := by decide +kernel
theorem dX9_restore_19 : decode cX9_restore 19 = .ok (.baload, 1) := by decide +kernel
theorem dX9_restore_20 : decode cX9_restore 20 = .ok (.ifCond .ne 7, 3) := by decide +kernel
theorem dX9_restore_23 : decode cX9_restore 23 = .ok (.iconst 1, 1) := by decide +kernel
theorem dX9_restore_24 : decode cX9_restore 24 = .ok (.goto 4, 3) := by decide +kernel
theorem dX9_restore_27 : decode cX9_restore 27 = .ok (.iconst 0, 1) := by decide +kernel
theorem dX9_restore_28 : decode cX9_restore 28 = .ok (.iconst 2, 1) := by decide +kernel
theorem dX9_restore_29 : decode cX9_restore 29 = .ok (.invokevirtual 327, 3) := by decide +kernel
theorem dX9_restore_32 : decode cX9_restore 32 = .ok (.ifCond .eq 5, 3) := by decide +kernel
theorem dX9_restore_35 : decode cX9_restore 35 = .ok (.iconst 0, 1) := by decide +kernel
theorem dX9_restore_36 : decode cX9_restore 36 = .ok (.ireturn, 1) := by decide +kernel
theorem dX9_restore_37 : decode cX9_restore 37 = .ok (.aload_n 0, 1) := by decide +kernel
theorem dX9_restore_38 : decode cX9_restore 38 = .ok (.getfield 22, 3) := by decide +kernel
theorem dX9_restore_41 : decode cX9_restore 41 = .ok (.iload_n 1, 1) := by decide +kernel
theorem dX9_restore_42 : decode cX9_restore 42 = .ok (.aload_n 0, 1) := by decide +kernel
theorem dX9_restore_43 : decode cX9_restore 43 = .ok (.getfield 9, 3) := by decide +kernel
theorem dX9_restore_46 : decode cX9_restore 46 = .ok (.iconst 0, 1) := by decide +kernel
theorem dX9_restore_47 : decode cX9_restore 47 = .ok (.invokestatic 49, 3) := by decide +kernel
theorem dX9_restore_50 : decode cX9_restore 50 = .ok (.aload_n 0, 1) := by decide +kernel
theorem dX9_restore_51 : decode cX9_restore 51 = .ok (.iconst 0, 1) := by decide +kernel
theorem dX9_restore_52 : decode cX9_restore 52 = .ok (.putfield 53, 3) := by decide +kernel
theorem dX9_restore_55 : decode cX9_restore 55 = .ok (.aload_n 0, 1) := by decide +kernel
theorem dX9_restore_56 : decode cX9_restore 56 = .ok (.invokevirtual 56, 3) := by decide +kernel
theorem dX9_restore_59 : decode cX9_restore 59 = .ok (.ireturn, 1) := by decide +kernel
theorem dX9_prints_0 : decode cX9_prints 0 = .ok (.aload_n 0, 1) := by decide +kernel
theorem dX9_prints_1 : decode cX9_prints 1 = .ok (.getfield 43, 3) := by decide +kernel
theorem dX9_prints_4 : decode cX9_prints 4 = .ok (.aload_n 0, 1) := by decide +kernel
theorem dX9_prints_5 : decode cX9_prints 5 = .ok (.getfield 391, 3) := by decide +kernel
theorem dX9_prints_8 : decode cX9_prints 8 = .ok (.iload_n 1, 1) := by decide +kernel
theorem dX9_prints_9 : decode cX9_prints 9 = .ok (.i2b, 1) := by decide +kernel
theorem dX9_prints_10 : decode cX9_prints 10 = .ok (.bastore, 1) := by decide +kernel
theorem dX9_prints_11 : decode cX9_prints 11 = .ok (.aload_n 0, 1) := by decide +kernel
theorem dX9_prints_12 : decode cX9_prints 12 = .ok (.dup, 1) := by decide +kernel
theorem dX9_prints_13 : decode cX9_prints 13 = .ok (.getfield 391, 3) := by decide +kernel
theorem dX9_prints_16 : decode cX9_prints 16 = .ok (.iconst 1, 1) := by decide +kernel
theorem dX9_prints_17 : decode cX9_prints 17 = .ok (.iadd, 1) := by decide +kernel
theorem dX9_prints_18 : decode cX9_prints 18 = .ok (.putfield 391, 3) := by decide +kernel
theorem dX9_prints_21 : decode cX9_prints 21 = .ok (.return_, 1) := by decide +kernel
set_option maxRecDepth 20000 in
theorem ggX9_writeClause_X9_noClause : GoodIn wsX9_writeClause wsX9_noClause := goodIn_r _ [7, 8, 9, 10, 6, 11, 12, 13, 14, 15, 16, 17, 18, 19, 1, 33, 34, 35, 36, 37, 38, 39, 40, 41, 42, 43, 44, 45, 46, 47, 48, 49, 50, 51, 52, 53, 54, 55, 56, 57, 58, 59] rfl (by decide +kernel)
set_option maxRecDepth 20000 in
theorem gX9_writeClause_X9_noClause : GoodIn wsX9_writeClause (wsV RX9 345 RX9 yX9_noClause wsX9_noClause) := goodIn_app (goodIn_r _ [3, 4, 5, 6] rfl (by decide +kernel)) ggX9_writeClause_X9_noClause
set_option maxRecDepth 20000 in
theorem ggX9_writeClause_X9_wide : GoodIn wsX9_writeClause wsX9_wide := goodIn_r _ [23, 12, 33, 34, 35, 36, 37, 38, 39, 40, 41, 42, 43, 44, 45, 46, 47, 48, 49, 50, 51, 52, 53, 54, 55, 56, 57, 58, 59] rfl (by decide +kernel)
set_option maxRecDepth 20000 in
theorem gX9_writeClause_X9_wide : GoodIn wsX9_writeClause (wsV RX9 64 RX9 yX9_wide wsX9_wide) := goodIn_app (goodIn_r _ [20, 21, 22, 6] rfl (by decide +kernel)) ggX9_writeClause_X9_wide
set_option maxRecDepth 20000 in
theorem ggX9_writeClause_X9_sign : GoodIn wsX9_writeClause wsX9_sign := goodIn_r _ [27, 12, 33, 34, 35, 36, 37, 38, 39, 40, 41, 42, 43, 44, 45, 46, 47, 48, 49, 50, 51, 52, 53, 54, 55, 56, 57, 58, 59] rfl (by decide +kernel)
set_option maxRecDepth 20000 in
theorem gX9_writeClause_X9_sign : GoodIn wsX9_writeClause (wsV RX9 67 RX9 yX9_sign wsX9_sign) := goodIn_app (goodIn_r _ [24, 25, 26, 6] rfl (by decide +kernel)) ggX9_writeClause_X9_sign
set_option maxRecDepth 20000 in
theorem ggX9_writeClause_X9_prints : GoodIn wsX9_writeClause wsX9_prints := goodIn_r _ [31, 32, 2, 33, 34, 35, 36, 37, 38, 39, 40, 41, 42, 43, 44, 45, 46, 47, 48, 49, 50, 51, 52, 53, 54, 55, 56, 57, 58, 59] rfl (by decide +kernel)
set_option maxRecDepth 20000 in
theorem gX9_writeClause_X9_prints : GoodIn wsX9_writeClause (wsV RX9 394 RX9 yX9_prints wsX9_prints) := goodIn_app (goodIn_r _ [28, 29, 30, 6] rfl (by decide +kernel)) ggX9_writeClause_X9_prints
theorem dX9_writeClause_0 : decode cX9_writeClause 0 = .ok (.aload_n 0, 1) := by decide +kernel
theorem dX9_writeClause_1 : decode cX9_writeClause 1 = .ok (.iconst 0, 1) := by decide +kernel
theorem dX9_writeClause_2 : decode cX9_writeClause 2 = .ok (.putfield 46, 3) := by decide +kernel
theorem dX9_writeClause_5 : decode cX9_writeClause 5 = .ok (.aload_n 0, 1) := by decide +kernel
theorem dX9_writeClause_6 : decode cX9_writeClause 6 = .ok (.iload_n 1, 1) := by decide +kernel
theorem dX9_writeClause_7 : decode cX9_writeClause 7 = .ok (.invokevirtual 345, 3) := by decide +kernel
theorem dX9_writeClause_10 : decode cX9_writeClause 10 = .ok (.ifCond .eq 5, 3) := by decide +kernel
theorem dX9_writeClause_13 : decode cX9_writeClause 13 = .ok (.iconst 0, 1) := by decide +kernel
theorem dX9_writeClause_14 : decode cX9_writeClause 14 = .ok (.ireturn, 1) := by decide +kernel
theorem dX9_writeClause_15 : decode cX9_writeClause 15 = .ok (.aload_n 0, 1) := by decide +kernel
theorem dX9_writeClause_16 : decode cX9_writeClause 16 = .ok (.iconst 0, 1) := by decide +kernel
theorem dX9_writeClause_17 : decode cX9_writeClause 17 = .ok (.putfield 391, 3) := by decide +kernel
theorem dX9_writeClause_20 : decode cX9_writeClause 20 = .ok (.iconst 0, 1) := by decide +kernel
theorem dX9_writeClause_21 : decode cX9_writeClause 21 = .ok (.istore_n 2, 1) := by decide +kernel
theorem dX9_writeClause_22 : decode cX9_writeClause 22 = .ok (.iload_n 2, 1) := by decide +kernel
theorem dX9_writeClause_23 : decode cX9_writeClause 23 = .ok (.aload_n 0, 1) := by decide +kernel
theorem dX9_writeClause_24 : decode cX9_writeClause 24 = .ok (.invokevirtual 64, 3) := by decide +kernel
theorem dX9_writeClause_27 : decode cX9_writeClause 27 = .ok (.if_icmp .ge 58, 3) := by decide +kernel
theorem dX9_writeClause_30 : decode cX9_writeClause 30 = .ok (.aload_n 0, 1) := by decide +kernel
theorem dX9_writeClause_31 : decode cX9_writeClause 31 = .ok (.iload_n 1, 1) := by decide +kernel
theorem dX9_writeClause_32 : decode cX9_writeClause 32 = .ok (.iload_n 2, 1) := by decide +kernel
theorem dX9_writeClause_33 : decode cX9_writeClause 33 = .ok (.invokevirtual 67, 3) := by decide +kernel
theorem dX9_writeClause_36 : decode cX9_writeClause 36 = .ok (.ifCond .ne 6, 3) := by decide +kernel
theorem dX9_writeClause_39 : decode cX9_writeClause 39 = .ok (.goto 40, 3) := by decide +kernel
theorem dX9_writeClause_42 : decode cX9_writeClause 42 = .ok (.aload_n 0, 1) := by decide +kernel
theorem dX9_writeClause_43 : decode cX9_writeClause 43 = .ok (.getfield 391, 3) := by decide +kernel
theorem dX9_writeClause_46 : decode cX9_writeClause 46 = .ok (.ifCond .le 9, 3) := by decide +kernel
theorem dX9_writeClause_49 : decode cX9_writeClause 49 = .ok (.aload_n 0, 1) := by decide +kernel
theorem dX9_writeClause_50 : decode cX9_writeClause 50 = .ok (.bipush 32, 2) := by decide +kernel
theorem dX9_writeClause_52 : decode cX9_writeClause 52 = .ok (.invokevirtual 394, 3) := by decide +kernel
theorem dX9_writeClause_55 : decode cX9_writeClause 55 = .ok (.aload_n 0, 1) := by decide +kernel
theorem dX9_writeClause_56 : decode cX9_writeClause 56 = .ok (.iload_n 1, 1) := by decide +kernel
theorem dX9_writeClause_57 : decode cX9_writeClause 57 = .ok (.iload_n 2, 1) := by decide +kernel
theorem dX9_writeClause_58 : decode cX9_writeClause 58 = .ok (.invokevirtual 67, 3) := by decide +kernel
theorem dX9_writeClause_61 : decode cX9_writeClause 61 = .ok (.iconst 2, 1) := by decide +kernel
theorem dX9_writeClause_62 : decode cX9_writeClause 62 = .ok (.if_icmp .ne 9, 3) := by decide +kernel
theorem dX9_writeClause_65 : decode cX9_writeClause 65 = .ok (.aload_n 0, 1) := by decide +kernel
theorem dX9_writeClause_66 : decode cX9_writeClause 66 = .ok (.bipush 45, 2) := by decide +kernel
theorem dX9_writeClause_68 : decode cX9_writeClause 68 = .ok (.invokevirtual 394, 3) := by decide +kernel
theorem dX9_writeClause_71 : decode cX9_writeClause 71 = .ok (.aload_n 0, 1) := by decide +kernel
theorem dX9_writeClause_72 : decode cX9_writeClause 72 = .ok (.bipush 97, 2) := by decide +kernel
theorem dX9_writeClause_74 : decode cX9_writeClause 74 = .ok (.iload_n 2, 1) := by decide +kernel
theorem dX9_writeClause_75 : decode cX9_writeClause 75 = .ok (.iadd, 1) := by decide +kernel
theorem dX9_writeClause_76 : decode cX9_writeClause 76 = .ok (.invokevirtual 394, 3) := by decide +kernel
theorem dX9_writeClause_79 : decode cX9_writeClause 79 = .ok (.iinc 2 1, 3) := by decide +kernel
theorem dX9_writeClause_82 : decode cX9_writeClause 82 = .ok (.goto (-60), 3) := by decide +kernel
theorem dX9_writeClause_85 : decode cX9_writeClause 85 = .ok (.aload_n 0, 1) := by decide +kernel
theorem dX9_writeClause_86 : decode cX9_writeClause 86 = .ok (.getfield 391, 3) := by decide +kernel
theorem dX9_writeClause_89 : decode cX9_writeClause 89 = .ok (.ifCond .ne 9, 3) := by decide +kernel
theorem dX9_writeClause_92 : decode cX9_writeClause 92 = .ok (.aload_n 0, 1) := by decide +kernel
theorem dX9_writeClause_93 : decode cX9_writeClause 93 = .ok (.bipush 35, 2) := by decide +kernel
theorem dX9_writeClause_95 : decode cX9_writeClause 95 = .ok (.invokevirtual 394, 3) := by decide +kernel
theorem dX9_writeClause_98 : decode cX9_writeClause 98 = .ok (.aload_n 0, 1) := by decide +kernel
theorem dX9_writeClause_99 : decode cX9_writeClause 99 = .ok (.getfield 391, 3) := by decide +kernel
theorem dX9_writeClause_102 : decode cX9_writeClause 102 = .ok (.ireturn, 1) := by decide +kernel
set_option maxRecDepth 20000 in
theorem ggX9_outputByte_X9_in : GoodIn wsX9_outputByte wsX9_in := goodIn_r _ [7] rfl (by decide +kernel)
set_option maxRecDepth 20000 in
theorem gX9_outputByte_X9_in : GoodIn wsX9_outputByte (va_wsS RX9 178 yX9_in wsX9_in) := goodIn_app (goodIn_r _ [4, 5, 6] rfl (by decide +kernel)) ggX9_outputByte_X9_in
theorem dX9_outputByte_0 : decode cX9_outputByte 0 = .ok (.aload_n 0, 1) := by decide +kernel
theorem dX9_outputByte_1 : decode cX9_outputByte 1 = .ok (.iconst 0, 1) := by decide +kernel
theorem dX9_outputByte_2 : decode cX9_outputByte 2 = .ok (.putfield 46, 3) := by decide +kernel
theorem dX9_outputByte_5 : decode cX9_outputByte 5 = .ok (.iload_n 1, 1) := by decide +kernel
theorem dX9_outputByte_6 : decode cX9_outputByte 6 = .ok (.i2l, 1) := by decide +kernel
theorem dX9_outputByte_7 : decode cX9_outputByte 7 = .ok (.lconst 0, 1) := by decide +kernel
theorem dX9_outputByte_8 : decode cX9_outputByte 8 = .ok (.aload_n 0, 1) := by decide +kernel
theorem dX9_outputByte_9 : decode cX9_outputByte 9 = .ok (.getfield 391, 3) := by decide +kernel
theorem dX9_outputByte_12 : decode cX9_outputByte 12 = .ok (.iconst 1, 1) := by decide +kernel
theorem dX9_outputByte_13 : decode cX9_outputByte 13 = .ok (.isub, 1) := by decide +kernel
theorem dX9_outputByte_14 : decode cX9_outputByte 14 = .ok (.i2l, 1) := by decide +kernel
theorem dX9_outputByte_15 : decode cX9_outputByte 15 = .ok (.invokestatic 178, 3) := by decide +kernel
theorem dX9_outputByte_18 : decode cX9_outputByte 18 = .ok (.ifCond .eq 12, 3) := by decide +kernel
theorem dX9_outputByte_21 : decode cX9_outputByte 21 = .ok (.aload_n 0, 1) := by decide +kernel
theorem dX9_outputByte_22 : decode cX9_outputByte 22 = .ok (.getfield 43, 3) := by decide +kernel
theorem dX9_outputByte_25 : decode cX9_outputByte 25 = .ok (.iload_n 1, 1) := by decide +kernel
theorem dX9_outputByte_26 : decode cX9_outputByte 26 = .ok (.baload, 1) := by decide +kernel
theorem dX9_outputByte_27 : decode cX9_outputByte 27 = .ok (.goto 4, 3) := by decide +kernel
theorem dX9_outputByte_30 : decode cX9_outputByte 30 = .ok (.iconst (-1), 1) := by decide +kernel
theorem dX9_outputByte_31 : decode cX9_outputByte 31 = .ok (.ireturn, 1) := by decide +kernel
