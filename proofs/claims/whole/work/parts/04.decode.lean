theorem dX0_init_0 : decode cX0_init 0 = .ok (.aload_n 0, 1) := by decide +kernel
theorem dX0_init_1 : decode cX0_init 1 = .ok (.invokespecial 3, 3) := by decide +kernel
theorem dX0_init_4 : decode cX0_init 4 = .ok (.aload_n 0, 1) := by decide +kernel
theorem dX0_init_5 : decode cX0_init 5 = .ok (.bipush 60, 2) := by decide +kernel
theorem dX0_init_7 : decode cX0_init 7 = .ok (.newarray .int, 2) := by decide +kernel
theorem dX0_init_9 : decode cX0_init 9 = .ok (.putfield 9, 3) := by decide +kernel
theorem dX0_init_12 : decode cX0_init 12 = .ok (.aload_n 0, 1) := by decide +kernel
theorem dX0_init_13 : decode cX0_init 13 = .ok (.bipush 60, 2) := by decide +kernel
theorem dX0_init_15 : decode cX0_init 15 = .ok (.newarray .int, 2) := by decide +kernel
theorem dX0_init_17 : decode cX0_init 17 = .ok (.putfield 15, 3) := by decide +kernel
theorem dX0_init_20 : decode cX0_init 20 = .ok (.aload_n 0, 1) := by decide +kernel
theorem dX0_init_21 : decode cX0_init 21 = .ok (.bipush 60, 2) := by decide +kernel
theorem dX0_init_23 : decode cX0_init 23 = .ok (.newarray .int, 2) := by decide +kernel
theorem dX0_init_25 : decode cX0_init 25 = .ok (.putfield 18, 3) := by decide +kernel
theorem dX0_init_28 : decode cX0_init 28 = .ok (.aload_n 0, 1) := by decide +kernel
theorem dX0_init_29 : decode cX0_init 29 = .ok (.bipush 60, 2) := by decide +kernel
theorem dX0_init_31 : decode cX0_init 31 = .ok (.newarray .int, 2) := by decide +kernel
theorem dX0_init_33 : decode cX0_init 33 = .ok (.putfield 21, 3) := by decide +kernel
theorem dX0_init_36 : decode cX0_init 36 = .ok (.aload_n 0, 1) := by decide +kernel
theorem dX0_init_37 : decode cX0_init 37 = .ok (.bipush 60, 2) := by decide +kernel
theorem dX0_init_39 : decode cX0_init 39 = .ok (.newarray .int, 2) := by decide +kernel
theorem dX0_init_41 : decode cX0_init 41 = .ok (.putfield 24, 3) := by decide +kernel
theorem dX0_init_44 : decode cX0_init 44 = .ok (.aload_n 0, 1) := by decide +kernel
theorem dX0_init_45 : decode cX0_init 45 = .ok (.bipush 60, 2) := by decide +kernel
theorem dX0_init_47 : decode cX0_init 47 = .ok (.newarray .int, 2) := by decide +kernel
theorem dX0_init_49 : decode cX0_init 49 = .ok (.putfield 27, 3) := by decide +kernel
theorem dX0_init_52 : decode cX0_init 52 = .ok (.aload_n 0, 1) := by decide +kernel
theorem dX0_init_53 : decode cX0_init 53 = .ok (.iconst 4, 1) := by decide +kernel
theorem dX0_init_54 : decode cX0_init 54 = .ok (.putfield 30, 3) := by decide +kernel
theorem dX0_init_57 : decode cX0_init 57 = .ok (.aload_n 0, 1) := by decide +kernel
theorem dX0_init_58 : decode cX0_init 58 = .ok (.iconst 0, 1) := by decide +kernel
theorem dX0_init_59 : decode cX0_init 59 = .ok (.putfield 34, 3) := by decide +kernel
theorem dX0_init_62 : decode cX0_init 62 = .ok (.return_, 1) := by decide +kernel
theorem dX0_begin_0 : decode cX0_begin 0 = .ok (.aload_n 0, 1) := by decide +kernel
theorem dX0_begin_1 : decode cX0_begin 1 = .ok (.iload_n 1, 1) := by decide +kernel
theorem dX0_begin_2 : decode cX0_begin 2 = .ok (.putfield 30, 3) := by decide +kernel
theorem dX0_begin_5 : decode cX0_begin 5 = .ok (.aload_n 0, 1) := by decide +kernel
theorem dX0_begin_6 : decode cX0_begin 6 = .ok (.iconst 0, 1) := by decide +kernel
theorem dX0_begin_7 : decode cX0_begin 7 = .ok (.putfield 34, 3) := by decide +kernel
theorem dX0_begin_10 : decode cX0_begin 10 = .ok (.return_, 1) := by decide +kernel
theorem dX0_copyFrom_0 : decode cX0_copyFrom 0 = .ok (.aload_n 0, 1) := by decide +kernel
theorem dX0_copyFrom_1 : decode cX0_copyFrom 1 = .ok (.aload_n 1, 1) := by decide +kernel
theorem dX0_copyFrom_2 : decode cX0_copyFrom 2 = .ok (.getfield 30, 3) := by decide +kernel
theorem dX0_copyFrom_5 : decode cX0_copyFrom 5 = .ok (.putfield 30, 3) := by decide +kernel
theorem dX0_copyFrom_8 : decode cX0_copyFrom 8 = .ok (.aload_n 0, 1) := by decide +kernel
theorem dX0_copyFrom_9 : decode cX0_copyFrom 9 = .ok (.aload_n 1, 1) := by decide +kernel
theorem dX0_copyFrom_10 : decode cX0_copyFrom 10 = .ok (.getfield 34, 3) := by decide +kernel
theorem dX0_copyFrom_13 : decode cX0_copyFrom 13 = .ok (.putfield 34, 3) := by decide +kernel
theorem dX0_copyFrom_16 : decode cX0_copyFrom 16 = .ok (.aload_n 1, 1) := by decide +kernel
theorem dX0_copyFrom_17 : decode cX0_copyFrom 17 = .ok (.getfield 9, 3) := by decide +kernel
theorem dX0_copyFrom_20 : decode cX0_copyFrom 20 = .ok (.iconst 0, 1) := by decide +kernel
theorem dX0_copyFrom_21 : decode cX0_copyFrom 21 = .ok (.aload_n 0, 1) := by decide +kernel
theorem dX0_copyFrom_22 : decode cX0_copyFrom 22 = .ok (.getfield 9, 3) := by decide +kernel
theorem dX0_copyFrom_25 : decode cX0_copyFrom 25 = .ok (.iconst 0, 1) := by decide +kernel
theorem dX0_copyFrom_26 : decode cX0_copyFrom 26 = .ok (.aload_n 0, 1) := by decide +kernel
theorem dX0_copyFrom_27 : decode cX0_copyFrom 27 = .ok (.getfield 34, 3) := by decide +kernel
theorem dX0_copyFrom_30 : decode cX0_copyFrom 30 = .ok (.invokestatic 37, 3) := by decide +kernel
theorem dX0_copyFrom_33 : decode cX0_copyFrom 33 = .ok (.aload_n 1, 1) := by decide +kernel
theorem dX0_copyFrom_34 : decode cX0_copyFrom 34 = .ok (.getfield 15, 3) := by decide +kernel
theorem dX0_copyFrom_37 : decode cX0_copyFrom 37 = .ok (.iconst 0, 1) := by decide +kernel
theorem dX0_copyFrom_38 : decode cX0_copyFrom 38 = .ok (.aload_n 0, 1) := by decide +kernel
theorem dX0_copyFrom_39 : decode cX0_copyFrom 39 = .ok (.getfield 15, 3) := by decide +kernel
theorem dX0_copyFrom_42 : decode cX0_copyFrom 42 = .ok (.iconst 0, 1) := by decide +kernel
theorem dX0_copyFrom_43 : decode cX0_copyFrom 43 = .ok (.aload_n 0, 1) := by decide +kernel
theorem dX0_copyFrom_44 : decode cX0_copyFrom 44 = .ok (.getfield 34, 3) := by decide +kernel
theorem dX0_copyFrom_47 : decode cX0_copyFrom 47 = .ok (.invokestatic 37, 3) := by decide +kernel
theorem dX0_copyFrom_50 : decode cX0_copyFrom 50 = .ok (.aload_n 1, 1) := by decide +kernel
theorem dX0_copyFrom_51 : decode cX0_copyFrom 51 = .ok (.getfield 18, 3) := by decide +kernel
theorem dX0_copyFrom_54 : decode cX0_copyFrom 54 = .ok (.iconst 0, 1) := by decide +kernel
theorem dX0_copyFrom_55 : decode cX0_copyFrom 55 = .ok (.aload_n 0, 1) := by decide +kernel
theorem dX0_copyFrom_56 : decode cX0_copyFrom 56 = .ok (.getfield 18, 3) := by decide +kernel
theorem dX0_copyFrom_59 : decode cX0_copyFrom 59 = .ok (.iconst 0, 1) := by decide +kernel
theorem dX0_copyFrom_60 : decode cX0_copyFrom 60 = .ok (.aload_n 0, 1) := by decide +kernel
theorem dX0_copyFrom_61 : decode cX0_copyFrom 61 = .ok (.getfield 34, 3) := by decide +kernel
theorem dX0_copyFrom_64 : decode cX0_copyFrom 64 = .ok (.invokestatic 37, 3) := by decide +kernel
theorem dX0_copyFrom_67 : decode cX0_copyFrom 67 = .ok (.aload_n 1, 1) := by decide +kernel
theorem dX0_copyFrom_68 : decode cX0_copyFrom 68 = .ok (.getfield 21, 3) := by decide +kernel
theorem dX0_copyFrom_71 : decode cX0_copyFrom 71 = .ok (.iconst 0, 1) := by decide +kernel
theorem dX0_copyFrom_72 : decode cX0_copyFrom 72 = .ok (.aload_n 0, 1) := by decide +kernel
theorem dX0_copyFrom_73 : decode cX0_copyFrom 73 = .ok (.getfield 21, 3) := by decide +kernel
theorem dX0_copyFrom_76 : decode cX0_copyFrom 76 = .ok (.iconst 0, 1) := by decide +kernel
theorem dX0_copyFrom_77 : decode cX0_copyFrom 77 = .ok (.aload_n 0, 1) := by decide +kernel
theorem dX0_copyFrom_78 : decode cX0_copyFrom 78 = .ok (.getfield 34, 3) := by decide +kernel
theorem dX0_copyFrom_81 : decode cX0_copyFrom 81 = .ok (.invokestatic 37, 3) := by decide +kernel
theorem dX0_copyFrom_84 : decode cX0_copyFrom 84 = .ok (.aload_n 1, 1) := by decide +kernel
theorem dX0_copyFrom_85 : decode cX0_copyFrom 85 = .ok (.getfield 24, 3) := by decide +kernel
theorem dX0_copyFrom_88 : decode cX0_copyFrom 88 = .ok (.iconst 0, 1) := by decide +kernel
theorem dX0_copyFrom_89 : decode cX0_copyFrom 89 = .ok (.aload_n 0, 1) := by decide +kernel
theorem dX0_copyFrom_90 : decode cX0_copyFrom 90 = .ok (.getfield 24, 3) := by decide +kernel
theorem dX0_copyFrom_93 : decode cX0_copyFrom 93 = .ok (.iconst 0, 1) := by decide +kernel
theorem dX0_copyFrom_94 : decode cX0_copyFrom 94 = .ok (.aload_n 0, 1) := by decide +kernel
theorem dX0_copyFrom_95 : decode cX0_copyFrom 95 = .ok (.getfield 34, 3) := by decide +kernel
theorem dX0_copyFrom_98 : decode cX0_copyFrom 98 = .ok (.invokestatic 37, 3) := by decide +kernel
theorem dX0_copyFrom_101 : decode cX0_copyFrom 101 = .ok (.aload_n 1, 1) := by decide +kernel
theorem dX0_copyFrom_102 : decode cX0_copyFrom 102 = .ok (.getfield 27, 3) := by decide +kernel
theorem dX0_copyFrom_105 : decode cX0_copyFrom 105 = .ok (.iconst 0, 1) := by decide +kernel
theorem dX0_copyFrom_106 : decode cX0_copyFrom 106 = .ok (.aload_n 0, 1) := by decide +kernel
theorem dX0_copyFrom_107 : decode cX0_copyFrom 107 = .ok (.getfield 27, 3) := by decide +kernel
theorem dX0_copyFrom_110 : decode cX0_copyFrom 110 = .ok (.iconst 0, 1) := by decide +kernel
theorem dX0_copyFrom_111 : decode cX0_copyFrom 111 = .ok (.aload_n 0, 1) := by decide +kernel
theorem dX0_copyFrom_112 : decode cX0_copyFrom 112 = .ok (.getfield 34, 3) := by decide +kernel
theorem dX0_copyFrom_115 : decode cX0_copyFrom 115 = .ok (.invokestatic 37, 3) := by decide +kernel
theorem dX0_copyFrom_118 : decode cX0_copyFrom 118 = .ok (.return_, 1) := by decide +kernel
theorem dX0_hasClause_0 : decode cX0_hasClause 0 = .ok (.iload_n 1, 1) := by decide +kernel
theorem dX0_hasClause_1 : decode cX0_hasClause 1 = .ok (.ifCond .lt 15, 3) := by decide +kernel
theorem dX0_hasClause_4 : decode cX0_hasClause 4 = .ok (.iload_n 1, 1) := by decide +kernel
theorem dX0_hasClause_5 : decode cX0_hasClause 5 = .ok (.aload_n 0, 1) := by decide +kernel
theorem dX0_hasClause_6 : decode cX0_hasClause 6 = .ok (.getfield 34, 3) := by decide +kernel
theorem dX0_hasClause_9 : decode cX0_hasClause 9 = .ok (.if_icmp .ge 7, 3) := by decide +kernel
theorem dX0_hasClause_12 : decode cX0_hasClause 12 = .ok (.iconst 1, 1) := by decide +kernel
theorem dX0_hasClause_13 : decode cX0_hasClause 13 = .ok (.goto 4, 3) := by decide +kernel
theorem dX0_hasClause_16 : decode cX0_hasClause 16 = .ok (.iconst 0, 1) := by decide +kernel
theorem dX0_hasClause_17 : decode cX0_hasClause 17 = .ok (.ireturn, 1) := by decide +kernel
theorem dX0_isFull_0 : decode cX0_isFull 0 = .ok (.aload_n 0, 1) := by decide +kernel
theorem dX0_isFull_1 : decode cX0_isFull 1 = .ok (.getfield 34, 3) := by decide +kernel
theorem dX0_isFull_4 : decode cX0_isFull 4 = .ok (.bipush 60, 2) := by decide +kernel
theorem dX0_isFull_6 : decode cX0_isFull 6 = .ok (.if_icmp .lt 7, 3) := by decide +kernel
theorem dX0_isFull_9 : decode cX0_isFull 9 = .ok (.iconst 1, 1) := by decide +kernel
theorem dX0_isFull_10 : decode cX0_isFull 10 = .ok (.goto 4, 3) := by decide +kernel
theorem dX0_isFull_13 : decode cX0_isFull 13 = .ok (.iconst 0, 1) := by decide +kernel
theorem dX0_isFull_14 : decode cX0_isFull 14 = .ok (.ireturn, 1) := by decide +kernel
theorem dX0_allVariables_0 : decode cX0_allVariables 0 = .ok (.iconst 1, 1) := by decide +kernel
theorem dX0_allVariables_1 : decode cX0_allVariables 1 = .ok (.aload_n 0, 1) := by decide +kernel
theorem dX0_allVariables_2 : decode cX0_allVariables 2 = .ok (.getfield 30, 3) := by decide +kernel
theorem dX0_allVariables_5 : decode cX0_allVariables 5 = .ok (.ishl, 1) := by decide +kernel
theorem dX0_allVariables_6 : decode cX0_allVariables 6 = .ok (.iconst 1, 1) := by decide +kernel
theorem dX0_allVariables_7 : decode cX0_allVariables 7 = .ok (.isub, 1) := by decide +kernel
theorem dX0_allVariables_8 : decode cX0_allVariables 8 = .ok (.ireturn, 1) := by decide +kernel
set_option maxRecDepth 20000 in
theorem ggX0_isMask_X0_allVariables : GoodIn wsX0_isMask wsX0_allVariables := goodIn_r _ [5, 6, 7, 8, 9, 10, 11, 12, 13, 14] rfl (by decide +kernel)
set_option maxRecDepth 20000 in
theorem gX0_isMask_X0_allVariables : GoodIn wsX0_isMask (wsV RX0 43 RX0 yX0_allVariables wsX0_allVariables) := goodIn_app (goodIn_r _ [1, 2, 3, 4] rfl (by decide +kernel)) ggX0_isMask_X0_allVariables
theorem dX0_isMask_0 : decode cX0_isMask 0 = .ok (.iload_n 1, 1) := by decide +kernel
theorem dX0_isMask_1 : decode cX0_isMask 1 = .ok (.aload_n 0, 1) := by decide +kernel
theorem dX0_isMask_2 : decode cX0_isMask 2 = .ok (.invokevirtual 43, 3) := by decide +kernel
theorem dX0_isMask_5 : decode cX0_isMask 5 = .ok (.iconst (-1), 1) := by decide +kernel
theorem dX0_isMask_6 : decode cX0_isMask 6 = .ok (.ixor, 1) := by decide +kernel
theorem dX0_isMask_7 : decode cX0_isMask 7 = .ok (.iand, 1) := by decide +kernel
theorem dX0_isMask_8 : decode cX0_isMask 8 = .ok (.ifCond .ne 7, 3) := by decide +kernel
theorem dX0_isMask_11 : decode cX0_isMask 11 = .ok (.iconst 1, 1) := by decide +kernel
theorem dX0_isMask_12 : decode cX0_isMask 12 = .ok (.goto 4, 3) := by decide +kernel
theorem dX0_isMask_15 : decode cX0_isMask 15 = .ok (.iconst 0, 1) := by decide +kernel
theorem dX0_isMask_16 : decode cX0_isMask 16 = .ok (.ireturn, 1) := by decide +kernel
theorem dX0_indexOf_0 : decode cX0_indexOf 0 = .ok (.iconst 0, 1) := by decide +kernel
theorem dX0_indexOf_1 : decode cX0_indexOf 1 = .ok (.istore_n 3, 1) := by decide +kernel
theorem dX0_indexOf_2 : decode cX0_indexOf 2 = .ok (.iload_n 3, 1) := by decide +kernel
theorem dX0_indexOf_3 : decode cX0_indexOf 3 = .ok (.aload_n 0, 1) := by decide +kernel
theorem dX0_indexOf_4 : decode cX0_indexOf 4 = .ok (.getfield 34, 3) := by decide +kernel
theorem dX0_indexOf_7 : decode cX0_indexOf 7 = .ok (.if_icmp .ge 31, 3) := by decide +kernel
theorem dX0_indexOf_10 : decode cX0_indexOf 10 = .ok (.aload_n 0, 1) := by decide +kernel
theorem dX0_indexOf_11 : decode cX0_indexOf 11 = .ok (.getfield 9, 3) := by decide +kernel
theorem dX0_indexOf_14 : decode cX0_indexOf 14 = .ok (.iload_n 3, 1) := by decide +kernel
theorem dX0_indexOf_15 : decode cX0_indexOf 15 = .ok (.iaload, 1) := by decide +kernel
theorem dX0_indexOf_16 : decode cX0_indexOf 16 = .ok (.iload_n 1, 1) := by decide +kernel
theorem dX0_indexOf_17 : decode cX0_indexOf 17 = .ok (.if_icmp .ne 15, 3) := by decide +kernel
theorem dX0_indexOf_20 : decode cX0_indexOf 20 = .ok (.aload_n 0, 1) := by decide +kernel
theorem dX0_indexOf_21 : decode cX0_indexOf 21 = .ok (.getfield 15, 3) := by decide +kernel
theorem dX0_indexOf_24 : decode cX0_indexOf 24 = .ok (.iload_n 3, 1) := by decide +kernel
theorem dX0_indexOf_25 : decode cX0_indexOf 25 = .ok (.iaload, 1) := by decide +kernel
theorem dX0_indexOf_26 : decode cX0_indexOf 26 = .ok (.iload_n 2, 1) := by decide +kernel
theorem dX0_indexOf_27 : decode cX0_indexOf 27 = .ok (.if_icmp .ne 5, 3) := by decide +kernel
theorem dX0_indexOf_30 : decode cX0_indexOf 30 = .ok (.iload_n 3, 1) := by decide +kernel
theorem dX0_indexOf_31 : decode cX0_indexOf 31 = .ok (.ireturn, 1) := by decide +kernel
theorem dX0_indexOf_32 : decode cX0_indexOf 32 = .ok (.iinc 3 1, 3) := by decide +kernel
theorem dX0_indexOf_35 : decode cX0_indexOf 35 = .ok (.goto (-33), 3) := by decide +kernel
theorem dX0_indexOf_38 : decode cX0_indexOf 38 = .ok (.iconst (-1), 1) := by decide +kernel
theorem dX0_indexOf_39 : decode cX0_indexOf 39 = .ok (.ireturn, 1) := by decide +kernel
set_option maxRecDepth 20000 in
theorem ggX0_literalsIn_J6_bitCount_0f7a4 : GoodIn wsX0_literalsIn wsJ6_bitCount_0f7a4 := goodIn_r _ [6, 7, 8, 9] rfl (by decide +kernel)
set_option maxRecDepth 20000 in
theorem gX0_literalsIn_J6_bitCount_0f7a4 : GoodIn wsX0_literalsIn (va_wsS RX0 47 yJ6_bitCount_0f7a4 wsJ6_bitCount_0f7a4) := goodIn_app (goodIn_r _ [3, 4, 5] rfl (by decide +kernel)) ggX0_literalsIn_J6_bitCount_0f7a4
theorem dX0_literalsIn_0 : decode cX0_literalsIn 0 = .ok (.aload_n 0, 1) := by decide +kernel
theorem dX0_literalsIn_1 : decode cX0_literalsIn 1 = .ok (.getfield 9, 3) := by decide +kernel
theorem dX0_literalsIn_4 : decode cX0_literalsIn 4 = .ok (.iload_n 1, 1) := by decide +kernel
theorem dX0_literalsIn_5 : decode cX0_literalsIn 5 = .ok (.iaload, 1) := by decide +kernel
theorem dX0_literalsIn_6 : decode cX0_literalsIn 6 = .ok (.invokestatic 47, 3) := by decide +kernel
theorem dX0_literalsIn_9 : decode cX0_literalsIn 9 = .ok (.aload_n 0, 1) := by decide +kernel
theorem dX0_literalsIn_10 : decode cX0_literalsIn 10 = .ok (.getfield 15, 3) := by decide +kernel
theorem dX0_literalsIn_13 : decode cX0_literalsIn 13 = .ok (.iload_n 1, 1) := by decide +kernel
theorem dX0_literalsIn_14 : decode cX0_literalsIn 14 = .ok (.iaload, 1) := by decide +kernel
theorem dX0_literalsIn_15 : decode cX0_literalsIn 15 = .ok (.invokestatic 47, 3) := by decide +kernel
theorem dX0_literalsIn_18 : decode cX0_literalsIn 18 = .ok (.iadd, 1) := by decide +kernel
theorem dX0_literalsIn_19 : decode cX0_literalsIn 19 = .ok (.ireturn, 1) := by decide +kernel
set_option maxRecDepth 20000 in
theorem ggX0_countWithLiterals_X0_literalsIn : GoodIn wsX0_countWithLiterals wsX0_literalsIn := goodIn_r _ [6, 7, 8, 9, 10, 11, 12, 13, 14, 15, 16, 17, 18, 19, 20, 21, 22, 23] rfl (by decide +kernel)
set_option maxRecDepth 20000 in
theorem gX0_countWithLiterals_X0_literalsIn : GoodIn wsX0_countWithLiterals (wsV RX0 53 RX0 yX0_literalsIn wsX0_literalsIn) := goodIn_app (goodIn_r _ [2, 3, 4, 5] rfl (by decide +kernel)) ggX0_countWithLiterals_X0_literalsIn
theorem dX0_countWithLiterals_0 : decode cX0_countWithLiterals 0 = .ok (.iconst 0, 1) := by decide +kernel
theorem dX0_countWithLiterals_1 : decode cX0_countWithLiterals 1 = .ok (.istore_n 2, 1) := by decide +kernel
theorem dX0_countWithLiterals_2 : decode cX0_countWithLiterals 2 = .ok (.iconst 0, 1) := by decide +kernel
theorem dX0_countWithLiterals_3 : decode cX0_countWithLiterals 3 = .ok (.istore_n 3, 1) := by decide +kernel
theorem dX0_countWithLiterals_4 : decode cX0_countWithLiterals 4 = .ok (.iload_n 3, 1) := by decide +kernel
theorem dX0_countWithLiterals_5 : decode cX0_countWithLiterals 5 = .ok (.aload_n 0, 1) := by decide +kernel
theorem dX0_countWithLiterals_6 : decode cX0_countWithLiterals 6 = .ok (.getfield 34, 3) := by decide +kernel
theorem dX0_countWithLiterals_9 : decode cX0_countWithLiterals 9 = .ok (.if_icmp .ge 21, 3) := by decide +kernel
theorem dX0_countWithLiterals_12 : decode cX0_countWithLiterals 12 = .ok (.aload_n 0, 1) := by decide +kernel
theorem dX0_countWithLiterals_13 : decode cX0_countWithLiterals 13 = .ok (.iload_n 3, 1) := by decide +kernel
theorem dX0_countWithLiterals_14 : decode cX0_countWithLiterals 14 = .ok (.invokevirtual 53, 3) := by decide +kernel
theorem dX0_countWithLiterals_17 : decode cX0_countWithLiterals 17 = .ok (.iload_n 1, 1) := by decide +kernel
theorem dX0_countWithLiterals_18 : decode cX0_countWithLiterals 18 = .ok (.if_icmp .ne 6, 3) := by decide +kernel
theorem dX0_countWithLiterals_21 : decode cX0_countWithLiterals 21 = .ok (.iinc 2 1, 3) := by decide +kernel
theorem dX0_countWithLiterals_24 : decode cX0_countWithLiterals 24 = .ok (.iinc 3 1, 3) := by decide +kernel
theorem dX0_countWithLiterals_27 : decode cX0_countWithLiterals 27 = .ok (.goto (-23), 3) := by decide +kernel
theorem dX0_countWithLiterals_30 : decode cX0_countWithLiterals 30 = .ok (.iload_n 2, 1) := by decide +kernel
theorem dX0_countWithLiterals_31 : decode cX0_countWithLiterals 31 = .ok (.ireturn, 1) := by decide +kernel
set_option maxRecDepth 20000 in
theorem ggX0_countHorn_J6_bitCount_0f7a4 : GoodIn wsX0_countHorn wsJ6_bitCount_0f7a4 := goodIn_r _ [6, 7, 8, 9] rfl (by decide +kernel)
set_option maxRecDepth 20000 in
theorem gX0_countHorn_J6_bitCount_0f7a4 : GoodIn wsX0_countHorn (va_wsS RX0 47 yJ6_bitCount_0f7a4 wsJ6_bitCount_0f7a4) := goodIn_app (goodIn_r _ [3, 4, 5] rfl (by decide +kernel)) ggX0_countHorn_J6_bitCount_0f7a4
theorem dX0_countHorn_0 : decode cX0_countHorn 0 = .ok (.iconst 0, 1) := by decide +kernel
theorem dX0_countHorn_1 : decode cX0_countHorn 1 = .ok (.istore_n 1, 1) := by decide +kernel
theorem dX0_countHorn_2 : decode cX0_countHorn 2 = .ok (.iconst 0, 1) := by decide +kernel
theorem dX0_countHorn_3 : decode cX0_countHorn 3 = .ok (.istore_n 2, 1) := by decide +kernel
theorem dX0_countHorn_4 : decode cX0_countHorn 4 = .ok (.iload_n 2, 1) := by decide +kernel
theorem dX0_countHorn_5 : decode cX0_countHorn 5 = .ok (.aload_n 0, 1) := by decide +kernel
theorem dX0_countHorn_6 : decode cX0_countHorn 6 = .ok (.getfield 34, 3) := by decide +kernel
theorem dX0_countHorn_9 : decode cX0_countHorn 9 = .ok (.if_icmp .ge 25, 3) := by decide +kernel
theorem dX0_countHorn_12 : decode cX0_countHorn 12 = .ok (.aload_n 0, 1) := by decide +kernel
theorem dX0_countHorn_13 : decode cX0_countHorn 13 = .ok (.getfield 9, 3) := by decide +kernel
theorem dX0_countHorn_16 : decode cX0_countHorn 16 = .ok (.iload_n 2, 1) := by decide +kernel
theorem dX0_countHorn_17 : decode cX0_countHorn 17 = .ok (.iaload, 1) := by decide +kernel
theorem dX0_countHorn_18 : decode cX0_countHorn 18 = .ok (.invokestatic 47, 3) := by decide +kernel
theorem dX0_countHorn_21 : decode cX0_countHorn 21 = .ok (.iconst 1, 1) := by decide +kernel
theorem dX0_countHorn_22 : decode cX0_countHorn 22 = .ok (.if_icmp .gt 6, 3) := by decide +kernel
theorem dX0_countHorn_25 : decode cX0_countHorn 25 = .ok (.iinc 1 1, 3) := by decide +kernel
theorem dX0_countHorn_28 : decode cX0_countHorn 28 = .ok (.iinc 2 1, 3) := by decide +kernel
theorem dX0_countHorn_31 : decode cX0_countHorn 31 = .ok (.goto (-27), 3) := by decide +kernel
theorem dX0_countHorn_34 : decode cX0_countHorn 34 = .ok (.iload_n 1, 1) := by decide +kernel
theorem dX0_countHorn_35 : decode cX0_countHorn 35 = .ok (.ireturn, 1) := by decide +kernel
theorem dX0_countTouching_0 : decode cX0_countTouching 0 = .ok (.iconst 0, 1) := by decide +kernel
theorem dX0_countTouching_1 : decode cX0_countTouching 1 = .ok (.istore_n 3, 1) := by decide +kernel
theorem dX0_countTouching_2 : decode cX0_countTouching 2 = .ok (.iconst 0, 1) := by decide +kernel
theorem dX0_countTouching_3 : decode cX0_countTouching 3 = .ok (.istore 4, 2) := by decide +kernel
theorem dX0_countTouching_5 : decode cX0_countTouching 5 = .ok (.iload 4, 2) := by decide +kernel
theorem dX0_countTouching_7 : decode cX0_countTouching 7 = .ok (.aload_n 0, 1) := by decide +kernel
theorem dX0_countTouching_8 : decode cX0_countTouching 8 = .ok (.getfield 34, 3) := by decide +kernel
theorem dX0_countTouching_11 : decode cX0_countTouching 11 = .ok (.if_icmp .ge 36, 3) := by decide +kernel
theorem dX0_countTouching_14 : decode cX0_countTouching 14 = .ok (.aload_n 0, 1) := by decide +kernel
theorem dX0_countTouching_15 : decode cX0_countTouching 15 = .ok (.getfield 9, 3) := by decide +kernel
theorem dX0_countTouching_18 : decode cX0_countTouching 18 = .ok (.iload 4, 2) := by decide +kernel
theorem dX0_countTouching_20 : decode cX0_countTouching 20 = .ok (.iaload, 1) := by decide +kernel
theorem dX0_countTouching_21 : decode cX0_countTouching 21 = .ok (.iload_n 1, 1) := by decide +kernel
theorem dX0_countTouching_22 : decode cX0_countTouching 22 = .ok (.iand, 1) := by decide +kernel
theorem dX0_countTouching_23 : decode cX0_countTouching 23 = .ok (.ifCond .ne 15, 3) := by decide +kernel
theorem dX0_countTouching_26 : decode cX0_countTouching 26 = .ok (.aload_n 0, 1) := by decide +kernel
theorem dX0_countTouching_27 : decode cX0_countTouching 27 = .ok (.getfield 15, 3) := by decide +kernel
theorem dX0_countTouching_30 : decode cX0_countTouching 30 = .ok (.iload 4, 2) := by decide +kernel
theorem dX0_countTouching_32 : decode cX0_countTouching 32 = .ok (.iaload, 1) := by decide +kernel
theorem dX0_countTouching_33 : decode cX0_countTouching 33 = .ok (.iload_n 2, 1) := by decide +kernel
theorem dX0_countTouching_34 : decode cX0_countTouching 34 = .ok (.iand, 1) := by decide +kernel
theorem dX0_countTouching_35 : decode cX0_countTouching 35 = .ok (.ifCond .eq 6, 3) := by decide +kernel
theorem dX0_countTouching_38 : decode cX0_countTouching 38 = .ok (.iinc 3 1, 3) := by decide +kernel
theorem dX0_countTouching_41 : decode cX0_countTouching 41 = .ok (.iinc 4 1, 3) := by decide +kernel
theorem dX0_countTouching_44 : decode cX0_countTouching 44 = .ok (.goto (-39), 3) := by decide +kernel
theorem dX0_countTouching_47 : decode cX0_countTouching 47 = .ok (.iload_n 3, 1) := by decide +kernel
theorem dX0_countTouching_48 : decode cX0_countTouching 48 = .ok (.ireturn, 1) := by decide +kernel
set_option maxRecDepth 20000 in
theorem ggX0_firstOfMostClauses_X0_countTouching : GoodIn wsX0_firstOfMostClauses wsX0_countTouching := goodIn_r _ [6, 7, 8, 9, 10, 11, 12, 13, 14, 15, 16, 17] rfl (by decide +kernel)
set_option maxRecDepth 20000 in
theorem gX0_firstOfMostClauses_X0_countTouching : GoodIn wsX0_firstOfMostClauses (wsV RX0 56 RX0 yX0_countTouching wsX0_countTouching) := goodIn_app (goodIn_r _ [2, 3, 4, 5] rfl (by decide +kernel)) ggX0_firstOfMostClauses_X0_countTouching
theorem dX0_firstOfMostClauses_0 : decode cX0_firstOfMostClauses 0 = .ok (.iconst 0, 1) := by decide +kernel
theorem dX0_firstOfMostClauses_1 : decode cX0_firstOfMostClauses 1 = .ok (.istore_n 1, 1) := by decide +kernel
theorem dX0_firstOfMostClauses_2 : decode cX0_firstOfMostClauses 2 = .ok (.iconst 0, 1) := by decide +kernel
theorem dX0_firstOfMostClauses_3 : decode cX0_firstOfMostClauses 3 = .ok (.istore_n 2, 1) := by decide +kernel
theorem dX0_firstOfMostClauses_4 : decode cX0_firstOfMostClauses 4 = .ok (.iconst 0, 1) := by decide +kernel
theorem dX0_firstOfMostClauses_5 : decode cX0_firstOfMostClauses 5 = .ok (.istore_n 3, 1) := by decide +kernel
theorem dX0_firstOfMostClauses_6 : decode cX0_firstOfMostClauses 6 = .ok (.iload_n 3, 1) := by decide +kernel
theorem dX0_firstOfMostClauses_7 : decode cX0_firstOfMostClauses 7 = .ok (.aload_n 0, 1) := by decide +kernel
theorem dX0_firstOfMostClauses_8 : decode cX0_firstOfMostClauses 8 = .ok (.getfield 30, 3) := by decide +kernel
theorem dX0_firstOfMostClauses_11 : decode cX0_firstOfMostClauses 11 = .ok (.if_icmp .ge 32, 3) := by decide +kernel
theorem dX0_firstOfMostClauses_14 : decode cX0_firstOfMostClauses 14 = .ok (.aload_n 0, 1) := by decide +kernel
theorem dX0_firstOfMostClauses_15 : decode cX0_firstOfMostClauses 15 = .ok (.iconst 1, 1) := by decide +kernel
theorem dX0_firstOfMostClauses_16 : decode cX0_firstOfMostClauses 16 = .ok (.iload_n 3, 1) := by decide +kernel
theorem dX0_firstOfMostClauses_17 : decode cX0_firstOfMostClauses 17 = .ok (.ishl, 1) := by decide +kernel
theorem dX0_firstOfMostClauses_18 : decode cX0_firstOfMostClauses 18 = .ok (.iconst 1, 1) := by decide +kernel
theorem dX0_firstOfMostClauses_19 : decode cX0_firstOfMostClauses 19 = .ok (.iload_n 3, 1) := by decide +kernel
theorem dX0_firstOfMostClauses_20 : decode cX0_firstOfMostClauses 20 = .ok (.ishl, 1) := by decide +kernel
theorem dX0_firstOfMostClauses_21 : decode cX0_firstOfMostClauses 21 = .ok (.invokevirtual 56, 3) := by decide +kernel
theorem dX0_firstOfMostClauses_24 : decode cX0_firstOfMostClauses 24 = .ok (.istore 4, 2) := by decide +kernel
theorem dX0_firstOfMostClauses_26 : decode cX0_firstOfMostClauses 26 = .ok (.iload 4, 2) := by decide +kernel
theorem dX0_firstOfMostClauses_28 : decode cX0_firstOfMostClauses 28 = .ok (.iload_n 2, 1) := by decide +kernel
theorem dX0_firstOfMostClauses_29 : decode cX0_firstOfMostClauses 29 = .ok (.if_icmp .le 8, 3) := by decide +kernel
theorem dX0_firstOfMostClauses_32 : decode cX0_firstOfMostClauses 32 = .ok (.iload_n 3, 1) := by decide +kernel
theorem dX0_firstOfMostClauses_33 : decode cX0_firstOfMostClauses 33 = .ok (.istore_n 1, 1) := by decide +kernel
theorem dX0_firstOfMostClauses_34 : decode cX0_firstOfMostClauses 34 = .ok (.iload 4, 2) := by decide +kernel
theorem dX0_firstOfMostClauses_36 : decode cX0_firstOfMostClauses 36 = .ok (.istore_n 2, 1) := by decide +kernel
theorem dX0_firstOfMostClauses_37 : decode cX0_firstOfMostClauses 37 = .ok (.iinc 3 1, 3) := by decide +kernel
theorem dX0_firstOfMostClauses_40 : decode cX0_firstOfMostClauses 40 = .ok (.goto (-34), 3) := by decide +kernel
theorem dX0_firstOfMostClauses_43 : decode cX0_firstOfMostClauses 43 = .ok (.iload_n 1, 1) := by decide +kernel
theorem dX0_firstOfMostClauses_44 : decode cX0_firstOfMostClauses 44 = .ok (.ireturn, 1) := by decide +kernel
theorem dX0_allPositive_0 : decode cX0_allPositive 0 = .ok (.iconst 0, 1) := by decide +kernel
theorem dX0_allPositive_1 : decode cX0_allPositive 1 = .ok (.istore_n 1, 1) := by decide +kernel
theorem dX0_allPositive_2 : decode cX0_allPositive 2 = .ok (.iconst 0, 1) := by decide +kernel
theorem dX0_allPositive_3 : decode cX0_allPositive 3 = .ok (.istore_n 2, 1) := by decide +kernel
theorem dX0_allPositive_4 : decode cX0_allPositive 4 = .ok (.iload_n 2, 1) := by decide +kernel
theorem dX0_allPositive_5 : decode cX0_allPositive 5 = .ok (.aload_n 0, 1) := by decide +kernel
theorem dX0_allPositive_6 : decode cX0_allPositive 6 = .ok (.getfield 34, 3) := by decide +kernel
theorem dX0_allPositive_9 : decode cX0_allPositive 9 = .ok (.if_icmp .ge 18, 3) := by decide +kernel
theorem dX0_allPositive_12 : decode cX0_allPositive 12 = .ok (.iload_n 1, 1) := by decide +kernel
theorem dX0_allPositive_13 : decode cX0_allPositive 13 = .ok (.aload_n 0, 1) := by decide +kernel
theorem dX0_allPositive_14 : decode cX0_allPositive 14 = .ok (.getfield 9, 3) := by decide +kernel
theorem dX0_allPositive_17 : decode cX0_allPositive 17 = .ok (.iload_n 2, 1) := by decide +kernel
theorem dX0_allPositive_18 : decode cX0_allPositive 18 = .ok (.iaload, 1) := by decide +kernel
theorem dX0_allPositive_19 : decode cX0_allPositive 19 = .ok (.ior, 1) := by decide +kernel
theorem dX0_allPositive_20 : decode cX0_allPositive 20 = .ok (.istore_n 1, 1) := by decide +kernel
theorem dX0_allPositive_21 : decode cX0_allPositive 21 = .ok (.iinc 2 1, 3) := by decide +kernel
theorem dX0_allPositive_24 : decode cX0_allPositive 24 = .ok (.goto (-20), 3) := by decide +kernel
theorem dX0_allPositive_27 : decode cX0_allPositive 27 = .ok (.iload_n 1, 1) := by decide +kernel
theorem dX0_allPositive_28 : decode cX0_allPositive 28 = .ok (.ireturn, 1) := by decide +kernel
theorem dX0_allNegative_0 : decode cX0_allNegative 0 = .ok (.iconst 0, 1) := by decide +kernel
theorem dX0_allNegative_1 : decode cX0_allNegative 1 = .ok (.istore_n 1, 1) := by decide +kernel
theorem dX0_allNegative_2 : decode cX0_allNegative 2 = .ok (.iconst 0, 1) := by decide +kernel
theorem dX0_allNegative_3 : decode cX0_allNegative 3 = .ok (.istore_n 2, 1) := by decide +kernel
theorem dX0_allNegative_4 : decode cX0_allNegative 4 = .ok (.iload_n 2, 1) := by decide +kernel
theorem dX0_allNegative_5 : decode cX0_allNegative 5 = .ok (.aload_n 0, 1) := by decide +kernel
theorem dX0_allNegative_6 : decode cX0_allNegative 6 = .ok (.getfield 34, 3) := by decide +kernel
theorem dX0_allNegative_9 : decode cX0_allNegative 9 = .ok (.if_icmp .ge 18, 3) := by decide +kernel
theorem dX0_allNegative_12 : decode cX0_allNegative 12 = .ok (.iload_n 1, 1) := by decide +kernel
theorem dX0_allNegative_13 : decode cX0_allNegative 13 = .ok (.aload_n 0, 1) := by decide +kernel
theorem dX0_allNegative_14 : decode cX0_allNegative 14 = .ok (.getfield 15, 3) := by decide +kernel
theorem dX0_allNegative_17 : decode cX0_allNegative 17 = .ok (.iload_n 2, 1) := by decide +kernel
theorem dX0_allNegative_18 : decode cX0_allNegative 18 = .ok (.iaload, 1) := by decide +kernel
theorem dX0_allNegative_19 : decode cX0_allNegative 19 = .ok (.ior, 1) := by decide +kernel
theorem dX0_allNegative_20 : decode cX0_allNegative 20 = .ok (.istore_n 1, 1) := by decide +kernel
theorem dX0_allNegative_21 : decode cX0_allNegative 21 = .ok (.iinc 2 1, 3) := by decide +kernel
theorem dX0_allNegative_24 : decode cX0_allNegative 24 = .ok (.goto (-20), 3) := by decide +kernel
theorem dX0_allNegative_27 : decode cX0_allNegative 27 = .ok (.iload_n 1, 1) := by decide +kernel
theorem dX0_allNegative_28 : decode cX0_allNegative 28 = .ok (.ireturn, 1) := by decide +kernel
theorem dX0_firstOfGreatestDepth_0 : decode cX0_firstOfGreatestDepth 0 = .ok (.iconst (-1), 1) := by decide +kernel
theorem dX0_firstOfGreatestDepth_1 : decode cX0_firstOfGreatestDepth 1 = .ok (.istore_n 1, 1) := by decide +kernel
theorem dX0_firstOfGreatestDepth_2 : decode cX0_firstOfGreatestDepth 2 = .ok (.iconst (-1), 1) := by decide +kernel
theorem dX0_firstOfGreatestDepth_3 : decode cX0_firstOfGreatestDepth 3 = .ok (.istore_n 2, 1) := by decide +kernel
theorem dX0_firstOfGreatestDepth_4 : decode cX0_firstOfGreatestDepth 4 = .ok (.iconst 0, 1) := by decide +kernel
theorem dX0_firstOfGreatestDepth_5 : decode cX0_firstOfGreatestDepth 5 = .ok (.istore_n 3, 1) := by decide +kernel
theorem dX0_firstOfGreatestDepth_6 : decode cX0_firstOfGreatestDepth 6 = .ok (.iload_n 3, 1) := by decide +kernel
theorem dX0_firstOfGreatestDepth_7 : decode cX0_firstOfGreatestDepth 7 = .ok (.aload_n 0, 1) := by decide +kernel
theorem dX0_firstOfGreatestDepth_8 : decode cX0_firstOfGreatestDepth 8 = .ok (.getfield 34, 3) := by decide +kernel
theorem dX0_firstOfGreatestDepth_11 : decode cX0_firstOfGreatestDepth 11 = .ok (.if_icmp .ge 28, 3) := by decide +kernel
theorem dX0_firstOfGreatestDepth_14 : decode cX0_firstOfGreatestDepth 14 = .ok (.aload_n 0, 1) := by decide +kernel
theorem dX0_firstOfGreatestDepth_15 : decode cX0_firstOfGreatestDepth 15 = .ok (.getfield 27, 3) := by decide +kernel
theorem dX0_firstOfGreatestDepth_18 : decode cX0_firstOfGreatestDepth 18 = .ok (.iload_n 3, 1) := by decide +kernel
theorem dX0_firstOfGreatestDepth_19 : decode cX0_firstOfGreatestDepth 19 = .ok (.iaload, 1) := by decide +kernel
theorem dX0_firstOfGreatestDepth_20 : decode cX0_firstOfGreatestDepth 20 = .ok (.iload_n 2, 1) := by decide +kernel
theorem dX0_firstOfGreatestDepth_21 : decode cX0_firstOfGreatestDepth 21 = .ok (.if_icmp .le 12, 3) := by decide +kernel
theorem dX0_firstOfGreatestDepth_24 : decode cX0_firstOfGreatestDepth 24 = .ok (.iload_n 3, 1) := by decide +kernel
theorem dX0_firstOfGreatestDepth_25 : decode cX0_firstOfGreatestDepth 25 = .ok (.istore_n 1, 1) := by decide +kernel
theorem dX0_firstOfGreatestDepth_26 : decode cX0_firstOfGreatestDepth 26 = .ok (.aload_n 0, 1) := by decide +kernel
theorem dX0_firstOfGreatestDepth_27 : decode cX0_firstOfGreatestDepth 27 = .ok (.getfield 27, 3) := by decide +kernel
theorem dX0_firstOfGreatestDepth_30 : decode cX0_firstOfGreatestDepth 30 = .ok (.iload_n 3, 1) := by decide +kernel
theorem dX0_firstOfGreatestDepth_31 : decode cX0_firstOfGreatestDepth 31 = .ok (.iaload, 1) := by decide +kernel
theorem dX0_firstOfGreatestDepth_32 : decode cX0_firstOfGreatestDepth 32 = .ok (.istore_n 2, 1) := by decide +kernel
theorem dX0_firstOfGreatestDepth_33 : decode cX0_firstOfGreatestDepth 33 = .ok (.iinc 3 1, 3) := by decide +kernel
theorem dX0_firstOfGreatestDepth_36 : decode cX0_firstOfGreatestDepth 36 = .ok (.goto (-30), 3) := by decide +kernel
theorem dX0_firstOfGreatestDepth_39 : decode cX0_firstOfGreatestDepth 39 = .ok (.iload_n 1, 1) := by decide +kernel
theorem dX0_firstOfGreatestDepth_40 : decode cX0_firstOfGreatestDepth 40 = .ok (.ireturn, 1) := by decide +kernel
theorem dX0_givenMask_0 : decode cX0_givenMask 0 = .ok (.lconst 0, 1) := by decide +kernel
theorem dX0_givenMask_1 : decode cX0_givenMask 1 = .ok (.lstore_n 1, 1) := by decide +kernel
theorem dX0_givenMask_2 : decode cX0_givenMask 2 = .ok (.iconst 0, 1) := by decide +kernel
theorem dX0_givenMask_3 : decode cX0_givenMask 3 = .ok (.istore_n 3, 1) := by decide +kernel
theorem dX0_givenMask_4 : decode cX0_givenMask 4 = .ok (.iload_n 3, 1) := by decide +kernel
theorem dX0_givenMask_5 : decode cX0_givenMask 5 = .ok (.aload_n 0, 1) := by decide +kernel
theorem dX0_givenMask_6 : decode cX0_givenMask 6 = .ok (.getfield 34, 3) := by decide +kernel
theorem dX0_givenMask_9 : decode cX0_givenMask 9 = .ok (.if_icmp .ge 25, 3) := by decide +kernel
theorem dX0_givenMask_12 : decode cX0_givenMask 12 = .ok (.aload_n 0, 1) := by decide +kernel
theorem dX0_givenMask_13 : decode cX0_givenMask 13 = .ok (.getfield 24, 3) := by decide +kernel
theorem dX0_givenMask_16 : decode cX0_givenMask 16 = .ok (.iload_n 3, 1) := by decide +kernel
theorem dX0_givenMask_17 : decode cX0_givenMask 17 = .ok (.iaload, 1) := by decide +kernel
theorem dX0_givenMask_18 : decode cX0_givenMask 18 = .ok (.iconst (-1), 1) := by decide +kernel
theorem dX0_givenMask_19 : decode cX0_givenMask 19 = .ok (.if_icmp .ne 9, 3) := by decide +kernel
theorem dX0_givenMask_22 : decode cX0_givenMask 22 = .ok (.lload_n 1, 1) := by decide +kernel
theorem dX0_givenMask_23 : decode cX0_givenMask 23 = .ok (.lconst 1, 1) := by decide +kernel
theorem dX0_givenMask_24 : decode cX0_givenMask 24 = .ok (.iload_n 3, 1) := by decide +kernel
theorem dX0_givenMask_25 : decode cX0_givenMask 25 = .ok (.lshl, 1) := by decide +kernel
theorem dX0_givenMask_26 : decode cX0_givenMask 26 = .ok (.lor, 1) := by decide +kernel
theorem dX0_givenMask_27 : decode cX0_givenMask 27 = .ok (.lstore_n 1, 1) := by decide +kernel
theorem dX0_givenMask_28 : decode cX0_givenMask 28 = .ok (.iinc 3 1, 3) := by decide +kernel
theorem dX0_givenMask_31 : decode cX0_givenMask 31 = .ok (.goto (-27), 3) := by decide +kernel
theorem dX0_givenMask_34 : decode cX0_givenMask 34 = .ok (.lload_n 1, 1) := by decide +kernel
theorem dX0_givenMask_35 : decode cX0_givenMask 35 = .ok (.lreturn, 1) := by decide +kernel
theorem dX0_derivationMask_0 : decode cX0_derivationMask 0 = .ok (.lconst 1, 1) := by decide +kernel
theorem dX0_derivationMask_1 : decode cX0_derivationMask 1 = .ok (.iload_n 1, 1) := by decide +kernel
theorem dX0_derivationMask_2 : decode cX0_derivationMask 2 = .ok (.lshl, 1) := by decide +kernel
theorem dX0_derivationMask_3 : decode cX0_derivationMask 3 = .ok (.lstore_n 2, 1) := by decide +kernel
theorem dX0_derivationMask_4 : decode cX0_derivationMask 4 = .ok (.iload_n 1, 1) := by decide +kernel
theorem dX0_derivationMask_5 : decode cX0_derivationMask 5 = .ok (.istore 4, 2) := by decide +kernel
theorem dX0_derivationMask_7 : decode cX0_derivationMask 7 = .ok (.iload 4, 2) := by decide +kernel
theorem dX0_derivationMask_9 : decode cX0_derivationMask 9 = .ok (.ifCond .lt 53, 3) := by decide +kernel
theorem dX0_derivationMask_12 : decode cX0_derivationMask 12 = .ok (.lload_n 2, 1) := by decide +kernel
theorem dX0_derivationMask_13 : decode cX0_derivationMask 13 = .ok (.iload 4, 2) := by decide +kernel
theorem dX0_derivationMask_15 : decode cX0_derivationMask 15 = .ok (.lshr, 1) := by decide +kernel
theorem dX0_derivationMask_16 : decode cX0_derivationMask 16 = .ok (.lconst 1, 1) := by decide +kernel
theorem dX0_derivationMask_17 : decode cX0_derivationMask 17 = .ok (.land, 1) := by decide +kernel
theorem dX0_derivationMask_18 : decode cX0_derivationMask 18 = .ok (.lconst 0, 1) := by decide +kernel
theorem dX0_derivationMask_19 : decode cX0_derivationMask 19 = .ok (.lcmp, 1) := by decide +kernel
theorem dX0_derivationMask_20 : decode cX0_derivationMask 20 = .ok (.ifCond .eq 36, 3) := by decide +kernel
theorem dX0_derivationMask_23 : decode cX0_derivationMask 23 = .ok (.aload_n 0, 1) := by decide +kernel
theorem dX0_derivationMask_24 : decode cX0_derivationMask 24 = .ok (.getfield 24, 3) := by decide +kernel
theorem dX0_derivationMask_27 : decode cX0_derivationMask 27 = .ok (.iload 4, 2) := by decide +kernel
theorem dX0_derivationMask_29 : decode cX0_derivationMask 29 = .ok (.iaload, 1) := by decide +kernel
theorem dX0_derivationMask_30 : decode cX0_derivationMask 30 = .ok (.iconst (-1), 1) := by decide +kernel
theorem dX0_derivationMask_31 : decode cX0_derivationMask 31 = .ok (.if_icmp .eq 25, 3) := by decide +kernel
theorem dX0_derivationMask_34 : decode cX0_derivationMask 34 = .ok (.lload_n 2, 1) := by decide +kernel
theorem dX0_derivationMask_35 : decode cX0_derivationMask 35 = .ok (.lconst 1, 1) := by decide +kernel
theorem dX0_derivationMask_36 : decode cX0_derivationMask 36 = .ok (.aload_n 0, 1) := by decide +kernel
theorem dX0_derivationMask_37 : decode cX0_derivationMask 37 = .ok (.getfield 18, 3) := by decide +kernel
theorem dX0_derivationMask_40 : decode cX0_derivationMask 40 = .ok (.iload 4, 2) := by decide +kernel
theorem dX0_derivationMask_42 : decode cX0_derivationMask 42 = .ok (.iaload, 1) := by decide +kernel
theorem dX0_derivationMask_43 : decode cX0_derivationMask 43 = .ok (.lshl, 1) := by decide +kernel
theorem dX0_derivationMask_44 : decode cX0_derivationMask 44 = .ok (.lconst 1, 1) := by decide +kernel
theorem dX0_derivationMask_45 : decode cX0_derivationMask 45 = .ok (.aload_n 0, 1) := by decide +kernel
theorem dX0_derivationMask_46 : decode cX0_derivationMask 46 = .ok (.getfield 21, 3) := by decide +kernel
theorem dX0_derivationMask_49 : decode cX0_derivationMask 49 = .ok (.iload 4, 2) := by decide +kernel
theorem dX0_derivationMask_51 : decode cX0_derivationMask 51 = .ok (.iaload, 1) := by decide +kernel
theorem dX0_derivationMask_52 : decode cX0_derivationMask 52 = .ok (.lshl, 1) := by decide +kernel
theorem dX0_derivationMask_53 : decode cX0_derivationMask 53 = .ok (.lor, 1) := by decide +kernel
theorem dX0_derivationMask_54 : decode cX0_derivationMask 54 = .ok (.lor, 1) := by decide +kernel
theorem dX0_derivationMask_55 : decode cX0_derivationMask 55 = .ok (.lstore_n 2, 1) := by decide +kernel
theorem dX0_derivationMask_56 : decode cX0_derivationMask 56 = .ok (.iinc 4 (-1), 3) := by decide +kernel
theorem dX0_derivationMask_59 : decode cX0_derivationMask 59 = .ok (.goto (-52), 3) := by decide +kernel
theorem dX0_derivationMask_62 : decode cX0_derivationMask 62 = .ok (.lload_n 2, 1) := by decide +kernel
theorem dX0_derivationMask_63 : decode cX0_derivationMask 63 = .ok (.lreturn, 1) := by decide +kernel
theorem dX0_isParent_0 : decode cX0_isParent 0 = .ok (.iconst 0, 1) := by decide +kernel
theorem dX0_isParent_1 : decode cX0_isParent 1 = .ok (.istore_n 2, 1) := by decide +kernel
theorem dX0_isParent_2 : decode cX0_isParent 2 = .ok (.iload_n 2, 1) := by decide +kernel
theorem dX0_isParent_3 : decode cX0_isParent 3 = .ok (.aload_n 0, 1) := by decide +kernel
theorem dX0_isParent_4 : decode cX0_isParent 4 = .ok (.getfield 34, 3) := by decide +kernel
theorem dX0_isParent_7 : decode cX0_isParent 7 = .ok (.if_icmp .ge 31, 3) := by decide +kernel
theorem dX0_isParent_10 : decode cX0_isParent 10 = .ok (.aload_n 0, 1) := by decide +kernel
theorem dX0_isParent_11 : decode cX0_isParent 11 = .ok (.getfield 18, 3) := by decide +kernel
theorem dX0_isParent_14 : decode cX0_isParent 14 = .ok (.iload_n 2, 1) := by decide +kernel
theorem dX0_isParent_15 : decode cX0_isParent 15 = .ok (.iaload, 1) := by decide +kernel
theorem dX0_isParent_16 : decode cX0_isParent 16 = .ok (.iload_n 1, 1) := by decide +kernel
theorem dX0_isParent_17 : decode cX0_isParent 17 = .ok (.if_icmp .eq 13, 3) := by decide +kernel
theorem dX0_isParent_20 : decode cX0_isParent 20 = .ok (.aload_n 0, 1) := by decide +kernel
theorem dX0_isParent_21 : decode cX0_isParent 21 = .ok (.getfield 21, 3) := by decide +kernel
theorem dX0_isParent_24 : decode cX0_isParent 24 = .ok (.iload_n 2, 1) := by decide +kernel
theorem dX0_isParent_25 : decode cX0_isParent 25 = .ok (.iaload, 1) := by decide +kernel
theorem dX0_isParent_26 : decode cX0_isParent 26 = .ok (.iload_n 1, 1) := by decide +kernel
theorem dX0_isParent_27 : decode cX0_isParent 27 = .ok (.if_icmp .ne 5, 3) := by decide +kernel
theorem dX0_isParent_30 : decode cX0_isParent 30 = .ok (.iconst 1, 1) := by decide +kernel
theorem dX0_isParent_31 : decode cX0_isParent 31 = .ok (.ireturn, 1) := by decide +kernel
theorem dX0_isParent_32 : decode cX0_isParent 32 = .ok (.iinc 2 1, 3) := by decide +kernel
theorem dX0_isParent_35 : decode cX0_isParent 35 = .ok (.goto (-33), 3) := by decide +kernel
theorem dX0_isParent_38 : decode cX0_isParent 38 = .ok (.iconst 0, 1) := by decide +kernel
theorem dX0_isParent_39 : decode cX0_isParent 39 = .ok (.ireturn, 1) := by decide +kernel
theorem dX0_clashMask_0 : decode cX0_clashMask 0 = .ok (.aload_n 0, 1) := by decide +kernel
theorem dX0_clashMask_1 : decode cX0_clashMask 1 = .ok (.getfield 9, 3) := by decide +kernel
theorem dX0_clashMask_4 : decode cX0_clashMask 4 = .ok (.iload_n 1, 1) := by decide +kernel
theorem dX0_clashMask_5 : decode cX0_clashMask 5 = .ok (.iaload, 1) := by decide +kernel
theorem dX0_clashMask_6 : decode cX0_clashMask 6 = .ok (.aload_n 0, 1) := by decide +kernel
theorem dX0_clashMask_7 : decode cX0_clashMask 7 = .ok (.getfield 15, 3) := by decide +kernel
theorem dX0_clashMask_10 : decode cX0_clashMask 10 = .ok (.iload_n 2, 1) := by decide +kernel
theorem dX0_clashMask_11 : decode cX0_clashMask 11 = .ok (.iaload, 1) := by decide +kernel
theorem dX0_clashMask_12 : decode cX0_clashMask 12 = .ok (.iand, 1) := by decide +kernel
theorem dX0_clashMask_13 : decode cX0_clashMask 13 = .ok (.aload_n 0, 1) := by decide +kernel
theorem dX0_clashMask_14 : decode cX0_clashMask 14 = .ok (.getfield 15, 3) := by decide +kernel
theorem dX0_clashMask_17 : decode cX0_clashMask 17 = .ok (.iload_n 1, 1) := by decide +kernel
theorem dX0_clashMask_18 : decode cX0_clashMask 18 = .ok (.iaload, 1) := by decide +kernel
theorem dX0_clashMask_19 : decode cX0_clashMask 19 = .ok (.aload_n 0, 1) := by decide +kernel
theorem dX0_clashMask_20 : decode cX0_clashMask 20 = .ok (.getfield 9, 3) := by decide +kernel
theorem dX0_clashMask_23 : decode cX0_clashMask 23 = .ok (.iload_n 2, 1) := by decide +kernel
theorem dX0_clashMask_24 : decode cX0_clashMask 24 = .ok (.iaload, 1) := by decide +kernel
theorem dX0_clashMask_25 : decode cX0_clashMask 25 = .ok (.iand, 1) := by decide +kernel
theorem dX0_clashMask_26 : decode cX0_clashMask 26 = .ok (.ior, 1) := by decide +kernel
theorem dX0_clashMask_27 : decode cX0_clashMask 27 = .ok (.ireturn, 1) := by decide +kernel
set_option maxRecDepth 20000 in
theorem ggX0_clashOnce_X0_clashMask : GoodIn wsX0_clashOnce wsX0_clashMask := goodIn_r _ [5, 6, 7, 15, 16, 17, 18, 19, 20, 21, 22] rfl (by decide +kernel)
set_option maxRecDepth 20000 in
theorem gX0_clashOnce_X0_clashMask : GoodIn wsX0_clashOnce (wsV RX0 60 RX0 yX0_clashMask wsX0_clashMask) := goodIn_app (goodIn_r _ [1, 2, 3, 4] rfl (by decide +kernel)) ggX0_clashOnce_X0_clashMask
set_option maxRecDepth 20000 in
theorem ggX0_clashOnce_J6_bitCount_0f7a4 : GoodIn wsX0_clashOnce wsJ6_bitCount_0f7a4 := goodIn_r _ [11, 12, 13, 14] rfl (by decide +kernel)
set_option maxRecDepth 20000 in
theorem gX0_clashOnce_J6_bitCount_0f7a4 : GoodIn wsX0_clashOnce (va_wsS RX0 47 yJ6_bitCount_0f7a4 wsJ6_bitCount_0f7a4) := goodIn_app (goodIn_r _ [8, 9, 10] rfl (by decide +kernel)) ggX0_clashOnce_J6_bitCount_0f7a4
theorem dX0_clashOnce_0 : decode cX0_clashOnce 0 = .ok (.aload_n 0, 1) := by decide +kernel
theorem dX0_clashOnce_1 : decode cX0_clashOnce 1 = .ok (.iload_n 1, 1) := by decide +kernel
theorem dX0_clashOnce_2 : decode cX0_clashOnce 2 = .ok (.iload_n 2, 1) := by decide +kernel
theorem dX0_clashOnce_3 : decode cX0_clashOnce 3 = .ok (.invokevirtual 60, 3) := by decide +kernel
theorem dX0_clashOnce_6 : decode cX0_clashOnce 6 = .ok (.invokestatic 47, 3) := by decide +kernel
theorem dX0_clashOnce_9 : decode cX0_clashOnce 9 = .ok (.iconst 1, 1) := by decide +kernel
theorem dX0_clashOnce_10 : decode cX0_clashOnce 10 = .ok (.if_icmp .ne 7, 3) := by decide +kernel
theorem dX0_clashOnce_13 : decode cX0_clashOnce 13 = .ok (.iconst 1, 1) := by decide +kernel
theorem dX0_clashOnce_14 : decode cX0_clashOnce 14 = .ok (.goto 4, 3) := by decide +kernel
theorem dX0_clashOnce_17 : decode cX0_clashOnce 17 = .ok (.iconst 0, 1) := by decide +kernel
theorem dX0_clashOnce_18 : decode cX0_clashOnce 18 = .ok (.ireturn, 1) := by decide +kernel
set_option maxRecDepth 20000 in
theorem ggX0_mergedPositive_X0_clashMask : GoodIn wsX0_mergedPositive wsX0_clashMask := goodIn_r _ [6, 1, 7, 8, 9, 10, 11, 12, 13, 14, 15] rfl (by decide +kernel)
set_option maxRecDepth 20000 in
theorem gX0_mergedPositive_X0_clashMask : GoodIn wsX0_mergedPositive (wsV RX0 60 RX0 yX0_clashMask wsX0_clashMask) := goodIn_app (goodIn_r _ [2, 3, 4, 5] rfl (by decide +kernel)) ggX0_mergedPositive_X0_clashMask
theorem dX0_mergedPositive_0 : decode cX0_mergedPositive 0 = .ok (.aload_n 0, 1) := by decide +kernel
theorem dX0_mergedPositive_1 : decode cX0_mergedPositive 1 = .ok (.getfield 9, 3) := by decide +kernel
theorem dX0_mergedPositive_4 : decode cX0_mergedPositive 4 = .ok (.iload_n 1, 1) := by decide +kernel
theorem dX0_mergedPositive_5 : decode cX0_mergedPositive 5 = .ok (.iaload, 1) := by decide +kernel
theorem dX0_mergedPositive_6 : decode cX0_mergedPositive 6 = .ok (.aload_n 0, 1) := by decide +kernel
theorem dX0_mergedPositive_7 : decode cX0_mergedPositive 7 = .ok (.getfield 9, 3) := by decide +kernel
theorem dX0_mergedPositive_10 : decode cX0_mergedPositive 10 = .ok (.iload_n 2, 1) := by decide +kernel
theorem dX0_mergedPositive_11 : decode cX0_mergedPositive 11 = .ok (.iaload, 1) := by decide +kernel
theorem dX0_mergedPositive_12 : decode cX0_mergedPositive 12 = .ok (.ior, 1) := by decide +kernel
theorem dX0_mergedPositive_13 : decode cX0_mergedPositive 13 = .ok (.aload_n 0, 1) := by decide +kernel
theorem dX0_mergedPositive_14 : decode cX0_mergedPositive 14 = .ok (.iload_n 1, 1) := by decide +kernel
theorem dX0_mergedPositive_15 : decode cX0_mergedPositive 15 = .ok (.iload_n 2, 1) := by decide +kernel
theorem dX0_mergedPositive_16 : decode cX0_mergedPositive 16 = .ok (.invokevirtual 60, 3) := by decide +kernel
theorem dX0_mergedPositive_19 : decode cX0_mergedPositive 19 = .ok (.iconst (-1), 1) := by decide +kernel
theorem dX0_mergedPositive_20 : decode cX0_mergedPositive 20 = .ok (.ixor, 1) := by decide +kernel
theorem dX0_mergedPositive_21 : decode cX0_mergedPositive 21 = .ok (.iand, 1) := by decide +kernel
theorem dX0_mergedPositive_22 : decode cX0_mergedPositive 22 = .ok (.ireturn, 1) := by decide +kernel
set_option maxRecDepth 20000 in
theorem ggX0_mergedNegative_X0_clashMask : GoodIn wsX0_mergedNegative wsX0_clashMask := goodIn_r _ [6, 7, 1, 8, 9, 10, 11, 12, 13, 14, 15] rfl (by decide +kernel)
set_option maxRecDepth 20000 in
theorem gX0_mergedNegative_X0_clashMask : GoodIn wsX0_mergedNegative (wsV RX0 60 RX0 yX0_clashMask wsX0_clashMask) := goodIn_app (goodIn_r _ [2, 3, 4, 5] rfl (by decide +kernel)) ggX0_mergedNegative_X0_clashMask
theorem dX0_mergedNegative_0 : decode cX0_mergedNegative 0 = .ok (.aload_n 0, 1) := by decide +kernel
theorem dX0_mergedNegative_1 : decode cX0_mergedNegative 1 = .ok (.getfield 15, 3) := by decide +kernel
theorem dX0_mergedNegative_4 : decode cX0_mergedNegative 4 = .ok (.iload_n 1, 1) := by decide +kernel
theorem dX0_mergedNegative_5 : decode cX0_mergedNegative 5 = .ok (.iaload, 1) := by decide +kernel
theorem dX0_mergedNegative_6 : decode cX0_mergedNegative 6 = .ok (.aload_n 0, 1) := by decide +kernel
theorem dX0_mergedNegative_7 : decode cX0_mergedNegative 7 = .ok (.getfield 15, 3) := by decide +kernel
theorem dX0_mergedNegative_10 : decode cX0_mergedNegative 10 = .ok (.iload_n 2, 1) := by decide +kernel
theorem dX0_mergedNegative_11 : decode cX0_mergedNegative 11 = .ok (.iaload, 1) := by decide +kernel
theorem dX0_mergedNegative_12 : decode cX0_mergedNegative 12 = .ok (.ior, 1) := by decide +kernel
theorem dX0_mergedNegative_13 : decode cX0_mergedNegative 13 = .ok (.aload_n 0, 1) := by decide +kernel
theorem dX0_mergedNegative_14 : decode cX0_mergedNegative 14 = .ok (.iload_n 1, 1) := by decide +kernel
theorem dX0_mergedNegative_15 : decode cX0_mergedNegative 15 = .ok (.iload_n 2, 1) := by decide +kernel
theorem dX0_mergedNegative_16 : decode cX0_mergedNegative 16 = .ok (.invokevirtual 60, 3) := by decide +kernel
theorem dX0_mergedNegative_19 : decode cX0_mergedNegative 19 = .ok (.iconst (-1), 1) := by decide +kernel
theorem dX0_mergedNegative_20 : decode cX0_mergedNegative 20 = .ok (.ixor, 1) := by decide +kernel
theorem dX0_mergedNegative_21 : decode cX0_mergedNegative 21 = .ok (.iand, 1) := by decide +kernel
theorem dX0_mergedNegative_22 : decode cX0_mergedNegative 22 = .ok (.ireturn, 1) := by decide +kernel
set_option maxRecDepth 20000 in
theorem ggX0_countPairsThatClashOnce_X0_clashOnce : GoodIn wsX0_countPairsThatClashOnce wsX0_clashOnce := goodIn_r _ [6, 7, 8, 9, 5, 10, 11, 12, 13, 14, 15, 16, 17, 18, 19, 20, 21, 22, 23, 24, 25, 26, 27] rfl (by decide +kernel)
set_option maxRecDepth 20000 in
theorem gX0_countPairsThatClashOnce_X0_clashOnce : GoodIn wsX0_countPairsThatClashOnce (wsV RX0 63 RX0 yX0_clashOnce wsX0_clashOnce) := goodIn_app (goodIn_r _ [2, 3, 4, 5] rfl (by decide +kernel)) ggX0_countPairsThatClashOnce_X0_clashOnce
theorem dX0_countPairsThatClashOnce_0 : decode cX0_countPairsThatClashOnce 0 = .ok (.iconst 0, 1) := by decide +kernel
theorem dX0_countPairsThatClashOnce_1 : decode cX0_countPairsThatClashOnce 1 = .ok (.istore_n 1, 1) := by decide +kernel
theorem dX0_countPairsThatClashOnce_2 : decode cX0_countPairsThatClashOnce 2 = .ok (.iconst 1, 1) := by decide +kernel
theorem dX0_countPairsThatClashOnce_3 : decode cX0_countPairsThatClashOnce 3 = .ok (.istore_n 2, 1) := by decide +kernel
theorem dX0_countPairsThatClashOnce_4 : decode cX0_countPairsThatClashOnce 4 = .ok (.iload_n 2, 1) := by decide +kernel
theorem dX0_countPairsThatClashOnce_5 : decode cX0_countPairsThatClashOnce 5 = .ok (.aload_n 0, 1) := by decide +kernel
theorem dX0_countPairsThatClashOnce_6 : decode cX0_countPairsThatClashOnce 6 = .ok (.getfield 34, 3) := by decide +kernel
theorem dX0_countPairsThatClashOnce_9 : decode cX0_countPairsThatClashOnce 9 = .ok (.if_icmp .ge 34, 3) := by decide +kernel
theorem dX0_countPairsThatClashOnce_12 : decode cX0_countPairsThatClashOnce 12 = .ok (.iconst 0, 1) := by decide +kernel
theorem dX0_countPairsThatClashOnce_13 : decode cX0_countPairsThatClashOnce 13 = .ok (.istore_n 3, 1) := by decide +kernel
theorem dX0_countPairsThatClashOnce_14 : decode cX0_countPairsThatClashOnce 14 = .ok (.iload_n 3, 1) := by decide +kernel
theorem dX0_countPairsThatClashOnce_15 : decode cX0_countPairsThatClashOnce 15 = .ok (.iload_n 2, 1) := by decide +kernel
theorem dX0_countPairsThatClashOnce_16 : decode cX0_countPairsThatClashOnce 16 = .ok (.if_icmp .ge 21, 3) := by decide +kernel
theorem dX0_countPairsThatClashOnce_19 : decode cX0_countPairsThatClashOnce 19 = .ok (.aload_n 0, 1) := by decide +kernel
theorem dX0_countPairsThatClashOnce_20 : decode cX0_countPairsThatClashOnce 20 = .ok (.iload_n 3, 1) := by decide +kernel
theorem dX0_countPairsThatClashOnce_21 : decode cX0_countPairsThatClashOnce 21 = .ok (.iload_n 2, 1) := by decide +kernel
theorem dX0_countPairsThatClashOnce_22 : decode cX0_countPairsThatClashOnce 22 = .ok (.invokevirtual 63, 3) := by decide +kernel
theorem dX0_countPairsThatClashOnce_25 : decode cX0_countPairsThatClashOnce 25 = .ok (.ifCond .eq 6, 3) := by decide +kernel
theorem dX0_countPairsThatClashOnce_28 : decode cX0_countPairsThatClashOnce 28 = .ok (.iinc 1 1, 3) := by decide +kernel
theorem dX0_countPairsThatClashOnce_31 : decode cX0_countPairsThatClashOnce 31 = .ok (.iinc 3 1, 3) := by decide +kernel
theorem dX0_countPairsThatClashOnce_34 : decode cX0_countPairsThatClashOnce 34 = .ok (.goto (-20), 3) := by decide +kernel
theorem dX0_countPairsThatClashOnce_37 : decode cX0_countPairsThatClashOnce 37 = .ok (.iinc 2 1, 3) := by decide +kernel
theorem dX0_countPairsThatClashOnce_40 : decode cX0_countPairsThatClashOnce 40 = .ok (.goto (-36), 3) := by decide +kernel
theorem dX0_countPairsThatClashOnce_43 : decode cX0_countPairsThatClashOnce 43 = .ok (.iload_n 1, 1) := by decide +kernel
theorem dX0_countPairsThatClashOnce_44 : decode cX0_countPairsThatClashOnce 44 = .ok (.ireturn, 1) := by decide +kernel
set_option maxRecDepth 20000 in
theorem ggX0_hasRoomForResolvent_X0_mergedPositive : GoodIn wsX0_hasRoomForResolvent wsX0_mergedPositive := goodIn_r _ [5, 6, 7, 8, 9, 4, 10, 11, 25, 26, 27, 28, 29, 30, 31, 32] rfl (by decide +kernel)
set_option maxRecDepth 20000 in
theorem gX0_hasRoomForResolvent_X0_mergedPositive : GoodIn wsX0_hasRoomForResolvent (wsV RX0 67 RX0 yX0_mergedPositive wsX0_mergedPositive) := goodIn_app (goodIn_r _ [1, 2, 3, 4] rfl (by decide +kernel)) ggX0_hasRoomForResolvent_X0_mergedPositive
set_option maxRecDepth 20000 in
theorem ggX0_hasRoomForResolvent_X0_mergedNegative : GoodIn wsX0_hasRoomForResolvent wsX0_mergedNegative := goodIn_r _ [15, 11, 7, 8, 9, 4, 10, 6, 25, 26, 27, 28, 29, 30, 31, 32] rfl (by decide +kernel)
set_option maxRecDepth 20000 in
theorem gX0_hasRoomForResolvent_X0_mergedNegative : GoodIn wsX0_hasRoomForResolvent (wsV RX0 70 RX0 yX0_mergedNegative wsX0_mergedNegative) := goodIn_app (goodIn_r _ [12, 13, 14, 4] rfl (by decide +kernel)) ggX0_hasRoomForResolvent_X0_mergedNegative
set_option maxRecDepth 20000 in
theorem ggX0_hasRoomForResolvent_X0_isFull : GoodIn wsX0_hasRoomForResolvent wsX0_isFull := goodIn_r _ [19, 20, 25, 26, 27, 28, 29, 30, 31, 32] rfl (by decide +kernel)
set_option maxRecDepth 20000 in
theorem gX0_hasRoomForResolvent_X0_isFull : GoodIn wsX0_hasRoomForResolvent (wsV RX0 73 RX0 yX0_isFull wsX0_isFull) := goodIn_app (goodIn_r _ [16, 17, 18, 4] rfl (by decide +kernel)) ggX0_hasRoomForResolvent_X0_isFull
set_option maxRecDepth 20000 in
theorem ggX0_hasRoomForResolvent_X0_indexOf : GoodIn wsX0_hasRoomForResolvent wsX0_indexOf := goodIn_r _ [24, 20, 6, 11, 25, 26, 27, 28, 29, 30, 31, 32] rfl (by decide +kernel)
set_option maxRecDepth 20000 in
theorem gX0_hasRoomForResolvent_X0_indexOf : GoodIn wsX0_hasRoomForResolvent (wsV RX0 77 RX0 yX0_indexOf wsX0_indexOf) := goodIn_app (goodIn_r _ [21, 22, 23, 4] rfl (by decide +kernel)) ggX0_hasRoomForResolvent_X0_indexOf
theorem dX0_hasRoomForResolvent_0 : decode cX0_hasRoomForResolvent 0 = .ok (.aload_n 0, 1) := by decide +kernel
theorem dX0_hasRoomForResolvent_1 : decode cX0_hasRoomForResolvent 1 = .ok (.iload_n 1, 1) := by decide +kernel
theorem dX0_hasRoomForResolvent_2 : decode cX0_hasRoomForResolvent 2 = .ok (.iload_n 2, 1) := by decide +kernel
theorem dX0_hasRoomForResolvent_3 : decode cX0_hasRoomForResolvent 3 = .ok (.invokevirtual 67, 3) := by decide +kernel
theorem dX0_hasRoomForResolvent_6 : decode cX0_hasRoomForResolvent 6 = .ok (.istore_n 3, 1) := by decide +kernel
theorem dX0_hasRoomForResolvent_7 : decode cX0_hasRoomForResolvent 7 = .ok (.aload_n 0, 1) := by decide +kernel
theorem dX0_hasRoomForResolvent_8 : decode cX0_hasRoomForResolvent 8 = .ok (.iload_n 1, 1) := by decide +kernel
theorem dX0_hasRoomForResolvent_9 : decode cX0_hasRoomForResolvent 9 = .ok (.iload_n 2, 1) := by decide +kernel
theorem dX0_hasRoomForResolvent_10 : decode cX0_hasRoomForResolvent 10 = .ok (.invokevirtual 70, 3) := by decide +kernel
theorem dX0_hasRoomForResolvent_13 : decode cX0_hasRoomForResolvent 13 = .ok (.istore 4, 2) := by decide +kernel
theorem dX0_hasRoomForResolvent_15 : decode cX0_hasRoomForResolvent 15 = .ok (.aload_n 0, 1) := by decide +kernel
theorem dX0_hasRoomForResolvent_16 : decode cX0_hasRoomForResolvent 16 = .ok (.invokevirtual 73, 3) := by decide +kernel
theorem dX0_hasRoomForResolvent_19 : decode cX0_hasRoomForResolvent 19 = .ok (.ifCond .ne 18, 3) := by decide +kernel
theorem dX0_hasRoomForResolvent_22 : decode cX0_hasRoomForResolvent 22 = .ok (.aload_n 0, 1) := by decide +kernel
theorem dX0_hasRoomForResolvent_23 : decode cX0_hasRoomForResolvent 23 = .ok (.iload_n 3, 1) := by decide +kernel
theorem dX0_hasRoomForResolvent_24 : decode cX0_hasRoomForResolvent 24 = .ok (.iload 4, 2) := by decide +kernel
theorem dX0_hasRoomForResolvent_26 : decode cX0_hasRoomForResolvent 26 = .ok (.invokevirtual 77, 3) := by decide +kernel
theorem dX0_hasRoomForResolvent_29 : decode cX0_hasRoomForResolvent 29 = .ok (.iconst (-1), 1) := by decide +kernel
theorem dX0_hasRoomForResolvent_30 : decode cX0_hasRoomForResolvent 30 = .ok (.if_icmp .ne 7, 3) := by decide +kernel
theorem dX0_hasRoomForResolvent_33 : decode cX0_hasRoomForResolvent 33 = .ok (.iconst 1, 1) := by decide +kernel
theorem dX0_hasRoomForResolvent_34 : decode cX0_hasRoomForResolvent 34 = .ok (.goto 4, 3) := by decide +kernel
theorem dX0_hasRoomForResolvent_37 : decode cX0_hasRoomForResolvent 37 = .ok (.iconst 0, 1) := by decide +kernel
theorem dX0_hasRoomForResolvent_38 : decode cX0_hasRoomForResolvent 38 = .ok (.ireturn, 1) := by decide +kernel
theorem dX0_isWithin_0 : decode cX0_isWithin 0 = .ok (.aload_n 0, 1) := by decide +kernel
theorem dX0_isWithin_1 : decode cX0_isWithin 1 = .ok (.getfield 9, 3) := by decide +kernel
theorem dX0_isWithin_4 : decode cX0_isWithin 4 = .ok (.iload_n 1, 1) := by decide +kernel
theorem dX0_isWithin_5 : decode cX0_isWithin 5 = .ok (.iaload, 1) := by decide +kernel
theorem dX0_isWithin_6 : decode cX0_isWithin 6 = .ok (.iload_n 2, 1) := by decide +kernel
theorem dX0_isWithin_7 : decode cX0_isWithin 7 = .ok (.iconst (-1), 1) := by decide +kernel
theorem dX0_isWithin_8 : decode cX0_isWithin 8 = .ok (.ixor, 1) := by decide +kernel
theorem dX0_isWithin_9 : decode cX0_isWithin 9 = .ok (.iand, 1) := by decide +kernel
theorem dX0_isWithin_10 : decode cX0_isWithin 10 = .ok (.ifCond .ne 20, 3) := by decide +kernel
theorem dX0_isWithin_13 : decode cX0_isWithin 13 = .ok (.aload_n 0, 1) := by decide +kernel
theorem dX0_isWithin_14 : decode cX0_isWithin 14 = .ok (.getfield 15, 3) := by decide +kernel
theorem dX0_isWithin_17 : decode cX0_isWithin 17 = .ok (.iload_n 1, 1) := by decide +kernel
theorem dX0_isWithin_18 : decode cX0_isWithin 18 = .ok (.iaload, 1) := by decide +kernel
theorem dX0_isWithin_19 : decode cX0_isWithin 19 = .ok (.iload_n 3, 1) := by decide +kernel
theorem dX0_isWithin_20 : decode cX0_isWithin 20 = .ok (.iconst (-1), 1) := by decide +kernel
theorem dX0_isWithin_21 : decode cX0_isWithin 21 = .ok (.ixor, 1) := by decide +kernel
theorem dX0_isWithin_22 : decode cX0_isWithin 22 = .ok (.iand, 1) := by decide +kernel
theorem dX0_isWithin_23 : decode cX0_isWithin 23 = .ok (.ifCond .ne 7, 3) := by decide +kernel
theorem dX0_isWithin_26 : decode cX0_isWithin 26 = .ok (.iconst 1, 1) := by decide +kernel
theorem dX0_isWithin_27 : decode cX0_isWithin 27 = .ok (.goto 4, 3) := by decide +kernel
theorem dX0_isWithin_30 : decode cX0_isWithin 30 = .ok (.iconst 0, 1) := by decide +kernel
theorem dX0_isWithin_31 : decode cX0_isWithin 31 = .ok (.ireturn, 1) := by decide +kernel
set_option maxRecDepth 20000 in
theorem ggX0_isSomeWithin_X0_isWithin : GoodIn wsX0_isSomeWithin wsX0_isWithin := goodIn_r _ [6, 7, 8, 9, 10, 11, 12, 13, 14, 15, 16] rfl (by decide +kernel)
set_option maxRecDepth 20000 in
theorem gX0_isSomeWithin_X0_isWithin : GoodIn wsX0_isSomeWithin (wsV RX0 80 RX0 yX0_isWithin wsX0_isWithin) := goodIn_app (goodIn_r _ [2, 3, 4, 5] rfl (by decide +kernel)) ggX0_isSomeWithin_X0_isWithin
theorem dX0_isSomeWithin_0 : decode cX0_isSomeWithin 0 = .ok (.iconst 0, 1) := by decide +kernel
theorem dX0_isSomeWithin_1 : decode cX0_isSomeWithin 1 = .ok (.istore_n 3, 1) := by decide +kernel
theorem dX0_isSomeWithin_2 : decode cX0_isSomeWithin 2 = .ok (.iload_n 3, 1) := by decide +kernel
theorem dX0_isSomeWithin_3 : decode cX0_isSomeWithin 3 = .ok (.aload_n 0, 1) := by decide +kernel
theorem dX0_isSomeWithin_4 : decode cX0_isSomeWithin 4 = .ok (.getfield 34, 3) := by decide +kernel
theorem dX0_isSomeWithin_7 : decode cX0_isSomeWithin 7 = .ok (.if_icmp .ge 21, 3) := by decide +kernel
theorem dX0_isSomeWithin_10 : decode cX0_isSomeWithin 10 = .ok (.aload_n 0, 1) := by decide +kernel
theorem dX0_isSomeWithin_11 : decode cX0_isSomeWithin 11 = .ok (.iload_n 3, 1) := by decide +kernel
theorem dX0_isSomeWithin_12 : decode cX0_isSomeWithin 12 = .ok (.iload_n 1, 1) := by decide +kernel
theorem dX0_isSomeWithin_13 : decode cX0_isSomeWithin 13 = .ok (.iload_n 2, 1) := by decide +kernel
theorem dX0_isSomeWithin_14 : decode cX0_isSomeWithin 14 = .ok (.invokevirtual 80, 3) := by decide +kernel
theorem dX0_isSomeWithin_17 : decode cX0_isSomeWithin 17 = .ok (.ifCond .eq 5, 3) := by decide +kernel
theorem dX0_isSomeWithin_20 : decode cX0_isSomeWithin 20 = .ok (.iconst 1, 1) := by decide +kernel
theorem dX0_isSomeWithin_21 : decode cX0_isSomeWithin 21 = .ok (.ireturn, 1) := by decide +kernel
theorem dX0_isSomeWithin_22 : decode cX0_isSomeWithin 22 = .ok (.iinc 3 1, 3) := by decide +kernel
theorem dX0_isSomeWithin_25 : decode cX0_isSomeWithin 25 = .ok (.goto (-23), 3) := by decide +kernel
theorem dX0_isSomeWithin_28 : decode cX0_isSomeWithin 28 = .ok (.iconst 0, 1) := by decide +kernel
theorem dX0_isSomeWithin_29 : decode cX0_isSomeWithin 29 = .ok (.ireturn, 1) := by decide +kernel
set_option maxRecDepth 20000 in
theorem ggX0_firstSubsumer_X0_isWithin : GoodIn wsX0_firstSubsumer wsX0_isWithin := goodIn_r _ [8, 2, 3, 9, 10, 11, 12, 13, 14, 15, 16] rfl (by decide +kernel)
set_option maxRecDepth 20000 in
theorem gX0_firstSubsumer_X0_isWithin : GoodIn wsX0_firstSubsumer (wsV RX0 80 RX0 yX0_isWithin wsX0_isWithin) := goodIn_app (goodIn_r _ [4, 5, 6, 7] rfl (by decide +kernel)) ggX0_firstSubsumer_X0_isWithin
theorem dX0_firstSubsumer_0 : decode cX0_firstSubsumer 0 = .ok (.iconst 0, 1) := by decide +kernel
theorem dX0_firstSubsumer_1 : decode cX0_firstSubsumer 1 = .ok (.istore_n 2, 1) := by decide +kernel
theorem dX0_firstSubsumer_2 : decode cX0_firstSubsumer 2 = .ok (.iload_n 2, 1) := by decide +kernel
theorem dX0_firstSubsumer_3 : decode cX0_firstSubsumer 3 = .ok (.aload_n 0, 1) := by decide +kernel
theorem dX0_firstSubsumer_4 : decode cX0_firstSubsumer 4 = .ok (.getfield 34, 3) := by decide +kernel
theorem dX0_firstSubsumer_7 : decode cX0_firstSubsumer 7 = .ok (.if_icmp .ge 36, 3) := by decide +kernel
theorem dX0_firstSubsumer_10 : decode cX0_firstSubsumer 10 = .ok (.iload_n 2, 1) := by decide +kernel
theorem dX0_firstSubsumer_11 : decode cX0_firstSubsumer 11 = .ok (.iload_n 1, 1) := by decide +kernel
theorem dX0_firstSubsumer_12 : decode cX0_firstSubsumer 12 = .ok (.if_icmp .eq 25, 3) := by decide +kernel
theorem dX0_firstSubsumer_15 : decode cX0_firstSubsumer 15 = .ok (.aload_n 0, 1) := by decide +kernel
theorem dX0_firstSubsumer_16 : decode cX0_firstSubsumer 16 = .ok (.iload_n 2, 1) := by decide +kernel
theorem dX0_firstSubsumer_17 : decode cX0_firstSubsumer 17 = .ok (.aload_n 0, 1) := by decide +kernel
theorem dX0_firstSubsumer_18 : decode cX0_firstSubsumer 18 = .ok (.getfield 9, 3) := by decide +kernel
theorem dX0_firstSubsumer_21 : decode cX0_firstSubsumer 21 = .ok (.iload_n 1, 1) := by decide +kernel
theorem dX0_firstSubsumer_22 : decode cX0_firstSubsumer 22 = .ok (.iaload, 1) := by decide +kernel
theorem dX0_firstSubsumer_23 : decode cX0_firstSubsumer 23 = .ok (.aload_n 0, 1) := by decide +kernel
theorem dX0_firstSubsumer_24 : decode cX0_firstSubsumer 24 = .ok (.getfield 15, 3) := by decide +kernel
theorem dX0_firstSubsumer_27 : decode cX0_firstSubsumer 27 = .ok (.iload_n 1, 1) := by decide +kernel
theorem dX0_firstSubsumer_28 : decode cX0_firstSubsumer 28 = .ok (.iaload, 1) := by decide +kernel
theorem dX0_firstSubsumer_29 : decode cX0_firstSubsumer 29 = .ok (.invokevirtual 80, 3) := by decide +kernel
theorem dX0_firstSubsumer_32 : decode cX0_firstSubsumer 32 = .ok (.ifCond .eq 5, 3) := by decide +kernel
theorem dX0_firstSubsumer_35 : decode cX0_firstSubsumer 35 = .ok (.iload_n 2, 1) := by decide +kernel
theorem dX0_firstSubsumer_36 : decode cX0_firstSubsumer 36 = .ok (.ireturn, 1) := by decide +kernel
theorem dX0_firstSubsumer_37 : decode cX0_firstSubsumer 37 = .ok (.iinc 2 1, 3) := by decide +kernel
theorem dX0_firstSubsumer_40 : decode cX0_firstSubsumer 40 = .ok (.goto (-38), 3) := by decide +kernel
theorem dX0_firstSubsumer_43 : decode cX0_firstSubsumer 43 = .ok (.iconst (-1), 1) := by decide +kernel
theorem dX0_firstSubsumer_44 : decode cX0_firstSubsumer 44 = .ok (.ireturn, 1) := by decide +kernel
set_option maxRecDepth 20000 in
theorem ggX0_countSubsumed_X0_firstSubsumer : GoodIn wsX0_countSubsumed wsX0_firstSubsumer := goodIn_r _ [6, 1, 7, 8, 9, 10, 11, 5, 12, 13, 14, 15, 16, 17, 18, 19, 20] rfl (by decide +kernel)
set_option maxRecDepth 20000 in
theorem gX0_countSubsumed_X0_firstSubsumer : GoodIn wsX0_countSubsumed (wsV RX0 84 RX0 yX0_firstSubsumer wsX0_firstSubsumer) := goodIn_app (goodIn_r _ [2, 3, 4, 5] rfl (by decide +kernel)) ggX0_countSubsumed_X0_firstSubsumer
theorem dX0_countSubsumed_0 : decode cX0_countSubsumed 0 = .ok (.iconst 0, 1) := by decide +kernel
theorem dX0_countSubsumed_1 : decode cX0_countSubsumed 1 = .ok (.istore_n 1, 1) := by decide +kernel
theorem dX0_countSubsumed_2 : decode cX0_countSubsumed 2 = .ok (.iconst 0, 1) := by decide +kernel
theorem dX0_countSubsumed_3 : decode cX0_countSubsumed 3 = .ok (.istore_n 2, 1) := by decide +kernel
theorem dX0_countSubsumed_4 : decode cX0_countSubsumed 4 = .ok (.iload_n 2, 1) := by decide +kernel
theorem dX0_countSubsumed_5 : decode cX0_countSubsumed 5 = .ok (.aload_n 0, 1) := by decide +kernel
theorem dX0_countSubsumed_6 : decode cX0_countSubsumed 6 = .ok (.getfield 34, 3) := by decide +kernel
theorem dX0_countSubsumed_9 : decode cX0_countSubsumed 9 = .ok (.if_icmp .ge 21, 3) := by decide +kernel
theorem dX0_countSubsumed_12 : decode cX0_countSubsumed 12 = .ok (.aload_n 0, 1) := by decide +kernel
theorem dX0_countSubsumed_13 : decode cX0_countSubsumed 13 = .ok (.iload_n 2, 1) := by decide +kernel
theorem dX0_countSubsumed_14 : decode cX0_countSubsumed 14 = .ok (.invokevirtual 84, 3) := by decide +kernel
theorem dX0_countSubsumed_17 : decode cX0_countSubsumed 17 = .ok (.iconst (-1), 1) := by decide +kernel
theorem dX0_countSubsumed_18 : decode cX0_countSubsumed 18 = .ok (.if_icmp .eq 6, 3) := by decide +kernel
theorem dX0_countSubsumed_21 : decode cX0_countSubsumed 21 = .ok (.iinc 1 1, 3) := by decide +kernel
theorem dX0_countSubsumed_24 : decode cX0_countSubsumed 24 = .ok (.iinc 2 1, 3) := by decide +kernel
theorem dX0_countSubsumed_27 : decode cX0_countSubsumed 27 = .ok (.goto (-23), 3) := by decide +kernel
theorem dX0_countSubsumed_30 : decode cX0_countSubsumed 30 = .ok (.iload_n 1, 1) := by decide +kernel
theorem dX0_countSubsumed_31 : decode cX0_countSubsumed 31 = .ok (.ireturn, 1) := by decide +kernel
theorem dX0_isTrueUnder_0 : decode cX0_isTrueUnder 0 = .ok (.aload_n 0, 1) := by decide +kernel
theorem dX0_isTrueUnder_1 : decode cX0_isTrueUnder 1 = .ok (.getfield 9, 3) := by decide +kernel
theorem dX0_isTrueUnder_4 : decode cX0_isTrueUnder 4 = .ok (.iload_n 1, 1) := by decide +kernel
theorem dX0_isTrueUnder_5 : decode cX0_isTrueUnder 5 = .ok (.iaload, 1) := by decide +kernel
theorem dX0_isTrueUnder_6 : decode cX0_isTrueUnder 6 = .ok (.iload_n 2, 1) := by decide +kernel
theorem dX0_isTrueUnder_7 : decode cX0_isTrueUnder 7 = .ok (.iand, 1) := by decide +kernel
theorem dX0_isTrueUnder_8 : decode cX0_isTrueUnder 8 = .ok (.ifCond .ne 16, 3) := by decide +kernel
theorem dX0_isTrueUnder_11 : decode cX0_isTrueUnder 11 = .ok (.aload_n 0, 1) := by decide +kernel
theorem dX0_isTrueUnder_12 : decode cX0_isTrueUnder 12 = .ok (.getfield 15, 3) := by decide +kernel
theorem dX0_isTrueUnder_15 : decode cX0_isTrueUnder 15 = .ok (.iload_n 1, 1) := by decide +kernel
theorem dX0_isTrueUnder_16 : decode cX0_isTrueUnder 16 = .ok (.iaload, 1) := by decide +kernel
theorem dX0_isTrueUnder_17 : decode cX0_isTrueUnder 17 = .ok (.iload_n 2, 1) := by decide +kernel
theorem dX0_isTrueUnder_18 : decode cX0_isTrueUnder 18 = .ok (.iconst (-1), 1) := by decide +kernel
theorem dX0_isTrueUnder_19 : decode cX0_isTrueUnder 19 = .ok (.ixor, 1) := by decide +kernel
theorem dX0_isTrueUnder_20 : decode cX0_isTrueUnder 20 = .ok (.iand, 1) := by decide +kernel
theorem dX0_isTrueUnder_21 : decode cX0_isTrueUnder 21 = .ok (.ifCond .eq 7, 3) := by decide +kernel
theorem dX0_isTrueUnder_24 : decode cX0_isTrueUnder 24 = .ok (.iconst 1, 1) := by decide +kernel
theorem dX0_isTrueUnder_25 : decode cX0_isTrueUnder 25 = .ok (.goto 4, 3) := by decide +kernel
theorem dX0_isTrueUnder_28 : decode cX0_isTrueUnder 28 = .ok (.iconst 0, 1) := by decide +kernel
theorem dX0_isTrueUnder_29 : decode cX0_isTrueUnder 29 = .ok (.ireturn, 1) := by decide +kernel
set_option maxRecDepth 20000 in
theorem ggX0_addGiven_X0_isFull : GoodIn wsX0_addGiven wsX0_isFull := goodIn_r _ [12, 1, 13, 14, 15, 16, 17, 18, 19, 20] rfl (by decide +kernel)
set_option maxRecDepth 20000 in
theorem gX0_addGiven_X0_isFull : GoodIn wsX0_addGiven (wsV RX0 73 RX0 yX0_isFull wsX0_isFull) := goodIn_app (goodIn_r _ [8, 9, 10, 11] rfl (by decide +kernel)) ggX0_addGiven_X0_isFull
theorem dX0_addGiven_0 : decode cX0_addGiven 0 = .ok (.aload_n 0, 1) := by decide +kernel
theorem dX0_addGiven_1 : decode cX0_addGiven 1 = .ok (.invokevirtual 73, 3) := by decide +kernel
theorem dX0_addGiven_4 : decode cX0_addGiven 4 = .ok (.ifCond .eq 5, 3) := by decide +kernel
theorem dX0_addGiven_7 : decode cX0_addGiven 7 = .ok (.iconst (-1), 1) := by decide +kernel
theorem dX0_addGiven_8 : decode cX0_addGiven 8 = .ok (.ireturn, 1) := by decide +kernel
theorem dX0_addGiven_9 : decode cX0_addGiven 9 = .ok (.aload_n 0, 1) := by decide +kernel
theorem dX0_addGiven_10 : decode cX0_addGiven 10 = .ok (.getfield 34, 3) := by decide +kernel
theorem dX0_addGiven_13 : decode cX0_addGiven 13 = .ok (.istore_n 3, 1) := by decide +kernel
theorem dX0_addGiven_14 : decode cX0_addGiven 14 = .ok (.aload_n 0, 1) := by decide +kernel
theorem dX0_addGiven_15 : decode cX0_addGiven 15 = .ok (.getfield 9, 3) := by decide +kernel
theorem dX0_addGiven_18 : decode cX0_addGiven 18 = .ok (.iload_n 3, 1) := by decide +kernel
theorem dX0_addGiven_19 : decode cX0_addGiven 19 = .ok (.iload_n 1, 1) := by decide +kernel
theorem dX0_addGiven_20 : decode cX0_addGiven 20 = .ok (.iastore, 1) := by decide +kernel
theorem dX0_addGiven_21 : decode cX0_addGiven 21 = .ok (.aload_n 0, 1) := by decide +kernel
theorem dX0_addGiven_22 : decode cX0_addGiven 22 = .ok (.getfield 15, 3) := by decide +kernel
theorem dX0_addGiven_25 : decode cX0_addGiven 25 = .ok (.iload_n 3, 1) := by decide +kernel
theorem dX0_addGiven_26 : decode cX0_addGiven 26 = .ok (.iload_n 2, 1) := by decide +kernel
theorem dX0_addGiven_27 : decode cX0_addGiven 27 = .ok (.iastore, 1) := by decide +kernel
theorem dX0_addGiven_28 : decode cX0_addGiven 28 = .ok (.aload_n 0, 1) := by decide +kernel
theorem dX0_addGiven_29 : decode cX0_addGiven 29 = .ok (.getfield 18, 3) := by decide +kernel
theorem dX0_addGiven_32 : decode cX0_addGiven 32 = .ok (.iload_n 3, 1) := by decide +kernel
theorem dX0_addGiven_33 : decode cX0_addGiven 33 = .ok (.iconst (-1), 1) := by decide +kernel
theorem dX0_addGiven_34 : decode cX0_addGiven 34 = .ok (.iastore, 1) := by decide +kernel
theorem dX0_addGiven_35 : decode cX0_addGiven 35 = .ok (.aload_n 0, 1) := by decide +kernel
theorem dX0_addGiven_36 : decode cX0_addGiven 36 = .ok (.getfield 21, 3) := by decide +kernel
theorem dX0_addGiven_39 : decode cX0_addGiven 39 = .ok (.iload_n 3, 1) := by decide +kernel
theorem dX0_addGiven_40 : decode cX0_addGiven 40 = .ok (.iconst (-1), 1) := by decide +kernel
theorem dX0_addGiven_41 : decode cX0_addGiven 41 = .ok (.iastore, 1) := by decide +kernel
theorem dX0_addGiven_42 : decode cX0_addGiven 42 = .ok (.aload_n 0, 1) := by decide +kernel
theorem dX0_addGiven_43 : decode cX0_addGiven 43 = .ok (.getfield 24, 3) := by decide +kernel
theorem dX0_addGiven_46 : decode cX0_addGiven 46 = .ok (.iload_n 3, 1) := by decide +kernel
theorem dX0_addGiven_47 : decode cX0_addGiven 47 = .ok (.iconst (-1), 1) := by decide +kernel
theorem dX0_addGiven_48 : decode cX0_addGiven 48 = .ok (.iastore, 1) := by decide +kernel
theorem dX0_addGiven_49 : decode cX0_addGiven 49 = .ok (.aload_n 0, 1) := by decide +kernel
theorem dX0_addGiven_50 : decode cX0_addGiven 50 = .ok (.getfield 27, 3) := by decide +kernel
theorem dX0_addGiven_53 : decode cX0_addGiven 53 = .ok (.iload_n 3, 1) := by decide +kernel
theorem dX0_addGiven_54 : decode cX0_addGiven 54 = .ok (.iconst 0, 1) := by decide +kernel
theorem dX0_addGiven_55 : decode cX0_addGiven 55 = .ok (.iastore, 1) := by decide +kernel
theorem dX0_addGiven_56 : decode cX0_addGiven 56 = .ok (.aload_n 0, 1) := by decide +kernel
theorem dX0_addGiven_57 : decode cX0_addGiven 57 = .ok (.dup, 1) := by decide +kernel
theorem dX0_addGiven_58 : decode cX0_addGiven 58 = .ok (.getfield 34, 3) := by decide +kernel
theorem dX0_addGiven_61 : decode cX0_addGiven 61 = .ok (.iconst 1, 1) := by decide +kernel
theorem dX0_addGiven_62 : decode cX0_addGiven 62 = .ok (.iadd, 1) := by decide +kernel
theorem dX0_addGiven_63 : decode cX0_addGiven 63 = .ok (.putfield 34, 3) := by decide +kernel
theorem dX0_addGiven_66 : decode cX0_addGiven 66 = .ok (.iload_n 3, 1) := by decide +kernel
theorem dX0_addGiven_67 : decode cX0_addGiven 67 = .ok (.ireturn, 1) := by decide +kernel
set_option maxRecDepth 20000 in
theorem ggX0_addResolvent_X0_clashMask : GoodIn wsX0_addResolvent wsX0_clashMask := goodIn_r _ [14, 1, 15, 38, 39, 40, 41, 42, 43, 44, 45] rfl (by decide +kernel)
set_option maxRecDepth 20000 in
theorem gX0_addResolvent_X0_clashMask : GoodIn wsX0_addResolvent (wsV RX0 60 RX0 yX0_clashMask wsX0_clashMask) := goodIn_app (goodIn_r _ [10, 11, 12, 13] rfl (by decide +kernel)) ggX0_addResolvent_X0_clashMask
set_option maxRecDepth 20000 in
theorem ggX0_addResolvent_X0_mergedPositive : GoodIn wsX0_addResolvent wsX0_mergedPositive := goodIn_r _ [19, 1, 10, 11, 12, 13, 14, 15, 38, 39, 40, 41, 42, 43, 44, 45] rfl (by decide +kernel)
set_option maxRecDepth 20000 in
theorem gX0_addResolvent_X0_mergedPositive : GoodIn wsX0_addResolvent (wsV RX0 67 RX0 yX0_mergedPositive wsX0_mergedPositive) := goodIn_app (goodIn_r _ [16, 17, 18, 13] rfl (by decide +kernel)) ggX0_addResolvent_X0_mergedPositive
set_option maxRecDepth 20000 in
theorem ggX0_addResolvent_X0_mergedNegative : GoodIn wsX0_addResolvent wsX0_mergedNegative := goodIn_r _ [23, 15, 10, 11, 12, 13, 14, 1, 38, 39, 40, 41, 42, 43, 44, 45] rfl (by decide +kernel)
set_option maxRecDepth 20000 in
theorem gX0_addResolvent_X0_mergedNegative : GoodIn wsX0_addResolvent (wsV RX0 70 RX0 yX0_mergedNegative wsX0_mergedNegative) := goodIn_app (goodIn_r _ [20, 21, 22, 13] rfl (by decide +kernel)) ggX0_addResolvent_X0_mergedNegative
set_option maxRecDepth 20000 in
theorem ggX0_addResolvent_X0_addGiven : GoodIn wsX0_addResolvent wsX0_addGiven := goodIn_r _ [27, 28, 1, 15, 7, 8, 9, 2, 29, 30, 31, 13, 32, 38, 39, 40, 41, 42, 43, 44, 45] rfl (by decide +kernel)
set_option maxRecDepth 20000 in
theorem gX0_addResolvent_X0_addGiven : GoodIn wsX0_addResolvent (wsV RX0 92 RX0 yX0_addGiven wsX0_addGiven) := goodIn_app (goodIn_r _ [24, 25, 26, 13] rfl (by decide +kernel)) ggX0_addResolvent_X0_addGiven
set_option maxRecDepth 20000 in
theorem ggX0_addResolvent_J6_numberOfTrailingZeros_0f7a4 : GoodIn wsX0_addResolvent wsJ6_numberOfTrailingZeros_0f7a4 := goodIn_r _ [36, 37] rfl (by decide +kernel)
set_option maxRecDepth 20000 in
theorem gX0_addResolvent_J6_numberOfTrailingZeros_0f7a4 : GoodIn wsX0_addResolvent (va_wsS RX0 95 yJ6_numberOfTrailingZeros_0f7a4 wsJ6_numberOfTrailingZeros_0f7a4) := goodIn_app (goodIn_r _ [33, 34, 35] rfl (by decide +kernel)) ggX0_addResolvent_J6_numberOfTrailingZeros_0f7a4
theorem dX0_addResolvent_0 : decode cX0_addResolvent 0 = .ok (.aload_n 0, 1) := by decide +kernel
theorem dX0_addResolvent_1 : decode cX0_addResolvent 1 = .ok (.iload_n 1, 1) := by decide +kernel
theorem dX0_addResolvent_2 : decode cX0_addResolvent 2 = .ok (.iload_n 2, 1) := by decide +kernel
theorem dX0_addResolvent_3 : decode cX0_addResolvent 3 = .ok (.invokevirtual 60, 3) := by decide +kernel
theorem dX0_addResolvent_6 : decode cX0_addResolvent 6 = .ok (.istore_n 3, 1) := by decide +kernel
theorem dX0_addResolvent_7 : decode cX0_addResolvent 7 = .ok (.aload_n 0, 1) := by decide +kernel
theorem dX0_addResolvent_8 : decode cX0_addResolvent 8 = .ok (.getfield 9, 3) := by decide +kernel
theorem dX0_addResolvent_11 : decode cX0_addResolvent 11 = .ok (.iload_n 1, 1) := by decide +kernel
theorem dX0_addResolvent_12 : decode cX0_addResolvent 12 = .ok (.iaload, 1) := by decide +kernel
theorem dX0_addResolvent_13 : decode cX0_addResolvent 13 = .ok (.iload_n 3, 1) := by decide +kernel
theorem dX0_addResolvent_14 : decode cX0_addResolvent 14 = .ok (.iand, 1) := by decide +kernel
theorem dX0_addResolvent_15 : decode cX0_addResolvent 15 = .ok (.ifCond .eq 7, 3) := by decide +kernel
theorem dX0_addResolvent_18 : decode cX0_addResolvent 18 = .ok (.iconst 1, 1) := by decide +kernel
theorem dX0_addResolvent_19 : decode cX0_addResolvent 19 = .ok (.goto 4, 3) := by decide +kernel
theorem dX0_addResolvent_22 : decode cX0_addResolvent 22 = .ok (.iconst 0, 1) := by decide +kernel
theorem dX0_addResolvent_23 : decode cX0_addResolvent 23 = .ok (.istore 4, 2) := by decide +kernel
theorem dX0_addResolvent_25 : decode cX0_addResolvent 25 = .ok (.iconst 1, 1) := by decide +kernel
theorem dX0_addResolvent_26 : decode cX0_addResolvent 26 = .ok (.aload_n 0, 1) := by decide +kernel
theorem dX0_addResolvent_27 : decode cX0_addResolvent 27 = .ok (.getfield 27, 3) := by decide +kernel
theorem dX0_addResolvent_30 : decode cX0_addResolvent 30 = .ok (.iload_n 1, 1) := by decide +kernel
theorem dX0_addResolvent_31 : decode cX0_addResolvent 31 = .ok (.iaload, 1) := by decide +kernel
theorem dX0_addResolvent_32 : decode cX0_addResolvent 32 = .ok (.aload_n 0, 1) := by decide +kernel
theorem dX0_addResolvent_33 : decode cX0_addResolvent 33 = .ok (.getfield 27, 3) := by decide +kernel
theorem dX0_addResolvent_36 : decode cX0_addResolvent 36 = .ok (.iload_n 2, 1) := by decide +kernel
theorem dX0_addResolvent_37 : decode cX0_addResolvent 37 = .ok (.iaload, 1) := by decide +kernel
theorem dX0_addResolvent_38 : decode cX0_addResolvent 38 = .ok (.invokestatic 87, 3) := by decide +kernel
theorem dX0_addResolvent_41 : decode cX0_addResolvent 41 = .ok (.iadd, 1) := by decide +kernel
theorem dX0_addResolvent_42 : decode cX0_addResolvent 42 = .ok (.istore 5, 2) := by decide +kernel
theorem dX0_addResolvent_44 : decode cX0_addResolvent 44 = .ok (.aload_n 0, 1) := by decide +kernel
theorem dX0_addResolvent_45 : decode cX0_addResolvent 45 = .ok (.aload_n 0, 1) := by decide +kernel
theorem dX0_addResolvent_46 : decode cX0_addResolvent 46 = .ok (.iload_n 1, 1) := by decide +kernel
theorem dX0_addResolvent_47 : decode cX0_addResolvent 47 = .ok (.iload_n 2, 1) := by decide +kernel
theorem dX0_addResolvent_48 : decode cX0_addResolvent 48 = .ok (.invokevirtual 67, 3) := by decide +kernel
theorem dX0_addResolvent_51 : decode cX0_addResolvent 51 = .ok (.aload_n 0, 1) := by decide +kernel
theorem dX0_addResolvent_52 : decode cX0_addResolvent 52 = .ok (.iload_n 1, 1) := by decide +kernel
theorem dX0_addResolvent_53 : decode cX0_addResolvent 53 = .ok (.iload_n 2, 1) := by decide +kernel
theorem dX0_addResolvent_54 : decode cX0_addResolvent 54 = .ok (.invokevirtual 70, 3) := by decide +kernel
theorem dX0_addResolvent_57 : decode cX0_addResolvent 57 = .ok (.invokevirtual 92, 3) := by decide +kernel
theorem dX0_addResolvent_60 : decode cX0_addResolvent 60 = .ok (.istore 6, 2) := by decide +kernel
theorem dX0_addResolvent_62 : decode cX0_addResolvent 62 = .ok (.iload 6, 2) := by decide +kernel
theorem dX0_addResolvent_64 : decode cX0_addResolvent 64 = .ok (.iconst (-1), 1) := by decide +kernel
theorem dX0_addResolvent_65 : decode cX0_addResolvent 65 = .ok (.if_icmp .ne 5, 3) := by decide +kernel
theorem dX0_addResolvent_68 : decode cX0_addResolvent 68 = .ok (.iconst (-1), 1) := by decide +kernel
theorem dX0_addResolvent_69 : decode cX0_addResolvent 69 = .ok (.ireturn, 1) := by decide +kernel
theorem dX0_addResolvent_70 : decode cX0_addResolvent 70 = .ok (.aload_n 0, 1) := by decide +kernel
theorem dX0_addResolvent_71 : decode cX0_addResolvent 71 = .ok (.getfield 18, 3) := by decide +kernel
theorem dX0_addResolvent_74 : decode cX0_addResolvent 74 = .ok (.iload 6, 2) := by decide +kernel
theorem dX0_addResolvent_76 : decode cX0_addResolvent 76 = .ok (.iload 4, 2) := by decide +kernel
theorem dX0_addResolvent_78 : decode cX0_addResolvent 78 = .ok (.ifCond .eq 7, 3) := by decide +kernel
theorem dX0_addResolvent_81 : decode cX0_addResolvent 81 = .ok (.iload_n 1, 1) := by decide +kernel
theorem dX0_addResolvent_82 : decode cX0_addResolvent 82 = .ok (.goto 4, 3) := by decide +kernel
theorem dX0_addResolvent_85 : decode cX0_addResolvent 85 = .ok (.iload_n 2, 1) := by decide +kernel
theorem dX0_addResolvent_86 : decode cX0_addResolvent 86 = .ok (.iastore, 1) := by decide +kernel
theorem dX0_addResolvent_87 : decode cX0_addResolvent 87 = .ok (.aload_n 0, 1) := by decide +kernel
theorem dX0_addResolvent_88 : decode cX0_addResolvent 88 = .ok (.getfield 21, 3) := by decide +kernel
theorem dX0_addResolvent_91 : decode cX0_addResolvent 91 = .ok (.iload 6, 2) := by decide +kernel
theorem dX0_addResolvent_93 : decode cX0_addResolvent 93 = .ok (.iload 4, 2) := by decide +kernel
theorem dX0_addResolvent_95 : decode cX0_addResolvent 95 = .ok (.ifCond .eq 7, 3) := by decide +kernel
theorem dX0_addResolvent_98 : decode cX0_addResolvent 98 = .ok (.iload_n 2, 1) := by decide +kernel
theorem dX0_addResolvent_99 : decode cX0_addResolvent 99 = .ok (.goto 4, 3) := by decide +kernel
theorem dX0_addResolvent_102 : decode cX0_addResolvent 102 = .ok (.iload_n 1, 1) := by decide +kernel
theorem dX0_addResolvent_103 : decode cX0_addResolvent 103 = .ok (.iastore, 1) := by decide +kernel
theorem dX0_addResolvent_104 : decode cX0_addResolvent 104 = .ok (.aload_n 0, 1) := by decide +kernel
theorem dX0_addResolvent_105 : decode cX0_addResolvent 105 = .ok (.getfield 24, 3) := by decide +kernel
theorem dX0_addResolvent_108 : decode cX0_addResolvent 108 = .ok (.iload 6, 2) := by decide +kernel
theorem dX0_addResolvent_110 : decode cX0_addResolvent 110 = .ok (.iload_n 3, 1) := by decide +kernel
theorem dX0_addResolvent_111 : decode cX0_addResolvent 111 = .ok (.invokestatic 95, 3) := by decide +kernel
theorem dX0_addResolvent_114 : decode cX0_addResolvent 114 = .ok (.iastore, 1) := by decide +kernel
theorem dX0_addResolvent_115 : decode cX0_addResolvent 115 = .ok (.aload_n 0, 1) := by decide +kernel
theorem dX0_addResolvent_116 : decode cX0_addResolvent 116 = .ok (.getfield 27, 3) := by decide +kernel
theorem dX0_addResolvent_119 : decode cX0_addResolvent 119 = .ok (.iload 6, 2) := by decide +kernel
theorem dX0_addResolvent_121 : decode cX0_addResolvent 121 = .ok (.iload 5, 2) := by decide +kernel
theorem dX0_addResolvent_123 : decode cX0_addResolvent 123 = .ok (.iastore, 1) := by decide +kernel
theorem dX0_addResolvent_124 : decode cX0_addResolvent 124 = .ok (.iload 6, 2) := by decide +kernel
theorem dX0_addResolvent_126 : decode cX0_addResolvent 126 = .ok (.ireturn, 1) := by decide +kernel
theorem dX0_remove_0 : decode cX0_remove 0 = .ok (.iload_n 1, 1) := by decide +kernel
theorem dX0_remove_1 : decode cX0_remove 1 = .ok (.iconst 1, 1) := by decide +kernel
theorem dX0_remove_2 : decode cX0_remove 2 = .ok (.iadd, 1) := by decide +kernel
theorem dX0_remove_3 : decode cX0_remove 3 = .ok (.istore_n 2, 1) := by decide +kernel
theorem dX0_remove_4 : decode cX0_remove 4 = .ok (.iload_n 2, 1) := by decide +kernel
theorem dX0_remove_5 : decode cX0_remove 5 = .ok (.aload_n 0, 1) := by decide +kernel
theorem dX0_remove_6 : decode cX0_remove 6 = .ok (.getfield 34, 3) := by decide +kernel
theorem dX0_remove_9 : decode cX0_remove 9 = .ok (.if_icmp .ge 135, 3) := by decide +kernel
theorem dX0_remove_12 : decode cX0_remove 12 = .ok (.aload_n 0, 1) := by decide +kernel
theorem dX0_remove_13 : decode cX0_remove 13 = .ok (.getfield 9, 3) := by decide +kernel
theorem dX0_remove_16 : decode cX0_remove 16 = .ok (.iload_n 2, 1) := by decide +kernel
theorem dX0_remove_17 : decode cX0_remove 17 = .ok (.iconst 1, 1) := by decide +kernel
theorem dX0_remove_18 : decode cX0_remove 18 = .ok (.isub, 1) := by decide +kernel
theorem dX0_remove_19 : decode cX0_remove 19 = .ok (.aload_n 0, 1) := by decide +kernel
theorem dX0_remove_20 : decode cX0_remove 20 = .ok (.getfield 9, 3) := by decide +kernel
theorem dX0_remove_23 : decode cX0_remove 23 = .ok (.iload_n 2, 1) := by decide +kernel
theorem dX0_remove_24 : decode cX0_remove 24 = .ok (.iaload, 1) := by decide +kernel
theorem dX0_remove_25 : decode cX0_remove 25 = .ok (.iastore, 1) := by decide +kernel
theorem dX0_remove_26 : decode cX0_remove 26 = .ok (.aload_n 0, 1) := by decide +kernel
theorem dX0_remove_27 : decode cX0_remove 27 = .ok (.getfield 15, 3) := by decide +kernel
theorem dX0_remove_30 : decode cX0_remove 30 = .ok (.iload_n 2, 1) := by decide +kernel
theorem dX0_remove_31 : decode cX0_remove 31 = .ok (.iconst 1, 1) := by decide +kernel
theorem dX0_remove_32 : decode cX0_remove 32 = .ok (.isub, 1) := by decide +kernel
theorem dX0_remove_33 : decode cX0_remove 33 = .ok (.aload_n 0, 1) := by decide +kernel
theorem dX0_remove_34 : decode cX0_remove 34 = .ok (.getfield 15, 3) := by decide +kernel
theorem dX0_remove_37 : decode cX0_remove 37 = .ok (.iload_n 2, 1) := by decide +kernel
theorem dX0_remove_38 : decode cX0_remove 38 = .ok (.iaload, 1) := by decide +kernel
theorem dX0_remove_39 : decode cX0_remove 39 = .ok (.iastore, 1) := by decide +kernel
theorem dX0_remove_40 : decode cX0_remove 40 = .ok (.aload_n 0, 1) := by decide +kernel
theorem dX0_remove_41 : decode cX0_remove 41 = .ok (.getfield 18, 3) := by decide +kernel
theorem dX0_remove_44 : decode cX0_remove 44 = .ok (.iload_n 2, 1) := by decide +kernel
theorem dX0_remove_45 : decode cX0_remove 45 = .ok (.iconst 1, 1) := by decide +kernel
theorem dX0_remove_46 : decode cX0_remove 46 = .ok (.isub, 1) := by decide +kernel
theorem dX0_remove_47 : decode cX0_remove 47 = .ok (.aload_n 0, 1) := by decide +kernel
theorem dX0_remove_48 : decode cX0_remove 48 = .ok (.getfield 18, 3) := by decide +kernel
theorem dX0_remove_51 : decode cX0_remove 51 = .ok (.iload_n 2, 1) := by decide +kernel
theorem dX0_remove_52 : decode cX0_remove 52 = .ok (.iaload, 1) := by decide +kernel
theorem dX0_remove_53 : decode cX0_remove 53 = .ok (.iload_n 1, 1) := by decide +kernel
theorem dX0_remove_54 : decode cX0_remove 54 = .ok (.if_icmp .le 14, 3) := by decide +kernel
theorem dX0_remove_57 : decode cX0_remove 57 = .ok (.aload_n 0, 1) := by decide +kernel
theorem dX0_remove_58 : decode cX0_remove 58 = .ok (.getfield 18, 3) := by decide +kernel
theorem dX0_remove_61 : decode cX0_remove 61 = .ok (.iload_n 2, 1) := by decide +kernel
theorem dX0_remove_62 : decode cX0_remove 62 = .ok (.iaload, 1) := by decide +kernel
theorem dX0_remove_63 : decode cX0_remove 63 = .ok (.iconst 1, 1) := by decide +kernel
theorem dX0_remove_64 : decode cX0_remove 64 = .ok (.isub, 1) := by decide +kernel
theorem dX0_remove_65 : decode cX0_remove 65 = .ok (.goto 9, 3) := by decide +kernel
theorem dX0_remove_68 : decode cX0_remove 68 = .ok (.aload_n 0, 1) := by decide +kernel
theorem dX0_remove_69 : decode cX0_remove 69 = .ok (.getfield 18, 3) := by decide +kernel
theorem dX0_remove_72 : decode cX0_remove 72 = .ok (.iload_n 2, 1) := by decide +kernel
theorem dX0_remove_73 : decode cX0_remove 73 = .ok (.iaload, 1) := by decide +kernel
theorem dX0_remove_74 : decode cX0_remove 74 = .ok (.iastore, 1) := by decide +kernel
theorem dX0_remove_75 : decode cX0_remove 75 = .ok (.aload_n 0, 1) := by decide +kernel
theorem dX0_remove_76 : decode cX0_remove 76 = .ok (.getfield 21, 3) := by decide +kernel
theorem dX0_remove_79 : decode cX0_remove 79 = .ok (.iload_n 2, 1) := by decide +kernel
theorem dX0_remove_80 : decode cX0_remove 80 = .ok (.iconst 1, 1) := by decide +kernel
theorem dX0_remove_81 : decode cX0_remove 81 = .ok (.isub, 1) := by decide +kernel
theorem dX0_remove_82 : decode cX0_remove 82 = .ok (.aload_n 0, 1) := by decide +kernel
theorem dX0_remove_83 : decode cX0_remove 83 = .ok (.getfield 21, 3) := by decide +kernel
theorem dX0_remove_86 : decode cX0_remove 86 = .ok (.iload_n 2, 1) := by decide +kernel
theorem dX0_remove_87 : decode cX0_remove 87 = .ok (.iaload, 1) := by decide +kernel
theorem dX0_remove_88 : decode cX0_remove 88 = .ok (.iload_n 1, 1) := by decide +kernel
theorem dX0_remove_89 : decode cX0_remove 89 = .ok (.if_icmp .le 14, 3) := by decide +kernel
theorem dX0_remove_92 : decode cX0_remove 92 = .ok (.aload_n 0, 1) := by decide +kernel
theorem dX0_remove_93 : decode cX0_remove 93 = .ok (.getfield 21, 3) := by decide +kernel
theorem dX0_remove_96 : decode cX0_remove 96 = .ok (.iload_n 2, 1) := by decide +kernel
theorem dX0_remove_97 : decode cX0_remove 97 = .ok (.iaload, 1) := by decide +kernel
theorem dX0_remove_98 : decode cX0_remove 98 = .ok (.iconst 1, 1) := by decide +kernel
theorem dX0_remove_99 : decode cX0_remove 99 = .ok (.isub, 1) := by decide +kernel
theorem dX0_remove_100 : decode cX0_remove 100 = .ok (.goto 9, 3) := by decide +kernel
theorem dX0_remove_103 : decode cX0_remove 103 = .ok (.aload_n 0, 1) := by decide +kernel
theorem dX0_remove_104 : decode cX0_remove 104 = .ok (.getfield 21, 3) := by decide +kernel
theorem dX0_remove_107 : decode cX0_remove 107 = .ok (.iload_n 2, 1) := by decide +kernel
theorem dX0_remove_108 : decode cX0_remove 108 = .ok (.iaload, 1) := by decide +kernel
theorem dX0_remove_109 : decode cX0_remove 109 = .ok (.iastore, 1) := by decide +kernel
theorem dX0_remove_110 : decode cX0_remove 110 = .ok (.aload_n 0, 1) := by decide +kernel
theorem dX0_remove_111 : decode cX0_remove 111 = .ok (.getfield 24, 3) := by decide +kernel
theorem dX0_remove_114 : decode cX0_remove 114 = .ok (.iload_n 2, 1) := by decide +kernel
theorem dX0_remove_115 : decode cX0_remove 115 = .ok (.iconst 1, 1) := by decide +kernel
theorem dX0_remove_116 : decode cX0_remove 116 = .ok (.isub, 1) := by decide +kernel
theorem dX0_remove_117 : decode cX0_remove 117 = .ok (.aload_n 0, 1) := by decide +kernel
theorem dX0_remove_118 : decode cX0_remove 118 = .ok (.getfield 24, 3) := by decide +kernel
theorem dX0_remove_121 : decode cX0_remove 121 = .ok (.iload_n 2, 1) := by decide +kernel
theorem dX0_remove_122 : decode cX0_remove 122 = .ok (.iaload, 1) := by decide +kernel
theorem dX0_remove_123 : decode cX0_remove 123 = .ok (.iastore, 1) := by decide +kernel
theorem dX0_remove_124 : decode cX0_remove 124 = .ok (.aload_n 0, 1) := by decide +kernel
theorem dX0_remove_125 : decode cX0_remove 125 = .ok (.getfield 27, 3) := by decide +kernel
theorem dX0_remove_128 : decode cX0_remove 128 = .ok (.iload_n 2, 1) := by decide +kernel
theorem dX0_remove_129 : decode cX0_remove 129 = .ok (.iconst 1, 1) := by decide +kernel
theorem dX0_remove_130 : decode cX0_remove 130 = .ok (.isub, 1) := by decide +kernel
theorem dX0_remove_131 : decode cX0_remove 131 = .ok (.aload_n 0, 1) := by decide +kernel
theorem dX0_remove_132 : decode cX0_remove 132 = .ok (.getfield 27, 3) := by decide +kernel
theorem dX0_remove_135 : decode cX0_remove 135 = .ok (.iload_n 2, 1) := by decide +kernel
theorem dX0_remove_136 : decode cX0_remove 136 = .ok (.iaload, 1) := by decide +kernel
theorem dX0_remove_137 : decode cX0_remove 137 = .ok (.iastore, 1) := by decide +kernel
theorem dX0_remove_138 : decode cX0_remove 138 = .ok (.iinc 2 1, 3) := by decide +kernel
theorem dX0_remove_141 : decode cX0_remove 141 = .ok (.goto (-137), 3) := by decide +kernel
theorem dX0_remove_144 : decode cX0_remove 144 = .ok (.aload_n 0, 1) := by decide +kernel
theorem dX0_remove_145 : decode cX0_remove 145 = .ok (.dup, 1) := by decide +kernel
theorem dX0_remove_146 : decode cX0_remove 146 = .ok (.getfield 34, 3) := by decide +kernel
theorem dX0_remove_149 : decode cX0_remove 149 = .ok (.iconst 1, 1) := by decide +kernel
theorem dX0_remove_150 : decode cX0_remove 150 = .ok (.isub, 1) := by decide +kernel
theorem dX0_remove_151 : decode cX0_remove 151 = .ok (.putfield 34, 3) := by decide +kernel
theorem dX0_remove_154 : decode cX0_remove 154 = .ok (.return_, 1) := by decide +kernel
set_option maxRecDepth 20000 in
theorem ggX0_lastToReduce_X0_isParent : GoodIn wsX0_lastToReduce wsX0_isParent := goodIn_r _ [6, 1, 7, 8, 19, 20, 21, 22, 23, 24, 25, 26] rfl (by decide +kernel)
set_option maxRecDepth 20000 in
theorem gX0_lastToReduce_X0_isParent : GoodIn wsX0_lastToReduce (wsV RX0 98 RX0 yX0_isParent wsX0_isParent) := goodIn_app (goodIn_r _ [2, 3, 4, 5] rfl (by decide +kernel)) ggX0_lastToReduce_X0_isParent
set_option maxRecDepth 20000 in
theorem ggX0_lastToReduce_X0_firstSubsumer : GoodIn wsX0_lastToReduce wsX0_firstSubsumer := goodIn_r _ [12, 1, 13, 14, 15, 16, 17, 5, 18, 19, 20, 21, 22, 23, 24, 25, 26] rfl (by decide +kernel)
set_option maxRecDepth 20000 in
theorem gX0_lastToReduce_X0_firstSubsumer : GoodIn wsX0_lastToReduce (wsV RX0 84 RX0 yX0_firstSubsumer wsX0_firstSubsumer) := goodIn_app (goodIn_r _ [9, 10, 11, 5] rfl (by decide +kernel)) ggX0_lastToReduce_X0_firstSubsumer
theorem dX0_lastToReduce_0 : decode cX0_lastToReduce 0 = .ok (.aload_n 0, 1) := by decide +kernel
theorem dX0_lastToReduce_1 : decode cX0_lastToReduce 1 = .ok (.getfield 34, 3) := by decide +kernel
theorem dX0_lastToReduce_4 : decode cX0_lastToReduce 4 = .ok (.iconst 1, 1) := by decide +kernel
theorem dX0_lastToReduce_5 : decode cX0_lastToReduce 5 = .ok (.isub, 1) := by decide +kernel
theorem dX0_lastToReduce_6 : decode cX0_lastToReduce 6 = .ok (.istore_n 1, 1) := by decide +kernel
theorem dX0_lastToReduce_7 : decode cX0_lastToReduce 7 = .ok (.iload_n 1, 1) := by decide +kernel
theorem dX0_lastToReduce_8 : decode cX0_lastToReduce 8 = .ok (.ifCond .lt 28, 3) := by decide +kernel
theorem dX0_lastToReduce_11 : decode cX0_lastToReduce 11 = .ok (.aload_n 0, 1) := by decide +kernel
theorem dX0_lastToReduce_12 : decode cX0_lastToReduce 12 = .ok (.iload_n 1, 1) := by decide +kernel
theorem dX0_lastToReduce_13 : decode cX0_lastToReduce 13 = .ok (.invokevirtual 98, 3) := by decide +kernel
theorem dX0_lastToReduce_16 : decode cX0_lastToReduce 16 = .ok (.ifCond .ne 14, 3) := by decide +kernel
theorem dX0_lastToReduce_19 : decode cX0_lastToReduce 19 = .ok (.aload_n 0, 1) := by decide +kernel
theorem dX0_lastToReduce_20 : decode cX0_lastToReduce 20 = .ok (.iload_n 1, 1) := by decide +kernel
theorem dX0_lastToReduce_21 : decode cX0_lastToReduce 21 = .ok (.invokevirtual 84, 3) := by decide +kernel
theorem dX0_lastToReduce_24 : decode cX0_lastToReduce 24 = .ok (.iconst (-1), 1) := by decide +kernel
theorem dX0_lastToReduce_25 : decode cX0_lastToReduce 25 = .ok (.if_icmp .eq 5, 3) := by decide +kernel
theorem dX0_lastToReduce_28 : decode cX0_lastToReduce 28 = .ok (.iload_n 1, 1) := by decide +kernel
theorem dX0_lastToReduce_29 : decode cX0_lastToReduce 29 = .ok (.ireturn, 1) := by decide +kernel
theorem dX0_lastToReduce_30 : decode cX0_lastToReduce 30 = .ok (.iinc 1 (-1), 3) := by decide +kernel
theorem dX0_lastToReduce_33 : decode cX0_lastToReduce 33 = .ok (.goto (-26), 3) := by decide +kernel
theorem dX0_lastToReduce_36 : decode cX0_lastToReduce 36 = .ok (.iconst (-1), 1) := by decide +kernel
theorem dX0_lastToReduce_37 : decode cX0_lastToReduce 37 = .ok (.ireturn, 1) := by decide +kernel
set_option maxRecDepth 20000 in
theorem ggX0_removeSubsumed_X0_lastToReduce : GoodIn wsX0_removeSubsumed wsX0_lastToReduce := goodIn_r _ [5, 6, 7, 8, 9, 4, 10, 11, 12, 13, 14, 15, 16, 17, 18, 19, 20, 21, 22, 29, 30, 31, 32, 33, 34, 35, 36] rfl (by decide +kernel)
set_option maxRecDepth 20000 in
theorem gX0_removeSubsumed_X0_lastToReduce : GoodIn wsX0_removeSubsumed (wsV RX0 102 RX0 yX0_lastToReduce wsX0_lastToReduce) := goodIn_app (goodIn_r _ [1, 2, 3, 4] rfl (by decide +kernel)) ggX0_removeSubsumed_X0_lastToReduce
set_option maxRecDepth 20000 in
theorem ggX0_removeSubsumed_X0_remove : GoodIn wsX0_removeSubsumed wsX0_remove := goodIn_r _ [26, 6, 17, 18, 11, 12, 27, 28, 29, 30, 31, 32, 33, 34, 35, 36] rfl (by decide +kernel)
set_option maxRecDepth 20000 in
theorem gX0_removeSubsumed_X0_remove : GoodIn wsX0_removeSubsumed (wsV RX0 105 RX0 yX0_remove wsX0_remove) := goodIn_app (goodIn_r _ [23, 24, 25, 4] rfl (by decide +kernel)) ggX0_removeSubsumed_X0_remove
theorem dX0_removeSubsumed_0 : decode cX0_removeSubsumed 0 = .ok (.iconst 0, 1) := by decide +kernel
theorem dX0_removeSubsumed_1 : decode cX0_removeSubsumed 1 = .ok (.istore_n 1, 1) := by decide +kernel
theorem dX0_removeSubsumed_2 : decode cX0_removeSubsumed 2 = .ok (.aload_n 0, 1) := by decide +kernel
theorem dX0_removeSubsumed_3 : decode cX0_removeSubsumed 3 = .ok (.invokevirtual 102, 3) := by decide +kernel
theorem dX0_removeSubsumed_6 : decode cX0_removeSubsumed 6 = .ok (.istore_n 2, 1) := by decide +kernel
theorem dX0_removeSubsumed_7 : decode cX0_removeSubsumed 7 = .ok (.iload_n 2, 1) := by decide +kernel
theorem dX0_removeSubsumed_8 : decode cX0_removeSubsumed 8 = .ok (.iconst (-1), 1) := by decide +kernel
theorem dX0_removeSubsumed_9 : decode cX0_removeSubsumed 9 = .ok (.if_icmp .eq 25, 3) := by decide +kernel
theorem dX0_removeSubsumed_12 : decode cX0_removeSubsumed 12 = .ok (.iload_n 1, 1) := by decide +kernel
theorem dX0_removeSubsumed_13 : decode cX0_removeSubsumed 13 = .ok (.bipush 60, 2) := by decide +kernel
theorem dX0_removeSubsumed_15 : decode cX0_removeSubsumed 15 = .ok (.if_icmp .ge 19, 3) := by decide +kernel
theorem dX0_removeSubsumed_18 : decode cX0_removeSubsumed 18 = .ok (.aload_n 0, 1) := by decide +kernel
theorem dX0_removeSubsumed_19 : decode cX0_removeSubsumed 19 = .ok (.iload_n 2, 1) := by decide +kernel
theorem dX0_removeSubsumed_20 : decode cX0_removeSubsumed 20 = .ok (.invokevirtual 105, 3) := by decide +kernel
theorem dX0_removeSubsumed_23 : decode cX0_removeSubsumed 23 = .ok (.iinc 1 1, 3) := by decide +kernel
theorem dX0_removeSubsumed_26 : decode cX0_removeSubsumed 26 = .ok (.aload_n 0, 1) := by decide +kernel
theorem dX0_removeSubsumed_27 : decode cX0_removeSubsumed 27 = .ok (.invokevirtual 102, 3) := by decide +kernel
theorem dX0_removeSubsumed_30 : decode cX0_removeSubsumed 30 = .ok (.istore_n 2, 1) := by decide +kernel
theorem dX0_removeSubsumed_31 : decode cX0_removeSubsumed 31 = .ok (.goto (-24), 3) := by decide +kernel
theorem dX0_removeSubsumed_34 : decode cX0_removeSubsumed 34 = .ok (.iload_n 1, 1) := by decide +kernel
theorem dX0_removeSubsumed_35 : decode cX0_removeSubsumed 35 = .ok (.ireturn, 1) := by decide +kernel
theorem dX0_negate_0 : decode cX0_negate 0 = .ok (.iconst 1, 1) := by decide +kernel
theorem dX0_negate_1 : decode cX0_negate 1 = .ok (.iload_n 1, 1) := by decide +kernel
theorem dX0_negate_2 : decode cX0_negate 2 = .ok (.ishl, 1) := by decide +kernel
theorem dX0_negate_3 : decode cX0_negate 3 = .ok (.istore_n 2, 1) := by decide +kernel
theorem dX0_negate_4 : decode cX0_negate 4 = .ok (.iconst 0, 1) := by decide +kernel
theorem dX0_negate_5 : decode cX0_negate 5 = .ok (.istore_n 3, 1) := by decide +kernel
theorem dX0_negate_6 : decode cX0_negate 6 = .ok (.iload_n 3, 1) := by decide +kernel
theorem dX0_negate_7 : decode cX0_negate 7 = .ok (.aload_n 0, 1) := by decide +kernel
theorem dX0_negate_8 : decode cX0_negate 8 = .ok (.getfield 34, 3) := by decide +kernel
theorem dX0_negate_11 : decode cX0_negate 11 = .ok (.if_icmp .ge 86, 3) := by decide +kernel
theorem dX0_negate_14 : decode cX0_negate 14 = .ok (.aload_n 0, 1) := by decide +kernel
theorem dX0_negate_15 : decode cX0_negate 15 = .ok (.getfield 9, 3) := by decide +kernel
theorem dX0_negate_18 : decode cX0_negate 18 = .ok (.iload_n 3, 1) := by decide +kernel
theorem dX0_negate_19 : decode cX0_negate 19 = .ok (.iaload, 1) := by decide +kernel
theorem dX0_negate_20 : decode cX0_negate 20 = .ok (.aload_n 0, 1) := by decide +kernel
theorem dX0_negate_21 : decode cX0_negate 21 = .ok (.getfield 15, 3) := by decide +kernel
theorem dX0_negate_24 : decode cX0_negate 24 = .ok (.iload_n 3, 1) := by decide +kernel
theorem dX0_negate_25 : decode cX0_negate 25 = .ok (.iaload, 1) := by decide +kernel
theorem dX0_negate_26 : decode cX0_negate 26 = .ok (.ixor, 1) := by decide +kernel
theorem dX0_negate_27 : decode cX0_negate 27 = .ok (.iload_n 2, 1) := by decide +kernel
theorem dX0_negate_28 : decode cX0_negate 28 = .ok (.iand, 1) := by decide +kernel
theorem dX0_negate_29 : decode cX0_negate 29 = .ok (.istore 4, 2) := by decide +kernel
theorem dX0_negate_31 : decode cX0_negate 31 = .ok (.aload_n 0, 1) := by decide +kernel
theorem dX0_negate_32 : decode cX0_negate 32 = .ok (.getfield 9, 3) := by decide +kernel
theorem dX0_negate_35 : decode cX0_negate 35 = .ok (.iload_n 3, 1) := by decide +kernel
theorem dX0_negate_36 : decode cX0_negate 36 = .ok (.dup2, 1) := by decide +kernel
theorem dX0_negate_37 : decode cX0_negate 37 = .ok (.iaload, 1) := by decide +kernel
theorem dX0_negate_38 : decode cX0_negate 38 = .ok (.iload 4, 2) := by decide +kernel
theorem dX0_negate_40 : decode cX0_negate 40 = .ok (.ixor, 1) := by decide +kernel
theorem dX0_negate_41 : decode cX0_negate 41 = .ok (.iastore, 1) := by decide +kernel
theorem dX0_negate_42 : decode cX0_negate 42 = .ok (.aload_n 0, 1) := by decide +kernel
theorem dX0_negate_43 : decode cX0_negate 43 = .ok (.getfield 15, 3) := by decide +kernel
theorem dX0_negate_46 : decode cX0_negate 46 = .ok (.iload_n 3, 1) := by decide +kernel
theorem dX0_negate_47 : decode cX0_negate 47 = .ok (.dup2, 1) := by decide +kernel
theorem dX0_negate_48 : decode cX0_negate 48 = .ok (.iaload, 1) := by decide +kernel
theorem dX0_negate_49 : decode cX0_negate 49 = .ok (.iload 4, 2) := by decide +kernel
theorem dX0_negate_51 : decode cX0_negate 51 = .ok (.ixor, 1) := by decide +kernel
theorem dX0_negate_52 : decode cX0_negate 52 = .ok (.iastore, 1) := by decide +kernel
theorem dX0_negate_53 : decode cX0_negate 53 = .ok (.aload_n 0, 1) := by decide +kernel
theorem dX0_negate_54 : decode cX0_negate 54 = .ok (.getfield 24, 3) := by decide +kernel
theorem dX0_negate_57 : decode cX0_negate 57 = .ok (.iload_n 3, 1) := by decide +kernel
theorem dX0_negate_58 : decode cX0_negate 58 = .ok (.iaload, 1) := by decide +kernel
theorem dX0_negate_59 : decode cX0_negate 59 = .ok (.iload_n 1, 1) := by decide +kernel
theorem dX0_negate_60 : decode cX0_negate 60 = .ok (.if_icmp .ne 31, 3) := by decide +kernel
theorem dX0_negate_63 : decode cX0_negate 63 = .ok (.aload_n 0, 1) := by decide +kernel
theorem dX0_negate_64 : decode cX0_negate 64 = .ok (.getfield 18, 3) := by decide +kernel
theorem dX0_negate_67 : decode cX0_negate 67 = .ok (.iload_n 3, 1) := by decide +kernel
theorem dX0_negate_68 : decode cX0_negate 68 = .ok (.iaload, 1) := by decide +kernel
theorem dX0_negate_69 : decode cX0_negate 69 = .ok (.istore 5, 2) := by decide +kernel
theorem dX0_negate_71 : decode cX0_negate 71 = .ok (.aload_n 0, 1) := by decide +kernel
theorem dX0_negate_72 : decode cX0_negate 72 = .ok (.getfield 18, 3) := by decide +kernel
theorem dX0_negate_75 : decode cX0_negate 75 = .ok (.iload_n 3, 1) := by decide +kernel
theorem dX0_negate_76 : decode cX0_negate 76 = .ok (.aload_n 0, 1) := by decide +kernel
theorem dX0_negate_77 : decode cX0_negate 77 = .ok (.getfield 21, 3) := by decide +kernel
theorem dX0_negate_80 : decode cX0_negate 80 = .ok (.iload_n 3, 1) := by decide +kernel
theorem dX0_negate_81 : decode cX0_negate 81 = .ok (.iaload, 1) := by decide +kernel
theorem dX0_negate_82 : decode cX0_negate 82 = .ok (.iastore, 1) := by decide +kernel
theorem dX0_negate_83 : decode cX0_negate 83 = .ok (.aload_n 0, 1) := by decide +kernel
theorem dX0_negate_84 : decode cX0_negate 84 = .ok (.getfield 21, 3) := by decide +kernel
theorem dX0_negate_87 : decode cX0_negate 87 = .ok (.iload_n 3, 1) := by decide +kernel
theorem dX0_negate_88 : decode cX0_negate 88 = .ok (.iload 5, 2) := by decide +kernel
theorem dX0_negate_90 : decode cX0_negate 90 = .ok (.iastore, 1) := by decide +kernel
theorem dX0_negate_91 : decode cX0_negate 91 = .ok (.iinc 3 1, 3) := by decide +kernel
theorem dX0_negate_94 : decode cX0_negate 94 = .ok (.goto (-88), 3) := by decide +kernel
theorem dX0_negate_97 : decode cX0_negate 97 = .ok (.return_, 1) := by decide +kernel
set_option maxRecDepth 20000 in
theorem ggX1_init_X0_init : GoodIn wsX1_init wsX0_init := goodIn_r _ [11, 12, 2, 3, 13, 14, 15, 16, 17, 18, 19, 20, 21, 25, 26, 27, 28, 29, 30, 31, 32] rfl (by decide +kernel)
set_option maxRecDepth 20000 in
theorem gX1_init_X0_init_n24 : GoodIn wsX1_init (wsX0_init) := ggX1_init_X0_init
theorem dX1_init_0 : decode cX1_init 0 = .ok (.aload_n 0, 1) := by decide +kernel
theorem dX1_init_1 : decode cX1_init 1 = .ok (.invokespecial 3, 3) := by decide +kernel
theorem dX1_init_4 : decode cX1_init 4 = .ok (.aload_n 0, 1) := by decide +kernel
theorem dX1_init_5 : decode cX1_init 5 = .ok (.bipush 8, 2) := by decide +kernel
theorem dX1_init_7 : decode cX1_init 7 = .ok (.anewarray 9, 3) := by decide +kernel
theorem dX1_init_10 : decode cX1_init 10 = .ok (.putfield 11, 3) := by decide +kernel
theorem dX1_init_13 : decode cX1_init 13 = .ok (.aload_n 0, 1) := by decide +kernel
theorem dX1_init_14 : decode cX1_init 14 = .ok (.iconst 0, 1) := by decide +kernel
theorem dX1_init_15 : decode cX1_init 15 = .ok (.putfield 17, 3) := by decide +kernel
theorem dX1_init_18 : decode cX1_init 18 = .ok (.aload_n 0, 1) := by decide +kernel
theorem dX1_init_19 : decode cX1_init 19 = .ok (.iconst 0, 1) := by decide +kernel
theorem dX1_init_20 : decode cX1_init 20 = .ok (.putfield 21, 3) := by decide +kernel
theorem dX1_init_23 : decode cX1_init 23 = .ok (.iconst 0, 1) := by decide +kernel
theorem dX1_init_24 : decode cX1_init 24 = .ok (.istore_n 1, 1) := by decide +kernel
theorem dX1_init_25 : decode cX1_init 25 = .ok (.iload_n 1, 1) := by decide +kernel
theorem dX1_init_26 : decode cX1_init 26 = .ok (.bipush 8, 2) := by decide +kernel
theorem dX1_init_28 : decode cX1_init 28 = .ok (.if_icmp .ge 22, 3) := by decide +kernel
theorem dX1_init_31 : decode cX1_init 31 = .ok (.aload_n 0, 1) := by decide +kernel
theorem dX1_init_32 : decode cX1_init 32 = .ok (.getfield 11, 3) := by decide +kernel
theorem dX1_init_35 : decode cX1_init 35 = .ok (.iload_n 1, 1) := by decide +kernel
theorem dX1_init_36 : decode cX1_init 36 = .ok (.new 9, 3) := by decide +kernel
theorem dX1_init_39 : decode cX1_init 39 = .ok (.dup, 1) := by decide +kernel
theorem dX1_init_40 : decode cX1_init 40 = .ok (.invokespecial 24, 3) := by decide +kernel
theorem dX1_init_43 : decode cX1_init 43 = .ok (.aastore, 1) := by decide +kernel
theorem dX1_init_44 : decode cX1_init 44 = .ok (.iinc 1 1, 3) := by decide +kernel
theorem dX1_init_47 : decode cX1_init 47 = .ok (.goto (-22), 3) := by decide +kernel
theorem dX1_init_50 : decode cX1_init 50 = .ok (.return_, 1) := by decide +kernel
theorem dX1_clear_0 : decode cX1_clear 0 = .ok (.aload_n 0, 1) := by decide +kernel
theorem dX1_clear_1 : decode cX1_clear 1 = .ok (.iconst 0, 1) := by decide +kernel
theorem dX1_clear_2 : decode cX1_clear 2 = .ok (.putfield 21, 3) := by decide +kernel
theorem dX1_clear_5 : decode cX1_clear 5 = .ok (.return_, 1) := by decide +kernel
set_option maxRecDepth 20000 in
theorem ggX1_push_X0_copyFrom : GoodIn wsX1_push wsX0_copyFrom := goodIn_r _ [12, 13, 14, 15, 16, 17, 18, 19, 20, 21, 22, 23, 24, 28, 29, 30, 31, 32, 33, 34, 35] rfl (by decide +kernel)
set_option maxRecDepth 20000 in
theorem gX1_push_X0_copyFrom : GoodIn wsX1_push (wsV RX1 25 RX0 yX0_copyFrom wsX0_copyFrom) := goodIn_app (goodIn_r _ [8, 9, 10, 11] rfl (by decide +kernel)) ggX1_push_X0_copyFrom
theorem dX1_push_0 : decode cX1_push 0 = .ok (.aload_n 0, 1) := by decide +kernel
theorem dX1_push_1 : decode cX1_push 1 = .ok (.getfield 11, 3) := by decide +kernel
theorem dX1_push_4 : decode cX1_push 4 = .ok (.aload_n 0, 1) := by decide +kernel
theorem dX1_push_5 : decode cX1_push 5 = .ok (.getfield 17, 3) := by decide +kernel
theorem dX1_push_8 : decode cX1_push 8 = .ok (.aaload, 1) := by decide +kernel
theorem dX1_push_9 : decode cX1_push 9 = .ok (.aload_n 1, 1) := by decide +kernel
theorem dX1_push_10 : decode cX1_push 10 = .ok (.invokevirtual 25, 3) := by decide +kernel
theorem dX1_push_13 : decode cX1_push 13 = .ok (.aload_n 0, 1) := by decide +kernel
theorem dX1_push_14 : decode cX1_push 14 = .ok (.aload_n 0, 1) := by decide +kernel
theorem dX1_push_15 : decode cX1_push 15 = .ok (.getfield 17, 3) := by decide +kernel
theorem dX1_push_18 : decode cX1_push 18 = .ok (.bipush 7, 2) := by decide +kernel
theorem dX1_push_20 : decode cX1_push 20 = .ok (.if_icmp .ne 7, 3) := by decide +kernel
theorem dX1_push_23 : decode cX1_push 23 = .ok (.iconst 0, 1) := by decide +kernel
theorem dX1_push_24 : decode cX1_push 24 = .ok (.goto 9, 3) := by decide +kernel
theorem dX1_push_27 : decode cX1_push 27 = .ok (.aload_n 0, 1) := by decide +kernel
theorem dX1_push_28 : decode cX1_push 28 = .ok (.getfield 17, 3) := by decide +kernel
theorem dX1_push_31 : decode cX1_push 31 = .ok (.iconst 1, 1) := by decide +kernel
theorem dX1_push_32 : decode cX1_push 32 = .ok (.iadd, 1) := by decide +kernel
theorem dX1_push_33 : decode cX1_push 33 = .ok (.putfield 17, 3) := by decide +kernel
theorem dX1_push_36 : decode cX1_push 36 = .ok (.aload_n 0, 1) := by decide +kernel
theorem dX1_push_37 : decode cX1_push 37 = .ok (.aload_n 0, 1) := by decide +kernel
theorem dX1_push_38 : decode cX1_push 38 = .ok (.getfield 21, 3) := by decide +kernel
theorem dX1_push_41 : decode cX1_push 41 = .ok (.iconst 1, 1) := by decide +kernel
theorem dX1_push_42 : decode cX1_push 42 = .ok (.iadd, 1) := by decide +kernel
theorem dX1_push_43 : decode cX1_push 43 = .ok (.bipush 8, 2) := by decide +kernel
theorem dX1_push_45 : decode cX1_push 45 = .ok (.invokestatic 29, 3) := by decide +kernel
theorem dX1_push_48 : decode cX1_push 48 = .ok (.putfield 21, 3) := by decide +kernel
theorem dX1_push_51 : decode cX1_push 51 = .ok (.return_, 1) := by decide +kernel
set_option maxRecDepth 20000 in
theorem ggX1_pop_X0_copyFrom : GoodIn wsX1_pop wsX0_copyFrom := goodIn_r _ [8, 9, 10, 11, 12, 13, 14, 15, 16, 17, 18, 19, 20, 24, 25, 26, 27, 28, 29, 30, 31] rfl (by decide +kernel)
set_option maxRecDepth 20000 in
theorem gX1_pop_X0_copyFrom : GoodIn wsX1_pop (wsV RX1 25 RX0 yX0_copyFrom wsX0_copyFrom) := goodIn_app (goodIn_r _ [4, 5, 6, 7] rfl (by decide +kernel)) ggX1_pop_X0_copyFrom
theorem dX1_pop_0 : decode cX1_pop 0 = .ok (.aload_n 0, 1) := by decide +kernel
theorem dX1_pop_1 : decode cX1_pop 1 = .ok (.aload_n 0, 1) := by decide +kernel
theorem dX1_pop_2 : decode cX1_pop 2 = .ok (.getfield 17, 3) := by decide +kernel
theorem dX1_pop_5 : decode cX1_pop 5 = .ok (.ifCond .ne 8, 3) := by decide +kernel
theorem dX1_pop_8 : decode cX1_pop 8 = .ok (.bipush 7, 2) := by decide +kernel
theorem dX1_pop_10 : decode cX1_pop 10 = .ok (.goto 9, 3) := by decide +kernel
theorem dX1_pop_13 : decode cX1_pop 13 = .ok (.aload_n 0, 1) := by decide +kernel
theorem dX1_pop_14 : decode cX1_pop 14 = .ok (.getfield 17, 3) := by decide +kernel
theorem dX1_pop_17 : decode cX1_pop 17 = .ok (.iconst 1, 1) := by decide +kernel
theorem dX1_pop_18 : decode cX1_pop 18 = .ok (.isub, 1) := by decide +kernel
theorem dX1_pop_19 : decode cX1_pop 19 = .ok (.putfield 17, 3) := by decide +kernel
theorem dX1_pop_22 : decode cX1_pop 22 = .ok (.aload_n 0, 1) := by decide +kernel
theorem dX1_pop_23 : decode cX1_pop 23 = .ok (.dup, 1) := by decide +kernel
theorem dX1_pop_24 : decode cX1_pop 24 = .ok (.getfield 21, 3) := by decide +kernel
theorem dX1_pop_27 : decode cX1_pop 27 = .ok (.iconst 1, 1) := by decide +kernel
theorem dX1_pop_28 : decode cX1_pop 28 = .ok (.isub, 1) := by decide +kernel
theorem dX1_pop_29 : decode cX1_pop 29 = .ok (.putfield 21, 3) := by decide +kernel
theorem dX1_pop_32 : decode cX1_pop 32 = .ok (.aload_n 1, 1) := by decide +kernel
theorem dX1_pop_33 : decode cX1_pop 33 = .ok (.aload_n 0, 1) := by decide +kernel
theorem dX1_pop_34 : decode cX1_pop 34 = .ok (.getfield 11, 3) := by decide +kernel
theorem dX1_pop_37 : decode cX1_pop 37 = .ok (.aload_n 0, 1) := by decide +kernel
theorem dX1_pop_38 : decode cX1_pop 38 = .ok (.getfield 17, 3) := by decide +kernel
theorem dX1_pop_41 : decode cX1_pop 41 = .ok (.aaload, 1) := by decide +kernel
theorem dX1_pop_42 : decode cX1_pop 42 = .ok (.invokevirtual 25, 3) := by decide +kernel
theorem dX1_pop_45 : decode cX1_pop 45 = .ok (.return_, 1) := by decide +kernel
set_option maxRecDepth 20000 in
theorem ggX2_areTrue_X0_isTrueUnder : GoodIn wsX2_areTrue wsX0_isTrueUnder := goodIn_r _ [6, 7, 8, 9, 10, 11, 12, 13, 14, 15, 16] rfl (by decide +kernel)
set_option maxRecDepth 20000 in
theorem gX2_areTrue_X0_isTrueUnder : GoodIn wsX2_areTrue (wsV RX2 15 RX0 yX0_isTrueUnder wsX0_isTrueUnder) := goodIn_app (goodIn_r _ [2, 3, 4, 5] rfl (by decide +kernel)) ggX2_areTrue_X0_isTrueUnder
theorem dX2_areTrue_0 : decode cX2_areTrue 0 = .ok (.iconst 0, 1) := by decide +kernel
theorem dX2_areTrue_1 : decode cX2_areTrue 1 = .ok (.istore_n 3, 1) := by decide +kernel
theorem dX2_areTrue_2 : decode cX2_areTrue 2 = .ok (.iload_n 3, 1) := by decide +kernel
theorem dX2_areTrue_3 : decode cX2_areTrue 3 = .ok (.aload_n 0, 1) := by decide +kernel
theorem dX2_areTrue_4 : decode cX2_areTrue 4 = .ok (.getfield 9, 3) := by decide +kernel
theorem dX2_areTrue_7 : decode cX2_areTrue 7 = .ok (.if_icmp .ge 25, 3) := by decide +kernel
theorem dX2_areTrue_10 : decode cX2_areTrue 10 = .ok (.iload_n 3, 1) := by decide +kernel
theorem dX2_areTrue_11 : decode cX2_areTrue 11 = .ok (.iload_n 2, 1) := by decide +kernel
theorem dX2_areTrue_12 : decode cX2_areTrue 12 = .ok (.if_icmp .eq 14, 3) := by decide +kernel
theorem dX2_areTrue_15 : decode cX2_areTrue 15 = .ok (.aload_n 0, 1) := by decide +kernel
theorem dX2_areTrue_16 : decode cX2_areTrue 16 = .ok (.iload_n 3, 1) := by decide +kernel
theorem dX2_areTrue_17 : decode cX2_areTrue 17 = .ok (.iload_n 1, 1) := by decide +kernel
theorem dX2_areTrue_18 : decode cX2_areTrue 18 = .ok (.invokevirtual 15, 3) := by decide +kernel
theorem dX2_areTrue_21 : decode cX2_areTrue 21 = .ok (.ifCond .ne 5, 3) := by decide +kernel
theorem dX2_areTrue_24 : decode cX2_areTrue 24 = .ok (.iconst 0, 1) := by decide +kernel
theorem dX2_areTrue_25 : decode cX2_areTrue 25 = .ok (.ireturn, 1) := by decide +kernel
theorem dX2_areTrue_26 : decode cX2_areTrue 26 = .ok (.iinc 3 1, 3) := by decide +kernel
theorem dX2_areTrue_29 : decode cX2_areTrue 29 = .ok (.goto (-27), 3) := by decide +kernel
theorem dX2_areTrue_32 : decode cX2_areTrue 32 = .ok (.iconst 1, 1) := by decide +kernel
theorem dX2_areTrue_33 : decode cX2_areTrue 33 = .ok (.ireturn, 1) := by decide +kernel
set_option maxRecDepth 20000 in
theorem ggX2_count_X0_allVariables : GoodIn wsX2_count wsX0_allVariables := goodIn_r _ [5, 6, 18, 19, 20, 21, 22, 23, 24, 25] rfl (by decide +kernel)
set_option maxRecDepth 20000 in
theorem gX2_count_X0_allVariables : GoodIn wsX2_count (wsV RX2 19 RX0 yX0_allVariables wsX0_allVariables) := goodIn_app (goodIn_r _ [1, 2, 3, 4] rfl (by decide +kernel)) ggX2_count_X0_allVariables
set_option maxRecDepth 20000 in
theorem ggX2_count_X2_areTrue : GoodIn wsX2_count wsX2_areTrue := goodIn_r _ [10, 11, 12, 13, 14, 4, 15, 16, 17, 18, 19, 20, 21, 22, 23, 24, 25] rfl (by decide +kernel)
set_option maxRecDepth 20000 in
theorem gX2_count_X2_areTrue : GoodIn wsX2_count (va_wsS RX2 23 yX2_areTrue wsX2_areTrue) := goodIn_app (goodIn_r _ [7, 8, 9] rfl (by decide +kernel)) ggX2_count_X2_areTrue
theorem dX2_count_0 : decode cX2_count 0 = .ok (.iconst 0, 1) := by decide +kernel
theorem dX2_count_1 : decode cX2_count 1 = .ok (.istore_n 1, 1) := by decide +kernel
theorem dX2_count_2 : decode cX2_count 2 = .ok (.iconst 0, 1) := by decide +kernel
theorem dX2_count_3 : decode cX2_count 3 = .ok (.istore_n 2, 1) := by decide +kernel
theorem dX2_count_4 : decode cX2_count 4 = .ok (.iload_n 2, 1) := by decide +kernel
theorem dX2_count_5 : decode cX2_count 5 = .ok (.aload_n 0, 1) := by decide +kernel
theorem dX2_count_6 : decode cX2_count 6 = .ok (.invokevirtual 19, 3) := by decide +kernel
theorem dX2_count_9 : decode cX2_count 9 = .ok (.if_icmp .gt 21, 3) := by decide +kernel
theorem dX2_count_12 : decode cX2_count 12 = .ok (.aload_n 0, 1) := by decide +kernel
theorem dX2_count_13 : decode cX2_count 13 = .ok (.iload_n 2, 1) := by decide +kernel
theorem dX2_count_14 : decode cX2_count 14 = .ok (.iconst (-1), 1) := by decide +kernel
theorem dX2_count_15 : decode cX2_count 15 = .ok (.invokestatic 23, 3) := by decide +kernel
theorem dX2_count_18 : decode cX2_count 18 = .ok (.ifCond .eq 6, 3) := by decide +kernel
theorem dX2_count_21 : decode cX2_count 21 = .ok (.iinc 1 1, 3) := by decide +kernel
theorem dX2_count_24 : decode cX2_count 24 = .ok (.iinc 2 1, 3) := by decide +kernel
theorem dX2_count_27 : decode cX2_count 27 = .ok (.goto (-23), 3) := by decide +kernel
theorem dX2_count_30 : decode cX2_count 30 = .ok (.iload_n 1, 1) := by decide +kernel
theorem dX2_count_31 : decode cX2_count 31 = .ok (.ireturn, 1) := by decide +kernel
set_option maxRecDepth 20000 in
theorem ggX2_at_X0_allVariables : GoodIn wsX2_at wsX0_allVariables := goodIn_r _ [5, 6, 18, 19, 20, 21, 22, 23, 24, 25] rfl (by decide +kernel)
set_option maxRecDepth 20000 in
theorem gX2_at_X0_allVariables : GoodIn wsX2_at (wsV RX2 19 RX0 yX0_allVariables wsX0_allVariables) := goodIn_app (goodIn_r _ [1, 2, 3, 4] rfl (by decide +kernel)) ggX2_at_X0_allVariables
set_option maxRecDepth 20000 in
theorem ggX2_at_X2_areTrue : GoodIn wsX2_at wsX2_areTrue := goodIn_r _ [10, 11, 12, 13, 14, 4, 15, 16, 17, 18, 19, 20, 21, 22, 23, 24, 25] rfl (by decide +kernel)
set_option maxRecDepth 20000 in
theorem gX2_at_X2_areTrue : GoodIn wsX2_at (va_wsS RX2 23 yX2_areTrue wsX2_areTrue) := goodIn_app (goodIn_r _ [7, 8, 9] rfl (by decide +kernel)) ggX2_at_X2_areTrue
theorem dX2_at_0 : decode cX2_at 0 = .ok (.iconst 0, 1) := by decide +kernel
theorem dX2_at_1 : decode cX2_at 1 = .ok (.istore_n 2, 1) := by decide +kernel
theorem dX2_at_2 : decode cX2_at 2 = .ok (.iconst 0, 1) := by decide +kernel
theorem dX2_at_3 : decode cX2_at 3 = .ok (.istore_n 3, 1) := by decide +kernel
theorem dX2_at_4 : decode cX2_at 4 = .ok (.iload_n 3, 1) := by decide +kernel
theorem dX2_at_5 : decode cX2_at 5 = .ok (.aload_n 0, 1) := by decide +kernel
theorem dX2_at_6 : decode cX2_at 6 = .ok (.invokevirtual 19, 3) := by decide +kernel
theorem dX2_at_9 : decode cX2_at 9 = .ok (.if_icmp .gt 28, 3) := by decide +kernel
theorem dX2_at_12 : decode cX2_at 12 = .ok (.aload_n 0, 1) := by decide +kernel
theorem dX2_at_13 : decode cX2_at 13 = .ok (.iload_n 3, 1) := by decide +kernel
theorem dX2_at_14 : decode cX2_at 14 = .ok (.iconst (-1), 1) := by decide +kernel
theorem dX2_at_15 : decode cX2_at 15 = .ok (.invokestatic 23, 3) := by decide +kernel
theorem dX2_at_18 : decode cX2_at 18 = .ok (.ifCond .eq 13, 3) := by decide +kernel
theorem dX2_at_21 : decode cX2_at 21 = .ok (.iload_n 2, 1) := by decide +kernel
theorem dX2_at_22 : decode cX2_at 22 = .ok (.iload_n 1, 1) := by decide +kernel
theorem dX2_at_23 : decode cX2_at 23 = .ok (.if_icmp .ne 5, 3) := by decide +kernel
theorem dX2_at_26 : decode cX2_at 26 = .ok (.iload_n 3, 1) := by decide +kernel
theorem dX2_at_27 : decode cX2_at 27 = .ok (.ireturn, 1) := by decide +kernel
theorem dX2_at_28 : decode cX2_at 28 = .ok (.iinc 2 1, 3) := by decide +kernel
theorem dX2_at_31 : decode cX2_at 31 = .ok (.iinc 3 1, 3) := by decide +kernel
theorem dX2_at_34 : decode cX2_at 34 = .ok (.goto (-30), 3) := by decide +kernel
theorem dX2_at_37 : decode cX2_at 37 = .ok (.iconst (-1), 1) := by decide +kernel
theorem dX2_at_38 : decode cX2_at 38 = .ok (.ireturn, 1) := by decide +kernel
set_option maxRecDepth 20000 in
theorem ggX2_countFalse_X0_isTrueUnder : GoodIn wsX2_countFalse wsX0_isTrueUnder := goodIn_r _ [6, 7, 8, 9, 10, 11, 12, 13, 14, 15, 16] rfl (by decide +kernel)
set_option maxRecDepth 20000 in
theorem gX2_countFalse_X0_isTrueUnder : GoodIn wsX2_countFalse (wsV RX2 15 RX0 yX0_isTrueUnder wsX0_isTrueUnder) := goodIn_app (goodIn_r _ [2, 3, 4, 5] rfl (by decide +kernel)) ggX2_countFalse_X0_isTrueUnder
theorem dX2_countFalse_0 : decode cX2_countFalse 0 = .ok (.iconst 0, 1) := by decide +kernel
theorem dX2_countFalse_1 : decode cX2_countFalse 1 = .ok (.istore_n 2, 1) := by decide +kernel
theorem dX2_countFalse_2 : decode cX2_countFalse 2 = .ok (.iconst 0, 1) := by decide +kernel
theorem dX2_countFalse_3 : decode cX2_countFalse 3 = .ok (.istore_n 3, 1) := by decide +kernel
theorem dX2_countFalse_4 : decode cX2_countFalse 4 = .ok (.iload_n 3, 1) := by decide +kernel
theorem dX2_countFalse_5 : decode cX2_countFalse 5 = .ok (.aload_n 0, 1) := by decide +kernel
theorem dX2_countFalse_6 : decode cX2_countFalse 6 = .ok (.getfield 9, 3) := by decide +kernel
theorem dX2_countFalse_9 : decode cX2_countFalse 9 = .ok (.if_icmp .ge 21, 3) := by decide +kernel
theorem dX2_countFalse_12 : decode cX2_countFalse 12 = .ok (.aload_n 0, 1) := by decide +kernel
theorem dX2_countFalse_13 : decode cX2_countFalse 13 = .ok (.iload_n 3, 1) := by decide +kernel
theorem dX2_countFalse_14 : decode cX2_countFalse 14 = .ok (.iload_n 1, 1) := by decide +kernel
theorem dX2_countFalse_15 : decode cX2_countFalse 15 = .ok (.invokevirtual 15, 3) := by decide +kernel
theorem dX2_countFalse_18 : decode cX2_countFalse 18 = .ok (.ifCond .ne 6, 3) := by decide +kernel
theorem dX2_countFalse_21 : decode cX2_countFalse 21 = .ok (.iinc 2 1, 3) := by decide +kernel
theorem dX2_countFalse_24 : decode cX2_countFalse 24 = .ok (.iinc 3 1, 3) := by decide +kernel
theorem dX2_countFalse_27 : decode cX2_countFalse 27 = .ok (.goto (-23), 3) := by decide +kernel
theorem dX2_countFalse_30 : decode cX2_countFalse 30 = .ok (.iload_n 2, 1) := by decide +kernel
theorem dX2_countFalse_31 : decode cX2_countFalse 31 = .ok (.ireturn, 1) := by decide +kernel
set_option maxRecDepth 20000 in
theorem ggX2_firstBestFlip_X2_countFalse : GoodIn wsX2_firstBestFlip wsX2_countFalse := goodIn_r _ [5, 6, 7, 8, 9, 10, 11, 12, 13, 14, 15, 16, 17, 18, 19, 20, 21] rfl (by decide +kernel)
set_option maxRecDepth 20000 in
theorem gX2_firstBestFlip_X2_countFalse : GoodIn wsX2_firstBestFlip (va_wsS RX2 32 yX2_countFalse wsX2_countFalse) := goodIn_app (goodIn_r _ [2, 3, 4] rfl (by decide +kernel)) ggX2_firstBestFlip_X2_countFalse
theorem dX2_firstBestFlip_0 : decode cX2_firstBestFlip 0 = .ok (.iconst 0, 1) := by decide +kernel
theorem dX2_firstBestFlip_1 : decode cX2_firstBestFlip 1 = .ok (.istore_n 2, 1) := by decide +kernel
theorem dX2_firstBestFlip_2 : decode cX2_firstBestFlip 2 = .ok (.bipush 61, 2) := by decide +kernel
theorem dX2_firstBestFlip_4 : decode cX2_firstBestFlip 4 = .ok (.istore_n 3, 1) := by decide +kernel
theorem dX2_firstBestFlip_5 : decode cX2_firstBestFlip 5 = .ok (.iconst 0, 1) := by decide +kernel
theorem dX2_firstBestFlip_6 : decode cX2_firstBestFlip 6 = .ok (.istore 4, 2) := by decide +kernel
theorem dX2_firstBestFlip_8 : decode cX2_firstBestFlip 8 = .ok (.iload 4, 2) := by decide +kernel
theorem dX2_firstBestFlip_10 : decode cX2_firstBestFlip 10 = .ok (.aload_n 0, 1) := by decide +kernel
theorem dX2_firstBestFlip_11 : decode cX2_firstBestFlip 11 = .ok (.getfield 29, 3) := by decide +kernel
theorem dX2_firstBestFlip_14 : decode cX2_firstBestFlip 14 = .ok (.if_icmp .ge 33, 3) := by decide +kernel
theorem dX2_firstBestFlip_17 : decode cX2_firstBestFlip 17 = .ok (.aload_n 0, 1) := by decide +kernel
theorem dX2_firstBestFlip_18 : decode cX2_firstBestFlip 18 = .ok (.iload_n 1, 1) := by decide +kernel
theorem dX2_firstBestFlip_19 : decode cX2_firstBestFlip 19 = .ok (.iconst 1, 1) := by decide +kernel
theorem dX2_firstBestFlip_20 : decode cX2_firstBestFlip 20 = .ok (.iload 4, 2) := by decide +kernel
theorem dX2_firstBestFlip_22 : decode cX2_firstBestFlip 22 = .ok (.ishl, 1) := by decide +kernel
theorem dX2_firstBestFlip_23 : decode cX2_firstBestFlip 23 = .ok (.ixor, 1) := by decide +kernel
theorem dX2_firstBestFlip_24 : decode cX2_firstBestFlip 24 = .ok (.invokestatic 32, 3) := by decide +kernel
theorem dX2_firstBestFlip_27 : decode cX2_firstBestFlip 27 = .ok (.istore 5, 2) := by decide +kernel
theorem dX2_firstBestFlip_29 : decode cX2_firstBestFlip 29 = .ok (.iload 5, 2) := by decide +kernel
theorem dX2_firstBestFlip_31 : decode cX2_firstBestFlip 31 = .ok (.iload_n 3, 1) := by decide +kernel
theorem dX2_firstBestFlip_32 : decode cX2_firstBestFlip 32 = .ok (.if_icmp .ge 9, 3) := by decide +kernel
theorem dX2_firstBestFlip_35 : decode cX2_firstBestFlip 35 = .ok (.iload 4, 2) := by decide +kernel
theorem dX2_firstBestFlip_37 : decode cX2_firstBestFlip 37 = .ok (.istore_n 2, 1) := by decide +kernel
theorem dX2_firstBestFlip_38 : decode cX2_firstBestFlip 38 = .ok (.iload 5, 2) := by decide +kernel
theorem dX2_firstBestFlip_40 : decode cX2_firstBestFlip 40 = .ok (.istore_n 3, 1) := by decide +kernel
theorem dX2_firstBestFlip_41 : decode cX2_firstBestFlip 41 = .ok (.iinc 4 1, 3) := by decide +kernel
theorem dX2_firstBestFlip_44 : decode cX2_firstBestFlip 44 = .ok (.goto (-36), 3) := by decide +kernel
theorem dX2_firstBestFlip_47 : decode cX2_firstBestFlip 47 = .ok (.iload_n 2, 1) := by decide +kernel
theorem dX2_firstBestFlip_48 : decode cX2_firstBestFlip 48 = .ok (.ireturn, 1) := by decide +kernel
set_option maxRecDepth 20000 in
theorem ggX2_trueInAll_X0_allVariables : GoodIn wsX2_trueInAll wsX0_allVariables := goodIn_r _ [5, 6, 18, 19, 20, 21, 22, 23, 24, 25] rfl (by decide +kernel)
set_option maxRecDepth 20000 in
theorem gX2_trueInAll_X0_allVariables : GoodIn wsX2_trueInAll (wsV RX2 19 RX0 yX0_allVariables wsX0_allVariables) := goodIn_app (goodIn_r _ [1, 2, 3, 4] rfl (by decide +kernel)) ggX2_trueInAll_X0_allVariables
set_option maxRecDepth 20000 in
theorem ggX2_trueInAll_X2_areTrue : GoodIn wsX2_trueInAll wsX2_areTrue := goodIn_r _ [10, 11, 12, 13, 14, 4, 15, 16, 17, 18, 19, 20, 21, 22, 23, 24, 25] rfl (by decide +kernel)
set_option maxRecDepth 20000 in
theorem gX2_trueInAll_X2_areTrue : GoodIn wsX2_trueInAll (va_wsS RX2 23 yX2_areTrue wsX2_areTrue) := goodIn_app (goodIn_r _ [7, 8, 9] rfl (by decide +kernel)) ggX2_trueInAll_X2_areTrue
theorem dX2_trueInAll_0 : decode cX2_trueInAll 0 = .ok (.aload_n 0, 1) := by decide +kernel
theorem dX2_trueInAll_1 : decode cX2_trueInAll 1 = .ok (.invokevirtual 19, 3) := by decide +kernel
theorem dX2_trueInAll_4 : decode cX2_trueInAll 4 = .ok (.istore_n 1, 1) := by decide +kernel
theorem dX2_trueInAll_5 : decode cX2_trueInAll 5 = .ok (.iconst 0, 1) := by decide +kernel
theorem dX2_trueInAll_6 : decode cX2_trueInAll 6 = .ok (.istore_n 2, 1) := by decide +kernel
theorem dX2_trueInAll_7 : decode cX2_trueInAll 7 = .ok (.iload_n 2, 1) := by decide +kernel
theorem dX2_trueInAll_8 : decode cX2_trueInAll 8 = .ok (.aload_n 0, 1) := by decide +kernel
theorem dX2_trueInAll_9 : decode cX2_trueInAll 9 = .ok (.invokevirtual 19, 3) := by decide +kernel
theorem dX2_trueInAll_12 : decode cX2_trueInAll 12 = .ok (.if_icmp .gt 22, 3) := by decide +kernel
theorem dX2_trueInAll_15 : decode cX2_trueInAll 15 = .ok (.aload_n 0, 1) := by decide +kernel
theorem dX2_trueInAll_16 : decode cX2_trueInAll 16 = .ok (.iload_n 2, 1) := by decide +kernel
theorem dX2_trueInAll_17 : decode cX2_trueInAll 17 = .ok (.iconst (-1), 1) := by decide +kernel
theorem dX2_trueInAll_18 : decode cX2_trueInAll 18 = .ok (.invokestatic 23, 3) := by decide +kernel
theorem dX2_trueInAll_21 : decode cX2_trueInAll 21 = .ok (.ifCond .eq 7, 3) := by decide +kernel
theorem dX2_trueInAll_24 : decode cX2_trueInAll 24 = .ok (.iload_n 1, 1) := by decide +kernel
theorem dX2_trueInAll_25 : decode cX2_trueInAll 25 = .ok (.iload_n 2, 1) := by decide +kernel
theorem dX2_trueInAll_26 : decode cX2_trueInAll 26 = .ok (.iand, 1) := by decide +kernel
theorem dX2_trueInAll_27 : decode cX2_trueInAll 27 = .ok (.istore_n 1, 1) := by decide +kernel
theorem dX2_trueInAll_28 : decode cX2_trueInAll 28 = .ok (.iinc 2 1, 3) := by decide +kernel
theorem dX2_trueInAll_31 : decode cX2_trueInAll 31 = .ok (.goto (-24), 3) := by decide +kernel
theorem dX2_trueInAll_34 : decode cX2_trueInAll 34 = .ok (.iload_n 1, 1) := by decide +kernel
theorem dX2_trueInAll_35 : decode cX2_trueInAll 35 = .ok (.ireturn, 1) := by decide +kernel
set_option maxRecDepth 20000 in
theorem ggX2_falseInAll_X0_allVariables : GoodIn wsX2_falseInAll wsX0_allVariables := goodIn_r _ [5, 6, 18, 19, 20, 21, 22, 23, 24, 25] rfl (by decide +kernel)
set_option maxRecDepth 20000 in
theorem gX2_falseInAll_X0_allVariables : GoodIn wsX2_falseInAll (wsV RX2 19 RX0 yX0_allVariables wsX0_allVariables) := goodIn_app (goodIn_r _ [1, 2, 3, 4] rfl (by decide +kernel)) ggX2_falseInAll_X0_allVariables
set_option maxRecDepth 20000 in
theorem ggX2_falseInAll_X2_areTrue : GoodIn wsX2_falseInAll wsX2_areTrue := goodIn_r _ [10, 11, 12, 13, 14, 4, 15, 16, 17, 18, 19, 20, 21, 22, 23, 24, 25] rfl (by decide +kernel)
set_option maxRecDepth 20000 in
theorem gX2_falseInAll_X2_areTrue : GoodIn wsX2_falseInAll (va_wsS RX2 23 yX2_areTrue wsX2_areTrue) := goodIn_app (goodIn_r _ [7, 8, 9] rfl (by decide +kernel)) ggX2_falseInAll_X2_areTrue
theorem dX2_falseInAll_0 : decode cX2_falseInAll 0 = .ok (.aload_n 0, 1) := by decide +kernel
theorem dX2_falseInAll_1 : decode cX2_falseInAll 1 = .ok (.invokevirtual 19, 3) := by decide +kernel
theorem dX2_falseInAll_4 : decode cX2_falseInAll 4 = .ok (.istore_n 1, 1) := by decide +kernel
theorem dX2_falseInAll_5 : decode cX2_falseInAll 5 = .ok (.iconst 0, 1) := by decide +kernel
theorem dX2_falseInAll_6 : decode cX2_falseInAll 6 = .ok (.istore_n 2, 1) := by decide +kernel
theorem dX2_falseInAll_7 : decode cX2_falseInAll 7 = .ok (.iload_n 2, 1) := by decide +kernel
theorem dX2_falseInAll_8 : decode cX2_falseInAll 8 = .ok (.aload_n 0, 1) := by decide +kernel
theorem dX2_falseInAll_9 : decode cX2_falseInAll 9 = .ok (.invokevirtual 19, 3) := by decide +kernel
theorem dX2_falseInAll_12 : decode cX2_falseInAll 12 = .ok (.if_icmp .gt 24, 3) := by decide +kernel
theorem dX2_falseInAll_15 : decode cX2_falseInAll 15 = .ok (.aload_n 0, 1) := by decide +kernel
theorem dX2_falseInAll_16 : decode cX2_falseInAll 16 = .ok (.iload_n 2, 1) := by decide +kernel
theorem dX2_falseInAll_17 : decode cX2_falseInAll 17 = .ok (.iconst (-1), 1) := by decide +kernel
theorem dX2_falseInAll_18 : decode cX2_falseInAll 18 = .ok (.invokestatic 23, 3) := by decide +kernel
theorem dX2_falseInAll_21 : decode cX2_falseInAll 21 = .ok (.ifCond .eq 9, 3) := by decide +kernel
theorem dX2_falseInAll_24 : decode cX2_falseInAll 24 = .ok (.iload_n 1, 1) := by decide +kernel
theorem dX2_falseInAll_25 : decode cX2_falseInAll 25 = .ok (.iload_n 2, 1) := by decide +kernel
theorem dX2_falseInAll_26 : decode cX2_falseInAll 26 = .ok (.iconst (-1), 1) := by decide +kernel
theorem dX2_falseInAll_27 : decode cX2_falseInAll 27 = .ok (.ixor, 1) := by decide +kernel
theorem dX2_falseInAll_28 : decode cX2_falseInAll 28 = .ok (.iand, 1) := by decide +kernel
theorem dX2_falseInAll_29 : decode cX2_falseInAll 29 = .ok (.istore_n 1, 1) := by decide +kernel
theorem dX2_falseInAll_30 : decode cX2_falseInAll 30 = .ok (.iinc 2 1, 3) := by decide +kernel
theorem dX2_falseInAll_33 : decode cX2_falseInAll 33 = .ok (.goto (-26), 3) := by decide +kernel
theorem dX2_falseInAll_36 : decode cX2_falseInAll 36 = .ok (.iload_n 1, 1) := by decide +kernel
theorem dX2_falseInAll_37 : decode cX2_falseInAll 37 = .ok (.ireturn, 1) := by decide +kernel
set_option maxRecDepth 20000 in
theorem ggX2_imply_X0_allVariables : GoodIn wsX2_imply wsX0_allVariables := goodIn_r _ [5, 6, 18, 19, 20, 21, 22, 23, 24, 25] rfl (by decide +kernel)
set_option maxRecDepth 20000 in
theorem gX2_imply_X0_allVariables : GoodIn wsX2_imply (wsV RX2 19 RX0 yX0_allVariables wsX0_allVariables) := goodIn_app (goodIn_r _ [1, 2, 3, 4] rfl (by decide +kernel)) ggX2_imply_X0_allVariables
set_option maxRecDepth 20000 in
theorem ggX2_imply_X2_areTrue : GoodIn wsX2_imply wsX2_areTrue := goodIn_r _ [10, 11, 12, 13, 14, 4, 15, 16, 17, 18, 19, 20, 21, 22, 23, 24, 25] rfl (by decide +kernel)
set_option maxRecDepth 20000 in
theorem gX2_imply_X2_areTrue : GoodIn wsX2_imply (va_wsS RX2 23 yX2_areTrue wsX2_areTrue) := goodIn_app (goodIn_r _ [7, 8, 9] rfl (by decide +kernel)) ggX2_imply_X2_areTrue
theorem dX2_imply_0 : decode cX2_imply 0 = .ok (.iconst 0, 1) := by decide +kernel
theorem dX2_imply_1 : decode cX2_imply 1 = .ok (.istore 4, 2) := by decide +kernel
theorem dX2_imply_3 : decode cX2_imply 3 = .ok (.iload 4, 2) := by decide +kernel
theorem dX2_imply_5 : decode cX2_imply 5 = .ok (.aload_n 0, 1) := by decide +kernel
theorem dX2_imply_6 : decode cX2_imply 6 = .ok (.invokevirtual 19, 3) := by decide +kernel
theorem dX2_imply_9 : decode cX2_imply 9 = .ok (.if_icmp .gt 49, 3) := by decide +kernel
theorem dX2_imply_12 : decode cX2_imply 12 = .ok (.iload_n 1, 1) := by decide +kernel
theorem dX2_imply_13 : decode cX2_imply 13 = .ok (.iload 4, 2) := by decide +kernel
theorem dX2_imply_15 : decode cX2_imply 15 = .ok (.iand, 1) := by decide +kernel
theorem dX2_imply_16 : decode cX2_imply 16 = .ok (.ifCond .ne 16, 3) := by decide +kernel
theorem dX2_imply_19 : decode cX2_imply 19 = .ok (.iload_n 2, 1) := by decide +kernel
theorem dX2_imply_20 : decode cX2_imply 20 = .ok (.iload 4, 2) := by decide +kernel
theorem dX2_imply_22 : decode cX2_imply 22 = .ok (.iconst (-1), 1) := by decide +kernel
theorem dX2_imply_23 : decode cX2_imply 23 = .ok (.ixor, 1) := by decide +kernel
theorem dX2_imply_24 : decode cX2_imply 24 = .ok (.iand, 1) := by decide +kernel
theorem dX2_imply_25 : decode cX2_imply 25 = .ok (.ifCond .ne 7, 3) := by decide +kernel
theorem dX2_imply_28 : decode cX2_imply 28 = .ok (.iconst 1, 1) := by decide +kernel
theorem dX2_imply_29 : decode cX2_imply 29 = .ok (.goto 4, 3) := by decide +kernel
theorem dX2_imply_32 : decode cX2_imply 32 = .ok (.iconst 0, 1) := by decide +kernel
theorem dX2_imply_33 : decode cX2_imply 33 = .ok (.istore 5, 2) := by decide +kernel
theorem dX2_imply_35 : decode cX2_imply 35 = .ok (.iload 5, 2) := by decide +kernel
theorem dX2_imply_37 : decode cX2_imply 37 = .ok (.ifCond .eq 15, 3) := by decide +kernel
theorem dX2_imply_40 : decode cX2_imply 40 = .ok (.aload_n 0, 1) := by decide +kernel
theorem dX2_imply_41 : decode cX2_imply 41 = .ok (.iload 4, 2) := by decide +kernel
theorem dX2_imply_43 : decode cX2_imply 43 = .ok (.iload_n 3, 1) := by decide +kernel
theorem dX2_imply_44 : decode cX2_imply 44 = .ok (.invokestatic 23, 3) := by decide +kernel
theorem dX2_imply_47 : decode cX2_imply 47 = .ok (.ifCond .eq 5, 3) := by decide +kernel
theorem dX2_imply_50 : decode cX2_imply 50 = .ok (.iconst 0, 1) := by decide +kernel
theorem dX2_imply_51 : decode cX2_imply 51 = .ok (.ireturn, 1) := by decide +kernel
theorem dX2_imply_52 : decode cX2_imply 52 = .ok (.iinc 4 1, 3) := by decide +kernel
theorem dX2_imply_55 : decode cX2_imply 55 = .ok (.goto (-52), 3) := by decide +kernel
theorem dX2_imply_58 : decode cX2_imply 58 = .ok (.iconst 1, 1) := by decide +kernel
theorem dX2_imply_59 : decode cX2_imply 59 = .ok (.ireturn, 1) := by decide +kernel
theorem dX3_init_0 : decode cX3_init 0 = .ok (.aload_n 0, 1) := by decide +kernel
theorem dX3_init_1 : decode cX3_init 1 = .ok (.invokespecial 3, 3) := by decide +kernel
theorem dX3_init_4 : decode cX3_init 4 = .ok (.aload_n 0, 1) := by decide +kernel
theorem dX3_init_5 : decode cX3_init 5 = .ok (.bipush 35, 2) := by decide +kernel
theorem dX3_init_7 : decode cX3_init 7 = .ok (.newarray .byte, 2) := by decide +kernel
theorem dX3_init_9 : decode cX3_init 9 = .ok (.putfield 9, 3) := by decide +kernel
theorem dX3_init_12 : decode cX3_init 12 = .ok (.aload_n 0, 1) := by decide +kernel
theorem dX3_init_13 : decode cX3_init 13 = .ok (.iconst 0, 1) := by decide +kernel
theorem dX3_init_14 : decode cX3_init 14 = .ok (.putfield 15, 3) := by decide +kernel
theorem dX3_init_17 : decode cX3_init 17 = .ok (.return_, 1) := by decide +kernel
set_option maxRecDepth 20000 in
theorem ggX3_write_X3_put : GoodIn wsX3_write wsX3_put := goodIn_r _ [6, 1, 7, 8, 9] rfl (by decide +kernel)
set_option maxRecDepth 20000 in
theorem gX3_write_X3_put : GoodIn wsX3_write (wsV RX3 19 RX3 yX3_put wsX3_put) := goodIn_app (goodIn_r _ [2, 3, 4, 5] rfl (by decide +kernel)) ggX3_write_X3_put
theorem dX3_write_0 : decode cX3_write 0 = .ok (.aload_n 0, 1) := by decide +kernel
theorem dX3_write_1 : decode cX3_write 1 = .ok (.iconst 0, 1) := by decide +kernel
theorem dX3_write_2 : decode cX3_write 2 = .ok (.putfield 15, 3) := by decide +kernel
theorem dX3_write_5 : decode cX3_write 5 = .ok (.iconst 0, 1) := by decide +kernel
theorem dX3_write_6 : decode cX3_write 6 = .ok (.istore_n 3, 1) := by decide +kernel
theorem dX3_write_7 : decode cX3_write 7 = .ok (.iload_n 3, 1) := by decide +kernel
theorem dX3_write_8 : decode cX3_write 8 = .ok (.bipush 12, 2) := by decide +kernel
theorem dX3_write_10 : decode cX3_write 10 = .ok (.if_icmp .ge 57, 3) := by decide +kernel
theorem dX3_write_13 : decode cX3_write 13 = .ok (.iconst 1, 1) := by decide +kernel
theorem dX3_write_14 : decode cX3_write 14 = .ok (.iload_n 3, 1) := by decide +kernel
theorem dX3_write_15 : decode cX3_write 15 = .ok (.ishl, 1) := by decide +kernel
theorem dX3_write_16 : decode cX3_write 16 = .ok (.istore 4, 2) := by decide +kernel
theorem dX3_write_18 : decode cX3_write 18 = .ok (.iload_n 1, 1) := by decide +kernel
theorem dX3_write_19 : decode cX3_write 19 = .ok (.iload_n 2, 1) := by decide +kernel
theorem dX3_write_20 : decode cX3_write 20 = .ok (.ior, 1) := by decide +kernel
theorem dX3_write_21 : decode cX3_write 21 = .ok (.iload 4, 2) := by decide +kernel
theorem dX3_write_23 : decode cX3_write 23 = .ok (.iand, 1) := by decide +kernel
theorem dX3_write_24 : decode cX3_write 24 = .ok (.ifCond .eq 37, 3) := by decide +kernel
theorem dX3_write_27 : decode cX3_write 27 = .ok (.aload_n 0, 1) := by decide +kernel
theorem dX3_write_28 : decode cX3_write 28 = .ok (.getfield 15, 3) := by decide +kernel
theorem dX3_write_31 : decode cX3_write 31 = .ok (.ifCond .le 9, 3) := by decide +kernel
theorem dX3_write_34 : decode cX3_write 34 = .ok (.aload_n 0, 1) := by decide +kernel
theorem dX3_write_35 : decode cX3_write 35 = .ok (.bipush 32, 2) := by decide +kernel
theorem dX3_write_37 : decode cX3_write 37 = .ok (.invokevirtual 19, 3) := by decide +kernel
theorem dX3_write_40 : decode cX3_write 40 = .ok (.iload_n 2, 1) := by decide +kernel
theorem dX3_write_41 : decode cX3_write 41 = .ok (.iload 4, 2) := by decide +kernel
theorem dX3_write_43 : decode cX3_write 43 = .ok (.iand, 1) := by decide +kernel
theorem dX3_write_44 : decode cX3_write 44 = .ok (.ifCond .eq 9, 3) := by decide +kernel
theorem dX3_write_47 : decode cX3_write 47 = .ok (.aload_n 0, 1) := by decide +kernel
theorem dX3_write_48 : decode cX3_write 48 = .ok (.bipush 45, 2) := by decide +kernel
theorem dX3_write_50 : decode cX3_write 50 = .ok (.invokevirtual 19, 3) := by decide +kernel
theorem dX3_write_53 : decode cX3_write 53 = .ok (.aload_n 0, 1) := by decide +kernel
theorem dX3_write_54 : decode cX3_write 54 = .ok (.bipush 97, 2) := by decide +kernel
theorem dX3_write_56 : decode cX3_write 56 = .ok (.iload_n 3, 1) := by decide +kernel
theorem dX3_write_57 : decode cX3_write 57 = .ok (.iadd, 1) := by decide +kernel
theorem dX3_write_58 : decode cX3_write 58 = .ok (.invokevirtual 19, 3) := by decide +kernel
theorem dX3_write_61 : decode cX3_write 61 = .ok (.iinc 3 1, 3) := by decide +kernel
theorem dX3_write_64 : decode cX3_write 64 = .ok (.goto (-57), 3) := by decide +kernel
theorem dX3_write_67 : decode cX3_write 67 = .ok (.aload_n 0, 1) := by decide +kernel
theorem dX3_write_68 : decode cX3_write 68 = .ok (.getfield 15, 3) := by decide +kernel
theorem dX3_write_71 : decode cX3_write 71 = .ok (.ifCond .ne 9, 3) := by decide +kernel
theorem dX3_write_74 : decode cX3_write 74 = .ok (.aload_n 0, 1) := by decide +kernel
theorem dX3_write_75 : decode cX3_write 75 = .ok (.bipush 35, 2) := by decide +kernel
theorem dX3_write_77 : decode cX3_write 77 = .ok (.invokevirtual 19, 3) := by decide +kernel
theorem dX3_write_80 : decode cX3_write 80 = .ok (.return_, 1) := by decide +kernel
theorem dX3_put_0 : decode cX3_put 0 = .ok (.aload_n 0, 1) := by decide +kernel
theorem dX3_put_1 : decode cX3_put 1 = .ok (.getfield 15, 3) := by decide +kernel
theorem dX3_put_4 : decode cX3_put 4 = .ok (.bipush 35, 2) := by decide +kernel
theorem dX3_put_6 : decode cX3_put 6 = .ok (.if_icmp .ge 24, 3) := by decide +kernel
theorem dX3_put_9 : decode cX3_put 9 = .ok (.aload_n 0, 1) := by decide +kernel
theorem dX3_put_10 : decode cX3_put 10 = .ok (.getfield 9, 3) := by decide +kernel
theorem dX3_put_13 : decode cX3_put 13 = .ok (.aload_n 0, 1) := by decide +kernel
theorem dX3_put_14 : decode cX3_put 14 = .ok (.getfield 15, 3) := by decide +kernel
theorem dX3_put_17 : decode cX3_put 17 = .ok (.iload_n 1, 1) := by decide +kernel
theorem dX3_put_18 : decode cX3_put 18 = .ok (.i2b, 1) := by decide +kernel
theorem dX3_put_19 : decode cX3_put 19 = .ok (.bastore, 1) := by decide +kernel
theorem dX3_put_20 : decode cX3_put 20 = .ok (.aload_n 0, 1) := by decide +kernel
theorem dX3_put_21 : decode cX3_put 21 = .ok (.dup, 1) := by decide +kernel
theorem dX3_put_22 : decode cX3_put 22 = .ok (.getfield 15, 3) := by decide +kernel
theorem dX3_put_25 : decode cX3_put 25 = .ok (.iconst 1, 1) := by decide +kernel
theorem dX3_put_26 : decode cX3_put 26 = .ok (.iadd, 1) := by decide +kernel
theorem dX3_put_27 : decode cX3_put 27 = .ok (.putfield 15, 3) := by decide +kernel
theorem dX3_put_30 : decode cX3_put 30 = .ok (.return_, 1) := by decide +kernel
theorem dX4_init_0 : decode cX4_init 0 = .ok (.aload_n 0, 1) := by decide +kernel
theorem dX4_init_1 : decode cX4_init 1 = .ok (.invokespecial 3, 3) := by decide +kernel
theorem dX4_init_4 : decode cX4_init 4 = .ok (.aload_n 0, 1) := by decide +kernel
theorem dX4_init_5 : decode cX4_init 5 = .ok (.iconst 0, 1) := by decide +kernel
theorem dX4_init_6 : decode cX4_init 6 = .ok (.putfield 9, 3) := by decide +kernel
theorem dX4_init_9 : decode cX4_init 9 = .ok (.aload_n 0, 1) := by decide +kernel
theorem dX4_init_10 : decode cX4_init 10 = .ok (.iconst 0, 1) := by decide +kernel
theorem dX4_init_11 : decode cX4_init 11 = .ok (.putfield 15, 3) := by decide +kernel
theorem dX4_init_14 : decode cX4_init 14 = .ok (.return_, 1) := by decide +kernel
set_option maxRecDepth 20000 in
theorem ggX4_run_X4_runRound : GoodIn wsX4_run wsX4_runRound := goodIn_r _ [7, 8, 9, 10, 2, 1, 11, 12, 13, 14, 15, 16, 17, 18, 19, 20, 21, 22, 23, 24, 25, 28, 29, 30, 31, 32, 33, 34, 35, 26, 27] rfl (by decide +kernel)
set_option maxRecDepth 20000 in
theorem gX4_run_X4_runRound : GoodIn wsX4_run (wsV RX4 18 RX4 yX4_runRound wsX4_runRound) := goodIn_app (goodIn_r _ [3, 4, 5, 6] rfl (by decide +kernel)) ggX4_run_X4_runRound
theorem dX4_run_0 : decode cX4_run 0 = .ok (.aload_n 0, 1) := by decide +kernel
theorem dX4_run_1 : decode cX4_run 1 = .ok (.iconst 0, 1) := by decide +kernel
theorem dX4_run_2 : decode cX4_run 2 = .ok (.putfield 9, 3) := by decide +kernel
theorem dX4_run_5 : decode cX4_run 5 = .ok (.aload_n 0, 1) := by decide +kernel
theorem dX4_run_6 : decode cX4_run 6 = .ok (.iconst 0, 1) := by decide +kernel
theorem dX4_run_7 : decode cX4_run 7 = .ok (.putfield 15, 3) := by decide +kernel
theorem dX4_run_10 : decode cX4_run 10 = .ok (.iconst 1, 1) := by decide +kernel
theorem dX4_run_11 : decode cX4_run 11 = .ok (.istore_n 2, 1) := by decide +kernel
theorem dX4_run_12 : decode cX4_run 12 = .ok (.iconst 0, 1) := by decide +kernel
theorem dX4_run_13 : decode cX4_run 13 = .ok (.istore_n 3, 1) := by decide +kernel
theorem dX4_run_14 : decode cX4_run 14 = .ok (.iload_n 2, 1) := by decide +kernel
theorem dX4_run_15 : decode cX4_run 15 = .ok (.ifCond .eq 21, 3) := by decide +kernel
theorem dX4_run_18 : decode cX4_run 18 = .ok (.iload_n 3, 1) := by decide +kernel
theorem dX4_run_19 : decode cX4_run 19 = .ok (.bipush 24, 2) := by decide +kernel
theorem dX4_run_21 : decode cX4_run 21 = .ok (.if_icmp .gt 15, 3) := by decide +kernel
theorem dX4_run_24 : decode cX4_run 24 = .ok (.aload_n 0, 1) := by decide +kernel
theorem dX4_run_25 : decode cX4_run 25 = .ok (.aload_n 1, 1) := by decide +kernel
theorem dX4_run_26 : decode cX4_run 26 = .ok (.invokevirtual 18, 3) := by decide +kernel
theorem dX4_run_29 : decode cX4_run 29 = .ok (.istore_n 2, 1) := by decide +kernel
theorem dX4_run_30 : decode cX4_run 30 = .ok (.iinc 3 1, 3) := by decide +kernel
theorem dX4_run_33 : decode cX4_run 33 = .ok (.goto (-19), 3) := by decide +kernel
theorem dX4_run_36 : decode cX4_run 36 = .ok (.return_, 1) := by decide +kernel
set_option maxRecDepth 20000 in
theorem ggX4_runRound_X0_literalsIn : GoodIn wsX4_runRound wsX0_literalsIn := goodIn_r _ [10, 11, 12, 13, 14, 15, 16, 17, 18, 19, 21, 22, 23, 24, 25, 26, 27, 28] rfl (by decide +kernel)
set_option maxRecDepth 20000 in
theorem gX4_runRound_X0_literalsIn : GoodIn wsX4_runRound (wsV RX4 34 RX0 yX0_literalsIn wsX0_literalsIn) := goodIn_app (goodIn_r _ [6, 7, 8, 9] rfl (by decide +kernel)) ggX4_runRound_X0_literalsIn
set_option maxRecDepth 20000 in
theorem ggX4_runRound_J6_bitCount_0f7a4 : GoodIn wsX4_runRound wsJ6_bitCount_0f7a4 := goodIn_r _ [16, 17, 18, 19] rfl (by decide +kernel)
set_option maxRecDepth 20000 in
theorem gX4_runRound_J6_bitCount_0f7a4 : GoodIn wsX4_runRound (va_wsS RX4 38 yJ6_bitCount_0f7a4 wsJ6_bitCount_0f7a4) := goodIn_app (goodIn_r _ [20, 14, 15] rfl (by decide +kernel)) ggX4_runRound_J6_bitCount_0f7a4
theorem dX4_runRound_0 : decode cX4_runRound 0 = .ok (.iconst 0, 1) := by decide +kernel
theorem dX4_runRound_1 : decode cX4_runRound 1 = .ok (.istore_n 2, 1) := by decide +kernel
theorem dX4_runRound_2 : decode cX4_runRound 2 = .ok (.iconst 0, 1) := by decide +kernel
theorem dX4_runRound_3 : decode cX4_runRound 3 = .ok (.istore_n 3, 1) := by decide +kernel
theorem dX4_runRound_4 : decode cX4_runRound 4 = .ok (.iload_n 3, 1) := by decide +kernel
theorem dX4_runRound_5 : decode cX4_runRound 5 = .ok (.aload_n 1, 1) := by decide +kernel
theorem dX4_runRound_6 : decode cX4_runRound 6 = .ok (.getfield 22, 3) := by decide +kernel
theorem dX4_runRound_9 : decode cX4_runRound 9 = .ok (.if_icmp .ge 125, 3) := by decide +kernel
theorem dX4_runRound_12 : decode cX4_runRound 12 = .ok (.aload_n 1, 1) := by decide +kernel
theorem dX4_runRound_13 : decode cX4_runRound 13 = .ok (.getfield 27, 3) := by decide +kernel
theorem dX4_runRound_16 : decode cX4_runRound 16 = .ok (.iload_n 3, 1) := by decide +kernel
theorem dX4_runRound_17 : decode cX4_runRound 17 = .ok (.iaload, 1) := by decide +kernel
theorem dX4_runRound_18 : decode cX4_runRound 18 = .ok (.istore 4, 2) := by decide +kernel
theorem dX4_runRound_20 : decode cX4_runRound 20 = .ok (.aload_n 1, 1) := by decide +kernel
theorem dX4_runRound_21 : decode cX4_runRound 21 = .ok (.getfield 31, 3) := by decide +kernel
theorem dX4_runRound_24 : decode cX4_runRound 24 = .ok (.iload_n 3, 1) := by decide +kernel
theorem dX4_runRound_25 : decode cX4_runRound 25 = .ok (.iaload, 1) := by decide +kernel
theorem dX4_runRound_26 : decode cX4_runRound 26 = .ok (.istore 5, 2) := by decide +kernel
theorem dX4_runRound_28 : decode cX4_runRound 28 = .ok (.aload_n 1, 1) := by decide +kernel
theorem dX4_runRound_29 : decode cX4_runRound 29 = .ok (.iload_n 3, 1) := by decide +kernel
theorem dX4_runRound_30 : decode cX4_runRound 30 = .ok (.invokevirtual 34, 3) := by decide +kernel
theorem dX4_runRound_33 : decode cX4_runRound 33 = .ok (.iconst 1, 1) := by decide +kernel
theorem dX4_runRound_34 : decode cX4_runRound 34 = .ok (.if_icmp .eq 25, 3) := by decide +kernel
theorem dX4_runRound_37 : decode cX4_runRound 37 = .ok (.iload 4, 2) := by decide +kernel
theorem dX4_runRound_39 : decode cX4_runRound 39 = .ok (.aload_n 0, 1) := by decide +kernel
theorem dX4_runRound_40 : decode cX4_runRound 40 = .ok (.getfield 15, 3) := by decide +kernel
theorem dX4_runRound_43 : decode cX4_runRound 43 = .ok (.iconst (-1), 1) := by decide +kernel
theorem dX4_runRound_44 : decode cX4_runRound 44 = .ok (.ixor, 1) := by decide +kernel
theorem dX4_runRound_45 : decode cX4_runRound 45 = .ok (.iand, 1) := by decide +kernel
theorem dX4_runRound_46 : decode cX4_runRound 46 = .ok (.istore 4, 2) := by decide +kernel
theorem dX4_runRound_48 : decode cX4_runRound 48 = .ok (.iload 5, 2) := by decide +kernel
theorem dX4_runRound_50 : decode cX4_runRound 50 = .ok (.aload_n 0, 1) := by decide +kernel
theorem dX4_runRound_51 : decode cX4_runRound 51 = .ok (.getfield 9, 3) := by decide +kernel
theorem dX4_runRound_54 : decode cX4_runRound 54 = .ok (.iconst (-1), 1) := by decide +kernel
theorem dX4_runRound_55 : decode cX4_runRound 55 = .ok (.ixor, 1) := by decide +kernel
theorem dX4_runRound_56 : decode cX4_runRound 56 = .ok (.iand, 1) := by decide +kernel
theorem dX4_runRound_57 : decode cX4_runRound 57 = .ok (.istore 5, 2) := by decide +kernel
theorem dX4_runRound_59 : decode cX4_runRound 59 = .ok (.iload 4, 2) := by decide +kernel
theorem dX4_runRound_61 : decode cX4_runRound 61 = .ok (.invokestatic 38, 3) := by decide +kernel
theorem dX4_runRound_64 : decode cX4_runRound 64 = .ok (.iload 5, 2) := by decide +kernel
theorem dX4_runRound_66 : decode cX4_runRound 66 = .ok (.invokestatic 38, 3) := by decide +kernel
theorem dX4_runRound_69 : decode cX4_runRound 69 = .ok (.iadd, 1) := by decide +kernel
theorem dX4_runRound_70 : decode cX4_runRound 70 = .ok (.iconst 1, 1) := by decide +kernel
theorem dX4_runRound_71 : decode cX4_runRound 71 = .ok (.if_icmp .ne 57, 3) := by decide +kernel
theorem dX4_runRound_74 : decode cX4_runRound 74 = .ok (.iload_n 2, 1) := by decide +kernel
theorem dX4_runRound_75 : decode cX4_runRound 75 = .ok (.iload 4, 2) := by decide +kernel
theorem dX4_runRound_77 : decode cX4_runRound 77 = .ok (.aload_n 0, 1) := by decide +kernel
theorem dX4_runRound_78 : decode cX4_runRound 78 = .ok (.getfield 9, 3) := by decide +kernel
theorem dX4_runRound_81 : decode cX4_runRound 81 = .ok (.iconst (-1), 1) := by decide +kernel
theorem dX4_runRound_82 : decode cX4_runRound 82 = .ok (.ixor, 1) := by decide +kernel
theorem dX4_runRound_83 : decode cX4_runRound 83 = .ok (.iand, 1) := by decide +kernel
theorem dX4_runRound_84 : decode cX4_runRound 84 = .ok (.ifCond .ne 15, 3) := by decide +kernel
theorem dX4_runRound_87 : decode cX4_runRound 87 = .ok (.iload 5, 2) := by decide +kernel
theorem dX4_runRound_89 : decode cX4_runRound 89 = .ok (.aload_n 0, 1) := by decide +kernel
theorem dX4_runRound_90 : decode cX4_runRound 90 = .ok (.getfield 15, 3) := by decide +kernel
theorem dX4_runRound_93 : decode cX4_runRound 93 = .ok (.iconst (-1), 1) := by decide +kernel
theorem dX4_runRound_94 : decode cX4_runRound 94 = .ok (.ixor, 1) := by decide +kernel
theorem dX4_runRound_95 : decode cX4_runRound 95 = .ok (.iand, 1) := by decide +kernel
theorem dX4_runRound_96 : decode cX4_runRound 96 = .ok (.ifCond .eq 7, 3) := by decide +kernel
theorem dX4_runRound_99 : decode cX4_runRound 99 = .ok (.iconst 1, 1) := by decide +kernel
theorem dX4_runRound_100 : decode cX4_runRound 100 = .ok (.goto 4, 3) := by decide +kernel
theorem dX4_runRound_103 : decode cX4_runRound 103 = .ok (.iconst 0, 1) := by decide +kernel
theorem dX4_runRound_104 : decode cX4_runRound 104 = .ok (.ior, 1) := by decide +kernel
theorem dX4_runRound_105 : decode cX4_runRound 105 = .ok (.istore_n 2, 1) := by decide +kernel
theorem dX4_runRound_106 : decode cX4_runRound 106 = .ok (.aload_n 0, 1) := by decide +kernel
theorem dX4_runRound_107 : decode cX4_runRound 107 = .ok (.dup, 1) := by decide +kernel
theorem dX4_runRound_108 : decode cX4_runRound 108 = .ok (.getfield 9, 3) := by decide +kernel
theorem dX4_runRound_111 : decode cX4_runRound 111 = .ok (.iload 4, 2) := by decide +kernel
theorem dX4_runRound_113 : decode cX4_runRound 113 = .ok (.ior, 1) := by decide +kernel
theorem dX4_runRound_114 : decode cX4_runRound 114 = .ok (.putfield 9, 3) := by decide +kernel
theorem dX4_runRound_117 : decode cX4_runRound 117 = .ok (.aload_n 0, 1) := by decide +kernel
theorem dX4_runRound_118 : decode cX4_runRound 118 = .ok (.dup, 1) := by decide +kernel
theorem dX4_runRound_119 : decode cX4_runRound 119 = .ok (.getfield 15, 3) := by decide +kernel
theorem dX4_runRound_122 : decode cX4_runRound 122 = .ok (.iload 5, 2) := by decide +kernel
theorem dX4_runRound_124 : decode cX4_runRound 124 = .ok (.ior, 1) := by decide +kernel
theorem dX4_runRound_125 : decode cX4_runRound 125 = .ok (.putfield 15, 3) := by decide +kernel
theorem dX4_runRound_128 : decode cX4_runRound 128 = .ok (.iinc 3 1, 3) := by decide +kernel
theorem dX4_runRound_131 : decode cX4_runRound 131 = .ok (.goto (-127), 3) := by decide +kernel
theorem dX4_runRound_134 : decode cX4_runRound 134 = .ok (.iload_n 2, 1) := by decide +kernel
theorem dX4_runRound_135 : decode cX4_runRound 135 = .ok (.ireturn, 1) := by decide +kernel
set_option maxRecDepth 20000 in
theorem ggX4_isContradictory_X0_isSomeWithin : GoodIn wsX4_isContradictory wsX0_isSomeWithin := goodIn_r _ [7, 8, 9, 10, 11, 6, 12, 13, 14, 17, 18, 19, 20, 21, 22, 23, 24] rfl (by decide +kernel)
set_option maxRecDepth 20000 in
theorem gX4_isContradictory_X0_isSomeWithin : GoodIn wsX4_isContradictory (wsV RX4 43 RX0 yX0_isSomeWithin wsX0_isSomeWithin) := goodIn_app (goodIn_r _ [3, 4, 5, 6] rfl (by decide +kernel)) ggX4_isContradictory_X0_isSomeWithin
theorem dX4_isContradictory_0 : decode cX4_isContradictory 0 = .ok (.aload_n 0, 1) := by decide +kernel
theorem dX4_isContradictory_1 : decode cX4_isContradictory 1 = .ok (.getfield 9, 3) := by decide +kernel
theorem dX4_isContradictory_4 : decode cX4_isContradictory 4 = .ok (.aload_n 0, 1) := by decide +kernel
theorem dX4_isContradictory_5 : decode cX4_isContradictory 5 = .ok (.getfield 15, 3) := by decide +kernel
theorem dX4_isContradictory_8 : decode cX4_isContradictory 8 = .ok (.iand, 1) := by decide +kernel
theorem dX4_isContradictory_9 : decode cX4_isContradictory 9 = .ok (.ifCond .ne 18, 3) := by decide +kernel
theorem dX4_isContradictory_12 : decode cX4_isContradictory 12 = .ok (.aload_n 1, 1) := by decide +kernel
theorem dX4_isContradictory_13 : decode cX4_isContradictory 13 = .ok (.aload_n 0, 1) := by decide +kernel
theorem dX4_isContradictory_14 : decode cX4_isContradictory 14 = .ok (.getfield 15, 3) := by decide +kernel
theorem dX4_isContradictory_17 : decode cX4_isContradictory 17 = .ok (.aload_n 0, 1) := by decide +kernel
theorem dX4_isContradictory_18 : decode cX4_isContradictory 18 = .ok (.getfield 9, 3) := by decide +kernel
theorem dX4_isContradictory_21 : decode cX4_isContradictory 21 = .ok (.invokevirtual 43, 3) := by decide +kernel
theorem dX4_isContradictory_24 : decode cX4_isContradictory 24 = .ok (.ifCond .eq 7, 3) := by decide +kernel
theorem dX4_isContradictory_27 : decode cX4_isContradictory 27 = .ok (.iconst 1, 1) := by decide +kernel
theorem dX4_isContradictory_28 : decode cX4_isContradictory 28 = .ok (.goto 4, 3) := by decide +kernel
theorem dX4_isContradictory_31 : decode cX4_isContradictory 31 = .ok (.iconst 0, 1) := by decide +kernel
theorem dX4_isContradictory_32 : decode cX4_isContradictory 32 = .ok (.ireturn, 1) := by decide +kernel
theorem dX5_init_0 : decode cX5_init 0 = .ok (.aload_n 0, 1) := by decide +kernel
theorem dX5_init_1 : decode cX5_init 1 = .ok (.invokespecial 3, 3) := by decide +kernel
theorem dX5_init_4 : decode cX5_init 4 = .ok (.aload_n 0, 1) := by decide +kernel
theorem dX5_init_5 : decode cX5_init 5 = .ok (.iconst 0, 1) := by decide +kernel
theorem dX5_init_6 : decode cX5_init 6 = .ok (.putfield 9, 3) := by decide +kernel
theorem dX5_init_9 : decode cX5_init 9 = .ok (.aload_n 0, 1) := by decide +kernel
theorem dX5_init_10 : decode cX5_init 10 = .ok (.iconst 1, 1) := by decide +kernel
theorem dX5_init_11 : decode cX5_init 11 = .ok (.putfield 15, 3) := by decide +kernel
theorem dX5_init_14 : decode cX5_init 14 = .ok (.return_, 1) := by decide +kernel
theorem dX5_begin_0 : decode cX5_begin 0 = .ok (.aload_n 0, 1) := by decide +kernel
theorem dX5_begin_1 : decode cX5_begin 1 = .ok (.iconst 0, 1) := by decide +kernel
theorem dX5_begin_2 : decode cX5_begin 2 = .ok (.putfield 9, 3) := by decide +kernel
theorem dX5_begin_5 : decode cX5_begin 5 = .ok (.aload_n 0, 1) := by decide +kernel
theorem dX5_begin_6 : decode cX5_begin 6 = .ok (.iconst 1, 1) := by decide +kernel
theorem dX5_begin_7 : decode cX5_begin 7 = .ok (.putfield 15, 3) := by decide +kernel
theorem dX5_begin_10 : decode cX5_begin 10 = .ok (.return_, 1) := by decide +kernel
set_option maxRecDepth 20000 in
theorem ggX5_findStep_X0_isFull : GoodIn wsX5_findStep wsX0_isFull := goodIn_r _ [8, 9, 49, 50, 51, 52, 53, 54, 55, 56] rfl (by decide +kernel)
set_option maxRecDepth 20000 in
theorem gX5_findStep_X0_isFull : GoodIn wsX5_findStep (wsV RX5 18 RX0 yX0_isFull wsX0_isFull) := goodIn_app (goodIn_r _ [4, 5, 6, 7] rfl (by decide +kernel)) ggX5_findStep_X0_isFull
set_option maxRecDepth 20000 in
theorem ggX5_findStep_X0_indexOf : GoodIn wsX5_findStep wsX0_indexOf := goodIn_r _ [13, 9, 14, 15, 49, 50, 51, 52, 53, 54, 55, 56] rfl (by decide +kernel)
set_option maxRecDepth 20000 in
theorem gX5_findStep_X0_indexOf : GoodIn wsX5_findStep (wsV RX5 24 RX0 yX0_indexOf wsX0_indexOf) := goodIn_app (goodIn_r _ [10, 11, 12, 7] rfl (by decide +kernel)) ggX5_findStep_X0_indexOf
set_option maxRecDepth 20000 in
theorem ggX5_findStep_X0_clashOnce : GoodIn wsX5_findStep wsX0_clashOnce := goodIn_r _ [19, 20, 21, 22, 7, 23, 14, 15, 24, 25, 26, 27, 28, 29, 30, 49, 50, 51, 52, 53, 54, 55, 56] rfl (by decide +kernel)
set_option maxRecDepth 20000 in
theorem gX5_findStep_X0_clashOnce : GoodIn wsX5_findStep (wsV RX5 31 RX0 yX0_clashOnce wsX0_clashOnce) := goodIn_app (goodIn_r _ [16, 17, 18, 7] rfl (by decide +kernel)) ggX5_findStep_X0_clashOnce
set_option maxRecDepth 20000 in
theorem ggX5_findStep_X0_mergedPositive : GoodIn wsX5_findStep wsX0_mergedPositive := goodIn_r _ [34, 14, 20, 21, 22, 7, 23, 15, 49, 50, 51, 52, 53, 54, 55, 56] rfl (by decide +kernel)
set_option maxRecDepth 20000 in
theorem gX5_findStep_X0_mergedPositive : GoodIn wsX5_findStep (wsV RX5 35 RX0 yX0_mergedPositive wsX0_mergedPositive) := goodIn_app (goodIn_r _ [31, 32, 33, 7] rfl (by decide +kernel)) ggX5_findStep_X0_mergedPositive
set_option maxRecDepth 20000 in
theorem ggX5_findStep_X0_mergedNegative : GoodIn wsX5_findStep wsX0_mergedNegative := goodIn_r _ [38, 15, 20, 21, 22, 7, 23, 14, 49, 50, 51, 52, 53, 54, 55, 56] rfl (by decide +kernel)
set_option maxRecDepth 20000 in
theorem gX5_findStep_X0_mergedNegative : GoodIn wsX5_findStep (wsV RX5 38 RX0 yX0_mergedNegative wsX0_mergedNegative) := goodIn_app (goodIn_r _ [35, 36, 37, 7] rfl (by decide +kernel)) ggX5_findStep_X0_mergedNegative
set_option maxRecDepth 20000 in
theorem ggX5_findStep_X0_isSomeWithin : GoodIn wsX5_findStep wsX0_isSomeWithin := goodIn_r _ [42, 9, 43, 44, 45, 7, 46, 14, 15, 49, 50, 51, 52, 53, 54, 55, 56] rfl (by decide +kernel)
set_option maxRecDepth 20000 in
theorem gX5_findStep_X0_isSomeWithin : GoodIn wsX5_findStep (wsV RX5 41 RX0 yX0_isSomeWithin wsX0_isSomeWithin) := goodIn_app (goodIn_r _ [39, 40, 41, 7] rfl (by decide +kernel)) ggX5_findStep_X0_isSomeWithin
theorem dX5_findStep_0 : decode cX5_findStep 0 = .ok (.aload_n 1, 1) := by decide +kernel
theorem dX5_findStep_1 : decode cX5_findStep 1 = .ok (.invokevirtual 18, 3) := by decide +kernel
theorem dX5_findStep_4 : decode cX5_findStep 4 = .ok (.ifCond .ne 13, 3) := by decide +kernel
theorem dX5_findStep_7 : decode cX5_findStep 7 = .ok (.aload_n 1, 1) := by decide +kernel
theorem dX5_findStep_8 : decode cX5_findStep 8 = .ok (.iconst 0, 1) := by decide +kernel
theorem dX5_findStep_9 : decode cX5_findStep 9 = .ok (.iconst 0, 1) := by decide +kernel
theorem dX5_findStep_10 : decode cX5_findStep 10 = .ok (.invokevirtual 24, 3) := by decide +kernel
theorem dX5_findStep_13 : decode cX5_findStep 13 = .ok (.iconst (-1), 1) := by decide +kernel
theorem dX5_findStep_14 : decode cX5_findStep 14 = .ok (.if_icmp .eq 5, 3) := by decide +kernel
theorem dX5_findStep_17 : decode cX5_findStep 17 = .ok (.iconst 0, 1) := by decide +kernel
theorem dX5_findStep_18 : decode cX5_findStep 18 = .ok (.ireturn, 1) := by decide +kernel
theorem dX5_findStep_19 : decode cX5_findStep 19 = .ok (.aload_n 0, 1) := by decide +kernel
theorem dX5_findStep_20 : decode cX5_findStep 20 = .ok (.getfield 15, 3) := by decide +kernel
theorem dX5_findStep_23 : decode cX5_findStep 23 = .ok (.aload_n 1, 1) := by decide +kernel
theorem dX5_findStep_24 : decode cX5_findStep 24 = .ok (.getfield 28, 3) := by decide +kernel
theorem dX5_findStep_27 : decode cX5_findStep 27 = .ok (.if_icmp .ge 93, 3) := by decide +kernel
theorem dX5_findStep_30 : decode cX5_findStep 30 = .ok (.aload_n 0, 1) := by decide +kernel
theorem dX5_findStep_31 : decode cX5_findStep 31 = .ok (.getfield 9, 3) := by decide +kernel
theorem dX5_findStep_34 : decode cX5_findStep 34 = .ok (.aload_n 0, 1) := by decide +kernel
theorem dX5_findStep_35 : decode cX5_findStep 35 = .ok (.getfield 15, 3) := by decide +kernel
theorem dX5_findStep_38 : decode cX5_findStep 38 = .ok (.if_icmp .ge 64, 3) := by decide +kernel
theorem dX5_findStep_41 : decode cX5_findStep 41 = .ok (.aload_n 1, 1) := by decide +kernel
theorem dX5_findStep_42 : decode cX5_findStep 42 = .ok (.aload_n 0, 1) := by decide +kernel
theorem dX5_findStep_43 : decode cX5_findStep 43 = .ok (.getfield 9, 3) := by decide +kernel
theorem dX5_findStep_46 : decode cX5_findStep 46 = .ok (.aload_n 0, 1) := by decide +kernel
theorem dX5_findStep_47 : decode cX5_findStep 47 = .ok (.getfield 15, 3) := by decide +kernel
theorem dX5_findStep_50 : decode cX5_findStep 50 = .ok (.invokevirtual 31, 3) := by decide +kernel
theorem dX5_findStep_53 : decode cX5_findStep 53 = .ok (.ifCond .eq 36, 3) := by decide +kernel
theorem dX5_findStep_56 : decode cX5_findStep 56 = .ok (.aload_n 1, 1) := by decide +kernel
theorem dX5_findStep_57 : decode cX5_findStep 57 = .ok (.aload_n 1, 1) := by decide +kernel
theorem dX5_findStep_58 : decode cX5_findStep 58 = .ok (.aload_n 0, 1) := by decide +kernel
theorem dX5_findStep_59 : decode cX5_findStep 59 = .ok (.getfield 9, 3) := by decide +kernel
theorem dX5_findStep_62 : decode cX5_findStep 62 = .ok (.aload_n 0, 1) := by decide +kernel
theorem dX5_findStep_63 : decode cX5_findStep 63 = .ok (.getfield 15, 3) := by decide +kernel
theorem dX5_findStep_66 : decode cX5_findStep 66 = .ok (.invokevirtual 35, 3) := by decide +kernel
theorem dX5_findStep_69 : decode cX5_findStep 69 = .ok (.aload_n 1, 1) := by decide +kernel
theorem dX5_findStep_70 : decode cX5_findStep 70 = .ok (.aload_n 0, 1) := by decide +kernel
theorem dX5_findStep_71 : decode cX5_findStep 71 = .ok (.getfield 9, 3) := by decide +kernel
theorem dX5_findStep_74 : decode cX5_findStep 74 = .ok (.aload_n 0, 1) := by decide +kernel
theorem dX5_findStep_75 : decode cX5_findStep 75 = .ok (.getfield 15, 3) := by decide +kernel
theorem dX5_findStep_78 : decode cX5_findStep 78 = .ok (.invokevirtual 38, 3) := by decide +kernel
theorem dX5_findStep_81 : decode cX5_findStep 81 = .ok (.invokevirtual 41, 3) := by decide +kernel
theorem dX5_findStep_84 : decode cX5_findStep 84 = .ok (.ifCond .ne 5, 3) := by decide +kernel
theorem dX5_findStep_87 : decode cX5_findStep 87 = .ok (.iconst 1, 1) := by decide +kernel
theorem dX5_findStep_88 : decode cX5_findStep 88 = .ok (.ireturn, 1) := by decide +kernel
theorem dX5_findStep_89 : decode cX5_findStep 89 = .ok (.aload_n 0, 1) := by decide +kernel
theorem dX5_findStep_90 : decode cX5_findStep 90 = .ok (.dup, 1) := by decide +kernel
theorem dX5_findStep_91 : decode cX5_findStep 91 = .ok (.getfield 9, 3) := by decide +kernel
theorem dX5_findStep_94 : decode cX5_findStep 94 = .ok (.iconst 1, 1) := by decide +kernel
theorem dX5_findStep_95 : decode cX5_findStep 95 = .ok (.iadd, 1) := by decide +kernel
theorem dX5_findStep_96 : decode cX5_findStep 96 = .ok (.putfield 9, 3) := by decide +kernel
theorem dX5_findStep_99 : decode cX5_findStep 99 = .ok (.goto (-69), 3) := by decide +kernel
theorem dX5_findStep_102 : decode cX5_findStep 102 = .ok (.aload_n 0, 1) := by decide +kernel
theorem dX5_findStep_103 : decode cX5_findStep 103 = .ok (.iconst 0, 1) := by decide +kernel
theorem dX5_findStep_104 : decode cX5_findStep 104 = .ok (.putfield 9, 3) := by decide +kernel
theorem dX5_findStep_107 : decode cX5_findStep 107 = .ok (.aload_n 0, 1) := by decide +kernel
theorem dX5_findStep_108 : decode cX5_findStep 108 = .ok (.dup, 1) := by decide +kernel
theorem dX5_findStep_109 : decode cX5_findStep 109 = .ok (.getfield 15, 3) := by decide +kernel
theorem dX5_findStep_112 : decode cX5_findStep 112 = .ok (.iconst 1, 1) := by decide +kernel
theorem dX5_findStep_113 : decode cX5_findStep 113 = .ok (.iadd, 1) := by decide +kernel
theorem dX5_findStep_114 : decode cX5_findStep 114 = .ok (.putfield 15, 3) := by decide +kernel
theorem dX5_findStep_117 : decode cX5_findStep 117 = .ok (.goto (-98), 3) := by decide +kernel
theorem dX5_findStep_120 : decode cX5_findStep 120 = .ok (.iconst 0, 1) := by decide +kernel
theorem dX5_findStep_121 : decode cX5_findStep 121 = .ok (.ireturn, 1) := by decide +kernel
set_option maxRecDepth 20000 in
theorem ggX5_makeSteps_X5_begin : GoodIn wsX5_makeSteps wsX5_begin := goodIn_r _ [7, 1, 2, 79, 80] rfl (by decide +kernel)
set_option maxRecDepth 20000 in
theorem gX5_makeSteps_X5_begin : GoodIn wsX5_makeSteps (wsV RX5 44 RX5 yX5_begin wsX5_begin) := goodIn_app (goodIn_r _ [3, 4, 5, 6] rfl (by decide +kernel)) ggX5_makeSteps_X5_begin
set_option maxRecDepth 20000 in
theorem ggX5_makeSteps_X5_findStep : GoodIn wsX5_makeSteps wsX5_findStep := goodIn_r _ [11, 2, 12, 1, 13, 14, 15, 16, 17, 18, 19, 20, 21, 22, 23, 24, 25, 26, 27, 28, 29, 30, 31, 32, 33, 34, 35, 36, 37, 38, 39, 40, 41, 42, 43, 44, 45, 46, 47, 48, 49, 50, 51, 52, 53, 54, 55, 79, 80, 81, 82, 83, 84, 85, 86, 87, 88] rfl (by decide +kernel)
set_option maxRecDepth 20000 in
theorem gX5_makeSteps_X5_findStep : GoodIn wsX5_makeSteps (wsV RX5 47 RX5 yX5_findStep wsX5_findStep) := goodIn_app (goodIn_r _ [8, 9, 10, 6] rfl (by decide +kernel)) ggX5_makeSteps_X5_findStep
set_option maxRecDepth 20000 in
theorem ggX5_makeSteps_X0_addResolvent : GoodIn wsX5_makeSteps wsX0_addResolvent := goodIn_r _ [59, 23, 60, 61, 62, 63, 64, 65, 66, 67, 29, 30, 31, 16, 32, 24, 68, 41, 42, 43, 69, 45, 46, 47, 70, 71, 72, 73, 18, 74, 14, 15, 17, 75, 76, 35, 77, 78, 81, 82, 83, 84, 85, 86, 87, 88] rfl (by decide +kernel)
set_option maxRecDepth 20000 in
theorem gX5_makeSteps_X0_addResolvent : GoodIn wsX5_makeSteps (wsV RX5 51 RX0 yX0_addResolvent wsX0_addResolvent) := goodIn_app (goodIn_r _ [56, 57, 58, 16] rfl (by decide +kernel)) ggX5_makeSteps_X0_addResolvent
theorem dX5_makeSteps_0 : decode cX5_makeSteps 0 = .ok (.aload_n 0, 1) := by decide +kernel
theorem dX5_makeSteps_1 : decode cX5_makeSteps 1 = .ok (.invokevirtual 44, 3) := by decide +kernel
theorem dX5_makeSteps_4 : decode cX5_makeSteps 4 = .ok (.iconst 0, 1) := by decide +kernel
theorem dX5_makeSteps_5 : decode cX5_makeSteps 5 = .ok (.istore_n 3, 1) := by decide +kernel
theorem dX5_makeSteps_6 : decode cX5_makeSteps 6 = .ok (.iload_n 3, 1) := by decide +kernel
theorem dX5_makeSteps_7 : decode cX5_makeSteps 7 = .ok (.iload_n 2, 1) := by decide +kernel
theorem dX5_makeSteps_8 : decode cX5_makeSteps 8 = .ok (.if_icmp .ge 30, 3) := by decide +kernel
theorem dX5_makeSteps_11 : decode cX5_makeSteps 11 = .ok (.aload_n 0, 1) := by decide +kernel
theorem dX5_makeSteps_12 : decode cX5_makeSteps 12 = .ok (.aload_n 1, 1) := by decide +kernel
theorem dX5_makeSteps_13 : decode cX5_makeSteps 13 = .ok (.invokevirtual 47, 3) := by decide +kernel
theorem dX5_makeSteps_16 : decode cX5_makeSteps 16 = .ok (.ifCond .eq 22, 3) := by decide +kernel
theorem dX5_makeSteps_19 : decode cX5_makeSteps 19 = .ok (.aload_n 1, 1) := by decide +kernel
theorem dX5_makeSteps_20 : decode cX5_makeSteps 20 = .ok (.aload_n 0, 1) := by decide +kernel
theorem dX5_makeSteps_21 : decode cX5_makeSteps 21 = .ok (.getfield 9, 3) := by decide +kernel
theorem dX5_makeSteps_24 : decode cX5_makeSteps 24 = .ok (.aload_n 0, 1) := by decide +kernel
theorem dX5_makeSteps_25 : decode cX5_makeSteps 25 = .ok (.getfield 15, 3) := by decide +kernel
theorem dX5_makeSteps_28 : decode cX5_makeSteps 28 = .ok (.invokevirtual 51, 3) := by decide +kernel
theorem dX5_makeSteps_31 : decode cX5_makeSteps 31 = .ok (.pop, 1) := by decide +kernel
theorem dX5_makeSteps_32 : decode cX5_makeSteps 32 = .ok (.iinc 3 1, 3) := by decide +kernel
theorem dX5_makeSteps_35 : decode cX5_makeSteps 35 = .ok (.goto (-29), 3) := by decide +kernel
theorem dX5_makeSteps_38 : decode cX5_makeSteps 38 = .ok (.iload_n 3, 1) := by decide +kernel
theorem dX5_makeSteps_39 : decode cX5_makeSteps 39 = .ok (.ireturn, 1) := by decide +kernel
theorem dX7_init_0 : decode cX7_init 0 = .ok (.aload_n 0, 1) := by decide +kernel
theorem dX7_init_1 : decode cX7_init 1 = .ok (.invokespecial 3, 3) := by decide +kernel
theorem dX7_init_4 : decode cX7_init 4 = .ok (.aload_n 0, 1) := by decide +kernel
theorem dX7_init_5 : decode cX7_init 5 = .ok (.sipush 500, 3) := by decide +kernel
theorem dX7_init_8 : decode cX7_init 8 = .ok (.newarray .byte, 2) := by decide +kernel
theorem dX7_init_10 : decode cX7_init 10 = .ok (.putfield 9, 3) := by decide +kernel
theorem dX7_init_13 : decode cX7_init 13 = .ok (.aload_n 0, 1) := by decide +kernel
theorem dX7_init_14 : decode cX7_init 14 = .ok (.iconst 0, 1) := by decide +kernel
theorem dX7_init_15 : decode cX7_init 15 = .ok (.putfield 15, 3) := by decide +kernel
theorem dX7_init_18 : decode cX7_init 18 = .ok (.aload_n 0, 1) := by decide +kernel
theorem dX7_init_19 : decode cX7_init 19 = .ok (.iconst 0, 1) := by decide +kernel
theorem dX7_init_20 : decode cX7_init 20 = .ok (.putfield 19, 3) := by decide +kernel
theorem dX7_init_23 : decode cX7_init 23 = .ok (.aload_n 0, 1) := by decide +kernel
theorem dX7_init_24 : decode cX7_init 24 = .ok (.iconst 0, 1) := by decide +kernel
theorem dX7_init_25 : decode cX7_init 25 = .ok (.putfield 22, 3) := by decide +kernel
theorem dX7_init_28 : decode cX7_init 28 = .ok (.aload_n 0, 1) := by decide +kernel
theorem dX7_init_29 : decode cX7_init 29 = .ok (.iconst 0, 1) := by decide +kernel
theorem dX7_init_30 : decode cX7_init 30 = .ok (.putfield 25, 3) := by decide +kernel
theorem dX7_init_33 : decode cX7_init 33 = .ok (.return_, 1) := by decide +kernel
theorem dX7_addFour_0 : decode cX7_addFour 0 = .ok (.bipush 24, 2) := by decide +kernel
theorem dX7_addFour_2 : decode cX7_addFour 2 = .ok (.istore_n 2, 1) := by decide +kernel
theorem dX7_addFour_3 : decode cX7_addFour 3 = .ok (.iload_n 2, 1) := by decide +kernel
theorem dX7_addFour_4 : decode cX7_addFour 4 = .ok (.ifCond .lt 42, 3) := by decide +kernel
theorem dX7_addFour_7 : decode cX7_addFour 7 = .ok (.aload_n 0, 1) := by decide +kernel
theorem dX7_addFour_8 : decode cX7_addFour 8 = .ok (.getfield 15, 3) := by decide +kernel
theorem dX7_addFour_11 : decode cX7_addFour 11 = .ok (.sipush 500, 3) := by decide +kernel
theorem dX7_addFour_14 : decode cX7_addFour 14 = .ok (.if_icmp .ge 32, 3) := by decide +kernel
theorem dX7_addFour_17 : decode cX7_addFour 17 = .ok (.aload_n 0, 1) := by decide +kernel
theorem dX7_addFour_18 : decode cX7_addFour 18 = .ok (.getfield 9, 3) := by decide +kernel
theorem dX7_addFour_21 : decode cX7_addFour 21 = .ok (.aload_n 0, 1) := by decide +kernel
theorem dX7_addFour_22 : decode cX7_addFour 22 = .ok (.getfield 15, 3) := by decide +kernel
theorem dX7_addFour_25 : decode cX7_addFour 25 = .ok (.iload_n 1, 1) := by decide +kernel
theorem dX7_addFour_26 : decode cX7_addFour 26 = .ok (.iload_n 2, 1) := by decide +kernel
theorem dX7_addFour_27 : decode cX7_addFour 27 = .ok (.ishr, 1) := by decide +kernel
theorem dX7_addFour_28 : decode cX7_addFour 28 = .ok (.i2b, 1) := by decide +kernel
theorem dX7_addFour_29 : decode cX7_addFour 29 = .ok (.bastore, 1) := by decide +kernel
theorem dX7_addFour_30 : decode cX7_addFour 30 = .ok (.aload_n 0, 1) := by decide +kernel
theorem dX7_addFour_31 : decode cX7_addFour 31 = .ok (.dup, 1) := by decide +kernel
theorem dX7_addFour_32 : decode cX7_addFour 32 = .ok (.getfield 15, 3) := by decide +kernel
theorem dX7_addFour_35 : decode cX7_addFour 35 = .ok (.iconst 1, 1) := by decide +kernel
theorem dX7_addFour_36 : decode cX7_addFour 36 = .ok (.iadd, 1) := by decide +kernel
theorem dX7_addFour_37 : decode cX7_addFour 37 = .ok (.putfield 15, 3) := by decide +kernel
theorem dX7_addFour_40 : decode cX7_addFour 40 = .ok (.iinc 2 (-8), 3) := by decide +kernel
theorem dX7_addFour_43 : decode cX7_addFour 43 = .ok (.goto (-40), 3) := by decide +kernel
theorem dX7_addFour_46 : decode cX7_addFour 46 = .ok (.return_, 1) := by decide +kernel
set_option maxRecDepth 20000 in
theorem ggX7_begin_X7_advance : GoodIn wsX7_begin wsX7_advance := goodIn_r _ [6, 1, 7, 8, 9, 10, 11, 12, 13, 14, 15] rfl (by decide +kernel)
set_option maxRecDepth 20000 in
theorem gX7_begin_X7_advance : GoodIn wsX7_begin (wsV RX7 28 RX7 yX7_advance wsX7_advance) := goodIn_app (goodIn_r _ [2, 3, 4, 5] rfl (by decide +kernel)) ggX7_begin_X7_advance
theorem dX7_begin_0 : decode cX7_begin 0 = .ok (.aload_n 0, 1) := by decide +kernel
theorem dX7_begin_1 : decode cX7_begin 1 = .ok (.iconst 0, 1) := by decide +kernel
theorem dX7_begin_2 : decode cX7_begin 2 = .ok (.putfield 25, 3) := by decide +kernel
theorem dX7_begin_5 : decode cX7_begin 5 = .ok (.aload_n 0, 1) := by decide +kernel
theorem dX7_begin_6 : decode cX7_begin 6 = .ok (.invokevirtual 28, 3) := by decide +kernel
theorem dX7_begin_9 : decode cX7_begin 9 = .ok (.return_, 1) := by decide +kernel
theorem dX7_advance_0 : decode cX7_advance 0 = .ok (.aload_n 0, 1) := by decide +kernel
theorem dX7_advance_1 : decode cX7_advance 1 = .ok (.aload_n 0, 1) := by decide +kernel
theorem dX7_advance_2 : decode cX7_advance 2 = .ok (.getfield 25, 3) := by decide +kernel
theorem dX7_advance_5 : decode cX7_advance 5 = .ok (.putfield 22, 3) := by decide +kernel
theorem dX7_advance_8 : decode cX7_advance 8 = .ok (.aload_n 0, 1) := by decide +kernel
theorem dX7_advance_9 : decode cX7_advance 9 = .ok (.getfield 22, 3) := by decide +kernel
theorem dX7_advance_12 : decode cX7_advance 12 = .ok (.aload_n 0, 1) := by decide +kernel
theorem dX7_advance_13 : decode cX7_advance 13 = .ok (.getfield 15, 3) := by decide +kernel
theorem dX7_advance_16 : decode cX7_advance 16 = .ok (.if_icmp .ge 58, 3) := by decide +kernel
theorem dX7_advance_19 : decode cX7_advance 19 = .ok (.aload_n 0, 1) := by decide +kernel
theorem dX7_advance_20 : decode cX7_advance 20 = .ok (.getfield 9, 3) := by decide +kernel
theorem dX7_advance_23 : decode cX7_advance 23 = .ok (.aload_n 0, 1) := by decide +kernel
theorem dX7_advance_24 : decode cX7_advance 24 = .ok (.getfield 22, 3) := by decide +kernel
theorem dX7_advance_27 : decode cX7_advance 27 = .ok (.baload, 1) := by decide +kernel
theorem dX7_advance_28 : decode cX7_advance 28 = .ok (.bipush 32, 2) := by decide +kernel
theorem dX7_advance_30 : decode cX7_advance 30 = .ok (.if_icmp .eq 31, 3) := by decide +kernel
theorem dX7_advance_33 : decode cX7_advance 33 = .ok (.aload_n 0, 1) := by decide +kernel
theorem dX7_advance_34 : decode cX7_advance 34 = .ok (.getfield 9, 3) := by decide +kernel
theorem dX7_advance_37 : decode cX7_advance 37 = .ok (.aload_n 0, 1) := by decide +kernel
theorem dX7_advance_38 : decode cX7_advance 38 = .ok (.getfield 22, 3) := by decide +kernel
theorem dX7_advance_41 : decode cX7_advance 41 = .ok (.baload, 1) := by decide +kernel
theorem dX7_advance_42 : decode cX7_advance 42 = .ok (.bipush 9, 2) := by decide +kernel
theorem dX7_advance_44 : decode cX7_advance 44 = .ok (.if_icmp .eq 17, 3) := by decide +kernel
theorem dX7_advance_47 : decode cX7_advance 47 = .ok (.aload_n 0, 1) := by decide +kernel
theorem dX7_advance_48 : decode cX7_advance 48 = .ok (.getfield 9, 3) := by decide +kernel
theorem dX7_advance_51 : decode cX7_advance 51 = .ok (.aload_n 0, 1) := by decide +kernel
theorem dX7_advance_52 : decode cX7_advance 52 = .ok (.getfield 22, 3) := by decide +kernel
theorem dX7_advance_55 : decode cX7_advance 55 = .ok (.baload, 1) := by decide +kernel
theorem dX7_advance_56 : decode cX7_advance 56 = .ok (.bipush 10, 2) := by decide +kernel
theorem dX7_advance_58 : decode cX7_advance 58 = .ok (.if_icmp .ne 16, 3) := by decide +kernel
theorem dX7_advance_61 : decode cX7_advance 61 = .ok (.aload_n 0, 1) := by decide +kernel
theorem dX7_advance_62 : decode cX7_advance 62 = .ok (.dup, 1) := by decide +kernel
theorem dX7_advance_63 : decode cX7_advance 63 = .ok (.getfield 22, 3) := by decide +kernel
theorem dX7_advance_66 : decode cX7_advance 66 = .ok (.iconst 1, 1) := by decide +kernel
theorem dX7_advance_67 : decode cX7_advance 67 = .ok (.iadd, 1) := by decide +kernel
theorem dX7_advance_68 : decode cX7_advance 68 = .ok (.putfield 22, 3) := by decide +kernel
theorem dX7_advance_71 : decode cX7_advance 71 = .ok (.goto (-63), 3) := by decide +kernel
theorem dX7_advance_74 : decode cX7_advance 74 = .ok (.aload_n 0, 1) := by decide +kernel
theorem dX7_advance_75 : decode cX7_advance 75 = .ok (.aload_n 0, 1) := by decide +kernel
theorem dX7_advance_76 : decode cX7_advance 76 = .ok (.getfield 22, 3) := by decide +kernel
theorem dX7_advance_79 : decode cX7_advance 79 = .ok (.putfield 25, 3) := by decide +kernel
theorem dX7_advance_82 : decode cX7_advance 82 = .ok (.aload_n 0, 1) := by decide +kernel
theorem dX7_advance_83 : decode cX7_advance 83 = .ok (.iconst 1, 1) := by decide +kernel
theorem dX7_advance_84 : decode cX7_advance 84 = .ok (.putfield 19, 3) := by decide +kernel
theorem dX7_advance_87 : decode cX7_advance 87 = .ok (.aload_n 0, 1) := by decide +kernel
theorem dX7_advance_88 : decode cX7_advance 88 = .ok (.getfield 25, 3) := by decide +kernel
theorem dX7_advance_91 : decode cX7_advance 91 = .ok (.aload_n 0, 1) := by decide +kernel
theorem dX7_advance_92 : decode cX7_advance 92 = .ok (.getfield 15, 3) := by decide +kernel
theorem dX7_advance_95 : decode cX7_advance 95 = .ok (.if_icmp .ge 44, 3) := by decide +kernel
theorem dX7_advance_98 : decode cX7_advance 98 = .ok (.aload_n 0, 1) := by decide +kernel
theorem dX7_advance_99 : decode cX7_advance 99 = .ok (.getfield 9, 3) := by decide +kernel
theorem dX7_advance_102 : decode cX7_advance 102 = .ok (.aload_n 0, 1) := by decide +kernel
theorem dX7_advance_103 : decode cX7_advance 103 = .ok (.getfield 25, 3) := by decide +kernel
theorem dX7_advance_106 : decode cX7_advance 106 = .ok (.baload, 1) := by decide +kernel
theorem dX7_advance_107 : decode cX7_advance 107 = .ok (.bipush 97, 2) := by decide +kernel
theorem dX7_advance_109 : decode cX7_advance 109 = .ok (.if_icmp .lt 30, 3) := by decide +kernel
theorem dX7_advance_112 : decode cX7_advance 112 = .ok (.aload_n 0, 1) := by decide +kernel
theorem dX7_advance_113 : decode cX7_advance 113 = .ok (.getfield 9, 3) := by decide +kernel
theorem dX7_advance_116 : decode cX7_advance 116 = .ok (.aload_n 0, 1) := by decide +kernel
theorem dX7_advance_117 : decode cX7_advance 117 = .ok (.getfield 25, 3) := by decide +kernel
theorem dX7_advance_120 : decode cX7_advance 120 = .ok (.baload, 1) := by decide +kernel
theorem dX7_advance_121 : decode cX7_advance 121 = .ok (.bipush 122, 2) := by decide +kernel
theorem dX7_advance_123 : decode cX7_advance 123 = .ok (.if_icmp .gt 16, 3) := by decide +kernel
theorem dX7_advance_126 : decode cX7_advance 126 = .ok (.aload_n 0, 1) := by decide +kernel
theorem dX7_advance_127 : decode cX7_advance 127 = .ok (.dup, 1) := by decide +kernel
theorem dX7_advance_128 : decode cX7_advance 128 = .ok (.getfield 25, 3) := by decide +kernel
theorem dX7_advance_131 : decode cX7_advance 131 = .ok (.iconst 1, 1) := by decide +kernel
theorem dX7_advance_132 : decode cX7_advance 132 = .ok (.iadd, 1) := by decide +kernel
theorem dX7_advance_133 : decode cX7_advance 133 = .ok (.putfield 25, 3) := by decide +kernel
theorem dX7_advance_136 : decode cX7_advance 136 = .ok (.goto (-49), 3) := by decide +kernel
theorem dX7_advance_139 : decode cX7_advance 139 = .ok (.aload_n 0, 1) := by decide +kernel
theorem dX7_advance_140 : decode cX7_advance 140 = .ok (.getfield 25, 3) := by decide +kernel
theorem dX7_advance_143 : decode cX7_advance 143 = .ok (.aload_n 0, 1) := by decide +kernel
theorem dX7_advance_144 : decode cX7_advance 144 = .ok (.getfield 22, 3) := by decide +kernel
theorem dX7_advance_147 : decode cX7_advance 147 = .ok (.if_icmp .le 4, 3) := by decide +kernel
theorem dX7_advance_150 : decode cX7_advance 150 = .ok (.return_, 1) := by decide +kernel
theorem dX7_advance_151 : decode cX7_advance 151 = .ok (.aload_n 0, 1) := by decide +kernel
theorem dX7_advance_152 : decode cX7_advance 152 = .ok (.iconst 2, 1) := by decide +kernel
theorem dX7_advance_153 : decode cX7_advance 153 = .ok (.putfield 19, 3) := by decide +kernel
theorem dX7_advance_156 : decode cX7_advance 156 = .ok (.aload_n 0, 1) := by decide +kernel
theorem dX7_advance_157 : decode cX7_advance 157 = .ok (.getfield 25, 3) := by decide +kernel
theorem dX7_advance_160 : decode cX7_advance 160 = .ok (.aload_n 0, 1) := by decide +kernel
theorem dX7_advance_161 : decode cX7_advance 161 = .ok (.getfield 15, 3) := by decide +kernel
theorem dX7_advance_164 : decode cX7_advance 164 = .ok (.if_icmp .ge 44, 3) := by decide +kernel
theorem dX7_advance_167 : decode cX7_advance 167 = .ok (.aload_n 0, 1) := by decide +kernel
theorem dX7_advance_168 : decode cX7_advance 168 = .ok (.getfield 9, 3) := by decide +kernel
theorem dX7_advance_171 : decode cX7_advance 171 = .ok (.aload_n 0, 1) := by decide +kernel
theorem dX7_advance_172 : decode cX7_advance 172 = .ok (.getfield 25, 3) := by decide +kernel
theorem dX7_advance_175 : decode cX7_advance 175 = .ok (.baload, 1) := by decide +kernel
theorem dX7_advance_176 : decode cX7_advance 176 = .ok (.bipush 48, 2) := by decide +kernel
theorem dX7_advance_178 : decode cX7_advance 178 = .ok (.if_icmp .lt 30, 3) := by decide +kernel
theorem dX7_advance_181 : decode cX7_advance 181 = .ok (.aload_n 0, 1) := by decide +kernel
theorem dX7_advance_182 : decode cX7_advance 182 = .ok (.getfield 9, 3) := by decide +kernel
theorem dX7_advance_185 : decode cX7_advance 185 = .ok (.aload_n 0, 1) := by decide +kernel
theorem dX7_advance_186 : decode cX7_advance 186 = .ok (.getfield 25, 3) := by decide +kernel
theorem dX7_advance_189 : decode cX7_advance 189 = .ok (.baload, 1) := by decide +kernel
theorem dX7_advance_190 : decode cX7_advance 190 = .ok (.bipush 57, 2) := by decide +kernel
theorem dX7_advance_192 : decode cX7_advance 192 = .ok (.if_icmp .gt 16, 3) := by decide +kernel
theorem dX7_advance_195 : decode cX7_advance 195 = .ok (.aload_n 0, 1) := by decide +kernel
theorem dX7_advance_196 : decode cX7_advance 196 = .ok (.dup, 1) := by decide +kernel
theorem dX7_advance_197 : decode cX7_advance 197 = .ok (.getfield 25, 3) := by decide +kernel
theorem dX7_advance_200 : decode cX7_advance 200 = .ok (.iconst 1, 1) := by decide +kernel
theorem dX7_advance_201 : decode cX7_advance 201 = .ok (.iadd, 1) := by decide +kernel
theorem dX7_advance_202 : decode cX7_advance 202 = .ok (.putfield 25, 3) := by decide +kernel
theorem dX7_advance_205 : decode cX7_advance 205 = .ok (.goto (-49), 3) := by decide +kernel
theorem dX7_advance_208 : decode cX7_advance 208 = .ok (.aload_n 0, 1) := by decide +kernel
theorem dX7_advance_209 : decode cX7_advance 209 = .ok (.getfield 25, 3) := by decide +kernel
theorem dX7_advance_212 : decode cX7_advance 212 = .ok (.aload_n 0, 1) := by decide +kernel
theorem dX7_advance_213 : decode cX7_advance 213 = .ok (.getfield 22, 3) := by decide +kernel
theorem dX7_advance_216 : decode cX7_advance 216 = .ok (.if_icmp .le 4, 3) := by decide +kernel
theorem dX7_advance_219 : decode cX7_advance 219 = .ok (.return_, 1) := by decide +kernel
theorem dX7_advance_220 : decode cX7_advance 220 = .ok (.aload_n 0, 1) := by decide +kernel
theorem dX7_advance_221 : decode cX7_advance 221 = .ok (.iconst 0, 1) := by decide +kernel
theorem dX7_advance_222 : decode cX7_advance 222 = .ok (.putfield 19, 3) := by decide +kernel
theorem dX7_advance_225 : decode cX7_advance 225 = .ok (.aload_n 0, 1) := by decide +kernel
theorem dX7_advance_226 : decode cX7_advance 226 = .ok (.getfield 22, 3) := by decide +kernel
theorem dX7_advance_229 : decode cX7_advance 229 = .ok (.aload_n 0, 1) := by decide +kernel
theorem dX7_advance_230 : decode cX7_advance 230 = .ok (.getfield 15, 3) := by decide +kernel
theorem dX7_advance_233 : decode cX7_advance 233 = .ok (.if_icmp .ge 48, 3) := by decide +kernel
theorem dX7_advance_236 : decode cX7_advance 236 = .ok (.aload_n 0, 1) := by decide +kernel
theorem dX7_advance_237 : decode cX7_advance 237 = .ok (.getfield 9, 3) := by decide +kernel
theorem dX7_advance_240 : decode cX7_advance 240 = .ok (.aload_n 0, 1) := by decide +kernel
theorem dX7_advance_241 : decode cX7_advance 241 = .ok (.getfield 22, 3) := by decide +kernel
theorem dX7_advance_244 : decode cX7_advance 244 = .ok (.baload, 1) := by decide +kernel
theorem dX7_advance_245 : decode cX7_advance 245 = .ok (.istore_n 1, 1) := by decide +kernel
theorem dX7_advance_246 : decode cX7_advance 246 = .ok (.aload_n 0, 1) := by decide +kernel
theorem dX7_advance_247 : decode cX7_advance 247 = .ok (.iload_n 1, 1) := by decide +kernel
theorem dX7_advance_248 : decode cX7_advance 248 = .ok (.bipush 59, 2) := by decide +kernel
theorem dX7_advance_250 : decode cX7_advance 250 = .ok (.if_icmp .ne 7, 3) := by decide +kernel
theorem dX7_advance_253 : decode cX7_advance 253 = .ok (.iconst 3, 1) := by decide +kernel
theorem dX7_advance_254 : decode cX7_advance 254 = .ok (.goto 14, 3) := by decide +kernel
theorem dX7_advance_257 : decode cX7_advance 257 = .ok (.iload_n 1, 1) := by decide +kernel
theorem dX7_advance_258 : decode cX7_advance 258 = .ok (.bipush 45, 2) := by decide +kernel
theorem dX7_advance_260 : decode cX7_advance 260 = .ok (.if_icmp .ne 7, 3) := by decide +kernel
theorem dX7_advance_263 : decode cX7_advance 263 = .ok (.iconst 4, 1) := by decide +kernel
theorem dX7_advance_264 : decode cX7_advance 264 = .ok (.goto 4, 3) := by decide +kernel
theorem dX7_advance_267 : decode cX7_advance 267 = .ok (.iconst 5, 1) := by decide +kernel
theorem dX7_advance_268 : decode cX7_advance 268 = .ok (.putfield 19, 3) := by decide +kernel
theorem dX7_advance_271 : decode cX7_advance 271 = .ok (.aload_n 0, 1) := by decide +kernel
theorem dX7_advance_272 : decode cX7_advance 272 = .ok (.aload_n 0, 1) := by decide +kernel
theorem dX7_advance_273 : decode cX7_advance 273 = .ok (.getfield 22, 3) := by decide +kernel
theorem dX7_advance_276 : decode cX7_advance 276 = .ok (.iconst 1, 1) := by decide +kernel
theorem dX7_advance_277 : decode cX7_advance 277 = .ok (.iadd, 1) := by decide +kernel
theorem dX7_advance_278 : decode cX7_advance 278 = .ok (.putfield 25, 3) := by decide +kernel
theorem dX7_advance_281 : decode cX7_advance 281 = .ok (.return_, 1) := by decide +kernel
set_option maxRecDepth 20000 in
theorem ggX7_isWord_J0_length_8abf5 : GoodIn wsX7_isWord wsJ0_length_8abf5 := goodIn_r _ [10, 11, 12, 13, 14, 9, 15, 16, 17] rfl (by decide +kernel)
set_option maxRecDepth 20000 in
theorem gX7_isWord_J0_length_8abf5 : GoodIn wsX7_isWord (wsV RX7 31 RJ0 yJ0_length_8abf5 wsJ0_length_8abf5) := goodIn_app (goodIn_r _ [6, 7, 8, 9] rfl (by decide +kernel)) ggX7_isWord_J0_length_8abf5
set_option maxRecDepth 20000 in
theorem ggX7_isWord_J0_charAt_5068e : GoodIn wsX7_isWord wsJ0_charAt_5068e := goodIn_r _ [21, 11, 22, 23, 24, 9, 25, 16, 17, 26, 27, 28, 29, 30, 31, 32, 33, 34, 35, 36, 37, 38, 39, 40, 41, 42, 43, 44, 45, 46, 47, 48, 49, 50, 51, 52, 53, 54] rfl (by decide +kernel)
set_option maxRecDepth 20000 in
theorem gX7_isWord_J0_charAt_5068e : GoodIn wsX7_isWord (wsV RX7 36 RJ0 yJ0_charAt_5068e wsJ0_charAt_5068e) := goodIn_app (goodIn_r _ [18, 19, 20, 9] rfl (by decide +kernel)) ggX7_isWord_J0_charAt_5068e
theorem dX7_isWord_0 : decode cX7_isWord 0 = .ok (.aload_n 0, 1) := by decide +kernel
theorem dX7_isWord_1 : decode cX7_isWord 1 = .ok (.getfield 19, 3) := by decide +kernel
theorem dX7_isWord_4 : decode cX7_isWord 4 = .ok (.iconst 1, 1) := by decide +kernel
theorem dX7_isWord_5 : decode cX7_isWord 5 = .ok (.if_icmp .ne 19, 3) := by decide +kernel
theorem dX7_isWord_8 : decode cX7_isWord 8 = .ok (.aload_n 0, 1) := by decide +kernel
theorem dX7_isWord_9 : decode cX7_isWord 9 = .ok (.getfield 25, 3) := by decide +kernel
theorem dX7_isWord_12 : decode cX7_isWord 12 = .ok (.aload_n 0, 1) := by decide +kernel
theorem dX7_isWord_13 : decode cX7_isWord 13 = .ok (.getfield 22, 3) := by decide +kernel
theorem dX7_isWord_16 : decode cX7_isWord 16 = .ok (.isub, 1) := by decide +kernel
theorem dX7_isWord_17 : decode cX7_isWord 17 = .ok (.aload_n 1, 1) := by decide +kernel
theorem dX7_isWord_18 : decode cX7_isWord 18 = .ok (.invokevirtual 31, 3) := by decide +kernel
theorem dX7_isWord_21 : decode cX7_isWord 21 = .ok (.if_icmp .eq 5, 3) := by decide +kernel
theorem dX7_isWord_24 : decode cX7_isWord 24 = .ok (.iconst 0, 1) := by decide +kernel
theorem dX7_isWord_25 : decode cX7_isWord 25 = .ok (.ireturn, 1) := by decide +kernel
theorem dX7_isWord_26 : decode cX7_isWord 26 = .ok (.iconst 0, 1) := by decide +kernel
theorem dX7_isWord_27 : decode cX7_isWord 27 = .ok (.istore_n 2, 1) := by decide +kernel
theorem dX7_isWord_28 : decode cX7_isWord 28 = .ok (.iload_n 2, 1) := by decide +kernel
theorem dX7_isWord_29 : decode cX7_isWord 29 = .ok (.aload_n 1, 1) := by decide +kernel
theorem dX7_isWord_30 : decode cX7_isWord 30 = .ok (.invokevirtual 31, 3) := by decide +kernel
theorem dX7_isWord_33 : decode cX7_isWord 33 = .ok (.if_icmp .ge 43, 3) := by decide +kernel
theorem dX7_isWord_36 : decode cX7_isWord 36 = .ok (.aload_n 0, 1) := by decide +kernel
theorem dX7_isWord_37 : decode cX7_isWord 37 = .ok (.getfield 22, 3) := by decide +kernel
theorem dX7_isWord_40 : decode cX7_isWord 40 = .ok (.iload_n 2, 1) := by decide +kernel
theorem dX7_isWord_41 : decode cX7_isWord 41 = .ok (.iadd, 1) := by decide +kernel
theorem dX7_isWord_42 : decode cX7_isWord 42 = .ok (.aload_n 0, 1) := by decide +kernel
theorem dX7_isWord_43 : decode cX7_isWord 43 = .ok (.getfield 15, 3) := by decide +kernel
theorem dX7_isWord_46 : decode cX7_isWord 46 = .ok (.if_icmp .ge 30, 3) := by decide +kernel
theorem dX7_isWord_49 : decode cX7_isWord 49 = .ok (.aload_n 0, 1) := by decide +kernel
theorem dX7_isWord_50 : decode cX7_isWord 50 = .ok (.getfield 9, 3) := by decide +kernel
theorem dX7_isWord_53 : decode cX7_isWord 53 = .ok (.aload_n 0, 1) := by decide +kernel
theorem dX7_isWord_54 : decode cX7_isWord 54 = .ok (.getfield 22, 3) := by decide +kernel
theorem dX7_isWord_57 : decode cX7_isWord 57 = .ok (.iload_n 2, 1) := by decide +kernel
theorem dX7_isWord_58 : decode cX7_isWord 58 = .ok (.iadd, 1) := by decide +kernel
theorem dX7_isWord_59 : decode cX7_isWord 59 = .ok (.baload, 1) := by decide +kernel
theorem dX7_isWord_60 : decode cX7_isWord 60 = .ok (.aload_n 1, 1) := by decide +kernel
theorem dX7_isWord_61 : decode cX7_isWord 61 = .ok (.iload_n 2, 1) := by decide +kernel
theorem dX7_isWord_62 : decode cX7_isWord 62 = .ok (.invokevirtual 36, 3) := by decide +kernel
theorem dX7_isWord_65 : decode cX7_isWord 65 = .ok (.if_icmp .eq 5, 3) := by decide +kernel
theorem dX7_isWord_68 : decode cX7_isWord 68 = .ok (.iconst 0, 1) := by decide +kernel
theorem dX7_isWord_69 : decode cX7_isWord 69 = .ok (.ireturn, 1) := by decide +kernel
theorem dX7_isWord_70 : decode cX7_isWord 70 = .ok (.iinc 2 1, 3) := by decide +kernel
theorem dX7_isWord_73 : decode cX7_isWord 73 = .ok (.goto (-45), 3) := by decide +kernel
theorem dX7_isWord_76 : decode cX7_isWord 76 = .ok (.iconst 1, 1) := by decide +kernel
theorem dX7_isWord_77 : decode cX7_isWord 77 = .ok (.ireturn, 1) := by decide +kernel
theorem dX7_letter_0 : decode cX7_letter 0 = .ok (.aload_n 0, 1) := by decide +kernel
theorem dX7_letter_1 : decode cX7_letter 1 = .ok (.getfield 19, 3) := by decide +kernel
theorem dX7_letter_4 : decode cX7_letter 4 = .ok (.iconst 1, 1) := by decide +kernel
theorem dX7_letter_5 : decode cX7_letter 5 = .ok (.if_icmp .ne 27, 3) := by decide +kernel
theorem dX7_letter_8 : decode cX7_letter 8 = .ok (.aload_n 0, 1) := by decide +kernel
theorem dX7_letter_9 : decode cX7_letter 9 = .ok (.getfield 25, 3) := by decide +kernel
theorem dX7_letter_12 : decode cX7_letter 12 = .ok (.aload_n 0, 1) := by decide +kernel
theorem dX7_letter_13 : decode cX7_letter 13 = .ok (.getfield 22, 3) := by decide +kernel
theorem dX7_letter_16 : decode cX7_letter 16 = .ok (.isub, 1) := by decide +kernel
theorem dX7_letter_17 : decode cX7_letter 17 = .ok (.iconst 1, 1) := by decide +kernel
theorem dX7_letter_18 : decode cX7_letter 18 = .ok (.if_icmp .ne 14, 3) := by decide +kernel
theorem dX7_letter_21 : decode cX7_letter 21 = .ok (.aload_n 0, 1) := by decide +kernel
theorem dX7_letter_22 : decode cX7_letter 22 = .ok (.getfield 22, 3) := by decide +kernel
theorem dX7_letter_25 : decode cX7_letter 25 = .ok (.aload_n 0, 1) := by decide +kernel
theorem dX7_letter_26 : decode cX7_letter 26 = .ok (.getfield 15, 3) := by decide +kernel
theorem dX7_letter_29 : decode cX7_letter 29 = .ok (.if_icmp .lt 5, 3) := by decide +kernel
theorem dX7_letter_32 : decode cX7_letter 32 = .ok (.iconst (-1), 1) := by decide +kernel
theorem dX7_letter_33 : decode cX7_letter 33 = .ok (.ireturn, 1) := by decide +kernel
theorem dX7_letter_34 : decode cX7_letter 34 = .ok (.aload_n 0, 1) := by decide +kernel
theorem dX7_letter_35 : decode cX7_letter 35 = .ok (.getfield 9, 3) := by decide +kernel
theorem dX7_letter_38 : decode cX7_letter 38 = .ok (.aload_n 0, 1) := by decide +kernel
theorem dX7_letter_39 : decode cX7_letter 39 = .ok (.getfield 22, 3) := by decide +kernel
theorem dX7_letter_42 : decode cX7_letter 42 = .ok (.baload, 1) := by decide +kernel
theorem dX7_letter_43 : decode cX7_letter 43 = .ok (.bipush 97, 2) := by decide +kernel
theorem dX7_letter_45 : decode cX7_letter 45 = .ok (.isub, 1) := by decide +kernel
theorem dX7_letter_46 : decode cX7_letter 46 = .ok (.ireturn, 1) := by decide +kernel
theorem dX7_number_0 : decode cX7_number 0 = .ok (.aload_n 0, 1) := by decide +kernel
theorem dX7_number_1 : decode cX7_number 1 = .ok (.getfield 25, 3) := by decide +kernel
theorem dX7_number_4 : decode cX7_number 4 = .ok (.aload_n 0, 1) := by decide +kernel
theorem dX7_number_5 : decode cX7_number 5 = .ok (.getfield 22, 3) := by decide +kernel
theorem dX7_number_8 : decode cX7_number 8 = .ok (.isub, 1) := by decide +kernel
theorem dX7_number_9 : decode cX7_number 9 = .ok (.iconst 4, 1) := by decide +kernel
theorem dX7_number_10 : decode cX7_number 10 = .ok (.if_icmp .le 5, 3) := by decide +kernel
theorem dX7_number_13 : decode cX7_number 13 = .ok (.iconst (-1), 1) := by decide +kernel
theorem dX7_number_14 : decode cX7_number 14 = .ok (.ireturn, 1) := by decide +kernel
theorem dX7_number_15 : decode cX7_number 15 = .ok (.iconst 0, 1) := by decide +kernel
theorem dX7_number_16 : decode cX7_number 16 = .ok (.istore_n 1, 1) := by decide +kernel
theorem dX7_number_17 : decode cX7_number 17 = .ok (.aload_n 0, 1) := by decide +kernel
theorem dX7_number_18 : decode cX7_number 18 = .ok (.getfield 22, 3) := by decide +kernel
theorem dX7_number_21 : decode cX7_number 21 = .ok (.istore_n 2, 1) := by decide +kernel
theorem dX7_number_22 : decode cX7_number 22 = .ok (.iload_n 2, 1) := by decide +kernel
theorem dX7_number_23 : decode cX7_number 23 = .ok (.aload_n 0, 1) := by decide +kernel
theorem dX7_number_24 : decode cX7_number 24 = .ok (.getfield 25, 3) := by decide +kernel
theorem dX7_number_27 : decode cX7_number 27 = .ok (.if_icmp .ge 32, 3) := by decide +kernel
theorem dX7_number_30 : decode cX7_number 30 = .ok (.iload_n 2, 1) := by decide +kernel
theorem dX7_number_31 : decode cX7_number 31 = .ok (.aload_n 0, 1) := by decide +kernel
theorem dX7_number_32 : decode cX7_number 32 = .ok (.getfield 15, 3) := by decide +kernel
theorem dX7_number_35 : decode cX7_number 35 = .ok (.if_icmp .ge 24, 3) := by decide +kernel
theorem dX7_number_38 : decode cX7_number 38 = .ok (.bipush 10, 2) := by decide +kernel
theorem dX7_number_40 : decode cX7_number 40 = .ok (.iload_n 1, 1) := by decide +kernel
theorem dX7_number_41 : decode cX7_number 41 = .ok (.imul, 1) := by decide +kernel
theorem dX7_number_42 : decode cX7_number 42 = .ok (.aload_n 0, 1) := by decide +kernel
theorem dX7_number_43 : decode cX7_number 43 = .ok (.getfield 9, 3) := by decide +kernel
theorem dX7_number_46 : decode cX7_number 46 = .ok (.iload_n 2, 1) := by decide +kernel
theorem dX7_number_47 : decode cX7_number 47 = .ok (.baload, 1) := by decide +kernel
theorem dX7_number_48 : decode cX7_number 48 = .ok (.iadd, 1) := by decide +kernel
theorem dX7_number_49 : decode cX7_number 49 = .ok (.bipush 48, 2) := by decide +kernel
theorem dX7_number_51 : decode cX7_number 51 = .ok (.isub, 1) := by decide +kernel
theorem dX7_number_52 : decode cX7_number 52 = .ok (.istore_n 1, 1) := by decide +kernel
theorem dX7_number_53 : decode cX7_number 53 = .ok (.iinc 2 1, 3) := by decide +kernel
theorem dX7_number_56 : decode cX7_number 56 = .ok (.goto (-34), 3) := by decide +kernel
theorem dX7_number_59 : decode cX7_number 59 = .ok (.iload_n 1, 1) := by decide +kernel
theorem dX7_number_60 : decode cX7_number 60 = .ok (.ireturn, 1) := by decide +kernel
theorem dJ6_numberOfTrailingZeros_0f7a4_0 : decode cJ6_numberOfTrailingZeros_0f7a4 0 = .ok (.iload_n 0, 1) := by decide +kernel
theorem dJ6_numberOfTrailingZeros_0f7a4_1 : decode cJ6_numberOfTrailingZeros_0f7a4 1 = .ok (.iconst (-1), 1) := by decide +kernel
theorem dJ6_numberOfTrailingZeros_0f7a4_2 : decode cJ6_numberOfTrailingZeros_0f7a4 2 = .ok (.ixor, 1) := by decide +kernel
theorem dJ6_numberOfTrailingZeros_0f7a4_3 : decode cJ6_numberOfTrailingZeros_0f7a4 3 = .ok (.iload_n 0, 1) := by decide +kernel
theorem dJ6_numberOfTrailingZeros_0f7a4_4 : decode cJ6_numberOfTrailingZeros_0f7a4 4 = .ok (.iconst 1, 1) := by decide +kernel
theorem dJ6_numberOfTrailingZeros_0f7a4_5 : decode cJ6_numberOfTrailingZeros_0f7a4 5 = .ok (.isub, 1) := by decide +kernel
theorem dJ6_numberOfTrailingZeros_0f7a4_6 : decode cJ6_numberOfTrailingZeros_0f7a4 6 = .ok (.iand, 1) := by decide +kernel
theorem dJ6_numberOfTrailingZeros_0f7a4_7 : decode cJ6_numberOfTrailingZeros_0f7a4 7 = .ok (.istore_n 0, 1) := by decide +kernel
theorem dJ6_numberOfTrailingZeros_0f7a4_8 : decode cJ6_numberOfTrailingZeros_0f7a4 8 = .ok (.iload_n 0, 1) := by decide +kernel
theorem dJ6_numberOfTrailingZeros_0f7a4_9 : decode cJ6_numberOfTrailingZeros_0f7a4 9 = .ok (.ifCond .gt 8, 3) := by decide +kernel
theorem dJ6_numberOfTrailingZeros_0f7a4_12 : decode cJ6_numberOfTrailingZeros_0f7a4 12 = .ok (.iload_n 0, 1) := by decide +kernel
theorem dJ6_numberOfTrailingZeros_0f7a4_13 : decode cJ6_numberOfTrailingZeros_0f7a4 13 = .ok (.bipush 32, 2) := by decide +kernel
theorem dJ6_numberOfTrailingZeros_0f7a4_15 : decode cJ6_numberOfTrailingZeros_0f7a4 15 = .ok (.iand, 1) := by decide +kernel
theorem dJ6_numberOfTrailingZeros_0f7a4_16 : decode cJ6_numberOfTrailingZeros_0f7a4 16 = .ok (.ireturn, 1) := by decide +kernel
theorem dJ6_numberOfTrailingZeros_0f7a4_17 : decode cJ6_numberOfTrailingZeros_0f7a4 17 = .ok (.iconst 1, 1) := by decide +kernel
theorem dJ6_numberOfTrailingZeros_0f7a4_18 : decode cJ6_numberOfTrailingZeros_0f7a4 18 = .ok (.istore_n 1, 1) := by decide +kernel
theorem dJ6_numberOfTrailingZeros_0f7a4_19 : decode cJ6_numberOfTrailingZeros_0f7a4 19 = .ok (.iload_n 0, 1) := by decide +kernel
theorem dJ6_numberOfTrailingZeros_0f7a4_20 : decode cJ6_numberOfTrailingZeros_0f7a4 20 = .ok (.ldc_w 264, 3) := by decide +kernel
theorem dJ6_numberOfTrailingZeros_0f7a4_23 : decode cJ6_numberOfTrailingZeros_0f7a4 23 = .ok (.if_icmp .le 11, 3) := by decide +kernel
theorem dJ6_numberOfTrailingZeros_0f7a4_26 : decode cJ6_numberOfTrailingZeros_0f7a4 26 = .ok (.iinc 1 16, 3) := by decide +kernel
theorem dJ6_numberOfTrailingZeros_0f7a4_29 : decode cJ6_numberOfTrailingZeros_0f7a4 29 = .ok (.iload_n 0, 1) := by decide +kernel
theorem dJ6_numberOfTrailingZeros_0f7a4_30 : decode cJ6_numberOfTrailingZeros_0f7a4 30 = .ok (.bipush 16, 2) := by decide +kernel
theorem dJ6_numberOfTrailingZeros_0f7a4_32 : decode cJ6_numberOfTrailingZeros_0f7a4 32 = .ok (.iushr, 1) := by decide +kernel
theorem dJ6_numberOfTrailingZeros_0f7a4_33 : decode cJ6_numberOfTrailingZeros_0f7a4 33 = .ok (.istore_n 0, 1) := by decide +kernel
theorem dJ6_numberOfTrailingZeros_0f7a4_34 : decode cJ6_numberOfTrailingZeros_0f7a4 34 = .ok (.iload_n 0, 1) := by decide +kernel
theorem dJ6_numberOfTrailingZeros_0f7a4_35 : decode cJ6_numberOfTrailingZeros_0f7a4 35 = .ok (.sipush 256, 3) := by decide +kernel
theorem dJ6_numberOfTrailingZeros_0f7a4_38 : decode cJ6_numberOfTrailingZeros_0f7a4 38 = .ok (.if_icmp .le 11, 3) := by decide +kernel
theorem dJ6_numberOfTrailingZeros_0f7a4_41 : decode cJ6_numberOfTrailingZeros_0f7a4 41 = .ok (.iinc 1 8, 3) := by decide +kernel
theorem dJ6_numberOfTrailingZeros_0f7a4_44 : decode cJ6_numberOfTrailingZeros_0f7a4 44 = .ok (.iload_n 0, 1) := by decide +kernel
theorem dJ6_numberOfTrailingZeros_0f7a4_45 : decode cJ6_numberOfTrailingZeros_0f7a4 45 = .ok (.bipush 8, 2) := by decide +kernel
theorem dJ6_numberOfTrailingZeros_0f7a4_47 : decode cJ6_numberOfTrailingZeros_0f7a4 47 = .ok (.iushr, 1) := by decide +kernel
theorem dJ6_numberOfTrailingZeros_0f7a4_48 : decode cJ6_numberOfTrailingZeros_0f7a4 48 = .ok (.istore_n 0, 1) := by decide +kernel
theorem dJ6_numberOfTrailingZeros_0f7a4_49 : decode cJ6_numberOfTrailingZeros_0f7a4 49 = .ok (.iload_n 0, 1) := by decide +kernel
theorem dJ6_numberOfTrailingZeros_0f7a4_50 : decode cJ6_numberOfTrailingZeros_0f7a4 50 = .ok (.bipush 16, 2) := by decide +kernel
theorem dJ6_numberOfTrailingZeros_0f7a4_52 : decode cJ6_numberOfTrailingZeros_0f7a4 52 = .ok (.if_icmp .le 10, 3) := by decide +kernel
theorem dJ6_numberOfTrailingZeros_0f7a4_55 : decode cJ6_numberOfTrailingZeros_0f7a4 55 = .ok (.iinc 1 4, 3) := by decide +kernel
theorem dJ6_numberOfTrailingZeros_0f7a4_58 : decode cJ6_numberOfTrailingZeros_0f7a4 58 = .ok (.iload_n 0, 1) := by decide +kernel
theorem dJ6_numberOfTrailingZeros_0f7a4_59 : decode cJ6_numberOfTrailingZeros_0f7a4 59 = .ok (.iconst 4, 1) := by decide +kernel
theorem dJ6_numberOfTrailingZeros_0f7a4_60 : decode cJ6_numberOfTrailingZeros_0f7a4 60 = .ok (.iushr, 1) := by decide +kernel
theorem dJ6_numberOfTrailingZeros_0f7a4_61 : decode cJ6_numberOfTrailingZeros_0f7a4 61 = .ok (.istore_n 0, 1) := by decide +kernel
theorem dJ6_numberOfTrailingZeros_0f7a4_62 : decode cJ6_numberOfTrailingZeros_0f7a4 62 = .ok (.iload_n 0, 1) := by decide +kernel
theorem dJ6_numberOfTrailingZeros_0f7a4_63 : decode cJ6_numberOfTrailingZeros_0f7a4 63 = .ok (.iconst 4, 1) := by decide +kernel
theorem dJ6_numberOfTrailingZeros_0f7a4_64 : decode cJ6_numberOfTrailingZeros_0f7a4 64 = .ok (.if_icmp .le 10, 3) := by decide +kernel
theorem dJ6_numberOfTrailingZeros_0f7a4_67 : decode cJ6_numberOfTrailingZeros_0f7a4 67 = .ok (.iinc 1 2, 3) := by decide +kernel
theorem dJ6_numberOfTrailingZeros_0f7a4_70 : decode cJ6_numberOfTrailingZeros_0f7a4 70 = .ok (.iload_n 0, 1) := by decide +kernel
theorem dJ6_numberOfTrailingZeros_0f7a4_71 : decode cJ6_numberOfTrailingZeros_0f7a4 71 = .ok (.iconst 2, 1) := by decide +kernel
theorem dJ6_numberOfTrailingZeros_0f7a4_72 : decode cJ6_numberOfTrailingZeros_0f7a4 72 = .ok (.iushr, 1) := by decide +kernel
theorem dJ6_numberOfTrailingZeros_0f7a4_73 : decode cJ6_numberOfTrailingZeros_0f7a4 73 = .ok (.istore_n 0, 1) := by decide +kernel
theorem dJ6_numberOfTrailingZeros_0f7a4_74 : decode cJ6_numberOfTrailingZeros_0f7a4 74 = .ok (.iload_n 1, 1) := by decide +kernel
theorem dJ6_numberOfTrailingZeros_0f7a4_75 : decode cJ6_numberOfTrailingZeros_0f7a4 75 = .ok (.iload_n 0, 1) := by decide +kernel
theorem dJ6_numberOfTrailingZeros_0f7a4_76 : decode cJ6_numberOfTrailingZeros_0f7a4 76 = .ok (.iconst 1, 1) := by decide +kernel
theorem dJ6_numberOfTrailingZeros_0f7a4_77 : decode cJ6_numberOfTrailingZeros_0f7a4 77 = .ok (.iushr, 1) := by decide +kernel
theorem dJ6_numberOfTrailingZeros_0f7a4_78 : decode cJ6_numberOfTrailingZeros_0f7a4 78 = .ok (.iadd, 1) := by decide +kernel
theorem dJ6_numberOfTrailingZeros_0f7a4_79 : decode cJ6_numberOfTrailingZeros_0f7a4 79 = .ok (.ireturn, 1) := by decide +kernel
theorem dJ6_bitCount_0f7a4_0 : decode cJ6_bitCount_0f7a4 0 = .ok (.iload_n 0, 1) := by decide +kernel
theorem dJ6_bitCount_0f7a4_1 : decode cJ6_bitCount_0f7a4 1 = .ok (.iload_n 0, 1) := by decide +kernel
theorem dJ6_bitCount_0f7a4_2 : decode cJ6_bitCount_0f7a4 2 = .ok (.iconst 1, 1) := by decide +kernel
theorem dJ6_bitCount_0f7a4_3 : decode cJ6_bitCount_0f7a4 3 = .ok (.iushr, 1) := by decide +kernel
theorem dJ6_bitCount_0f7a4_4 : decode cJ6_bitCount_0f7a4 4 = .ok (.ldc_w 265, 3) := by decide +kernel
theorem dJ6_bitCount_0f7a4_7 : decode cJ6_bitCount_0f7a4 7 = .ok (.iand, 1) := by decide +kernel
theorem dJ6_bitCount_0f7a4_8 : decode cJ6_bitCount_0f7a4 8 = .ok (.isub, 1) := by decide +kernel
theorem dJ6_bitCount_0f7a4_9 : decode cJ6_bitCount_0f7a4 9 = .ok (.istore_n 0, 1) := by decide +kernel
theorem dJ6_bitCount_0f7a4_10 : decode cJ6_bitCount_0f7a4 10 = .ok (.iload_n 0, 1) := by decide +kernel
theorem dJ6_bitCount_0f7a4_11 : decode cJ6_bitCount_0f7a4 11 = .ok (.ldc_w 266, 3) := by decide +kernel
theorem dJ6_bitCount_0f7a4_14 : decode cJ6_bitCount_0f7a4 14 = .ok (.iand, 1) := by decide +kernel
theorem dJ6_bitCount_0f7a4_15 : decode cJ6_bitCount_0f7a4 15 = .ok (.iload_n 0, 1) := by decide +kernel
theorem dJ6_bitCount_0f7a4_16 : decode cJ6_bitCount_0f7a4 16 = .ok (.iconst 2, 1) := by decide +kernel
theorem dJ6_bitCount_0f7a4_17 : decode cJ6_bitCount_0f7a4 17 = .ok (.iushr, 1) := by decide +kernel
theorem dJ6_bitCount_0f7a4_18 : decode cJ6_bitCount_0f7a4 18 = .ok (.ldc_w 266, 3) := by decide +kernel
theorem dJ6_bitCount_0f7a4_21 : decode cJ6_bitCount_0f7a4 21 = .ok (.iand, 1) := by decide +kernel
theorem dJ6_bitCount_0f7a4_22 : decode cJ6_bitCount_0f7a4 22 = .ok (.iadd, 1) := by decide +kernel
theorem dJ6_bitCount_0f7a4_23 : decode cJ6_bitCount_0f7a4 23 = .ok (.istore_n 0, 1) := by decide +kernel
theorem dJ6_bitCount_0f7a4_24 : decode cJ6_bitCount_0f7a4 24 = .ok (.iload_n 0, 1) := by decide +kernel
theorem dJ6_bitCount_0f7a4_25 : decode cJ6_bitCount_0f7a4 25 = .ok (.iload_n 0, 1) := by decide +kernel
theorem dJ6_bitCount_0f7a4_26 : decode cJ6_bitCount_0f7a4 26 = .ok (.iconst 4, 1) := by decide +kernel
theorem dJ6_bitCount_0f7a4_27 : decode cJ6_bitCount_0f7a4 27 = .ok (.iushr, 1) := by decide +kernel
theorem dJ6_bitCount_0f7a4_28 : decode cJ6_bitCount_0f7a4 28 = .ok (.iadd, 1) := by decide +kernel
theorem dJ6_bitCount_0f7a4_29 : decode cJ6_bitCount_0f7a4 29 = .ok (.ldc_w 267, 3) := by decide +kernel
theorem dJ6_bitCount_0f7a4_32 : decode cJ6_bitCount_0f7a4 32 = .ok (.iand, 1) := by decide +kernel
theorem dJ6_bitCount_0f7a4_33 : decode cJ6_bitCount_0f7a4 33 = .ok (.istore_n 0, 1) := by decide +kernel
theorem dJ6_bitCount_0f7a4_34 : decode cJ6_bitCount_0f7a4 34 = .ok (.iload_n 0, 1) := by decide +kernel
theorem dJ6_bitCount_0f7a4_35 : decode cJ6_bitCount_0f7a4 35 = .ok (.iload_n 0, 1) := by decide +kernel
theorem dJ6_bitCount_0f7a4_36 : decode cJ6_bitCount_0f7a4 36 = .ok (.bipush 8, 2) := by decide +kernel
theorem dJ6_bitCount_0f7a4_38 : decode cJ6_bitCount_0f7a4 38 = .ok (.iushr, 1) := by decide +kernel
theorem dJ6_bitCount_0f7a4_39 : decode cJ6_bitCount_0f7a4 39 = .ok (.iadd, 1) := by decide +kernel
theorem dJ6_bitCount_0f7a4_40 : decode cJ6_bitCount_0f7a4 40 = .ok (.istore_n 0, 1) := by decide +kernel
theorem dJ6_bitCount_0f7a4_41 : decode cJ6_bitCount_0f7a4 41 = .ok (.iload_n 0, 1) := by decide +kernel
theorem dJ6_bitCount_0f7a4_42 : decode cJ6_bitCount_0f7a4 42 = .ok (.iload_n 0, 1) := by decide +kernel
theorem dJ6_bitCount_0f7a4_43 : decode cJ6_bitCount_0f7a4 43 = .ok (.bipush 16, 2) := by decide +kernel
theorem dJ6_bitCount_0f7a4_45 : decode cJ6_bitCount_0f7a4 45 = .ok (.iushr, 1) := by decide +kernel
theorem dJ6_bitCount_0f7a4_46 : decode cJ6_bitCount_0f7a4 46 = .ok (.iadd, 1) := by decide +kernel
theorem dJ6_bitCount_0f7a4_47 : decode cJ6_bitCount_0f7a4 47 = .ok (.istore_n 0, 1) := by decide +kernel
theorem dJ6_bitCount_0f7a4_48 : decode cJ6_bitCount_0f7a4 48 = .ok (.iload_n 0, 1) := by decide +kernel
theorem dJ6_bitCount_0f7a4_49 : decode cJ6_bitCount_0f7a4 49 = .ok (.bipush 63, 2) := by decide +kernel
theorem dJ6_bitCount_0f7a4_51 : decode cJ6_bitCount_0f7a4 51 = .ok (.iand, 1) := by decide +kernel
theorem dJ6_bitCount_0f7a4_52 : decode cJ6_bitCount_0f7a4 52 = .ok (.ireturn, 1) := by decide +kernel
theorem dJ13_bitCount_95d88_0 : decode cJ13_bitCount_95d88 0 = .ok (.lload_n 0, 1) := by decide +kernel
theorem dJ13_bitCount_95d88_1 : decode cJ13_bitCount_95d88 1 = .ok (.lload_n 0, 1) := by decide +kernel
theorem dJ13_bitCount_95d88_2 : decode cJ13_bitCount_95d88 2 = .ok (.iconst 1, 1) := by decide +kernel
theorem dJ13_bitCount_95d88_3 : decode cJ13_bitCount_95d88 3 = .ok (.lushr, 1) := by decide +kernel
theorem dJ13_bitCount_95d88_4 : decode cJ13_bitCount_95d88 4 = .ok (.ldc2_w 314, 3) := by decide +kernel
theorem dJ13_bitCount_95d88_7 : decode cJ13_bitCount_95d88 7 = .ok (.land, 1) := by decide +kernel
theorem dJ13_bitCount_95d88_8 : decode cJ13_bitCount_95d88 8 = .ok (.lsub, 1) := by decide +kernel
theorem dJ13_bitCount_95d88_9 : decode cJ13_bitCount_95d88 9 = .ok (.lstore_n 0, 1) := by decide +kernel
theorem dJ13_bitCount_95d88_10 : decode cJ13_bitCount_95d88 10 = .ok (.lload_n 0, 1) := by decide +kernel
theorem dJ13_bitCount_95d88_11 : decode cJ13_bitCount_95d88 11 = .ok (.ldc2_w 316, 3) := by decide +kernel
theorem dJ13_bitCount_95d88_14 : decode cJ13_bitCount_95d88 14 = .ok (.land, 1) := by decide +kernel
theorem dJ13_bitCount_95d88_15 : decode cJ13_bitCount_95d88 15 = .ok (.lload_n 0, 1) := by decide +kernel
theorem dJ13_bitCount_95d88_16 : decode cJ13_bitCount_95d88 16 = .ok (.iconst 2, 1) := by decide +kernel
theorem dJ13_bitCount_95d88_17 : decode cJ13_bitCount_95d88 17 = .ok (.lushr, 1) := by decide +kernel
theorem dJ13_bitCount_95d88_18 : decode cJ13_bitCount_95d88 18 = .ok (.ldc2_w 316, 3) := by decide +kernel
theorem dJ13_bitCount_95d88_21 : decode cJ13_bitCount_95d88 21 = .ok (.land, 1) := by decide +kernel
theorem dJ13_bitCount_95d88_22 : decode cJ13_bitCount_95d88 22 = .ok (.ladd, 1) := by decide +kernel
theorem dJ13_bitCount_95d88_23 : decode cJ13_bitCount_95d88 23 = .ok (.lstore_n 0, 1) := by decide +kernel
theorem dJ13_bitCount_95d88_24 : decode cJ13_bitCount_95d88 24 = .ok (.lload_n 0, 1) := by decide +kernel
theorem dJ13_bitCount_95d88_25 : decode cJ13_bitCount_95d88 25 = .ok (.lload_n 0, 1) := by decide +kernel
theorem dJ13_bitCount_95d88_26 : decode cJ13_bitCount_95d88 26 = .ok (.iconst 4, 1) := by decide +kernel
theorem dJ13_bitCount_95d88_27 : decode cJ13_bitCount_95d88 27 = .ok (.lushr, 1) := by decide +kernel
theorem dJ13_bitCount_95d88_28 : decode cJ13_bitCount_95d88 28 = .ok (.ladd, 1) := by decide +kernel
theorem dJ13_bitCount_95d88_29 : decode cJ13_bitCount_95d88 29 = .ok (.ldc2_w 318, 3) := by decide +kernel
theorem dJ13_bitCount_95d88_32 : decode cJ13_bitCount_95d88 32 = .ok (.land, 1) := by decide +kernel
theorem dJ13_bitCount_95d88_33 : decode cJ13_bitCount_95d88 33 = .ok (.lstore_n 0, 1) := by decide +kernel
theorem dJ13_bitCount_95d88_34 : decode cJ13_bitCount_95d88 34 = .ok (.lload_n 0, 1) := by decide +kernel
theorem dJ13_bitCount_95d88_35 : decode cJ13_bitCount_95d88 35 = .ok (.lload_n 0, 1) := by decide +kernel
theorem dJ13_bitCount_95d88_36 : decode cJ13_bitCount_95d88 36 = .ok (.bipush 8, 2) := by decide +kernel
theorem dJ13_bitCount_95d88_38 : decode cJ13_bitCount_95d88 38 = .ok (.lushr, 1) := by decide +kernel
theorem dJ13_bitCount_95d88_39 : decode cJ13_bitCount_95d88 39 = .ok (.ladd, 1) := by decide +kernel
theorem dJ13_bitCount_95d88_40 : decode cJ13_bitCount_95d88 40 = .ok (.lstore_n 0, 1) := by decide +kernel
theorem dJ13_bitCount_95d88_41 : decode cJ13_bitCount_95d88 41 = .ok (.lload_n 0, 1) := by decide +kernel
theorem dJ13_bitCount_95d88_42 : decode cJ13_bitCount_95d88 42 = .ok (.lload_n 0, 1) := by decide +kernel
theorem dJ13_bitCount_95d88_43 : decode cJ13_bitCount_95d88 43 = .ok (.bipush 16, 2) := by decide +kernel
theorem dJ13_bitCount_95d88_45 : decode cJ13_bitCount_95d88 45 = .ok (.lushr, 1) := by decide +kernel
theorem dJ13_bitCount_95d88_46 : decode cJ13_bitCount_95d88 46 = .ok (.ladd, 1) := by decide +kernel
theorem dJ13_bitCount_95d88_47 : decode cJ13_bitCount_95d88 47 = .ok (.lstore_n 0, 1) := by decide +kernel
theorem dJ13_bitCount_95d88_48 : decode cJ13_bitCount_95d88 48 = .ok (.lload_n 0, 1) := by decide +kernel
theorem dJ13_bitCount_95d88_49 : decode cJ13_bitCount_95d88 49 = .ok (.lload_n 0, 1) := by decide +kernel
theorem dJ13_bitCount_95d88_50 : decode cJ13_bitCount_95d88 50 = .ok (.bipush 32, 2) := by decide +kernel
theorem dJ13_bitCount_95d88_52 : decode cJ13_bitCount_95d88 52 = .ok (.lushr, 1) := by decide +kernel
theorem dJ13_bitCount_95d88_53 : decode cJ13_bitCount_95d88 53 = .ok (.ladd, 1) := by decide +kernel
theorem dJ13_bitCount_95d88_54 : decode cJ13_bitCount_95d88 54 = .ok (.lstore_n 0, 1) := by decide +kernel
theorem dJ13_bitCount_95d88_55 : decode cJ13_bitCount_95d88 55 = .ok (.lload_n 0, 1) := by decide +kernel
theorem dJ13_bitCount_95d88_56 : decode cJ13_bitCount_95d88 56 = .ok (.l2i, 1) := by decide +kernel
theorem dJ13_bitCount_95d88_57 : decode cJ13_bitCount_95d88 57 = .ok (.bipush 127, 2) := by decide +kernel
theorem dJ13_bitCount_95d88_59 : decode cJ13_bitCount_95d88 59 = .ok (.iand, 1) := by decide +kernel
theorem dJ13_bitCount_95d88_60 : decode cJ13_bitCount_95d88 60 = .ok (.ireturn, 1) := by decide +kernel
theorem dJ9_max_7cf53_0 : decode cJ9_max_7cf53 0 = .ok (.iload_n 0, 1) := by decide +kernel
theorem dJ9_max_7cf53_1 : decode cJ9_max_7cf53 1 = .ok (.iload_n 1, 1) := by decide +kernel
theorem dJ9_max_7cf53_2 : decode cJ9_max_7cf53 2 = .ok (.if_icmp .lt 7, 3) := by decide +kernel
theorem dJ9_max_7cf53_5 : decode cJ9_max_7cf53 5 = .ok (.iload_n 0, 1) := by decide +kernel
theorem dJ9_max_7cf53_6 : decode cJ9_max_7cf53 6 = .ok (.goto 4, 3) := by decide +kernel
theorem dJ9_max_7cf53_9 : decode cJ9_max_7cf53 9 = .ok (.iload_n 1, 1) := by decide +kernel
theorem dJ9_max_7cf53_10 : decode cJ9_max_7cf53 10 = .ok (.ireturn, 1) := by decide +kernel
theorem dJ9_min_7cf53_0 : decode cJ9_min_7cf53 0 = .ok (.iload_n 0, 1) := by decide +kernel
theorem dJ9_min_7cf53_1 : decode cJ9_min_7cf53 1 = .ok (.iload_n 1, 1) := by decide +kernel
theorem dJ9_min_7cf53_2 : decode cJ9_min_7cf53 2 = .ok (.if_icmp .gt 7, 3) := by decide +kernel
theorem dJ9_min_7cf53_5 : decode cJ9_min_7cf53 5 = .ok (.iload_n 0, 1) := by decide +kernel
theorem dJ9_min_7cf53_6 : decode cJ9_min_7cf53 6 = .ok (.goto 4, 3) := by decide +kernel
theorem dJ9_min_7cf53_9 : decode cJ9_min_7cf53 9 = .ok (.iload_n 1, 1) := by decide +kernel
theorem dJ9_min_7cf53_10 : decode cJ9_min_7cf53 10 = .ok (.ireturn, 1) := by decide +kernel
set_option maxRecDepth 20000 in
theorem ggJ0_length_8abf5_J0_coder_7d493 : GoodIn wsJ0_length_8abf5 wsJ0_coder_7d493 := goodIn_r _ [6, 7, 8] rfl (by decide +kernel)
set_option maxRecDepth 20000 in
theorem gJ0_length_8abf5_J0_coder_7d493 : GoodIn wsJ0_length_8abf5 (wsV RJ0 335 RJ0 yJ0_coder_7d493 wsJ0_coder_7d493) := goodIn_app (goodIn_r _ [2, 3, 4, 5] rfl (by decide +kernel)) ggJ0_length_8abf5_J0_coder_7d493
theorem dJ0_length_8abf5_0 : decode cJ0_length_8abf5 0 = .ok (.aload_n 0, 1) := by decide +kernel
theorem dJ0_length_8abf5_1 : decode cJ0_length_8abf5 1 = .ok (.getfield 9, 3) := by decide +kernel
theorem dJ0_length_8abf5_4 : decode cJ0_length_8abf5 4 = .ok (.arraylength, 1) := by decide +kernel
theorem dJ0_length_8abf5_5 : decode cJ0_length_8abf5 5 = .ok (.aload_n 0, 1) := by decide +kernel
theorem dJ0_length_8abf5_6 : decode cJ0_length_8abf5 6 = .ok (.invokevirtual 335, 3) := by decide +kernel
theorem dJ0_length_8abf5_9 : decode cJ0_length_8abf5 9 = .ok (.ishr, 1) := by decide +kernel
theorem dJ0_length_8abf5_10 : decode cJ0_length_8abf5 10 = .ok (.ireturn, 1) := by decide +kernel
set_option maxRecDepth 20000 in
theorem ggJ0_charAt_5068e_J0_isLatin1_aae02 : GoodIn wsJ0_charAt_5068e wsJ0_isLatin1_aae02 := goodIn_r _ [6, 7, 8] rfl (by decide +kernel)
set_option maxRecDepth 20000 in
theorem gJ0_charAt_5068e_J0_isLatin1_aae02 : GoodIn wsJ0_charAt_5068e (wsV RJ0 492 RJ0 yJ0_isLatin1_aae02 wsJ0_isLatin1_aae02) := goodIn_app (goodIn_r _ [2, 3, 4, 5] rfl (by decide +kernel)) ggJ0_charAt_5068e_J0_isLatin1_aae02
set_option maxRecDepth 20000 in
theorem ggJ0_charAt_5068e_J1_charAt_3b067 : GoodIn wsJ0_charAt_5068e wsJ1_charAt_3b067 := goodIn_r _ [12, 13, 14, 5, 15, 16, 17, 18, 19, 20] rfl (by decide +kernel)
set_option maxRecDepth 20000 in
theorem gJ0_charAt_5068e_J1_charAt_3b067 : GoodIn wsJ0_charAt_5068e (va_wsS RJ0 495 yJ1_charAt_3b067 wsJ1_charAt_3b067) := goodIn_app (goodIn_r _ [9, 10, 11] rfl (by decide +kernel)) ggJ0_charAt_5068e_J1_charAt_3b067
set_option maxRecDepth 20000 in
theorem ggJ0_charAt_5068e_J2_charAt_3b067 : GoodIn wsJ0_charAt_5068e wsJ2_charAt_3b067 := goodIn_r _ [24, 25, 26, 23, 27, 28, 29, 30, 31, 14, 5, 15, 16, 17, 18, 19, 20, 32, 33, 34, 35, 36, 37] rfl (by decide +kernel)
set_option maxRecDepth 20000 in
theorem gJ0_charAt_5068e_J2_charAt_3b067 : GoodIn wsJ0_charAt_5068e (va_wsS RJ0 498 yJ2_charAt_3b067 wsJ2_charAt_3b067) := goodIn_app (goodIn_r _ [21, 22, 23] rfl (by decide +kernel)) ggJ0_charAt_5068e_J2_charAt_3b067
theorem dJ0_charAt_5068e_0 : decode cJ0_charAt_5068e 0 = .ok (.aload_n 0, 1) := by decide +kernel
theorem dJ0_charAt_5068e_1 : decode cJ0_charAt_5068e 1 = .ok (.invokevirtual 492, 3) := by decide +kernel
theorem dJ0_charAt_5068e_4 : decode cJ0_charAt_5068e 4 = .ok (.ifCond .eq 12, 3) := by decide +kernel
theorem dJ0_charAt_5068e_7 : decode cJ0_charAt_5068e 7 = .ok (.aload_n 0, 1) := by decide +kernel
theorem dJ0_charAt_5068e_8 : decode cJ0_charAt_5068e 8 = .ok (.getfield 9, 3) := by decide +kernel
theorem dJ0_charAt_5068e_11 : decode cJ0_charAt_5068e 11 = .ok (.iload_n 1, 1) := by decide +kernel
theorem dJ0_charAt_5068e_12 : decode cJ0_charAt_5068e 12 = .ok (.invokestatic 495, 3) := by decide +kernel
theorem dJ0_charAt_5068e_15 : decode cJ0_charAt_5068e 15 = .ok (.ireturn, 1) := by decide +kernel
theorem dJ0_charAt_5068e_16 : decode cJ0_charAt_5068e 16 = .ok (.aload_n 0, 1) := by decide +kernel
theorem dJ0_charAt_5068e_17 : decode cJ0_charAt_5068e 17 = .ok (.getfield 9, 3) := by decide +kernel
theorem dJ0_charAt_5068e_20 : decode cJ0_charAt_5068e 20 = .ok (.iload_n 1, 1) := by decide +kernel
theorem dJ0_charAt_5068e_21 : decode cJ0_charAt_5068e 21 = .ok (.invokestatic 498, 3) := by decide +kernel
theorem dJ0_charAt_5068e_24 : decode cJ0_charAt_5068e 24 = .ok (.ireturn, 1) := by decide +kernel
theorem dJ0_coder_7d493_0 : decode cJ0_coder_7d493 0 = .ok (.getstatic 38, 3) := by decide +kernel
theorem dJ0_coder_7d493_3 : decode cJ0_coder_7d493 3 = .ok (.ifCond .eq 10, 3) := by decide +kernel
theorem dJ0_coder_7d493_6 : decode cJ0_coder_7d493 6 = .ok (.aload_n 0, 1) := by decide +kernel
theorem dJ0_coder_7d493_7 : decode cJ0_coder_7d493 7 = .ok (.getfield 15, 3) := by decide +kernel
theorem dJ0_coder_7d493_10 : decode cJ0_coder_7d493 10 = .ok (.goto 4, 3) := by decide +kernel
theorem dJ0_coder_7d493_13 : decode cJ0_coder_7d493 13 = .ok (.iconst 1, 1) := by decide +kernel
theorem dJ0_coder_7d493_14 : decode cJ0_coder_7d493 14 = .ok (.ireturn, 1) := by decide +kernel
theorem dJ0_isLatin1_aae02_0 : decode cJ0_isLatin1_aae02 0 = .ok (.getstatic 38, 3) := by decide +kernel
theorem dJ0_isLatin1_aae02_3 : decode cJ0_isLatin1_aae02 3 = .ok (.ifCond .eq 14, 3) := by decide +kernel
theorem dJ0_isLatin1_aae02_6 : decode cJ0_isLatin1_aae02 6 = .ok (.aload_n 0, 1) := by decide +kernel
theorem dJ0_isLatin1_aae02_7 : decode cJ0_isLatin1_aae02 7 = .ok (.getfield 15, 3) := by decide +kernel
theorem dJ0_isLatin1_aae02_10 : decode cJ0_isLatin1_aae02 10 = .ok (.ifCond .ne 7, 3) := by decide +kernel
theorem dJ0_isLatin1_aae02_13 : decode cJ0_isLatin1_aae02 13 = .ok (.iconst 1, 1) := by decide +kernel
theorem dJ0_isLatin1_aae02_14 : decode cJ0_isLatin1_aae02 14 = .ok (.goto 4, 3) := by decide +kernel
theorem dJ0_isLatin1_aae02_17 : decode cJ0_isLatin1_aae02 17 = .ok (.iconst 0, 1) := by decide +kernel
theorem dJ0_isLatin1_aae02_18 : decode cJ0_isLatin1_aae02 18 = .ok (.ireturn, 1) := by decide +kernel
set_option maxRecDepth 20000 in
theorem ggJ0_checkIndex_df160_J3_checkIndex_8e157 : GoodIn wsJ0_checkIndex_df160 wsJ3_checkIndex_8e157 := goodIn_r _ [5] rfl (by decide +kernel)
set_option maxRecDepth 20000 in
theorem gJ0_checkIndex_df160_J3_checkIndex_8e157 : GoodIn wsJ0_checkIndex_df160 (va_wsS RJ0 1059 yJ3_checkIndex_8e157 wsJ3_checkIndex_8e157) := goodIn_app (goodIn_r _ [2, 3, 4] rfl (by decide +kernel)) ggJ0_checkIndex_df160_J3_checkIndex_8e157
theorem dJ0_checkIndex_df160_0 : decode cJ0_checkIndex_df160 0 = .ok (.iload_n 0, 1) := by decide +kernel
theorem dJ0_checkIndex_df160_1 : decode cJ0_checkIndex_df160 1 = .ok (.iload_n 1, 1) := by decide +kernel
theorem dJ0_checkIndex_df160_2 : decode cJ0_checkIndex_df160 2 = .ok (.getstatic 1053, 3) := by decide +kernel
theorem dJ0_checkIndex_df160_5 : decode cJ0_checkIndex_df160 5 = .ok (.invokestatic 1059, 3) := by decide +kernel
theorem dJ0_checkIndex_df160_8 : decode cJ0_checkIndex_df160 8 = .ok (.pop, 1) := by decide +kernel
theorem dJ0_checkIndex_df160_9 : decode cJ0_checkIndex_df160 9 = .ok (.return_, 1) := by decide +kernel
set_option maxRecDepth 20000 in
theorem ggJ1_charAt_3b067_J0_checkIndex_df160 : GoodIn wsJ1_charAt_3b067 wsJ0_checkIndex_df160 := goodIn_r _ [4, 5, 6, 7, 8, 9] rfl (by decide +kernel)
set_option maxRecDepth 20000 in
theorem gJ1_charAt_3b067_J0_checkIndex_df160 : GoodIn wsJ1_charAt_3b067 (va_wsS RJ1 9 yJ0_checkIndex_df160 wsJ0_checkIndex_df160) := goodIn_app (goodIn_r _ [1, 2, 3] rfl (by decide +kernel)) ggJ1_charAt_3b067_J0_checkIndex_df160
theorem dJ1_charAt_3b067_0 : decode cJ1_charAt_3b067 0 = .ok (.iload_n 1, 1) := by decide +kernel
theorem dJ1_charAt_3b067_1 : decode cJ1_charAt_3b067 1 = .ok (.aload_n 0, 1) := by decide +kernel
theorem dJ1_charAt_3b067_2 : decode cJ1_charAt_3b067 2 = .ok (.arraylength, 1) := by decide +kernel
theorem dJ1_charAt_3b067_3 : decode cJ1_charAt_3b067 3 = .ok (.invokestatic 9, 3) := by decide +kernel
theorem dJ1_charAt_3b067_6 : decode cJ1_charAt_3b067 6 = .ok (.aload_n 0, 1) := by decide +kernel
theorem dJ1_charAt_3b067_7 : decode cJ1_charAt_3b067 7 = .ok (.iload_n 1, 1) := by decide +kernel
theorem dJ1_charAt_3b067_8 : decode cJ1_charAt_3b067 8 = .ok (.baload, 1) := by decide +kernel
theorem dJ1_charAt_3b067_9 : decode cJ1_charAt_3b067 9 = .ok (.sipush 255, 3) := by decide +kernel
theorem dJ1_charAt_3b067_12 : decode cJ1_charAt_3b067 12 = .ok (.iand, 1) := by decide +kernel
theorem dJ1_charAt_3b067_13 : decode cJ1_charAt_3b067 13 = .ok (.i2c, 1) := by decide +kernel
theorem dJ1_charAt_3b067_14 : decode cJ1_charAt_3b067 14 = .ok (.ireturn, 1) := by decide +kernel
set_option maxRecDepth 20000 in
theorem ggJ2_getChar_3b067_J2_length_9d52b : GoodIn wsJ2_getChar_3b067 wsJ2_length_9d52b := goodIn_r _ [7] rfl (by decide +kernel)
set_option maxRecDepth 20000 in
theorem gJ2_getChar_3b067_J2_length_9d52b : GoodIn wsJ2_getChar_3b067 (va_wsS RJ2 48 yJ2_length_9d52b wsJ2_length_9d52b) := goodIn_app (goodIn_r _ [4, 5, 6] rfl (by decide +kernel)) ggJ2_getChar_3b067_J2_length_9d52b
theorem dJ2_getChar_3b067_0 : decode cJ2_getChar_3b067 0 = .ok (.getstatic 44, 3) := by decide +kernel
theorem dJ2_getChar_3b067_3 : decode cJ2_getChar_3b067 3 = .ok (.ifCond .ne 25, 3) := by decide +kernel
theorem dJ2_getChar_3b067_6 : decode cJ2_getChar_3b067 6 = .ok (.iload_n 1, 1) := by decide +kernel
theorem dJ2_getChar_3b067_7 : decode cJ2_getChar_3b067 7 = .ok (.ifCond .lt 11, 3) := by decide +kernel
theorem dJ2_getChar_3b067_10 : decode cJ2_getChar_3b067 10 = .ok (.iload_n 1, 1) := by decide +kernel
theorem dJ2_getChar_3b067_11 : decode cJ2_getChar_3b067 11 = .ok (.aload_n 0, 1) := by decide +kernel
theorem dJ2_getChar_3b067_12 : decode cJ2_getChar_3b067 12 = .ok (.invokestatic 48, 3) := by decide +kernel
theorem dJ2_getChar_3b067_15 : decode cJ2_getChar_3b067 15 = .ok (.if_icmp .lt 13, 3) := by decide +kernel
theorem dJ2_getChar_3b067_18 : decode cJ2_getChar_3b067 18 = .ok (.new 52, 3) := by decide +kernel
theorem dJ2_getChar_3b067_21 : decode cJ2_getChar_3b067 21 = .ok (.dup, 1) := by decide +kernel
theorem dJ2_getChar_3b067_22 : decode cJ2_getChar_3b067 22 = .ok (.ldc 54, 2) := by decide +kernel
theorem dJ2_getChar_3b067_24 : decode cJ2_getChar_3b067 24 = .ok (.invokespecial 56, 3) := by decide +kernel
theorem dJ2_getChar_3b067_27 : decode cJ2_getChar_3b067 27 = .ok (.athrow, 1) := by decide +kernel
theorem dJ2_getChar_3b067_28 : decode cJ2_getChar_3b067 28 = .ok (.iload_n 1, 1) := by decide +kernel
theorem dJ2_getChar_3b067_29 : decode cJ2_getChar_3b067 29 = .ok (.iconst 1, 1) := by decide +kernel
theorem dJ2_getChar_3b067_30 : decode cJ2_getChar_3b067 30 = .ok (.ishl, 1) := by decide +kernel
theorem dJ2_getChar_3b067_31 : decode cJ2_getChar_3b067 31 = .ok (.istore_n 1, 1) := by decide +kernel
theorem dJ2_getChar_3b067_32 : decode cJ2_getChar_3b067 32 = .ok (.aload_n 0, 1) := by decide +kernel
theorem dJ2_getChar_3b067_33 : decode cJ2_getChar_3b067 33 = .ok (.iload_n 1, 1) := by decide +kernel
theorem dJ2_getChar_3b067_34 : decode cJ2_getChar_3b067 34 = .ok (.iinc 1 1, 3) := by decide +kernel
theorem dJ2_getChar_3b067_37 : decode cJ2_getChar_3b067 37 = .ok (.baload, 1) := by decide +kernel
theorem dJ2_getChar_3b067_38 : decode cJ2_getChar_3b067 38 = .ok (.sipush 255, 3) := by decide +kernel
theorem dJ2_getChar_3b067_41 : decode cJ2_getChar_3b067 41 = .ok (.iand, 1) := by decide +kernel
theorem dJ2_getChar_3b067_42 : decode cJ2_getChar_3b067 42 = .ok (.getstatic 59, 3) := by decide +kernel
theorem dJ2_getChar_3b067_45 : decode cJ2_getChar_3b067 45 = .ok (.ishl, 1) := by decide +kernel
theorem dJ2_getChar_3b067_46 : decode cJ2_getChar_3b067 46 = .ok (.aload_n 0, 1) := by decide +kernel
theorem dJ2_getChar_3b067_47 : decode cJ2_getChar_3b067 47 = .ok (.iload_n 1, 1) := by decide +kernel
theorem dJ2_getChar_3b067_48 : decode cJ2_getChar_3b067 48 = .ok (.baload, 1) := by decide +kernel
theorem dJ2_getChar_3b067_49 : decode cJ2_getChar_3b067 49 = .ok (.sipush 255, 3) := by decide +kernel
theorem dJ2_getChar_3b067_52 : decode cJ2_getChar_3b067 52 = .ok (.iand, 1) := by decide +kernel
theorem dJ2_getChar_3b067_53 : decode cJ2_getChar_3b067 53 = .ok (.getstatic 63, 3) := by decide +kernel
theorem dJ2_getChar_3b067_56 : decode cJ2_getChar_3b067 56 = .ok (.ishl, 1) := by decide +kernel
theorem dJ2_getChar_3b067_57 : decode cJ2_getChar_3b067 57 = .ok (.ior, 1) := by decide +kernel
theorem dJ2_getChar_3b067_58 : decode cJ2_getChar_3b067 58 = .ok (.i2c, 1) := by decide +kernel
theorem dJ2_getChar_3b067_59 : decode cJ2_getChar_3b067 59 = .ok (.ireturn, 1) := by decide +kernel
theorem dJ2_length_9d52b_0 : decode cJ2_length_9d52b 0 = .ok (.aload_n 0, 1) := by decide +kernel
theorem dJ2_length_9d52b_1 : decode cJ2_length_9d52b 1 = .ok (.arraylength, 1) := by decide +kernel
theorem dJ2_length_9d52b_2 : decode cJ2_length_9d52b 2 = .ok (.iconst 1, 1) := by decide +kernel
theorem dJ2_length_9d52b_3 : decode cJ2_length_9d52b 3 = .ok (.ishr, 1) := by decide +kernel
theorem dJ2_length_9d52b_4 : decode cJ2_length_9d52b 4 = .ok (.ireturn, 1) := by decide +kernel
set_option maxRecDepth 20000 in
theorem ggJ2_charAt_3b067_J2_checkIndex_2214a : GoodIn wsJ2_charAt_3b067 wsJ2_checkIndex_2214a := goodIn_r _ [4, 5, 6, 3, 7, 8, 9, 10, 11, 12, 13, 14, 15, 16] rfl (by decide +kernel)
set_option maxRecDepth 20000 in
theorem gJ2_charAt_3b067_J2_checkIndex_2214a : GoodIn wsJ2_charAt_3b067 (va_wsS RJ2 67 yJ2_checkIndex_2214a wsJ2_checkIndex_2214a) := goodIn_app (goodIn_r _ [1, 2, 3] rfl (by decide +kernel)) ggJ2_charAt_3b067_J2_checkIndex_2214a
set_option maxRecDepth 20000 in
theorem ggJ2_charAt_3b067_J2_getChar_3b067 : GoodIn wsJ2_charAt_3b067 wsJ2_getChar_3b067 := goodIn_r _ [19, 20, 21, 22, 5, 6, 3, 7] rfl (by decide +kernel)
set_option maxRecDepth 20000 in
theorem gJ2_charAt_3b067_J2_getChar_3b067 : GoodIn wsJ2_charAt_3b067 (va_wsS RJ2 71 yJ2_getChar_3b067 wsJ2_getChar_3b067) := goodIn_app (goodIn_r _ [17, 18, 3] rfl (by decide +kernel)) ggJ2_charAt_3b067_J2_getChar_3b067
theorem dJ2_charAt_3b067_0 : decode cJ2_charAt_3b067 0 = .ok (.iload_n 1, 1) := by decide +kernel
theorem dJ2_charAt_3b067_1 : decode cJ2_charAt_3b067 1 = .ok (.aload_n 0, 1) := by decide +kernel
theorem dJ2_charAt_3b067_2 : decode cJ2_charAt_3b067 2 = .ok (.invokestatic 67, 3) := by decide +kernel
theorem dJ2_charAt_3b067_5 : decode cJ2_charAt_3b067 5 = .ok (.aload_n 0, 1) := by decide +kernel
theorem dJ2_charAt_3b067_6 : decode cJ2_charAt_3b067 6 = .ok (.iload_n 1, 1) := by decide +kernel
theorem dJ2_charAt_3b067_7 : decode cJ2_charAt_3b067 7 = .ok (.invokestatic 71, 3) := by decide +kernel
theorem dJ2_charAt_3b067_10 : decode cJ2_charAt_3b067 10 = .ok (.ireturn, 1) := by decide +kernel
set_option maxRecDepth 20000 in
theorem ggJ2_checkIndex_2214a_J2_length_9d52b : GoodIn wsJ2_checkIndex_2214a wsJ2_length_9d52b := goodIn_r _ [4] rfl (by decide +kernel)
set_option maxRecDepth 20000 in
theorem gJ2_checkIndex_2214a_J2_length_9d52b : GoodIn wsJ2_checkIndex_2214a (va_wsS RJ2 48 yJ2_length_9d52b wsJ2_length_9d52b) := goodIn_app (goodIn_r _ [1, 2, 3] rfl (by decide +kernel)) ggJ2_checkIndex_2214a_J2_length_9d52b
set_option maxRecDepth 20000 in
theorem ggJ2_checkIndex_2214a_J0_checkIndex_df160 : GoodIn wsJ2_checkIndex_2214a wsJ0_checkIndex_df160 := goodIn_r _ [8, 9, 10, 11, 12, 13] rfl (by decide +kernel)
set_option maxRecDepth 20000 in
theorem gJ2_checkIndex_2214a_J0_checkIndex_df160 : GoodIn wsJ2_checkIndex_2214a (va_wsS RJ2 414 yJ0_checkIndex_df160 wsJ0_checkIndex_df160) := goodIn_app (goodIn_r _ [5, 6, 7] rfl (by decide +kernel)) ggJ2_checkIndex_2214a_J0_checkIndex_df160
theorem dJ2_checkIndex_2214a_0 : decode cJ2_checkIndex_2214a 0 = .ok (.iload_n 0, 1) := by decide +kernel
theorem dJ2_checkIndex_2214a_1 : decode cJ2_checkIndex_2214a 1 = .ok (.aload_n 1, 1) := by decide +kernel
theorem dJ2_checkIndex_2214a_2 : decode cJ2_checkIndex_2214a 2 = .ok (.invokestatic 48, 3) := by decide +kernel
theorem dJ2_checkIndex_2214a_5 : decode cJ2_checkIndex_2214a 5 = .ok (.invokestatic 414, 3) := by decide +kernel
theorem dJ2_checkIndex_2214a_8 : decode cJ2_checkIndex_2214a 8 = .ok (.return_, 1) := by decide +kernel
theorem dJ3_checkIndex_8e157_0 : decode cJ3_checkIndex_8e157 0 = .ok (.iload_n 0, 1) := by decide +kernel
theorem dJ3_checkIndex_8e157_1 : decode cJ3_checkIndex_8e157 1 = .ok (.ifCond .lt 8, 3) := by decide +kernel
theorem dJ3_checkIndex_8e157_4 : decode cJ3_checkIndex_8e157 4 = .ok (.iload_n 0, 1) := by decide +kernel
theorem dJ3_checkIndex_8e157_5 : decode cJ3_checkIndex_8e157 5 = .ok (.iload_n 1, 1) := by decide +kernel
theorem dJ3_checkIndex_8e157_6 : decode cJ3_checkIndex_8e157 6 = .ok (.if_icmp .lt 10, 3) := by decide +kernel
theorem dJ3_checkIndex_8e157_9 : decode cJ3_checkIndex_8e157 9 = .ok (.aload_n 2, 1) := by decide +kernel
theorem dJ3_checkIndex_8e157_10 : decode cJ3_checkIndex_8e157 10 = .ok (.iload_n 0, 1) := by decide +kernel
theorem dJ3_checkIndex_8e157_11 : decode cJ3_checkIndex_8e157 11 = .ok (.iload_n 1, 1) := by decide +kernel
theorem dJ3_checkIndex_8e157_12 : decode cJ3_checkIndex_8e157 12 = .ok (.invokestatic 95, 3) := by decide +kernel
theorem dJ3_checkIndex_8e157_15 : decode cJ3_checkIndex_8e157 15 = .ok (.athrow, 1) := by decide +kernel
theorem dJ3_checkIndex_8e157_16 : decode cJ3_checkIndex_8e157 16 = .ok (.iload_n 0, 1) := by decide +kernel
theorem dJ3_checkIndex_8e157_17 : decode cJ3_checkIndex_8e157 17 = .ok (.ireturn, 1) := by decide +kernel
abbrev vwCl : List vw_C := [(RX0, TX0, 8), (RX1, TX1, 3), (RX3, TX3, 2), (RX4, TX4, 2), (RX5, TX5, 2), (RX6, TX6, 9), (RX7, TX7, 5), (RX8, TX8, 9), (RX9, TX9, 27)]
