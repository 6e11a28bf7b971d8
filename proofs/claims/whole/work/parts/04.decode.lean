theorem dX0_init_0 : decode cX0_init 0 = .ok (.aload_n 0, 1) := by decide +kernel
theorem dX0_init_1 : decode cX0_init 1 = .ok (.invokespecial 3, 3) := by decide +kernel
theorem dX0_init_4 : decode cX0_init 4 = .ok (.aload_n 0, 1) := by decide +kernel
theorem dX0_init_5 : decode cX0_init 5 = .ok (.bipush 60, 2) := by decide +kernel
theorem dX0_init_7 : decode cX0_init 7 = .ok (.newarray .int, 2) := by decide +kernel
theorem dX0_init_9 : decode cX0_init 9 = .ok (.putfield 9, 3) := by decide +kernel
theorem dX0_init_12 : decode cX0_init 12 = .ok (.aload_n 0, 1) := by decide +kernel
theorem dX0_init_13 : decode cX0_init 13 = .ok (.bipush 60, 2) := by decide +kernel
theorem dX0_init_15 : decode cX0_init 15 = .ok (.newarray .int, 2) := by decide +kernel
theorem dX0_init_17 : decode cX0_init 17 = .ok (.putfield 15, 3) := by decide +kernel
theorem dX0_init_20 : decode cX0_init 20 = .ok (.aload_n 0, 1) := by decide +kernel
theorem dX0_init_21 : decode cX0_init 21 = .ok (.bipush 60, 2) := by decide +kernel
theorem dX0_init_23 : decode cX0_init 23 = .ok (.newarray .int, 2) := by decide +kernel
theorem dX0_init_25 : decode cX0_init 25 = .ok (.putfield 18, 3) := by decide +kernel
theorem dX0_init_28 : decode cX0_init 28 = .ok (.aload_n 0, 1) := by decide +kernel
theorem dX0_init_29 : decode cX0_init 29 = .ok (.bipush 60, 2) := by decide +kernel
theorem dX0_init_31 : decode cX0_init 31 = .ok (.newarray .int, 2) := by decide +kernel
theorem dX0_init_33 : decode cX0_init 33 = .ok (.putfield 21, 3) := by decide +kernel
theorem dX0_init_36 : decode cX0_init 36 = .ok (.aload_n 0, 1) := by decide +kernel
theorem dX0_init_37 : decode cX0_init 37 = .ok (.bipush 60, 2) := by decide +kernel
theorem dX0_init_39 : decode cX0_init 39 = .ok (.newarray .int, 2) := by decide +kernel
theorem dX0_init_41 : decode cX0_init 41 = .ok (.putfield 24, 3) := by decide +kernel
theorem dX0_init_44 : decode cX0_init 44 = .ok (.aload_n 0, 1) := by decide +kernel
theorem dX0_init_45 : decode cX0_init 45 = .ok (.bipush 60, 2) := by decide +kernel
theorem dX0_init_47 : decode cX0_init 47 = .ok (.newarray .int, 2) := by decide +kernel
theorem dX0_init_49 : decode cX0_init 49 = .ok (.putfield 27, 3) := by decide +kernel
theorem dX0_init_52 : decode cX0_init 52 = .ok (.aload_n 0, 1) := by decide +kernel
theorem dX0_init_53 : decode cX0_init 53 = .ok (.iconst 4, 1) := by decide +kernel
theorem dX0_init_54 : decode cX0_init 54 = .ok (.putfield 30, 3) := by decide +kernel
theorem dX0_init_57 : decode cX0_init 57 = .ok (.aload_n 0, 1) := by decide +kernel
theorem dX0_init_58 : decode cX0_init 58 = .ok (.iconst 0, 1) := by decide +kernel
theorem dX0_init_59 : decode cX0_init 59 = .ok (.putfield 34, 3) := by decide +kernel
theorem dX0_init_62 : decode cX0_init 62 = .ok (.return_, 1) := by decide +kernel
theorem dX0_begin_0 : decode cX0_begin 0 = .ok (.aload_n 0, 1) := by decide +kernel
theorem dX0_begin_1 : decode cX0_begin 1 = .ok (.iload_n 1, 1) := by decide +kernel
theorem dX0_begin_2 : decode cX0_begin 2 = .ok (.putfield 30, 3) := by decide +kernel
theorem dX0_begin_5 : decode cX0_begin 5 = .ok (.aload_n 0, 1) := by decide +kernel
theorem dX0_begin_6 : decode cX0_begin 6 = .ok (.iconst 0, 1) := by decide +kernel
theorem dX0_begin_7 : decode cX0_begin 7 = .ok (.putfield 34, 3) := by decide +kernel
theorem dX0_begin_10 : decode cX0_begin 10 = .ok (.return_, 1) := by decide +kernel
theorem dX0_copyFrom_0 : decode cX0_copyFrom 0 = .ok (.aload_n 0, 1) := by decide +kernel
theorem dX0_copyFrom_1 : decode cX0_copyFrom 1 = .ok (.aload_n 1, 1) := by decide +kernel
theorem dX0_copyFrom_2 : decode cX0_copyFrom 2 = .ok (.getfield 30, 3) := by decide +kernel
theorem dX0_copyFrom_5 : decode cX0_copyFrom 5 = .ok (.putfield 30, 3) := by decide +kernel
theorem dX0_copyFrom_8 : decode cX0_copyFrom 8 = .ok (.aload_n 0, 1) := by decide +kernel
theorem dX0_copyFrom_9 : decode cX0_copyFrom 9 = .ok (.aload_n 1, 1) := by decide +kernel
theorem dX0_copyFrom_10 : decode cX0_copyFrom 10 = .ok (.getfield 34, 3) := by decide +kernel
theorem dX0_copyFrom_13 : decode cX0_copyFrom 13 = .ok (.putfield 34, 3) := by decide +kernel
theorem dX0_copyFrom_16 : decode cX0_copyFrom 16 = .ok (.aload_n 1, 1) := by decide +kernel
theorem dX0_copyFrom_17 : decode cX0_copyFrom 17 = .ok (.getfield 9, 3) := by decide +kernel
theorem dX0_copyFrom_20 : decode cX0_copyFrom 20 = .ok (.iconst 0, 1) := by decide +kernel
theorem dX0_copyFrom_21 : decode cX0_copyFrom 21 = .ok (.aload_n 0, 1) := by decide +kernel
theorem dX0_copyFrom_22 : decode cX0_copyFrom 22 = .ok (.getfield 9, 3) := by decide +kernel
theorem dX0_copyFrom_25 : decode cX0_copyFrom 25 = .ok (.iconst 0, 1) := by decide +kernel
theorem dX0_copyFrom_26 : decode cX0_copyFrom 26 = .ok (.aload_n 0, 1) := by decide +kernel
theorem dX0_copyFrom_27 : decode cX0_copyFrom 27 = .ok (.getfield 34, 3) := by decide +kernel
theorem dX0_copyFrom_30 : decode cX0_copyFrom 30 = .ok (.invokestatic 37, 3) := by decide +kernel
theorem dX0_copyFrom_33 : decode cX0_copyFrom 33 = .ok (.aload_n 1, 1) := by decide +kernel
theorem dX0_copyFrom_34 : decode cX0_copyFrom 34 = .ok (.getfield 15, 3) := by decide +kernel
theorem dX0_copyFrom_37 : decode cX0_copyFrom 37 = .ok (.iconst 0, 1) := by decide +kernel
theorem dX0_copyFrom_38 : decode cX0_copyFrom 38 = .ok (.aload_n 0, 1) := by decide +kernel
theorem dX0_copyFrom_39 : decode cX0_copyFrom 39 = .ok (.getfield 15, 3) := by decide +kernel
theorem dX0_copyFrom_42 : decode cX0_copyFrom 42 = .ok (.iconst 0, 1) := by decide +kernel
theorem dX0_copyFrom_43 : decode cX0_copyFrom 43 = .ok (.aload_n 0, 1) := by decide +kernel
theorem dX0_copyFrom_44 : decode cX0_copyFrom 44 = .ok (.getfield 34, 3) := by decide +kernel
theorem dX0_copyFrom_47 : decode cX0_copyFrom 47 = .ok (.invokestatic 37, 3) := by decide +kernel
theorem dX0_copyFrom_50 : decode cX0_copyFrom 50 = .ok (.aload_n 1, 1) := by decide +kernel
theorem dX0_copyFrom_51 : decode cX0_copyFrom 51 = .ok (.getfield 18, 3) := by decide +kernel
theorem dX0_copyFrom_54 : decode cX0_copyFrom 54 = .ok (.iconst 0, 1) := by decide +kernel
theorem dX0_copyFrom_55 : decode cX0_copyFrom 55 = .ok (.aload_n 0, 1) := by decide +kernel
theorem dX0_copyFrom_56 : decode cX0_copyFrom 56 = .ok (.getfield 18, 3) := by decide +kernel
theorem dX0_copyFrom_59 : decode cX0_copyFrom 59 = .ok (.iconst 0, 1) := by decide +kernel
theorem dX0_copyFrom_60 : decode cX0_copyFrom 60 = .ok (.aload_n 0, 1) := by decide +kernel
theorem dX0_copyFrom_61 : decode cX0_copyFrom 61 = .ok (.getfield 34, 3) := by decide +kernel
theorem dX0_copyFrom_64 : decode cX0_copyFrom 64 = .ok (.invokestatic 37, 3) := by decide +kernel
theorem dX0_copyFrom_67 : decode cX0_copyFrom 67 = .ok (.aload_n 1, 1) := by decide +kernel
theorem dX0_copyFrom_68 : decode cX0_copyFrom 68 = .ok (.getfield 21, 3) := by decide +kernel
theorem dX0_copyFrom_71 : decode cX0_copyFrom 71 = .ok (.iconst 0, 1) := by decide +kernel
theorem dX0_copyFrom_72 : decode cX0_copyFrom 72 = .ok (.aload_n 0, 1) := by decide +kernel
theorem dX0_copyFrom_73 : decode cX0_copyFrom 73 = .ok (.getfield 21, 3) := by decide +kernel
theorem dX0_copyFrom_76 : decode cX0_copyFrom 76 = .ok (.iconst 0, 1) := by decide +kernel
theorem dX0_copyFrom_77 : decode cX0_copyFrom 77 = .ok (.aload_n 0, 1) := by decide +kernel
theorem dX0_copyFrom_78 : decode cX0_copyFrom 78 = .ok (.getfield 34, 3) := by decide +kernel
theorem dX0_copyFrom_81 : decode cX0_copyFrom 81 = .ok (.invokestatic 37, 3) := by decide +kernel
theorem dX0_copyFrom_84 : decode cX0_copyFrom 84 = .ok (.aload_n 1, 1) := by decide +kernel
theorem dX0_copyFrom_85 : decode cX0_copyFrom 85 = .ok (.getfield 24, 3) := by decide +kernel
theorem dX0_copyFrom_88 : decode cX0_copyFrom 88 = .ok (.iconst 0, 1) := by decide +kernel
theorem dX0_copyFrom_89 : decode cX0_copyFrom 89 = .ok (.aload_n 0, 1) := by decide +kernel
theorem dX0_copyFrom_90 : decode cX0_copyFrom 90 = .ok (.getfield 24, 3) := by decide +kernel
theorem dX0_copyFrom_93 : decode cX0_copyFrom 93 = .ok (.iconst 0, 1) := by decide +kernel
theorem dX0_copyFrom_94 : decode cX0_copyFrom 94 = .ok (.aload_n 0, 1) := by decide +kernel
theorem dX0_copyFrom_95 : decode cX0_copyFrom 95 = .ok (.getfield 34, 3) := by decide +kernel
theorem dX0_copyFrom_98 : decode cX0_copyFrom 98 = .ok (.invokestatic 37, 3) := by decide +kernel
theorem dX0_copyFrom_101 : decode cX0_copyFrom 101 = .ok (.aload_n 1, 1) := by decide +kernel
theorem dX0_copyFrom_102 : decode cX0_copyFrom 102 = .ok (.getfield 27, 3) := by decide +kernel
theorem dX0_copyFrom_105 : decode cX0_copyFrom 105 = .ok (.iconst 0, 1) := by decide +kernel
theorem dX0_copyFrom_106 : decode cX0_copyFrom 106 = .ok (.aload_n 0, 1) := by decide +kernel
theorem dX0_copyFrom_107 : decode cX0_copyFrom 107 = .ok (.getfield 27, 3) := by decide +kernel
theorem dX0_copyFrom_110 : decode cX0_copyFrom 110 = .ok (.iconst 0, 1) := by decide +kernel
theorem dX0_copyFrom_111 : decode cX0_copyFrom 111 = .ok (.aload_n 0, 1) := by decide +kernel
theorem dX0_copyFrom_112 : decode cX0_copyFrom 112 = .ok (.getfield 34, 3) := by decide +kernel
theorem dX0_copyFrom_115 : decode cX0_copyFrom 115 = .ok (.invokestatic 37, 3) := by decide +kernel
theorem dX0_copyFrom_118 : decode cX0_copyFrom 118 = .ok (.return_, 1) := by decide +kernel
theorem dX0_hasClause_0 : decode cX0_hasClause 0 = .ok (.iload_n 1, 1) := by decide +kernel
theorem dX0_hasClause_1 : decode cX0_hasClause 1 = .ok (.ifCond .lt 15, 3) := by decide +kernel
theorem dX0_hasClause_4 : decode cX0_hasClause 4 = .ok (.iload_n 1, 1) := by decide +kernel
theorem dX0_hasClause_5 : decode cX0_hasClause 5 = .ok (.aload_n 0, 1) := by decide +kernel
theorem dX0_hasClause_6 : decode cX0_hasClause 6 = .ok (.getfield 34, 3) := by decide +kernel
theorem dX0_hasClause_9 : decode cX0_hasClause 9 = .ok (.if_icmp .ge 7, 3) := by decide +kernel
theorem dX0_hasClause_12 : decode cX0_hasClause 12 = .ok (.iconst 1, 1) := by decide +kernel
theorem dX0_hasClause_13 : decode cX0_hasClause 13 = .ok (.goto 4, 3) := by decide +kernel
theorem dX0_hasClause_16 : decode cX0_hasClause 16 = .ok (.iconst 0, 1) := by decide +kernel
theorem dX0_hasClause_17 : decode cX0_hasClause 17 = .ok (.ireturn, 1) := by decide +kernel
theorem dX0_isFull_0 : decode cX0_isFull 0 = .ok (.aload_n 0, 1) := by decide +kernel
theorem dX0_isFull_1 : decode cX0_isFull 1 = .ok (.getfield 34, 3) := by decide +kernel
theorem dX0_isFull_4 : decode cX0_isFull 4 = .ok (.bipush 60, 2) := by decide +kernel
theorem dX0_isFull_6 : decode cX0_isFull 6 = .ok (.if_icmp .lt 7, 3) := by decide +kernel
theorem dX0_isFull_9 : decode cX0_isFull 9 = .ok (.iconst 1, 1) := by decide +kernel
theorem dX0_isFull_10 : decode cX0_isFull 10 = .ok (.goto 4, 3) := by decide +kernel
theorem dX0_isFull_13 : decode cX0_isFull 13 = .ok (.iconst 0, 1) := by decide +kernel
theorem dX0_isFull_14 : decode cX0_isFull 14 = .ok (.ireturn, 1) := by decide +kernel
theorem dX0_allVariables_0 : decode cX0_allVariables 0 = .ok (.iconst 1, 1) := by decide +kernel
theorem dX0_allVariables_1 : decode cX0_allVariables 1 = .ok (.aload_n 0, 1) := by decide +kernel
theorem dX0_allVariables_2 : decode cX0_allVariables 2 = .ok (.getfield 30, 3) := by decide +kernel
theorem dX0_allVariables_5 : decode cX0_allVariables 5 = .ok (.ishl, 1) := by decide +kernel
theorem dX0_allVariables_6 : decode cX0_allVariables 6 = .ok (.iconst 1, 1) := by decide +kernel
theorem dX0_allVariables_7 : decode cX0_allVariables 7 = .ok (.isub, 1) := by decide +kernel
theorem dX0_allVariables_8 : decode cX0_allVariables 8 = .ok (.ireturn, 1) := by decide +kernel
set_option maxRecDepth 20000 in
theorem ggX0_isMask_X0_allVariables : GoodIn wsX0_isMask wsX0_allVariables := goodIn_r _ [5, 6, 7, 8, 9, 10, 11, 12, 13, 14] rfl (by decide +kernel)
set_option maxRecDepth 20000 in
theorem gX0_isMask_X0_allVariables : GoodIn wsX0_isMask (wsV RX0 43 RX0 yX0_allVariables wsX0_allVariables) := goodIn_app (goodIn_r _ [1, 2, 3, 4] rfl (by decide +kernel)) ggX0_isMask_X0_allVariables
theorem dX0_isMask_0 : decode cX0_isMask 0 = .ok (.iload_n 1, 1) := by decide +kernel
theorem dX0_isMask_1 : decode cX0_isMask 1 = .ok (.aload_n 0, 1) := by decide +kernel
theorem dX0_isMask_2 : decode cX0_isMask 2 = .ok (.invokevirtual 43, 3) := by decide +kernel
theorem dX0_isMask_5 : decode cX0_isMask 5 = .ok (.iconst (-1), 1) := by decide +kernel
theorem dX0_isMask_6 : decode cX0_isMask 6 = .ok (.ixor, 1) := by decide +kernel
theorem dX0_isMask_7 : decode cX0_isMask 7 = .ok (.iand, 1) := by decide +kernel
theorem dX0_isMask_8 : decode cX0_isMask 8 = .ok (.ifCond .ne 7, 3) := by decide +kernel
theorem dX0_isMask_11 : decode cX0_isMask 11 = .ok (.iconst 1, 1) := by decide +kernel
theorem dX0_isMask_12 : decode cX0_isMask 12 = .ok (.goto 4, 3) := by decide +kernel
theorem dX0_isMask_15 : decode cX0_isMask 15 = .ok (.iconst 0, 1) := by decide +kernel
theorem dX0_isMask_16 : decode cX0_isMask 16 = .ok (.ireturn, 1) := by decide +kernel
theorem dX0_indexOf_0 : decode cX0_indexOf 0 = .ok (.iconst 0, 1) := by decide +kernel
theorem dX0_indexOf_1 : decode cX0_indexOf 1 = .ok (.istore_n 3, 1) := by decide +kernel
theorem dX0_indexOf_2 : decode cX0_indexOf 2 = .ok (.iload_n 3, 1) := by decide +kernel
theorem dX0_indexOf_3 : decode cX0_indexOf 3 = .ok (.aload_n 0, 1) := by decide +kernel
theorem dX0_indexOf_4 : decode cX0_indexOf 4 = .ok (.getfield 34, 3) := by decide +kernel
theorem dX0_indexOf_7 : decode cX0_indexOf 7 = .ok (.if_icmp .ge 31, 3) := by decide +kernel
theorem dX0_indexOf_10 : decode cX0_indexOf 10 = .ok (.aload_n 0, 1) := by decide +kernel
theorem dX0_indexOf_11 : decode cX0_indexOf 11 = .ok (.getfield 9, 3) := by decide +kernel
theorem dX0_indexOf_14 : decode cX0_indexOf 14 = .ok (.iload_n 3, 1) := by decide +kernel
theorem dX0_indexOf_15 : decode cX0_indexOf 15 = .ok (.iaload, 1) := by decide +kernel
theorem dX0_indexOf_16 : decode cX0_indexOf 16 = .ok (.iload_n 1, 1) := by decide +kernel
theorem dX0_indexOf_17 : decode cX0_indexOf 17 = .ok (.if_icmp .ne 15, 3) := by decide +kernel
theorem dX0_indexOf_20 : decode cX0_indexOf 20 = .ok (.aload_n 0, 1) := by decide +kernel
theorem dX0_indexOf_21 : decode cX0_indexOf 21 = .ok (.getfield 15, 3) := by decide +kernel
theorem dX0_indexOf_24 : decode cX0_indexOf 24 = .ok (.iload_n 3, 1) := by decide +kernel
theorem dX0_indexOf_25 : decode cX0_indexOf 25 = .ok (.iaload, 1) := by decide +kernel
theorem dX0_indexOf_26 : decode cX0_indexOf 26 = .ok (.iload_n 2, 1) := by decide +kernel
theorem dX0_indexOf_27 : decode cX0_indexOf 27 = .ok (.if_icmp .ne 5, 3) := by decide +kernel
theorem dX0_indexOf_30 : decode cX0_indexOf 30 = .ok (.iload_n 3, 1) := by decide +kernel
theorem dX0_indexOf_31 : decode cX0_indexOf 31 = .ok (.ireturn, 1) := by decide +kernel
theorem dX0_indexOf_32 : decode cX0_indexOf 32 = .ok (.iinc 3 1, 3) := by decide +kernel
theorem dX0_indexOf_35 : decode cX0_indexOf 35 = .ok (.goto (-33), 3) := by decide +kernel
theorem dX0_indexOf_38 : decode cX0_indexOf 38 = .ok (.iconst (-1), 1) := by decide +kernel
theorem dX0_indexOf_39 : decode cX0_indexOf 39 = .ok (.ireturn, 1) := by decide +kernel
set_option maxRecDepth 20000 in
theorem ggX0_literalsIn_J6_bitCount_0f7a4 : GoodIn wsX0_literalsIn wsJ6_bitCount_0f7a4 := goodIn_r _ [6, 7, 8, 9] rfl (by decide +kernel)
set_option maxRecDepth 20000 in
theorem gX0_literalsIn_J6_bitCount_0f7a4 : GoodIn wsX0_literalsIn (va_wsS RX0 47 yJ6_bitCount_0f7a4 wsJ6_bitCount_0f7a4) := goodIn_app (goodIn_r _ [3, 4, 5] rfl (by decide +kernel)) ggX0_literalsIn_J6_bitCount_0f7a4
theorem dX0_literalsIn_0 : decode cX0_literalsIn 0 = .ok (.aload_n 0, 1) := by decide +kernel
theorem dX0_literalsIn_1 : decode cX0_literalsIn 1 = .ok (.getfield 9, 3) := by decide +kernel
theorem dX0_literalsIn_4 : decode cX0_literalsIn 4 = .ok (.iload_n 1, 1) := by decide +kernel
theorem dX0_literalsIn_5 : decode cX0_literalsIn 5 = .ok (.iaload, 1) := by decide +kernel
theorem dX0_literalsIn_6 : decode cX0_literalsIn 6 = .ok (.invokestatic 47, 3) := by decide +kernel
theorem dX0_literalsIn_9 : decode cX0_literalsIn 9 = .ok (.aload_n 0, 1) := by decide +kernel
theorem dX0_literalsIn_10 : decode cX0_literalsIn 10 = .ok (.getfield 15, 3) := by decide +kernel
theorem dX0_literalsIn_13 : decode cX0_literalsIn 13 = .ok (.iload_n 1, 1) := by decide +kernel
theorem dX0_literalsIn_14 : decode cX0_literalsIn 14 = .ok (.iaload, 1) := by decide +kernel
theorem dX0_literalsIn_15 : decode cX0_literalsIn 15 = .ok (.invokestatic 47, 3) := by decide +kernel
theorem dX0_literalsIn_18 : decode cX0_literalsIn 18 = .ok (.iadd, 1) := by decide +kernel
theorem dX0_literalsIn_19 : decode cX0_literalsIn 19 = .ok (.ireturn, 1) := by decide +kernel
set_option maxRecDepth 20000 in
theorem ggX0_countWithLiterals_X0_literalsIn : GoodIn wsX0_countWithLiterals wsX0_literalsIn := goodIn_r _ [6, 7, 8, 9, 10, 11, 12, 13, 14, 15, 16, 17, 18, 19, 20, 21, 22, 23] rfl (by decide +kernel)
set_option maxRecDepth 20000 in
theorem gX0_countWithLiterals_X0_literalsIn : GoodIn wsX0_countWithLiterals (wsV RX0 53 RX0 yX0_literalsIn wsX0_literalsIn) := goodIn_app (goodIn_r _ [2, 3, 4, 5] rfl (by decide +kernel)) ggX0_countWithLiterals_X0_literalsIn
theorem dX0_countWithLiterals_0 : decode cX0_countWithLiterals 0 = .ok (.iconst 0, 1) := by decide +kernel
theorem dX0_countWithLiterals_1 : decode cX0_countWithLiterals 1 = .ok (.istore_n 2, 1) := by decide +kernel
theorem dX0_countWithLiterals_2 : decode cX0_countWithLiterals 2 = .ok (.iconst 0, 1) := by decide +kernel
theorem dX0_countWithLiterals_3 : decode cX0_countWithLiterals 3 = .ok (.istore_n 3, 1) := by decide +kernel
theorem dX0_countWithLiterals_4 : decode cX0_countWithLiterals 4 = .ok (.iload_n 3, 1) := by decide +kernel
theorem dX0_countWithLiterals_5 : decode cX0_countWithLiterals 5 = .ok (.aload_n 0, 1) := by decide +kernel
theorem dX0_countWithLiterals_6 : decode cX0_countWithLiterals 6 = .ok (.getfield 34, 3) := by decide +kernel
theorem dX0_countWithLiterals_9 : decode cX0_countWithLiterals 9 = .ok (.if_icmp .ge 21, 3) := by decide +kernel
theorem dX0_countWithLiterals_12 : decode cX0_countWithLiterals 12 = .ok (.aload_n 0, 1) := by decide +kernel
theorem dX0_countWithLiterals_13 : decode cX0_countWithLiterals 13 = .ok (.iload_n 3, 1) := by decide +kernel
theorem dX0_countWithLiterals_14 : decode cX0_countWithLiterals 14 = .ok (.invokevirtual 53, 3) := by decide +kernel
theorem dX0_countWithLiterals_17 : decode cX0_countWithLiterals 17 = .ok (.iload_n 1, 1) := by decide +kernel
theorem dX0_countWithLiterals_18 : decode cX0_countWithLiterals 18 = .ok (.if_icmp .ne 6, 3) := by decide +kernel
theorem dX0_countWithLiterals_21 : decode cX0_countWithLiterals 21 = .ok (.iinc 2 1, 3) := by decide +kernel
theorem dX0_countWithLiterals_24 : decode cX0_countWithLiterals 24 = .ok (.iinc 3 1, 3) := by decide +kernel
theorem dX0_countWithLiterals_27 : decode cX0_countWithLiterals 27 = .ok (.goto (-23), 3) := by decide +kernel
theorem dX0_countWithLiterals_30 : decode cX0_countWithLiterals 30 = .ok (.iload_n 2, 1) := by decide +kernel
theorem dX0_countWithLiterals_31 : decode cX0_countWithLiterals 31 = .ok (.ireturn, 1) := by decide +kernel
set_option maxRecDepth 20000 in
theorem ggX0_countHorn_J6_bitCount_0f7a4 : GoodIn wsX0_countHorn wsJ6_bitCount_0f7a4 := goodIn_r _ [6, 7, 8, 9] rfl (by decide +kernel)
set_option maxRecDepth 20000 in
theorem gX0_countHorn_J6_bitCount_0f7a4 : GoodIn wsX0_countHorn (va_wsS RX0 47 yJ6_bitCount_0f7a4 wsJ6_bitCount_0f7a4) := goodIn_app (goodIn_r _ [3, 4, 5] rfl (by decide +kernel)) ggX0_countHorn_J6_bitCount_0f7a4
theorem dX0_countHorn_0 : decode cX0_countHorn 0 = .ok (.iconst 0, 1) := by decide +kernel
theorem dX0_countHorn_1 : decode cX0_countHorn 1 = .ok (.istore_n 1, 1) := by decide +kernel
theorem dX0_countHorn_2 : decode cX0_countHorn 2 = .ok (.iconst 0, 1) := by decide +kernel
theorem dX0_countHorn_3 : decode cX0_countHorn 3 = .ok (.istore_n 2, 1) := by decide +kernel
theorem dX0_countHorn_4 : decode cX0_countHorn 4 = .ok (.iload_n 2, 1) := by decide +kernel
theorem dX0_countHorn_5 : decode cX0_countHorn 5 = .ok (.aload_n 0, 1) := by decide +kernel
theorem dX0_countHorn_6 : decode cX0_countHorn 6 = .ok (.getfield 34, 3) := by decide +kernel
theorem dX0_countHorn_9 : decode cX0_countHorn 9 = .ok (.if_icmp .ge 25, 3) := by decide +kernel
theorem dX0_countHorn_12 : decode cX0_countHorn 12 = .ok (.aload_n 0, 1) := by decide +kernel
theorem dX0_countHorn_13 : decode cX0_countHorn 13 = .ok (.getfield 9, 3) := by decide +kernel
theorem dX0_countHorn_16 : decode cX0_countHorn 16 = .ok (.iload_n 2, 1) := by decide +kernel
theorem dX0_countHorn_17 : decode cX0_countHorn 17 = .ok (.iaload, 1) := by decide +kernel
theorem dX0_countHorn_18 : decode cX0_countHorn 18 = .ok (.invokestatic 47, 3) := by decide +kernel
theorem dX0_countHorn_21 : decode cX0_countHorn 21 = .ok (.iconst 1, 1) := by decide +kernel
theorem dX0_countHorn_22 : decode cX0_countHorn 22 = .ok (.if_icmp .gt 6, 3) := by decide +kernel
theorem dX0_countHorn_25 : decode cX0_countHorn 25 = .ok (.iinc 1 1, 3) := by decide +kernel
theorem dX0_countHorn_28 : decode cX0_countHorn 28 = .ok (.iinc 2 1, 3) := by decide +kernel
theorem dX0_countHorn_31 : decode cX0_countHorn 31 = .ok (.goto (-27), 3) := by decide +kernel
theorem dX0_countHorn_34 : decode cX0_countHorn 34 = .ok (.iload_n 1, 1) := by decide +kernel
theorem dX0_countHorn_35 : decode cX0_countHorn 35 = .ok (.ireturn, 1) := by decide +kernel
theorem dX0_countTouching_0 : decode cX0_countTouching 0 = .ok (.iconst 0, 1) := by decide +kernel
theorem dX0_countTouching_1 : decode cX0_countTouching 1 = .ok (.istore_n 3, 1) := by decide +kernel
theorem dX0_countTouching_2 : decode cX0_countTouching 2 = .ok (.iconst 0, 1) := by decide +kernel
theorem dX0_countTouching_3 : decode cX0_countTouching 3 = .ok (.istore 4, 2) := by decide +kernel
theorem dX0_countTouching_5 : decode cX0_countTouching 5 = .ok (.iload 4, 2) := by decide +kernel
theorem dX0_countTouching_7 : decode cX0_countTouching 7 = .ok (.aload_n 0, 1) := by decide +kernel
theorem dX0_countTouching_8 : decode cX0_countTouching 8 = .ok (.getfield 34, 3) := by decide +kernel
theorem dX0_countTouching_11 : decode cX0_countTouching 11 = .ok (.if_icmp .ge 36, 3) := by decide +kernel
theorem dX0_countTouching_14 : decode cX0_countTouching 14 = .ok (.aload_n 0, 1) := by decide +kernel
theorem dX0_countTouching_15 : decode cX0_countTouching 15 = .ok (.getfield 9, 3) := by decide +kernel
theorem dX0_countTouching_18 : decode cX0_countTouching 18 = .ok (.iload 4, 2) := by decide +kernel
theorem dX0_countTouching_20 : decode cX0_countTouching 20 = .ok (.iaload, 1) := by decide +kernel
theorem dX0_countTouching_21 : decode cX0_countTouching 21 = .ok (.iload_n 1, 1) := by decide +kernel
theorem dX0_countTouching_22 : decode cX0_countTouching 22 = .ok (.iand, 1) := by decide +kernel
theorem dX0_countTouching_23 : decode cX0_countTouching 23 = .ok (.ifCond .ne 15, 3) := by decide +kernel
theorem dX0_countTouching_26 : decode cX0_countTouching 26 = .ok (.aload_n 0, 1) := by decide +kernel
theorem dX0_countTouching_27 : decode cX0_countTouching 27 = .ok (.getfield 15, 3) := by decide +kernel
theorem dX0_countTouching_30 : decode cX0_countTouching 30 = .ok (.iload 4, 2) := by decide +kernel
theorem dX0_countTouching_32 : decode cX0_countTouching 32 = .ok (.iaload, 1) := by decide +kernel
theorem dX0_countTouching_33 : decode cX0_countTouching 33 = .ok (.iload_n 2, 1) := by decide +kernel
theorem dX0_countTouching_34 : decode cX0_countTouching 34 = .ok (.iand, 1) := by decide +kernel
theorem dX0_countTouching_35 : decode cX0_countTouching 35 = .ok (.ifCond .eq 6, 3) := by decide +kernel
theorem dX0_countTouching_38 : decode cX0_countTouching 38 = .ok (.iinc 3 1, 3) := by decide +kernel
theorem dX0_countTouching_41 : decode cX0_countTouching 41 = .ok (.iinc 4 1, 3) := by decide +kernel
theorem dX0_countTouching_44 : decode cX0_countTouching 44 = .ok (.goto (-39), 3) := by decide +kernel
theorem dX0_countTouching_47 : decode cX0_countTouching 47 = .ok (.iload_n 3, 1) := by decide +kernel
theorem dX0_countTouching_48 : decode cX0_countTouching 48 = .ok (.ireturn, 1) := by decide +kernel
set_option maxRecDepth 20000 in
theorem ggX0_firstOfMostClauses_X0_countTouching : GoodIn wsX0_firstOfMostClauses wsX0_countTouching := goodIn_r _ [6, 7, 8, 9, 10, 11, 12, 13, 14, 15, 16, 17] rfl (by decide +kernel)
set_option maxRecDepth 20000 in
theorem gX0_firstOfMostClauses_X0_countTouching : GoodIn wsX0_firstOfMostClauses (wsV RX0 56 RX0 yX0_countTouching wsX0_countTouching) := goodIn_app (goodIn_r _ [2, 3, 4, 5] rfl (by decide +kernel)) ggX0_firstOfMostClauses_X0_countTouching
theorem dX0_firstOfMostClauses_0 : decode cX0_firstOfMostClauses 0 = .ok (.iconst 0, 1) := by decide +kernel
theorem dX0_firstOfMostClauses_1 : decode cX0_firstOfMostClauses 1 = .ok (.istore_n 1, 1) := by decide +kernel
theorem dX0_firstOfMostClauses_2 : decode cX0_firstOfMostClauses 2 = .ok (.iconst 0, 1) := by decide +kernel
theorem dX0_firstOfMostClauses_3 : decode cX0_firstOfMostClauses 3 = .ok (.istore_n 2, 1) := by decide +kernel
theorem dX0_firstOfMostClauses_4 : decode cX0_firstOfMostClauses 4 = .ok (.iconst 0, 1) := by decide +kernel
theorem dX0_firstOfMostClauses_5 : decode cX0_firstOfMostClauses 5 = .ok (.istore_n 3, 1) := by decide +kernel
theorem dX0_firstOfMostClauses_6 : decode cX0_firstOfMostClauses 6 = .ok (.iload_n 3, 1) := by decide +kernel
theorem dX0_firstOfMostClauses_7 : decode cX0_firstOfMostClauses 7 = .ok (.aload_n 0, 1) := by decide +kernel
theorem dX0_firstOfMostClauses_8 : decode cX0_firstOfMostClauses 8 = .ok (.getfield 30, 3) := by decide +kernel
theorem dX0_firstOfMostClauses_11 : decode cX0_firstOfMostClauses 11 = .ok (.if_icmp .ge 32, 3) := by decide +kernel
theorem dX0_firstOfMostClauses_14 : decode cX0_firstOfMostClauses 14 = .ok (.aload_n 0, 1) := by decide +kernel
theorem dX0_firstOfMostClauses_15 : decode cX0_firstOfMostClauses 15 = .ok (.iconst 1, 1) := by decide +kernel
theorem dX0_firstOfMostClauses_16 : decode cX0_firstOfMostClauses 16 = .ok (.iload_n 3, 1) := by decide +kernel
theorem dX0_firstOfMostClauses_17 : decode cX0_firstOfMostClauses 17 = .ok (.ishl, 1) := by decide +kernel
theorem dX0_firstOfMostClauses_18 : decode cX0_firstOfMostClauses 18 = .ok (.iconst 1, 1) := by decide +kernel
theorem dX0_firstOfMostClauses_19 : decode cX0_firstOfMostClauses 19 = .ok (.iload_n 3, 1) := by decide +kernel
theorem dX0_firstOfMostClauses_20 : decode cX0_firstOfMostClauses 20 = .ok (.ishl, 1) := by decide +kernel
theorem dX0_firstOfMostClauses_21 : decode cX0_firstOfMostClauses 21 = .ok (.invokevirtual 56, 3) := by decide +kernel
theorem dX0_firstOfMostClauses_24 : decode cX0_firstOfMostClauses 24 = .ok (.istore 4, 2) := by decide +kernel
theorem dX0_firstOfMostClauses_26 : decode cX0_firstOfMostClauses 26 = .ok (.iload 4, 2) := by decide +kernel
theorem dX0_firstOfMostClauses_28 : decode cX0_firstOfMostClauses 28 = .ok (.iload_n 2, 1) := by decide +kernel
theorem dX0_firstOfMostClauses_29 : decode cX0_firstOfMostClauses 29 = .ok (.if_icmp .le 8, 3) := by decide +kernel
theorem dX0_firstOfMostClauses_32 : decode cX0_firstOfMostClauses 32 = .ok (.iload_n 3, 1) := by decide +kernel
theorem dX0_firstOfMostClauses_33 : decode cX0_firstOfMostClauses 33 = .ok (.istore_n 1, 1) := by decide +kernel
theorem dX0_firstOfMostClauses_34 : decode cX0_firstOfMostClauses 34 = .ok (.iload 4, 2) := by decide +kernel
theorem dX0_firstOfMostClauses_36 : decode cX0_firstOfMostClauses 36 = .ok (.istore_n 2, 1) := by decide +kernel
theorem dX0_firstOfMostClauses_37 : decode cX0_firstOfMostClauses 37 = .ok (.iinc 3 1, 3) := by decide +kernel
theorem dX0_firstOfMostClauses_40 : decode cX0_firstOfMostClauses 40 = .ok (.goto (-34), 3) := by decide +kernel
theorem dX0_firstOfMostClauses_43 : decode cX0_firstOfMostClauses 43 = .ok (.iload_n 1, 1) := by decide +kernel
theorem dX0_firstOfMostClauses_44 : decode cX0_firstOfMostClauses 44 = .ok (.ireturn, 1) := by decide +kernel
theorem dX0_allPositive_0 : decode cX0_allPositive 0 = .ok (.iconst 0, 1) := by decide +kernel
theorem dX0_allPositive_1 : decode cX0_allPositive 1 = .ok (.istore_n 1, 1) := by decide +kernel
theorem dX0_allPositive_2 : decode cX0_allPositive 2 = .ok (.iconst 0, 1) := by decide +kernel
theorem dX0_allPositive_3 : decode cX0_allPositive 3 = .ok (.istore_n 2, 1) := by decide +kernel
theorem dX0_allPositive_4 : decode cX0_allPositive 4 = .ok (.iload_n 2, 1) := by decide +kernel
theorem dX0_allPositive_5 : decode cX0_allPositive 5 = .ok (.aload_n 0, 1) := by decide +kernel
theorem dX0_allPositive_6 : decode cX0_allPositive 6 = .ok (.getfield 34, 3) := by decide +kernel
theorem dX0_allPositive_9 : decode cX0_allPositive 9 = .ok (.if_icmp .ge 18, 3) := by decide +kernel
theorem dX0_allPositive_12 : decode cX0_allPositive 12 = .ok (.iload_n 1, 1) := by decide +kernel
theorem dX0_allPositive_13 : decode cX0_allPositive 13 = .ok (.aload_n 0, 1) := by decide +kernel
theorem dX0_allPositive_14 : decode cX0_allPositive 14 = .ok (.getfield 9, 3) := by decide +kernel
theorem dX0_allPositive_17 : decode cX0_allPositive 17 = .ok (.iload_n 2, 1) := by decide +kernel
theorem dX0_allPositive_18 : decode cX0_allPositive 18 = .ok (.iaload, 1) := by decide +kernel
theorem dX0_allPositive_19 : decode cX0_allPositive 19 = .ok (.ior, 1) := by decide +kernel
theorem dX0_allPositive_20 : decode cX0_allPositive 20 = .ok (.istore_n 1, 1) := by decide +kernel
theorem dX0_allPositive_21 : decode cX0_allPositive 21 = .ok (.iinc 2 1, 3) := by decide +kernel
theorem dX0_allPositive_24 : decode cX0_allPositive 24 = .ok (.goto (-20), 3) := by decide +kernel
theorem dX0_allPositive_27 : decode cX0_allPositive 27 = .ok (.iload_n 1, 1) := by decide +kernel
theorem dX0_allPositive_28 : decode cX0_allPositive 28 = .ok (.ireturn, 1) := by decide +kernel
theorem dX0_allNegative_0 : decode cX0_allNegative 0 = .ok (.iconst 0, 1) := by decide +kernel
theorem dX0_allNegative_1 : decode cX0_allNegative 1 = .ok (.istore_n 1, 1) := by decide +kernel
theorem dX0_allNegative_2 : decode cX0_allNegative 2 = .ok (.iconst 0, 1) := by decide +kernel
theorem dX0_allNegative_3 : decode cX0_allNegative 3 = .ok (.istore_n 2, 1) := by decide +kernel
theorem dX0_allNegative_4 : decode cX0_allNegative 4 = .ok (.iload_n 2, 1) := by decide +kernel
theorem dX0_allNegative_5 : decode cX0_allNegative 5 = .ok (.aload_n 0, 1) := by decide +kernel
theorem dX0_allNegative_6 : decode cX0_allNegative 6 = .ok (.getfield 34, 3) := by decide +kernel
theorem dX0_allNegative_9 : decode cX0_allNegative 9 = .ok (.if_icmp .ge 18, 3) := by decide +kernel
theorem dX0_allNegative_12 : decode cX0_allNegative 12 = .ok (.iload_n 1, 1) := by decide +kernel
theorem dX0_allNegative_13 : decode cX0_allNegative 13 = .ok (.aload_n 0, 1) := by decide +kernel
theorem dX0_allNegative_14 : decode cX0_allNegative 14 = .ok (.getfield 15, 3) := by decide +kernel
theorem dX0_allNegative_17 : decode cX0_allNegative 17 = .ok (.iload_n 2, 1) := by decide +kernel
theorem dX0_allNegative_18 : decode cX0_allNegative 18 = .ok (.iaload, 1) := by decide +kernel
theorem dX0_allNegative_19 : decode cX0_allNegative 19 = .ok (.ior, 1) := by decide +kernel
theorem dX0_allNegative_20 : decode cX0_allNegative 20 = .ok (.istore_n 1, 1) := by decide +kernel
theorem dX0_allNegative_21 : decode cX0_allNegative 21 = .ok (.iinc 2 1, 3) := by decide +kernel
theorem dX0_allNegative_24 : decode cX0_allNegative 24 = .ok (.goto (-20), 3) := by decide +kernel
theorem dX0_allNegative_27 : decode cX0_allNegative 27 = .ok (.iload_n 1, 1) := by decide +kernel
theorem dX0_allNegative_28 : decode cX0_allNegative 28 = .ok (.ireturn, 1) := by decide +kernel
theorem dX0_firstOfGreatestDepth_0 : decode cX0_firstOfGreatestDepth 0 = .ok (.iconst (-1), 1) := by decide +kernel
theorem dX0_firstOfGreatestDepth_1 : decode cX0_firstOfGreatestDepth 1 = .ok (.istore_n 1, 1) := by decide +kernel
theorem dX0_firstOfGreatestDepth_2 : decode cX0_firstOfGreatestDepth 2 = .ok (.iconst (-1), 1) := by decide +kernel
theorem dX0_firstOfGreatestDepth_3 : decode cX0_firstOfGreatestDepth 3 = .ok (.istore_n 2, 1) := by decide +kernel
theorem dX0_firstOfGreatestDepth_4 : decode cX0_firstOfGreatestDepth 4 = .ok (.iconst 0, 1) := by decide +kernel
theorem dX0_firstOfGreatestDepth_5 : decode cX0_firstOfGreatestDepth 5 = .ok (.istore_n 3, 1) := by decide +kernel
theorem dX0_firstOfGreatestDepth_6 : decode cX0_firstOfGreatestDepth 6 = .ok (.iload_n 3, 1) := by decide +kernel
theorem dX0_firstOfGreatestDepth_7 : decode cX0_firstOfGreatestDepth 7 = .ok (.aload_n 0, 1) := by decide +kernel
theorem dX0_firstOfGreatestDepth_8 : decode cX0_firstOfGreatestDepth 8 = .ok (.getfield 34, 3) := by decide +kernel
theorem dX0_firstOfGreatestDepth_11 : decode cX0_firstOfGreatestDepth 11 = .ok (.if_icmp .ge 28, 3) := by decide +kernel
theorem dX0_firstOfGreatestDepth_14 : decode cX0_firstOfGreatestDepth 14 = .ok (.aload_n 0, 1) := by decide +kernel
theorem dX0_firstOfGreatestDepth_15 : decode cX0_firstOfGreatestDepth 15 = .ok (.getfield 27, 3) := by decide +kernel
theorem dX0_firstOfGreatestDepth_18 : decode cX0_firstOfGreatestDepth 18 = .ok (.iload_n 3, 1) := by decide +kernel
theorem dX0_firstOfGreatestDepth_19 : decode cX0_firstOfGreatestDepth 19 = .ok (.iaload, 1) := by decide +kernel
theorem dX0_firstOfGreatestDepth_20 : decode cX0_firstOfGreatestDepth 20 = .ok (.iload_n 2, 1) := by decide +kernel
theorem dX0_firstOfGreatestDepth_21 : decode cX0_firstOfGreatestDepth 21 = .ok (.if_icmp .le 12, 3) := by decide +kernel
theorem dX0_firstOfGreatestDepth_24 : decode cX0_firstOfGreatestDepth 24 = .ok (.iload_n 3, 1) := by decide +kernel
theorem dX0_firstOfGreatestDepth_25 : decode cX0_firstOfGreatestDepth 25 = .ok (.istore_n 1, 1) := by decide +kernel
theorem dX0_firstOfGreatestDepth_26 : decode cX0_firstOfGreatestDepth 26 = .ok (.aload_n 0, 1) := by decide +kernel
theorem dX0_firstOfGreatestDepth_27 : decode cX0_firstOfGreatestDepth 27 = .ok (.getfield 27, 3) := by decide +kernel
theorem dX0_firstOfGreatestDepth_30 : decode cX0_firstOfGreatestDepth 30 = .ok (.iload_n 3, 1) := by decide +kernel
theorem dX0_firstOfGreatestDepth_31 : decode cX0_firstOfGreatestDepth 31 = .ok (.iaload, 1) := by decide +kernel
theorem dX0_firstOfGreatestDepth_32 : decode cX0_firstOfGreatestDepth 32 = .ok (.istore_n 2, 1) := by decide +kernel
theorem dX0_firstOfGreatestDepth_33 : decode cX0_firstOfGreatestDepth 33 = .ok (.iinc 3 1, 3) := by decide +kernel
theorem dX0_firstOfGreatestDepth_36 : decode cX0_firstOfGreatestDepth 36 = .ok (.goto (-30), 3) := by decide +kernel
theorem dX0_firstOfGreatestDepth_39 : decode cX0_firstOfGreatestDepth 39 = .ok (.iload_n 1, 1) := by decide +kernel
theorem dX0_firstOfGreatestDepth_40 : decode cX0_firstOfGreatestDepth 40 = .ok (.ireturn, 1) := by decide +kernel
theorem dX0_givenMask_0 : decode cX0_givenMask 0 = .ok (.lconst 0, 1) := by decide +kernel
theorem dX0_givenMask_1 : decode cX0_givenMask 1 = .ok (.lstore_n 1, 1) := by decide +kernel
theorem dX0_givenMask_2 : decode cX0_givenMask 2 = .ok (.iconst 0, 1) := by decide +kernel
theorem dX0_givenMask_3 : decode cX0_givenMask 3 = .ok (.istore_n 3, 1) := by decide +kernel
theorem dX0_givenMask_4 : decode cX0_givenMask 4 = .ok (.iload_n 3, 1) := by decide +kernel
theorem dX0_givenMask_5 : decode cX0_givenMask 5 = .ok (.aload_n 0, 1) := by decide +kernel
theorem dX0_givenMask_6 : decode cX0_givenMask 6 = .ok (.getfield 34, 3) := by decide +kernel
theorem dX0_givenMask_9 : decode cX0_givenMask 9 = .ok (.if_icmp .ge 25, 3) := by decide +kernel
theorem dX0_givenMask_12 : decode cX0_givenMask 12 = .ok (.aload_n 0, 1) := by decide +kernel
theorem dX0_givenMask_13 : decode cX0_givenMask 13 = .ok (.getfield 24, 3) := by decide +kernel
theorem dX0_givenMask_16 : decode cX0_givenMask 16 = .ok (.iload_n 3, 1) := by decide +kernel
theorem dX0_givenMask_17 : decode cX0_givenMask 17 = .ok (.iaload, 1) := by decide +kernel
theorem dX0_givenMask_18 : decode cX0_givenMask 18 = .ok (.iconst (-1), 1) := by decide +kernel
theorem dX0_givenMask_19 : decode cX0_givenMask 19 = .ok (.if_icmp .ne 9, 3) := by decide +kernel
theorem dX0_givenMask_22 : decode cX0_givenMask 22 = .ok (.lload_n 1, 1) := by decide +kernel
theorem dX0_givenMask_23 : decode cX0_givenMask 23 = .ok (.lconst 1, 1) := by decide +kernel
theorem dX0_givenMask_24 : decode cX0_givenMask 24 = .ok (.iload_n 3, 1) := by decide +kernel
theorem dX0_givenMask_25 : decode cX0_givenMask 25 = .ok (.lshl, 1) := by decide +kernel
theorem dX0_givenMask_26 : decode cX0_givenMask 26 = .ok (.lor, 1) := by decide +kernel
theorem dX0_givenMask_27 : decode cX0_givenMask 27 = .ok (.lstore_n 1, 1) := by decide +kernel
theorem dX0_givenMask_28 : decode cX0_givenMask 28 = .ok (.iinc 3 1, 3) := by decide +kernel
theorem dX0_givenMask_31 : decode cX0_givenMask 31 = .ok (.goto (-27), 3) := by decide +kernel
theorem dX0_givenMask_34 : decode cX0_givenMask 34 = .ok (.lload_n 1, 1) := by decide +kernel
theorem dX0_givenMask_35 : decode cX0_givenMask 35 = .ok (.lreturn, 1) := by decide +kernel
theorem dX0_derivationMask_0 : decode cX0_derivationMask 0 = .ok (.lconst 1, 1) := by decide +kernel
theorem dX0_derivationMask_1 : decode cX0_derivationMask 1 = .ok (.iload_n 1, 1) := by decide +kernel
theorem dX0_derivationMask_2 : decode cX0_derivationMask 2 = .ok (.lshl, 1) := by decide +kernel
theorem dX0_derivationMask_3 : decode cX0_derivationMask 3 = .ok (.lstore_n 2, 1) := by decide +kernel
theorem dX0_derivationMask_4 : decode cX0_derivationMask 4 = .ok (.iload_n 1, 1) := by decide +kernel
theorem dX0_derivationMask_5 : decode cX0_derivationMask 5 = .ok (.istore 4, 2) := by decide +kernel
theorem dX0_derivationMask_7 : decode cX0_derivationMask 7 = .ok (.iload 4, 2) := by decide +kernel
theorem dX0_derivationMask_9 : decode cX0_derivationMask 9 = .ok (.ifCond .lt 53, 3) := by decide +kernel
theorem dX0_derivationMask_12 : decode cX0_derivationMask 12 = .ok (.lload_n 2, 1) := by decide +kernel
theorem dX0_derivationMask_13 : decode cX0_derivationMask 13 = .ok (.iload 4, 2) := by decide +kernel
theorem dX0_derivationMask_15 : decode cX0_derivationMask 15 = .ok (.lshr, 1) := by decide +kernel
theorem dX0_derivationMask_16 : decode cX0_derivationMask 16 = .ok (.lconst 1, 1) := by decide +kernel
theorem dX0_derivationMask_17 : decode cX0_derivationMask 17 = .ok (.land, 1) := by decide +kernel
theorem dX0_derivationMask_18 : decode cX0_derivationMask 18 = .ok (.lconst 0, 1) := by decide +kernel
theorem dX0_derivationMask_19 : decode cX0_derivationMask 19 = .ok (.lcmp, 1) := by decide +kernel
theorem dX0_derivationMask_20 : decode cX0_derivationMask 20 = .ok (.ifCond .eq 36, 3) := by decide +kernel
theorem dX0_derivationMask_23 : decode cX0_derivationMask 23 = .ok (.aload_n 0, 1) := by decide +kernel
theorem dX0_derivationMask_24 : decode cX0_derivationMask 24 = .ok (.getfield 24, 3) := by decide +kernel
theorem dX0_derivationMask_27 : decode cX0_derivationMask 27 = .ok (.iload 4, 2) := by decide +kernel
theorem dX0_derivationMask_29 : decode cX0_derivationMask 29 = .ok (.iaload, 1) := by decide +kernel
theorem dX0_derivationMask_30 : decode cX0_derivationMask 30 = .ok (.iconst (-1), 1) := by decide +kernel
theorem dX0_derivationMask_31 : decode cX0_derivationMask 31 = .ok (.if_icmp .eq 25, 3) := by decide +kernel
theorem dX0_derivationMask_34 : decode cX0_derivationMask 34 = .ok (.lload_n 2, 1) := by decide +kernel
theorem dX0_derivationMask_35 : decode cX0_derivationMask 35 = .ok (.lconst 1, 1) := by decide +kernel
theorem dX0_derivationMask_36 : decode cX0_derivationMask 36 = .ok (.aload_n 0, 1) := by decide +kernel
theorem dX0_derivationMask_37 : decode cX0_derivationMask 37 = .ok (.getfield 18, 3) := by decide +kernel
theorem dX0_derivationMask_40 : decode cX0_derivationMask 40 = .ok (.iload 4, 2) := by decide +kernel
theorem dX0_derivationMask_42 : decode cX0_derivationMask 42 = .ok (.iaload, 1) := by decide +kernel
theorem dX0_derivationMask_43 : decode cX0_derivationMask 43 = .ok (.lshl, 1) := by decide +kernel
theorem dX0_derivationMask_44 : decode cX0_derivationMask 44 = .ok (.lconst 1, 1) := by decide +kernel
theorem dX0_derivationMask_45 : decode cX0_derivationMask 45 = .ok (.aload_n 0, 1) := by decide +kernel
theorem dX0_derivationMask_46 : decode cX0_derivationMask 46 = .ok (.getfield 21, 3) := by decide +kernel
theorem dX0_derivationMask_49 : decode cX0_derivationMask 49 = .ok (.iload 4, 2) := by decide +kernel
theorem dX0_derivationMask_51 : decode cX0_derivationMask 51 = .ok (.iaload, 1) := by decide +kernel
theorem dX0_derivationMask_52 : decode cX0_derivationMask 52 = .ok (.lshl, 1) := by decide +kernel
theorem dX0_derivationMask_53 : decode cX0_derivationMask 53 = .ok (.lor, 1) := by decide +kernel
theorem dX0_derivationMask_54 : decode cX0_derivationMask 54 = .ok (.lor, 1) := by decide +kernel
theorem dX0_derivationMask_55 : decode cX0_derivationMask 55 = .ok (.lstore_n 2, 1) := by decide +kernel
theorem dX0_derivationMask_56 : decode cX0_derivationMask 56 = .ok (.iinc 4 (-1), 3) := by decide +kernel
theorem dX0_derivationMask_59 : decode cX0_derivationMask 59 = .ok (.goto (-52), 3) := by decide +kernel
theorem dX0_derivationMask_62 : decode cX0_derivationMask 62 = .ok (.lload_n 2, 1) := by decide +kernel
theorem dX0_derivationMask_63 : decode cX0_derivationMask 63 = .ok (.lreturn, 1) := by decide +kernel
theorem dX0_isParent_0 : decode cX0_isParent 0 = .ok (.iconst 0, 1) := by decide +kernel
theorem dX0_isParent_1 : decode cX0_isParent 1 = .ok (.istore_n 2, 1) := by decide +kernel
theorem dX0_isParent_2 : decode cX0_isParent 2 = .ok (.iload_n 2, 1) := by decide +kernel
theorem dX0_isParent_3 : decode cX0_isParent 3 = .ok (.aload_n 0, 1) := by decide +kernel
theorem dX0_isParent_4 : decode cX0_isParent 4 = .ok (.getfield 34, 3) := by decide +kernel
theorem dX0_isParent_7 : decode cX0_isParent 7 = .ok (.if_icmp .ge 31, 3) := by decide +kernel
theorem dX0_isParent_10 : decode cX0_isParent 10 = .ok (.aload_n 0, 1) := by decide +kernel
theorem dX0_isParent_11 : decode cX0_isParent 11 = .ok (.getfield 18, 3) := by decide +kernel
theorem dX0_isParent_14 : decode cX0_isParent 14 = .ok (.iload_n 2, 1) := by decide +kernel
theorem dX0_isParent_15 : decode cX0_isParent 15 = .ok (.iaload, 1) := by decide +kernel
theorem dX0_isParent_16 : decode cX0_isParent 16 = .ok (.iload_n 1, 1) := by decide +kernel
theorem dX0_isParent_17 : decode cX0_isParent 17 = .ok (.if_icmp .eq 13, 3) := by decide +kernel
theorem dX0_isParent_20 : decode cX0_isParent 20 = .ok (.aload_n 0, 1) := by decide +kernel
theorem dX0_isParent_21 : decode cX0_isParent 21 = .ok (.getfield 21, 3) := by decide +kernel
theorem dX0_isParent_24 : decode cX0_isParent 24 = .ok (.iload_n 2, 1) := by decide +kernel
theorem dX0_isParent_25 : decode cX0_isParent 25 = .ok (.iaload, 1) := by decide +kernel
theorem dX0_isParent_26 : decode cX0_isParent 26 = .ok (.iload_n 1, 1) := by decide +kernel
theorem dX0_isParent_27 : decode cX0_isParent 27 = .ok (.if_icmp .ne 5, 3) := by decide +kernel
theorem dX0_isParent_30 : decode cX0_isParent 30 = .ok (.iconst 1, 1) := by decide +kernel
theorem dX0_isParent_31 : decode cX0_isParent 31 = .ok (.ireturn, 1) := by decide +kernel
theorem dX0_isParent_32 : decode cX0_isParent 32 = .ok (.iinc 2 1, 3) := by decide +kernel
theorem dX0_isParent_35 : decode cX0_isParent 35 = .ok (.goto (-33), 3) := by decide +kernel
theorem dX0_isParent_38 : decode cX0_isParent 38 = .ok (.iconst 0, 1) := by decide +kernel
theorem dX0_isParent_39 : decode cX0_isParent 39 = .ok (.ireturn, 1) := by decide +kernel
theorem dX0_clashMask_0 : decode cX0_clashMask 0 = .ok (.aload_n 0, 1) := by decide +kernel
theorem dX0_clashMask_1 : decode cX0_clashMask 1 = .ok (.getfield 9, 3) := by decide +kernel
theorem dX0_clashMask_4 : decode cX0_clashMask 4 = .ok (.iload_n 1, 1) := by decide +kernel
theorem dX0_clashMask_5 : decode cX0_clashMask 5 = .ok (.iaload, 1) := by decide +kernel
theorem dX0_clashMask_6 : decode cX0_clashMask 6 = .ok (.aload_n 0, 1) := by decide +kernel
theorem dX0_clashMask_7 : decode cX0_clashMask 7 = .ok (.getfield 15, 3) := by decide +kernel
theorem dX0_clashMask_10 : decode cX0_clashMask 10 = .ok (.iload_n 2, 1) := by decide +kernel
theorem dX0_clashMask_11 : decode cX0_clashMask 11 = .ok (.iaload, 1) := by decide +kernel
theorem dX0_clashMask_12 : decode cX0_clashMask 12 = .ok (.iand, 1) := by decide +kernel
theorem dX0_clashMask_13 : decode cX0_clashMask 13 = .ok (.aload_n 0, 1) := by decide +kernel
theorem dX0_clashMask_14 : decode cX0_clashMask 14 = .ok (.getfield 15, 3) := by decide +kernel
theorem dX0_clashMask_17 : decode cX0_clashMask 17 = .ok (.iload_n 1, 1) := by decide +kernel
theorem dX0_clashMask_18 : decode cX0_clashMask 18 = .ok (.iaload, 1) := by decide +kernel
theorem dX0_clashMask_19 : decode cX0_clashMask 19 = .ok (.aload_n 0, 1) := by decide +kernel
theorem dX0_clashMask_20 : decode cX0_clashMask 20 = .ok (.getfield 9, 3) := by decide +kernel
theorem dX0_clashMask_23 : decode cX0_clashMask 23 = .ok (.iload_n 2, 1) := by decide +kernel
theorem dX0_clashMask_24 : decode cX0_clashMask 24 = .ok (.iaload, 1) := by decide +kernel
theorem dX0_clashMask_25 : decode cX0_clashMask 25 = .ok (.iand, 1) := by decide +kernel
theorem dX0_clashMask_26 : decode cX0_clashMask 26 = .ok (.ior, 1) := by decide +kernel
theorem dX0_clashMask_27 : decode cX0_clashMask 27 = .ok (.ireturn, 1) := by decide +kernel
set_option maxRecDepth 20000 in
theorem ggX0_clashOnce_X0_clashMask : GoodIn wsX0_clashOnce wsX0_clashMask := goodIn_r _ [5, 6, 7, 15, 16, 17, 18, 19, 20, 21, 22] rfl (by decide +kernel)
set_option maxRecDepth 20000 in
theorem gX0_clashOnce_X0_clashMask : GoodIn wsX0_clashOnce (wsV RX0 60 RX0 yX0_clashMask wsX0_clashMask) := goodIn_app (goodIn_r _ [1, 2, 3, 4] rfl (by decide +kernel)) ggX0_clashOnce_X0_clashMask
set_option maxRecDepth 20000 in
theorem ggX0_clashOnce_J6_bitCount_0f7a4 : GoodIn wsX0_clashOnce wsJ6_bitCount_0f7a4 := goodIn_r _ [11, 12, 13, 14] rfl (by decide +kernel)
set_option maxRecDepth 20000 in
theorem gX0_clashOnce_J6_bitCount_0f7a4 : GoodIn wsX0_clashOnce (va_wsS RX0 47 yJ6_bitCount_0f7a4 wsJ6_bitCount_0f7a4) := goodIn_app (goodIn_r _ [8, 9, 10] rfl (by decide +kernel)) ggX0_clashOnce_J6_bitCount_0f7a4
theorem dX0_clashOnce_0 : decode cX0_clashOnce 0 = .ok (.aload_n 0, 1) := by decide +kernel
theorem dX0_clashOnce_1 : decode cX0_clashOnce 1 = .ok (.iload_n 1, 1) := by decide +kernel
theorem dX0_clashOnce_2 : decode cX0_clashOnce 2 = .ok (.iload_n 2, 1) := by decide +kernel
theorem dX0_clashOnce_3 : decode cX0_clashOnce 3 = .ok (.invokevirtual 60, 3) := by decide +kernel
theorem dX0_clashOnce_6 : decode cX0_clashOnce 6 = .ok (.invokestatic 47, 3) := by decide +kernel
theorem dX0_clashOnce_9 : decode cX0_clashOnce 9 = .ok (.iconst 1, 1) := by decide +kernel
theorem dX0_clashOnce_10 : decode cX0_clashOnce 10 = .ok (.if_icmp .ne 7, 3) := by decide +kernel
theorem dX0_clashOnce_13 : decode cX0_clashOnce 13 = .ok (.iconst 1, 1) := by decide +kernel
theorem dX0_clashOnce_14 : decode cX0_clashOnce 14 = .ok (.goto 4, 3) := by decide +kernel
theorem dX0_clashOnce_17 : decode cX0_clashOnce 17 = .ok (.iconst 0, 1) := by decide +kernel
theorem dX0_clashOnce_18 : decode cX0_clashOnce 18 = .ok (.ireturn, 1) := by decide +kernel
set_option maxRecDepth 20000 in
theorem ggX0_mergedPositive_X0_clashMask : GoodIn wsX0_mergedPositive wsX0_clashMask := goodIn_r _ [6, 1, 7, 8, 9, 10, 11, 12, 13, 14, 15] rfl (by decide +kernel)
set_option maxRecDepth 20000 in
theorem gX0_mergedPositive_X0_clashMask : GoodIn wsX0_mergedPositive (wsV RX0 60 RX0 yX0_clashMask wsX0_clashMask) := goodIn_app (goodIn_r _ [2, 3, 4, 5] rfl (by decide +kernel)) ggX0_mergedPositive_X0_clashMask
theorem dX0_mergedPositive_0 : decode cX0_mergedPositive 0 = .ok (.aload_n 0, 1) := by decide +kernel
theorem dX0_mergedPositive_1 : decode cX0_mergedPositive 1 = .ok (.getfield 9, 3) := by decide +kernel
theorem dX0_mergedPositive_4 : decode cX0_mergedPositive 4 = .ok (.iload_n 1, 1) := by decide +kernel
theorem dX0_mergedPositive_5 : decode cX0_mergedPositive 5 = .ok (.iaload, 1) := by decide +kernel
theorem dX0_mergedPositive_6 : decode cX0_mergedPositive 6 = .ok (.aload_n 0, 1) := by decide +kernel
theorem dX0_mergedPositive_7 : decode cX0_mergedPositive 7 = .ok (.getfield 9, 3) := by decide +kernel
theorem dX0_mergedPositive_10 : decode cX0_mergedPositive 10 = .ok (.iload_n 2, 1) := by decide +kernel
theorem dX0_mergedPositive_11 : decode cX0_mergedPositive 11 = .ok (.iaload, 1) := by decide +kernel
theorem dX0_mergedPositive_12 : decode cX0_mergedPositive 12 = .ok (.ior, 1) := by decide +kernel
theorem dX0_mergedPositive_13 : decode cX0_mergedPositive 13 = .ok (.aload_n 0, 1) := by decide +kernel
theorem dX0_mergedPositive_14 : decode cX0_mergedPositive 14 = .ok (.iload_n 1, 1) := by decide +kernel
theorem dX0_mergedPositive_15 : decode cX0_mergedPositive 15 = .ok (.iload_n 2, 1) := by decide +kernel
theorem dX0_mergedPositive_16 : decode cX0_mergedPositive 16 = .ok (.invokevirtual 60, 3) := by decide +kernel
theorem dX0_mergedPositive_19 : decode cX0_mergedPositive 19 = .ok (.iconst (-1), 1) := by decide +kernel
theorem dX0_mergedPositive_20 : decode cX0_mergedPositive 20 = .ok (.ixor, 1) := by decide +kernel
theorem dX0_mergedPositive_21 : decode cX0_mergedPositive 21 = .ok (.iand, 1) := by decide +kernel
theorem dX0_mergedPositive_22 : decode cX0_mergedPositive 22 = .ok (.ireturn, 1) := by decide +kernel
set_option maxRecDepth 20000 in
theorem ggX0_mergedNegative_X0_clashMask : GoodIn wsX0_mergedNegative wsX0_clashMask := goodIn_r _ [6, 7, 1, 8, 9, 10, 11, 12, 13, 14, 15] rfl (by decide +kernel)
set_option maxRecDepth 20000 in
theorem gX0_mergedNegative_X0_clashMask : GoodIn wsX0_mergedNegative (wsV RX0 60 RX0 yX0_clashMask wsX0_clashMask) := goodIn_app (goodIn_r _ [2, 3, 4, 5] rfl (by decide +kernel)) ggX0_mergedNegative_X0_clashMask
theorem dX0_mergedNegative_0 : decode cX0_mergedNegative 0 = .ok (.aload_n 0, 1) := by decide +kernel
theorem dX0_mergedNegative_1 : decode cX0_mergedNegative 1 = .ok (.getfield 15, 3) := by decide +kernel
theorem dX0_mergedNegative_4 : decode cX0_mergedNegative 4 = .ok (.iload_n 1, 1) := by decide +kernel
theorem dX0_mergedNegative_5 : decode cX0_mergedNegative 5 = .ok (.iaload, 1) := by decide +kernel
theorem dX0_mergedNegative_6 : decode cX0_mergedNegative 6 = .ok (.aload_n 0, 1) := by decide +kernel
theorem dX0_mergedNegative_7 : decode cX0_mergedNegative 7 = .ok (.getfield 15, 3) := by decide +kernel
theorem dX0_mergedNegative_10 : decode cX0_mergedNegative 10 = .ok (.iload_n 2, 1) := by decide +kernel
theorem dX0_mergedNegative_11 : decode cX0_mergedNegative 11 = .ok (.iaload, 1) := by decide +kernel
theorem dX0_mergedNegative_12 : decode cX0_mergedNegative 12 = .ok (.ior, 1) := by decide +kernel
theorem dX0_mergedNegative_13 : decode cX0_mergedNegative 13 = .ok (.aload_n 0, 1) := by decide +kernel
theorem dX0_mergedNegative_14 : decode cX0_mergedNegative 14 = .ok (.iload_n 1, 1) := by decide +kernel
theorem dX0_mergedNegative_15 : decode cX0_mergedNegative 15 = .ok (.iload_n 2, 1) := by decide +kernel
theorem dX0_mergedNegative_16 : decode cX0_mergedNegative 16 = .ok (.invokevirtual 60, 3) := by decide +kernel
theorem dX0_mergedNegative_19 : decode cX0_mergedNegative 19 = .ok (.iconst (-1), 1) := by decide +kernel
theorem dX0_mergedNegative_20 : decode cX0_mergedNegative 20 = .ok (.ixor, 1) := by decide +kernel
theorem dX0_mergedNegative_21 : decode cX0_mergedNegative 21 = .ok (.iand, 1) := by decide +kernel
theorem dX0_mergedNegative_22 : decode cX0_mergedNegative 22 = .ok (.ireturn, 1) := by decide +kernel
set_option maxRecDepth 20000 in
theorem ggX0_countPairsThatClashOnce_X0_clashOnce : GoodIn wsX0_countPairsThatClashOnce wsX0_clashOnce := goodIn_r _ [6, 7, 8, 9, 5, 10, 11, 12, 13, 14, 15, 16, 17, 18, 19, 20, 21, 22, 23, 24, 25, 26, 27] rfl (by decide +kernel)
set_option maxRecDepth 20000 in
theorem gX0_countPairsThatClashOnce_X0_clashOnce : GoodIn wsX0_countPairsThatClashOnce (wsV RX0 63 RX0 yX0_clashOnce wsX0_clashOnce) := goodIn_app (goodIn_r _ [2, 3, 4, 5] rfl (by decide +kernel)) ggX0_countPairsThatClashOnce_X0_clashOnce
theorem dX0_countPairsThatClashOnce_0 : decode cX0_countPairsThatClashOnce 0 = .ok (.iconst 0, 1) := by decide +kernel
theorem dX0_countPairsThatClashOnce_1 : decode cX0_countPairsThatClashOnce 1 = .ok (.istore_n 1, 1) := by decide +kernel
theorem dX0_countPairsThatClashOnce_2 : decode cX0_countPairsThatClashOnce 2 = .ok (.iconst 1, 1) := by decide +kernel
theorem dX0_countPairsThatClashOnce_3 : decode cX0_countPairsThatClashOnce 3 = .ok (.istore_n 2, 1) := by decide +kernel
theorem dX0_countPairsThatClashOnce_4 : decode cX0_countPairsThatClashOnce 4 = .ok (.iload_n 2, 1) := by decide +kernel
theorem dX0_countPairsThatClashOnce_5 : decode cX0_countPairsThatClashOnce 5 = .ok (.aload_n 0, 1) := by decide +kernel
theorem dX0_countPairsThatClashOnce_6 : decode cX0_countPairsThatClashOnce 6 = .ok (.getfield 34, 3) := by decide +kernel
theorem dX0_countPairsThatClashOnce_9 : decode cX0_countPairsThatClashOnce 9 = .ok (.if_icmp .ge 34, 3) := by decide +kernel
theorem dX0_countPairsThatClashOnce_12 : decode cX0_countPairsThatClashOnce 12 = .ok (.iconst 0, 1) := by decide +kernel
theorem dX0_countPairsThatClashOnce_13 : decode cX0_countPairsThatClashOnce 13 = .ok (.istore_n 3, 1) := by decide +kernel
theorem dX0_countPairsThatClashOnce_14 : decode cX0_countPairsThatClashOnce 14 = .ok (.iload_n 3, 1) := by decide +kernel
theorem dX0_countPairsThatClashOnce_15 : decode cX0_countPairsThatClashOnce 15 = .ok (.iload_n 2, 1) := by decide +kernel
theorem dX0_countPairsThatClashOnce_16 : decode cX0_countPairsThatClashOnce 16 = .ok (.if_icmp .ge 21, 3) := by decide +kernel
theorem dX0_countPairsThatClashOnce_19 : decode cX0_countPairsThatClashOnce 19 = .ok (.aload_n 0, 1) := by decide +kernel
theorem dX0_countPairsThatClashOnce_20 : decode cX0_countPairsThatClashOnce 20 = .ok (.iload_n 3, 1) := by decide +kernel
theorem dX0_countPairsThatClashOnce_21 : decode cX0_countPairsThatClashOnce 21 = .ok (.iload_n 2, 1) := by decide +kernel
theorem dX0_countPairsThatClashOnce_22 : decode cX0_countPairsThatClashOnce 22 = .ok (.invokevirtual 63, 3) := by decide +kernel
theorem dX0_countPairsThatClashOnce_25 : decode cX0_countPairsThatClashOnce 25 = .ok (.ifCond .eq 6, 3) := by decide +kernel
theorem dX0_countPairsThatClashOnce_28 : decode cX0_countPairsThatClashOnce 28 = .ok (.iinc 1 1, 3) := by decide +kernel
theorem dX0_countPairsThatClashOnce_31 : decode cX0_countPairsThatClashOnce 31 = .ok (.iinc 3 1, 3) := by decide +kernel
theorem dX0_countPairsThatClashOnce_34 : decode cX0_countPairsThatClashOnce 34 = .ok (.goto (-20), 3) := by decide +kernel
theorem dX0_countPairsThatClashOnce_37 : decode cX0_countPairsThatClashOnce 37 = .ok (.iinc 2 1, 3) := by decide +kernel
theorem dX0_countPairsThatClashOnce_40 : decode cX0_countPairsThatClashOnce 40 = .ok (.goto (-36), 3) := by decide +kernel
theorem dX0_countPairsThatClashOnce_43 : decode cX0_countPairsThatClashOnce 43 = .ok (.iload_n 1, 1) := by decide +kernel
theorem dX0_countPairsThatClashOnce_44 : decode cX0_countPairsThatClashOnce 44 = .ok (.ireturn, 1) := by decide +kernel
set_option maxRecDepth 20000 in
theorem ggX0_hasRoomForResolvent_X0_mergedPositive : GoodIn wsX0_hasRoomForResolvent wsX0_mergedPositive := goodIn_r _ [5, 6, 7, 8, 9, 4, 10, 11, 25, 26, 27, 28, 29, 30, 31, 32] rfl (by decide +kernel)
set_option maxRecDepth 20000 in
theorem gX0_hasRoomForResolvent_X0_mergedPositive : GoodIn wsX0_hasRoomForResolvent (wsV RX0 67 RX0 yX0_mergedPositive wsX0_mergedPositive) := goodIn_app (goodIn_r _ [1, 2, 3, 4] rfl (by decide +kernel)) ggX0_hasRoomForResolvent_X0_mergedPositive
set_option maxRecDepth 20000 in
theorem ggX0_hasRoomForResolvent_X0_mergedNegative : GoodIn wsX0_hasRoomForResolvent wsX0_mergedNegative := goodIn_r _ [15, 11, 7, 8, 9, 4, 10, 6, 25, 26, 27, 28, 29, 30, 31, 32] rfl (by decide +kernel)
set_option maxRecDepth 20000 in
theorem gX0_hasRoomForResolvent_X0_mergedNegative : GoodIn wsX0_hasRoomForResolvent (wsV RX0 70 RX0 yX0_mergedNegative wsX0_mergedNegative) := goodIn_app (goodIn_r _ [12, 13, 14, 4] rfl (by decide +kernel)) ggX0_hasRoomForResolvent_X0_mergedNegative
set_option maxRecDepth 20000 in
theorem ggX0_hasRoomForResolvent_X0_isFull : GoodIn wsX0_hasRoomForResolvent wsX0_isFull := goodIn_r _ [19, 20, 25, 26, 27, 28, 29, 30, 31, 32] rfl (by decide +kernel)
set_option maxRecDepth 20000 in
theorem gX0_hasRoomForResolvent_X0_isFull : GoodIn wsX0_hasRoomForResolvent (wsV RX0 73 RX0 yX0_isFull wsX0_isFull) := goodIn_app (goodIn_r _ [16, 17, 18, 4] rfl (by decide +kernel)) ggX0_hasRoomForResolvent_X0_isFull
set_option maxRecDepth 20000 in
theorem ggX0_hasRoomForResolvent_X0_indexOf : GoodIn wsX0_hasRoomForResolvent wsX0_indexOf := goodIn_r _ [24, 20, 6, 11, 25, 26, 27, 28, 29, 30, 31, 32] rfl (by decide +kernel)
set_option maxRecDepth 20000 in
theorem gX0_hasRoomForResolvent_X0_indexOf : GoodIn wsX0_hasRoomForResolvent (wsV RX0 77 RX0 yX0_indexOf wsX0_indexOf) := goodIn_app (goodIn_r _ [21, 22, 23, 4] rfl (by decide +kernel)) ggX0_hasRoomForResolvent_X0_indexOf
theorem dX0_hasRoomForResolvent_0 : decode cX0_hasRoomForResolvent 0 = .ok (.aload_n 0, 1) := by decide +kernel
theorem dX0_hasRoomForResolvent_1 : decode cX0_hasRoomForResolvent 1 = .ok (.iload_n 1, 1) := by decide +kernel
theorem dX0_hasRoomForResolvent_2 : decode cX0_hasRoomForResolvent 2 = .ok (.iload_n 2, 1) := by decide +kernel
theorem dX0_hasRoomForResolvent_3 : decode cX0_hasRoomForResolvent 3 = .ok (.invokevirtual 67, 3) := by decide +kernel
theorem dX0_hasRoomForResolvent_6 : decode cX0_hasRoomForResolvent 6 = .ok (.istore_n 3, 1) := by decide +kernel
theorem dX0_hasRoomForResolvent_7 : decode cX0_hasRoomForResolvent 7 = .ok (.aload_n 0, 1) := by decide +kernel
theorem dX0_hasRoomForResolvent_8 : decode cX0_hasRoomForResolvent 8 = .ok (.iload_n 1, 1) := by decide +kernel
theorem dX0_hasRoomForResolvent_9 : decode cX0_hasRoomForResolvent 9 = .ok (.iload_n 2, 1) := by decide +kernel
theorem dX0_hasRoomForResolvent_10 : decode cX0_hasRoomForResolvent 10 = .ok (.invokevirtual 70, 3) := by decide +kernel
theorem dX0_hasRoomForResolvent_13 : decode cX0_hasRoomForResolvent 13 = .ok (.istore 4, 2) := by decide +kernel
theorem dX0_hasRoomForResolvent_15 : decode cX0_hasRoomForResolvent 15 = .ok (.aload_n 0, 1) := by decide +kernel
theorem dX0_hasRoomForResolvent_16 : decode cX0_hasRoomForResolvent 16 = .ok (.invokevirtual 73, 3) := by decide +kernel
theorem dX0_hasRoomForResolvent_19 : decode cX0_hasRoomForResolvent 19 = .ok (.ifCond .ne 18, 3) := by decide +kernel
theorem dX0_hasRoomForResolvent_22 : decode cX0_hasRoomForResolvent 22 = .ok (.aload_n 0, 1) := by decide +kernel
theorem dX0_hasRoomForResolvent_23 : decode cX0_hasRoomForResolvent 23 = .ok (.iload_n 3, 1) := by decide +kernel
theorem dX0_hasRoomForResolvent_24 : decode cX0_hasRoomForResolvent 24 = .ok (.iload 4, 2) := by decide +kernel
theorem dX0_hasRoomForResolvent_26 : decode cX0_hasRoomForResolvent 26 = .ok (.invokevirtual 77, 3) := by decide +kernel
theorem dX0_hasRoomForResolvent_29 : decode cX0_hasRoomForResolvent 29 = .ok (.iconst (-1), 1) := by decide +kernel
theorem dX0_hasRoomForResolvent_30 : decode cX0_hasRoomForResolvent 30 = .ok (.if_icmp .ne 7, 3) := by decide +kernel
theorem dX0_hasRoomForResolvent_33 : decode cX0_hasRoomForResolvent 33 = .ok (.iconst 1, 1) := by decide +kernel
theorem dX0_hasRoomForResolvent_34 : decode cX0_hasRoomForResolvent 34 = .ok (.goto 4, 3) := by decide +kernel
theorem dX0_hasRoomForResolvent_37 : decode cX0_hasRoomForResolvent 37 = .ok (.iconst 0, 1) := by decide +kernel
theorem dX0_hasRoomForResolvent_38 : decode cX0_hasRoomForResolvent 38 = .ok (.ireturn, 1) := by decide +kernel
theorem dX0_isWithin_0 : decode cX0_isWithin 0 = .ok (.aload_n 0, 1) := by decide +kernel
theorem dX0_isWithin_1 : decode cX0_isWithin 1 = .ok (.getfield 9, 3) := by decide +kernel
theorem dX0_isWithin_4 : decode cX0_isWithin 4 = .ok (.iload_n 1, 1) := by decide +kernel
theorem dX0_isWithin_5 : decode cX0_isWithin 5 = .ok (.iaload, 1) := by decide +kernel
theorem dX0_isWithin_6 : decode cX0_isWithin 6 = .ok (.iload_n 2, 1) := by decide +kernel
theorem dX0_isWithin_7 : decode cX0_isWithin 7 = .ok (.iconst (-1), 1) := by decide +kernel
theorem dX0_isWithin_8 : decode cX0_isWithin 8 = .ok (.ixor, 1) := by decide +kernel
theorem dX0_isWithin_9 : decode cX0_isWithin 9 = .ok (.iand, 1) := by decide +kernel
theorem dX0_isWithin_10 : decode cX0_isWithin 10 = .ok (.ifCond .ne 20, 3) := by decide +kernel
theorem dX0_isWithin_13 : decode cX0_isWithin 13 = .ok (.aload_n 0, 1) := by decide +kernel
theorem dX0_isWithin_14 : decode cX0_isWithin 14 = .ok (.getfield 15, 3) := by decide +kernel
theorem dX0_isWithin_17 : decode cX0_isWithin 17 = .ok (.iload_n 1, 1) := by decide +kernel
theorem dX0_isWithin_18 : decode cX0_isWithin 18 = .ok (.iaload, 1) := by decide +kernel
theorem dX0_isWithin_19 : decode cX0_isWithin 19 = .ok (.iload_n 3, 1) := by decide +kernel
theorem dX0_isWithin_20 : decode cX0_isWithin 20 = .ok (.iconst (-1), 1) := by decide +kernel
theorem dX0_isWithin_21 : decode cX0_isWithin 21 = .ok (.ixor, 1) := by decide +kernel
theorem dX0_isWithin_22 : decode cX0_isWithin 22 = .ok (.iand, 1) := by decide +kernel
theorem dX0_isWithin_23 : decode cX0_isWithin 23 = .ok (.ifCond .ne 7, 3) := by decide +kernel
theorem dX0_isWithin_26 : decode cX0_isWithin 26 = .ok (.iconst 1, 1) := by decide +kernel
theorem dX0_isWithin_27 : decode cX0_isWithin 27 = .ok (.goto 4, 3) := by decide +kernel
theorem dX0_isWithin_30 : decode cX0_isWithin 30 = .ok (.iconst 0, 1) := by decide +kernel
theorem dX0_isWithin_31 : decode cX0_isWithin 31 = .ok (.ireturn, 1) := by decide +kernel
set_option maxRecDepth 20000 in
theorem ggX0_isSomeWithin_X0_isWithin : GoodIn wsX0_isSomeWithin wsX0_isWithin := goodIn_r _ [6, 7, 8, 9, 10, 11, 12, 13, 14, 15, 16] rfl (by decide +kernel)
set_option maxRecDepth 20000 in
theorem gX0_isSomeWithin_X0_isWithin : GoodIn wsX0_isSomeWithin (wsV RX0 80 RX0 yX0_isWithin wsX0_isWithin) := goodIn_app (goodIn_r _ [2, 3, 4, 5] rfl (by decide +kernel)) ggX0_isSomeWithin_X0_isWithin
theorem dX0_isSomeWithin_0 : decode cX0_isSomeWithin 0 = .ok (.iconst 0, 1) := by decide +kernel
theorem dX0_isSomeWithin_1 : decode cX0_isSomeWithin 1 = .ok (.istore_n 3, 1) := by decide +kernel
theorem dX0_isSomeWithin_2 : decode cX0_isSomeWithin 2 = .ok (.iload_n 3, 1) := by decide +kernel
theorem dX0_isSomeWithin_3 : decode cX0_isSomeWithin 3 = .ok (.aload_n 0, 1) := by decide +kernel
theorem dX0_isSomeWithin_4 : decode cX0_isSomeWithin 4 = .ok (.getfield 34, 3) := by decide +kernel
theorem dX0_isSomeWithin_7 : decode cX0_isSomeWithin 7 = .ok (.if_icmp .ge 21, 3) := by decide +kernel
theorem dX0_isSomeWithin_10 : decode cX0_isSomeWithin 10 = .ok (.aload_n 0, 1) := by decide +kernel
theorem dX0_isSomeWithin_11 : decode cX0_isSomeWithin 11 = .ok (.iload_n 3, 1) := by decide +kernel
theorem dX0_isSomeWithin_12 : decode cX0_isSomeWithin 12 = .ok (.iload_n 1, 1) := by decide +kernel
theorem dX0_isSomeWithin_13 : decode cX0_isSomeWithin 13 = .ok (.iload_n 2, 1) := by decide +kernel
theorem dX0_isSomeWithin_14 : decode cX0_isSomeWithin 14 = .ok (.invokevirtual 80, 3) := by decide +kernel
theorem dX0_isSomeWithin_17 : decode cX0_isSomeWithin 17 = .ok (.ifCond .eq 5, 3) := by decide +kernel
theorem dX0_isSomeWithin_20 : decode cX0_isSomeWithin 20 = .ok (.iconst 1, 1) := by decide +kernel
theorem dX0_isSomeWithin_21 : decode cX0_isSomeWithin 21 = .ok (.ireturn, 1) := by decide +kernel
theorem dX0_isSomeWithin_22 : decode cX0_isSomeWithin 22 = .ok (.iinc 3 1, 3) := by decide +kernel
theorem dX0_isSomeWithin_25 : decode cX0_isSomeWithin 25 = .ok (.goto (-23), 3) := by decide +kernel
theorem dX0_isSomeWithin_28 : decode cX0_isSomeWithin 28 = .ok (.iconst 0, 1) := by decide +kernel
theorem dX0_isSomeWithin_29 : decode cX0_isSomeWithin 29 = .ok (.ireturn, 1) := by decide +kernel
set_option maxRecDepth 20000 in
theorem ggX0_firstSubsumer_X0_isWithin : GoodIn wsX0_firstSubsumer wsX0_isWithin := goodIn_r _ [8, 2, 3, 9, 10, 11, 12, 13, 14, 15, 16] rfl (by decide +kernel)
set_option maxRecDepth 20000 in
theorem gX0_firstSubsumer_X0_isWithin : GoodIn wsX0_firstSubsumer (wsV RX0 80 RX0 yX0_isWithin wsX0_isWithin) := goodIn_app (goodIn_r _ [4, 5, 6, 7] rfl (by decide +kernel)) ggX0_firstSubsumer_X0_isWithin
theorem dX0_firstSubsumer_0 : decode cX0_firstSubsumer 0 = .ok (.iconst 0, 1) := by decide +kernel
theorem dX0_firstSubsumer_1 : decode cX0_firstSubsumer 1 = .ok (.istore_n 2, 1) := by decide +kernel
theorem dX0_firstSubsumer_2 : decode cX0_firstSubsumer 2 = .ok (.iload_n 2, 1) := by decide +kernel
theorem dX0_firstSubsumer_3 : decode cX0_firstSubsumer 3 = .ok (.aload_n 0, 1) := by decide +kernel
theorem dX0_firstSubsumer_4 : decode cX0_firstSubsumer 4 = .ok (.getfield 34, 3) := by decide +kernel
theorem dX0_firstSubsumer_7 : decode cX0_firstSubsumer 7 = .ok (.if_icmp .ge 36, 3) := by decide +kernel
theorem dX0_firstSubsumer_10 : decode cX0_firstSubsumer 10 = .ok (.iload_n 2, 1) := by decide +kernel
theorem dX0_firstSubsumer_11 : decode cX0_firstSubsumer 11 = .ok (.iload_n 1, 1) := by decide +kernel
theorem dX0_firstSubsumer_12 : decode cX0_firstSubsumer 12 = .ok (.if_icmp .eq 25, 3) := by decide +kernel
theorem dX0_firstSubsumer_15 : decode cX0_firstSubsumer 15 = .ok (.aload_n 0, 1) := by decide +kernel
theorem dX0_firstSubsumer_16 : decode cX0_firstSubsumer 16 = .ok (.iload_n 2, 1) := by decide +kernel
theorem dX0_firstSubsumer_17 : decode cX0_firstSubsumer 17 = .ok (.aload_n 0, 1) := by decide +kernel
theorem dX0_firstSubsumer_18 : decode cX0_firstSubsumer 18 = .ok (.getfield 9, 3) := by decide +kernel
theorem dX0_firstSubsumer_21 : decode cX0_firstSubsumer 21 = .ok (.iload_n 1, 1) := by decide +kernel
theorem dX0_firstSubsumer_22 : decode cX0_firstSubsumer 22 = .ok (.iaload, 1) := by decide +kernel
theorem dX0_firstSubsumer_23 : decode cX0_firstSubsumer 23 = .ok (.aload_n 0, 1) := by decide +kernel
theorem dX0_firstSubsumer_24 : decode cX0_firstSubsumer 24 = .ok (.getfield 15, 3) := by decide +kernel
theorem dX0_firstSubsumer_27 : decode cX0_firstSubsumer 27 = .ok (.iload_n 1, 1) := by decide +kernel
theorem dX0_firstSubsumer_28 : decode cX0_firstSubsumer 28 = .ok (.iaload, 1) := by decide +kernel
theorem dX0_firstSubsumer_29 : decode cX0_firstSubsumer 29 = .ok (.invokevirtual 80, 3) := by decide +kernel
theorem dX0_firstSubsumer_32 : decode cX0_firstSubsumer 32 = .ok (.ifCond .eq 5, 3) := by decide +kernel
theorem dX0_firstSubsumer_35 : decode cX0_firstSubsumer 35 = .ok (.iload_n 2, 1) := by decide +kernel
theorem dX0_firstSubsumer_36 : decode cX0_firstSubsumer 36 = .ok (.ireturn, 1) := by decide +kernel
theorem dX0_firstSubsumer_37 : decode cX0_firstSubsumer 37 = .ok (.iinc 2 1, 3) := by decide +kernel
theorem dX0_firstSubsumer_40 : decode cX0_firstSubsumer 40 = .ok (.goto (-38), 3) := by decide +kernel
theorem dX0_firstSubsumer_43 : decode cX0_firstSubsumer 43 = .ok (.iconst (-1), 1) := by decide +kernel
theorem dX0_firstSubsumer_44 : decode cX0_firstSubsumer 44 = .ok (.ireturn, 1) := by decide +kernel
set_option maxRecDepth 20000 in
theorem ggX0_countSubsumed_X0_firstSubsumer : GoodIn wsX0_countSubsumed wsX0_firstSubsumer := goodIn_r _ [6, 1, 7, 8, 9, 10, 11, 5, 12, 13, 14, 15, 16, 17, 18, 19, 20] rfl (by decide +kernel)
set_option maxRecDepth 20000 in
theorem gX0_countSubsumed_X0_firstSubsumer : GoodIn wsX0_countSubsumed (wsV RX0 84 RX0 yX0_firstSubsumer wsX0_firstSubsumer) := goodIn_app (goodIn_r _ [2, 3, 4, 5] rfl (by decide +kernel)) ggX0_countSubsumed_X0_firstSubsumer
theorem dX0_countSubsumed_0 : decode cX0_countSubsumed 0 = .ok (.iconst 0, 1) := by decide +kernel
theorem dX0_countSubsumed_1 : decode cX0_countSubsumed 1 = .ok (.istore_n 1, 1) := by decide +kernel
theorem dX0_countSubsumed_2 : decode cX0_countSubsumed 2 = .ok (.iconst 0, 1) := by decide +kernel
theorem dX0_countSubsumed_3 : decode cX0_countSubsumed 3 = .ok (.istore_n 2, 1) := by decide +kernel
theorem dX0_countSubsumed_4 : decode cX0_countSubsumed 4 = .ok (.iload_n 2, 1) := by decide +kernel
theorem dX0_countSubsumed_5 : decode cX0_countSubsumed 5 = .ok (.aload_n 0, 1) := by decide +kernel
theorem dX0_countSubsumed_6 : decode cX0_countSubsumed 6 = .ok (.getfield 34, 3) := by decide +kernel
theorem dX0_countSubsumed_9 : decode cX0_countSubsumed 9 = .ok (.if_icmp .ge 21, 3) := by decide +kernel
theorem dX0_countSubsumed_12 : decode cX0_countSubsumed 12 = .ok (.aload_n 0, 1) := by decide +kernel
theorem dX0_countSubsumed_13 : decode cX0_countSubsumed 13 = .ok (.iload_n 2, 1) := by decide +kernel
theorem dX0_countSubsumed_14 : decode cX0_countSubsumed 14 = .ok (.invokevirtual 84, 3) := by decide +kernel
theorem dX0_countSubsumed_17 : decode cX0_countSubsumed 17 = .ok (.iconst (-1), 1) := by decide +kernel
theorem dX0_countSubsumed_18 : decode cX0_countSubsumed 18 = .ok (.if_icmp .eq 6, 3) := by decide +kernel
theorem dX0_countSubsumed_21 : decode cX0_countSubsumed 21 = .ok (.iinc 1 1, 3) := by decide +kernel
theorem dX0_countSubsumed_24 : decode cX0_countSubsumed 24 = .ok (.iinc 2 1, 3) := by decide +kernel
theorem dX0_countSubsumed_27 : decode cX0_countSubsumed 27 = .ok (.goto (-23), 3) := by decide +kernel
theorem dX0_countSubsumed_30 : decode cX0_countSubsumed 30 = .ok (.iload_n 1, 1) := by decide +kernel
theorem dX0_countSubsumed_31 : decode cX0_countSubsumed 31 = .ok (.ireturn, 1) := by decide +kernel
theorem dX0_isTrueUnder_0 : decode cX0_isTrueUnder 0 = .ok (.aload_n 0, 1) := by decide +kernel
theorem dX0_isTrueUnder_1 : decode cX0_isTrueUnder 1 = .ok (.getfield 9, 3) := by decide +kernel
theorem dX0_isTrueUnder_4 : decode cX0_isTrueUnder 4 = .ok (.iload_n 1, 1) := by decide +kernel
theorem dX0_isTrueUnder_5 : decode cX0_isTrueUnder 5 = .ok (.iaload, 1) := by decide +kernel
theorem dX0_isTrueUnder_6 : decode cX0_isTrueUnder 6 = .ok (.iload_n 2, 1) := by decide +kernel
theorem dX0_isTrueUnder_7 : decode cX0_isTrueUnder 7 = .ok (.iand, 1) := by decide +kernel
theorem dX0_isTrueUnder_8 : decode cX0_isTrueUnder 8 = .ok (.ifCond .ne 16, 3) := by decide +kernel
theorem dX0_isTrueUnder_11 : decode cX0_isTrueUnder 11 = .ok (.aload_n 0, 1) := by decide +kernel
theorem dX0_isTrueUnder_12 : decode cX0_isTrueUnder 12 = .ok (.getfield 15, 3) := by decide +kernel
theorem dX0_isTrueUnder_15 : decode cX0_isTrueUnder 15 = .ok (.iload_n 1, 1) := by decide +kernel
theorem dX0_isTrueUnder_16 : decode cX0_isTrueUnder 16 = .ok (.iaload, 1) := by decide +kernel
theorem dX0_isTrueUnder_17 : decode cX0_isTrueUnder 17 = .ok (.iload_n 2, 1) := by decide +kernel
theorem dX0_isTrueUnder_18 : decode cX0_isTrueUnder 18 = .ok (.iconst (-1), 1) := by decide +kernel
theorem dX0_isTrueUnder_19 : decode cX0_isTrueUnder 19 = .ok (.ixor, 1) := by decide +kernel
theorem dX0_isTrueUnder_20 : decode cX0_isTrueUnder 20 = .ok (.iand, 1) := by decide +kernel
theorem dX0_isTrueUnder_21 : decode cX0_isTrueUnder 21 = .ok (.ifCond .eq 7, 3) := by decide +kernel
theorem dX0_isTrueUnder_24 : decode cX0_isTrueUnder 24 = .ok (.iconst 1, 1) := by decide +kernel
theorem dX0_isTrueUnder_25 : decode cX0_isTrueUnder 25 = .ok (.goto 4, 3) := by decide +kernel
theorem dX0_isTrueUnder_28 : decode cX0_isTrueUnder 28 = .ok (.iconst 0, 1) := by decide +kernel
theorem dX0_isTrueUnder_29 : decode cX0_isTrueUnder 29 = .ok (.ireturn, 1) := by decide +kernel
set_option maxRecDepth 20000 in
theorem ggX0_addGiven_X0_isFull : GoodIn wsX0_addGiven wsX0_isFull := goodIn_r _ [12, 1, 13, 14, 15, 16, 17, 18, 19, 20] rfl (by decide +kernel)
set_option maxRecDepth 20000 in
theorem gX0_addGiven_X0_isFull : GoodIn wsX0_addGiven (wsV RX0 73 RX0 yX0_isFull wsX0_isFull) := goodIn_app (goodIn_r _ [8, 9, 10, 11] rfl (by decide +kernel)) ggX0_addGiven_X0_isFull
theorem dX0_addGiven_0 : decode cX0_addGiven 0 = .ok (.aload_n 0, 1) := by decide +kernel
theorem dX0_addGiven_1 : decode cX0_addGiven 1 = .ok (.invokevirtual 73, 3) := by decide +kernel
theorem dX0_addGiven_4 : decode cX0_addGiven 4 = .ok (.ifCond .eq 5, 3) := by decide +kernel
theorem dX0_addGiven_7 : decode cX0_addGiven 7 = .ok (.iconst (-1), 1) := by decide +kernel
theorem dX0_addGiven_8 : decode cX0_addGiven 8 = .ok (.ireturn, 1) := by decide +kernel
theorem dX0_addGiven_9 : decode cX0_addGiven 9 = .ok (.aload_n 0, 1) := by decide +kernel
theorem dX0_addGiven_10 : decode cX0_addGiven 10 = .ok (.getfield 34, 3) := by decide +kernel
theorem dX0_addGiven_13 : decode cX0_addGiven 13 = .ok (.istore_n 3, 1) := by decide +kernel
theorem dX0_addGiven_14 : decode cX0_addGiven 14 = .ok (.aload_n 0, 1) := by decide +kernel
theorem dX0_addGiven_15 : decode cX0_addGiven 15 = .ok (.getfield 9, 3) := by decide +kernel
theorem dX0_addGiven_18 : decode cX0_addGiven 18 = .ok (.iload_n 3, 1) := by decide +kernel
theorem dX0_addGiven_19 : decode cX0_addGiven 19 = .ok (.iload_n 1, 1) := by decide +kernel
theorem dX0_addGiven_20 : decode cX0_addGiven 20 = .ok (.iastore, 1) := by decide +kernel
theorem dX0_addGiven_21 : decode cX0_addGiven 21 = .ok (.aload_n 0, 1) := by decide +kernel
theorem dX0_addGiven_22 : decode cX0_addGiven 22 = .ok (.getfield 15, 3) := by decide +kernel
theorem dX0_addGiven_25 : decode cX0_addGiven 25 = .ok (.iload_n 3, 1) := by decide +kernel
theorem dX0_addGiven_26 : decode cX0_addGiven 26 = .ok (.iload_n 2, 1) := by decide +kernel
theorem dX0_addGiven_27 : decode cX0_addGiven 27 = .ok (.iastore, 1) := by decide +kernel
theorem dX0_addGiven_28 : decode cX0_addGiven 28 = .ok (.aload_n 0, 1) := by decide +kernel
theorem dX0_addGiven_29 : decode cX0_addGiven 29 = .ok (.getfield 18, 3) := by decide +kernel
theorem dX0_addGiven_32 : decode cX0_addGiven 32 = .ok (.iload_n 3, 1) := by decide +kernel
theorem dX0_addGiven_33 : decode cX0_addGiven 33 = .ok (.iconst (-1), 1) := by decide +kernel
theorem dX0_addGiven_34 : decode cX0_addGiven 34 = .ok (.iastore, 1) := by decide +kernel
theorem dX0_addGiven_35 : decode cX0_addGiven 35 = .ok (.aload_n 0, 1) := by decide +kernel
theorem dX0_addGiven_36 : decode cX0_addGiven 36 = .ok (.getfield 21, 3) := by decide +kernel
theorem dX0_addGiven_39 : decode cX0_addGiven 39 = .ok (.iload_n 3, 1) := by decide +kernel
theorem dX0_addGiven_40 : decode cX0_addGiven 40 = .ok (.iconst (-1), 1) := by decide +kernel
theorem dX0_addGiven_41 : decode cX0_addGiven 41 = .ok (.iastore, 1) := by decide +kernel
theorem dX0_addGiven_42 : decode cX0_addGiven 42 = .ok (.aload_n 0, 1) := by decide +kernel
theorem dX0_addGiven_43 : decode cX0_addGiven 43 = .ok (.getfield 24, 3) := by decide +kernel
theorem dX0_addGiven_46 : decode cX0_addGiven 46 = .ok (.iload_n 3, 1) := by decide +kernel
theorem dX0_addGiven_47 : decode cX0_addGiven 47 = .ok (.iconst (-1), 1) := by decide +kernel
theorem dX0_addGiven_48 : decode cX0_addGiven 48 = .ok (.iastore, 1) := by decide +kernel
theorem dX0_addGiven_49 : decode cX0_addGiven 49 = .ok (.aload_n 0, 1) := by decide +kernel
theorem dX0_addGiven_50 : decode cX0_addGiven 50 = .ok (.getfield 27, 3) := by decide +kernel
theorem dX0_addGiven_53 : decode cX0_addGiven 53 = .ok (.iload_n 3, 1) := by decide +kernel
theorem dX0_addGiven_54 : decode cX0_addGiven 54 = .ok (.iconst 0, 1) := by decide +kernel
theorem dX0_addGiven_55 : decode cX0_addGiven 55 = .ok (.iastore, 1) := by decide +kernel
theorem dX0_addGiven_56 : decode cX0_addGiven 56 = .ok (.aload_n 0, 1) := by decide +kernel
theorem dX0_addGiven_57 : decode cX0_addGiven 57 = .ok (.dup, 1) := by decide +kernel
theorem dX0_addGiven_58 : decode cX0_addGiven 58 = .ok (.getfield 34, 3) := by decide +kernel
theorem dX0_addGiven_61 : decode cX0_addGiven 61 = .ok (.iconst 1, 1) := by decide +kernel
theorem dX0_addGiven_62 : decode cX0_addGiven 62 = .ok (.iadd, 1) := by decide +kernel
theorem dX0_addGiven_63 : decode cX0_addGiven 63 = .ok (.putfield 34, 3) := by decide +kernel
theorem dX0_addGiven_66 : decode cX0_addGiven 66 = .ok (.iload_n 3, 1) := by decide +kernel
theorem dX0_addGiven_67 : decode cX0_addGiven 67 = .ok (.ireturn, 1) := by decide +kernel
set_option maxRecDepth 20000 in
theorem ggX0_addResolvent_X0_clashMask : GoodIn wsX0_addResolvent wsX0_clashMask := goodIn_r _ [14, 1, 15, 38, 39, 40, 41, 42, 43, 44, 45] rfl (by decide +kernel)
set_option maxRecDepth 20000 in
theorem gX0_addResolvent_X0_clashMask : GoodIn wsX0_addResolvent (wsV RX0 60 RX0 yX0_clashMask wsX0_clashMask) := goodIn_app (goodIn_r _ [10, 11, 12, 13] rfl (by decide +kernel)) ggX0_addResolvent_X0_clashMask
set_option maxRecDepth 20000 in
theorem ggX0_addResolvent_X0_mergedPositive : GoodIn wsX0_addResolvent wsX0_mergedPositive := goodIn_r _ [19, 1, 10, 11, 12, 13, 14, 15, 38, 39, 40, 41, 42, 43, 44, 45] rfl (by decide +kernel)
set_option maxRecDepth 20000 in
theorem gX0_addResolvent_X0_mergedPositive : GoodIn wsX0_addResolvent (wsV RX0 67 RX0 yX0_mergedPositive wsX0_mergedPositive) := goodIn_app (goodIn_r _ [16, 17, 18, 13] rfl (by decide +kernel)) ggX0_addResolvent_X0_mergedPositive
set_option maxRecDepth 20000 in
theorem ggX0_addResolvent_X0_mergedNegative : GoodIn wsX0_addResolvent wsX0_mergedNegative := goodIn_r _ [23, 15, 10, 11, 12, 13, 14, 1, 38, 39, 40, 41, 42, 43, 44, 45] rfl (by decide +kernel)
set_option maxRecDepth 20000 in
theorem gX0_addResolvent_X0_mergedNegative : GoodIn wsX0_addResolvent (wsV RX0 70 RX0 yX0_mergedNegative wsX0_mergedNegative) := goodIn_app (goodIn_r _ [20, 21, 22, 13] rfl (by decide +kernel)) ggX0_addResolvent_X0_mergedNegative
set_option maxRecDepth 20000 in
theorem ggX0_addResolvent_X0_addGiven : GoodIn wsX0_addResolvent wsX0_addGiven := goodIn_r _ [27, 28, 1, 15, 7, 8, 9, 2, 29, 30, 31, 13, 32, 38, 39, 40, 41, 42, 43, 44, 45] rfl (by decide +kernel)
set_option maxRecDepth 20000 in
theorem gX0_addResolvent_X0_addGiven : GoodIn wsX0_addResolvent (wsV RX0 92 RX0 yX0_addGiven wsX0_addGiven) := goodIn_app (goodIn_r _ [24, 25, 26, 13] rfl (by decide +kernel)) ggX0_addResolvent_X0_addGiven
set_option maxRecDepth 20000 in
theorem ggX0_addResolvent_J6_numberOfTrailingZeros_0f7a4 : GoodIn wsX0_addResolvent wsJ6_numberOfTrailingZeros_0f7a4 := goodIn_r _ [36, 37] rfl (by decide +kernel)
set_option maxRecDepth 20000 in
theorem gX0_addResolvent_J6_numberOfTrailingZeros_0f7a4 : GoodIn wsX0_addResolvent (va_wsS RX0 95 yJ6_numberOfTrailingZeros_0f7a4 wsJ6_numberOfTrailingZeros_0f7a4) := goodIn_app (goodIn_r _ [33, 34, 35] rfl (by decide +kernel)) ggX0_addResolvent_J6_numberOfTrailingZeros_0f7a4
theorem dX0_addResolvent_0 : decode cX0_addResolvent 0 = .ok (.aload_n 0, 1) := by decide +kernel
theorem dX0_addResolvent_1 : decode cX0_addResolvent 1 = .ok (.iload_n 1, 1) := by decide +kernel
theorem dX0_addResolvent_2 : decode cX0_addResolvent 2 = .ok (.iload_n 2, 1) := by decide +kernel
theorem dX0_addResolvent_3 : decode cX0_addResolvent 3 = .ok (.invokevirtual 60, 3) := by decide +kernel
theorem dX0_addResolvent_6 : decode cX0_addResolvent 6 = .ok (.istore_n 3, 1) := by decide +kernel
theorem dX0_addResolvent_7 : decode cX0_addResolvent 7 = .ok (.aload_n 0, 1) := by decide +kernel
theorem dX0_addResolvent_8 : decode cX0_addResolvent 8 = .ok (.getfield 9, 3) := by decide +kernel
theorem dX0_addResolvent_11 : decode cX0_addResolvent 11 = .ok (.iload_n 1, 1) := by decide +kernel
theorem dX0_addResolvent_12 : decode cX0_addResolvent 12 = .ok (.iaload, 1) := by decide +kernel
theorem dX0_addResolvent_13 : decode cX0_addResolvent 13 = .ok (.iload_n 3, 1) := by decide +kernel
theorem dX0_addResolvent_14 : decode cX0_addResolvent 14 = .ok (.iand, 1) := by decide +kernel
theorem dX0_addResolvent_15 : decode cX0_addResolvent 15 = .ok (.ifCond .eq 7, 3) := by decide +kernel
theorem dX0_addResolvent_18 : decode cX0_addResolvent 18 = .ok (.iconst 1, 1) := by decide +kernel
theorem dX0_addResolvent_19 : decode cX0_addResolvent 19 = .ok (.goto 4, 3) := by decide +kernel
theorem dX0_addResolvent_22 : decode cX0_addResolvent 22 = .ok (.iconst 0, 1) := by decide +kernel
theorem dX0_addResolvent_23 : decode cX0_addResolvent 23 = .ok (.istore 4, 2) := by decide +kernel
theorem dX0_addResolvent_25 : decode cX0_addResolvent 25 = .ok (.iconst 1, 1) := by decide +kernel
theorem dX0_addResolvent_26 : decode cX0_addResolvent 26 = .ok (.aload_n 0, 1) := by decide +kernel
theorem dX0_addResolvent_27 : decode cX0_addResolvent 27 = .ok (.getfield 27, 3) := by decide +kernel
theorem dX0_addResolvent_30 : decode cX0_addResolvent 30 = .ok (.iload_n 1, 1) := by decide +kernel
theorem dX0_addResolvent_31 : decode cX0_addResolvent 31 = .ok (.iaload, 1) := by decide +kernel
theorem dX0_addResolvent_32 : decode cX0_addResolvent 32 = .ok (.aload_n 0, 1) := by decide +kernel
theorem dX0_addResolvent_33 : decode cX0_addResolvent 33 = .ok (.getfield 27, 3) := by decide +kernel
theorem dX0_addResolvent_36 : decode cX0_addResolvent 36 = .ok (.iload_n 2, 1) := by decide +kernel
theorem dX0_addResolvent_37 : decode cX0_addResolvent 37 = .ok (.iaload, 1) := by decide +kernel
theorem dX0_addResolvent_38 : decode cX0_addResolvent 38 = .ok (.invokestatic 87, 3) := by decide +kernel
theorem dX0_addResolvent_41 : decode cX0_addResolvent 41 = .ok (.iadd, 1) := by decide +kernel
theorem dX0_addResolvent_42 : decode cX0_addResolvent 42 = .ok (.istore 5, 2) := by decide +kernel
theorem dX0_addResolvent_44 : decode cX0_addResolvent 44 = .ok (.aload_n 0, 1) := by decide +kernel
theorem dX0_addResolvent_45 : decode cX0_addResolvent 45 = .ok (.aload_n 0, 1) := by decide +kernel
theorem dX0_addResolvent_46 : decode cX0_addResolvent 46 = .ok (.iload_n 1, 1) := by decide +kernel
theorem dX0_addResolvent_47 : decode cX0_addResolvent 47 = .ok (.iload_n 2, 1) := by decide +kernel
theorem dX0_addResolvent_48 : decode cX0_addResolvent 48 = .ok (.invokevirtual 67, 3) := by decide +kernel
theorem dX0_addResolvent_51 : decode cX0_addResolvent 51 = .ok (.aload_n 0, 1) := by decide +kernel
theorem dX0_addResolvent_52 : decode cX0_addResolvent 52 = .ok (.iload_n 1, 1) := by decide +kernel
theorem dX0_addResolvent_53 : decode cX0_addResolvent 53 = .ok (.iload_n 2, 1) := by decide +kernel
theorem dX0_addResolvent_54 : decode cX0_addResolvent 54 = .ok (.invokevirtual 70, 3) := by decide +kernel
theorem dX0_addResolvent_57 : decode cX0_addResolvent 57 = .ok (.invokevirtual 92, 3) := by decide +kernel
theorem dX0_addResolvent_60 : decode cX0_addResolvent 60 = .ok (.istore 6, 2) := by decide +kernel
theorem dX0_addResolvent_62 : decode cX0_addResolvent 62 = .ok (.iload 6, 2) := by decide +kernel
theorem dX0_addResolvent_64 : decode cX0_addResolvent 64 = .ok (.iconst (-1), 1) := by decide +kernel
theorem dX0_addResolvent_65 : decode cX0_addResolvent 65 = .ok (.if_icmp .ne 5, 3) := by decide +kernel
theorem dX0_addResolvent_68 : decode cX0_addResolvent 68 = .ok (.iconst (-1), 1) := by decide +kernel
theorem dX0_addResolvent_69 : decode cX0_addResolvent 69 = .ok (.ireturn, 1) := by decide +kernel
theorem dX0_addResolvent_70 : decode cX0_addResolvent 70 = .ok (.aload_n 0, 1) := by decide +kernel
theorem dX0_addResolvent_71 : decode cX0_addResolvent 71 = .ok (.getfield 18, 3) := by decide +kernel
theorem dX0_addResolvent_74 : decode cX0_addResolvent 74 = .ok (.iload 6, 2) := by decide +kernel
theorem dX0_addResolvent_76 : decode cX0_addResolvent 76 = .ok (.iload 4, 2) := by decide +kernel
theorem dX0_addResolvent_78 : decode cX0_addResolvent 78 = .ok (.ifCond .eq 7, 3) := by decide +kernel
theorem dX0_addResolvent_81 : decode cX0_addResolvent 81 = .ok (.iload_n 1, 1) := by decide +kernel
theorem dX0_addResolvent_82 : decode cX0_addResolvent 82 = .ok (.goto 4, 3) := by decide +kernel
theorem dX0_addResolvent_85 : decode cX0_addResolvent 85 = .ok (.iload_n 2, 1) := by decide +kernel
theorem dX0_addResolvent_86 : decode cX0_addResolvent 86 = .ok (.iastore, 1) := by decide +kernel
theorem dX0_addResolvent_87 : decode cX0_addResolvent 87 = .ok (.aload_n 0, 1) := by decide +kernel
theorem dX0_addResolvent_88 : decode cX0_addResolvent 88 = .ok (.getfield 21, 3) := by decide +kernel
theorem dX0_addResolvent_91 : decode cX0_addResolvent 91 = .ok (.iload 6, 2) := by decide +kernel
theorem dX0_addResolvent_93 : decode cX0_addResolvent 93 = .ok (.iload 4, 2) := by decide +kernel
theorem dX0_addResolvent_95 : decode cX0_addResolvent 95 = .ok (.ifCond .eq 7, 3) := by decide +kernel
theorem dX0_addResolvent_98 : decode cX0_addResolvent 98 = .ok (.iload_n 2, 1) := by decide +kernel
theorem dX0_addResolvent_99 : decode cX0_addResolvent 99 = .ok (.goto 4, 3) := by decide +kernel
theorem dX0_addResolvent_102 : decode cX0_addResolvent 102 = .ok (.iload_n 1, 1) := by decide +kernel
theorem dX0_addResolvent_103 : decode cX0_addResolvent 103 = .ok (.iastore, 1) := by decide +kernel
theorem dX0_addResolvent_104 : decode cX0_addResolvent 104 = .ok (.aload_n 0, 1) := by decide +kernel
theorem dX0_addResolvent_105 : decode cX0_addResolvent 105 = .ok (.getfield 24, 3) := by decide +kernel
theorem dX0_addResolvent_108 : decode cX0_addResolvent 108 = .ok (.iload 6, 2) := by decide +kernel
theorem dX0_addResolvent_110 : decode cX0_addResolvent 110 = .ok (.iload_n 3, 1) := by decide +kernel
theorem dX0_addResolvent_111 : decode cX0_addResolvent 111 = .ok (.invokestatic 95, 3) := by decide +kernel
theorem dX0_addResolvent_114 : decode cX0_addResolvent 114 = .ok (.iastore, 1) := by decide +kernel
theorem dX0_addResolvent_115 : decode cX0_addResolvent 115 = .ok (.aload_n 0, 1) := by decide +kernel
theorem dX0_addResolvent_116 : decode cX0_addResolvent 116 = .ok (.getfield 27, 3) := by decide +kernel
theorem dX0_addResolvent_119 : decode cX0_addResolvent 119 = .ok (.iload 6, 2) := by decide +kernel
theorem dX0_addResolvent_121 : decode cX0_addResolvent 121 = .ok (.iload 5, 2) := by decide +kernel
theorem dX0_addResolvent_123 : decode cX0_addResolvent 123 = .ok (.iastore, 1) := by decide +kernel
theorem dX0_addResolvent_124 : decode cX0_addResolvent 124 = .ok (.iload 6, 2) := by decide +kernel
theorem dX0_addResolvent_126 : decode cX0_addResolvent 126 = .ok (.ireturn, 1) := by decide +kernel
theorem dX0_remove_0 : decode cX0_remove 0 = .ok (.iload_n 1, 1) := by decide +kernel
theorem dX0_remove_1 : decode cX0_remove 1 = .ok (.iconst 1, 1) := by decide +kernel
theorem dX0_remove_2 : decode cX0_remove 2 = .ok (.iadd, 1) := by decide +kernel
theorem dX0_remove_3 : decode cX0_remove 3 = .ok (.istore_n 2, 1) := by decide +kernel
theorem dX0_remove_4 : decode cX0_remove 4 = .ok (.iload_n 2, 1) := by decide +kernel
theorem dX0_remove_5 : decode cX0_remove 5 = .ok (.aload_n 0, 1) := by decide +kernel
theorem dX0_remove_6 : decode cX0_remove 6 = .ok (.getfield 34, 3) := by decide +kernel
theorem dX0_remove_9 : decode cX0_remove 9 = .ok (.if_icmp .ge 135, 3) := by decide +kernel
theorem dX0_remove_12 : decode cX0_remove 12 = .ok (.aload_n 0, 1) := by decide +kernel
theorem dX0_remove_13 : decode cX0_remove 13 = .ok (.getfield 9, 3) := by decide +kernel
theorem dX0_remove_16 : decode cX0_remove 16 = .ok (.iload_n 2, 1) := by decide +kernel
theorem dX0_remove_17 : decode cX0_remove 17 = .ok (.iconst 1, 1) := by decide +kernel
theorem dX0_remove_18 : decode cX0_remove 18 = .ok (.isub, 1) := by decide +kernel
theorem dX0_remove_19 : decode cX0_remove 19 = .ok (.aload_n 0, 1) := by decide +kernel
theorem dX0_remove_20 : decode cX0_remove 20 = .ok (.getfield 9, 3) := by decide +kernel
theorem dX0_remove_23 : decode cX0_remove 23 = .ok (.iload_n 2, 1) := by decide +kernel
theorem dX0_remove_24 : decode cX0_remove 24 = .ok (.iaload, 1) := by decide +kernel
theorem dX0_remove_25 : decode cX0_remove 25 = .ok (.iastore, 1) := by decide +kernel
theorem dX0_remove_26 : decode cX0_remove 26 = .ok (.aload_n 0, 1) := by decide +kernel
theorem dX0_remove_27 : decode cX0_remove 27 = .ok (.getfield 15, 3) := by decide +kernel
theorem dX0_remove_30 : decode cX0_remove 30 = .ok (.iload_n 2, 1) := by decide +kernel
theorem dX0_remove_31 : decode cX0_remove 31 = .ok (.iconst 1, 1) := by decide +kernel
theorem dX0_remove_32 : decode cX0_remove 32 = .ok (.isub, 1) := by decide +kernel
theorem dX0_remove_33 : decode cX0_remove 33 = .ok (.aload_n 0, 1) := by decide +kernel
theorem dX0_remove_34 : decode cX0_remove 34 = .ok (.getfield 15, 3) := by decide +kernel
theorem dX0_remove_37 : decode cX0_remove 37 = .ok (.iload_n 2, 1) := by decide +kernel
theorem dX0_remove_38 : decode cX0_remove 38 = .ok (.iaload, 1) := by decide +kernel
theorem dX0_remove_39 : decode cX0_remove 39 = .ok (.iastore, 1) := by decide +kernel
theorem dX0_remove_40 : decode cX0_remove 40 = .ok (.aload_n 0, 1) := by decide +kernel
theorem dX0_remove_41 : decode cX0_remove 41 = .ok (.getfield 18, 3) := by decide +kernel
theorem dX0_remove_44 : decode cX0_remove 44 = .ok (.iload_n 2, 1) := by decide +kernel
theorem dX0_remove_45 : decode cX0_remove 45 = .ok (.iconst 1, 1) := by decide +kernel
theorem dX0_remove_46 : decode cX0_remove 46 = .ok (.isub, 1) := by decide +kernel
theorem dX0_remove_47 : decode cX0_remove 47 = .ok (.aload_n 0, 1) := by decide +kernel
theorem dX0_remove_48 : decode cX0_remove 48 = .ok (.getfield 18, 3) := by decide +kernel
theorem dX0_remove_51 : decode cX0_remove 51 = .ok (.iload_n 2, 1) := by decide +kernel
theorem dX0_remove_52 : decode cX0_remove 52 = .ok (.iaload, 1) := by decide +kernel
theorem dX0_remove_53 : decode cX0_remove 53 = .ok (.iload_n 1, 1) := by decide +kernel
theorem dX0_remove_54 : decode cX0_remove 54 = .ok (.if_icmp .le 14, 3) := by decide +kernel
theorem dX0_remove_57 : decode cX0_remove 57 = .ok (.aload_n 0, 1) := by decide +kernel
theorem dX0_remove_58 : decode cX0_remove 58 = .ok (.getfield 18, 3) := by decide +kernel
theorem dX0_remove_61 : decode cX0_remove 61 = .ok (.iload_n 2, 1) := by decide +kernel
theorem dX0_remove_62 : decode cX0_remove 62 = .ok (.iaload, 1) := by decide +kernel
theorem dX0_remove_63 : decode cX0_remove 63 = .ok (.iconst 1, 1) := by decide +kernel
theorem dX0_remove_64 : decode cX0_remove 64 = .ok (.isub, 1) := by decide +kernel
theorem dX0_remove_65 : decode cX0_remove 65 = .ok (.goto 9, 3) := by decide +kernel
theorem dX0_remove_68 : decode cX0_remove 68 = .ok (.aload_n 0, 1) := by decide +kernel
theorem dX0_remove_69 : decode cX0_remove 69 = .ok (.getfield 18, 3) := by decide +kernel
theorem dX0_remove_72 : decode cX0_remove 72 = .ok (.iload_n 2, 1) := by decide +kernel
theorem dX0_remove_73 : decode cX0_remove 73 = .ok (.iaload, 1) := by decide +kernel
theorem dX0_remove_74 : decode cX0_remove 74 = .ok (.iastore, 1) := by decide +kernel
theorem dX0_remove_75 : decode cX0_remove 75 = .ok (.aload_n 0, 1) := by decide +kernel
theorem dX0_remove_76 : decode cX0_remove 76 = .ok (.getfield 21, 3) := by decide +kernel
theorem dX0_remove_79 : decode cX0_remove 79 = .ok (.iload_n 2, 1) := by decide +kernel
theorem dX0_remove_80 : decode cX0_remove 80 = .ok (.iconst 1, 1) := by decide +kernel
theorem dX0_remove_81 : decode cX0_remove 81 = .ok (.isub, 1) := by decide +kernel
theorem dX0_remove_82 : decode cX0_remove 82 = .ok (.aload_n 0, 1) := by decide +kernel
theorem dX0_remove_83 : decode cX0_remove 83 = .ok (.getfield 21, 3) := by decide +kernel
theorem dX0_remove_86 : decode cX0_remove 86 = .ok (.iload_n 2, 1) := by decide +kernel
theorem dX0_remove_87 : decode cX0_remove 87 = .ok (.iaload, 1) := by decide +kernel
theorem dX0_remove_88 : decode cX0_remove 88 = .ok (.iload_n 1, 1) := by decide +kernel
theorem dX0_remove_89 : decode cX0_remove 89 = .ok (.if_icmp .le 14, 3) := by decide +kernel
theorem dX0_remove_92 : decode cX0_remove 92 = .ok (.aload_n 0, 1) := by decide +kernel
theorem dX0_remove_93 : decode cX0_remove 93 = .ok (.getfield 21, 3) := by decide +kernel
theorem dX0_remove_96 : decode cX0_remove 96 = .ok (.iload_n 2, 1) := by decide +kernel
theorem dX0_remove_97 : decode cX0_remove 97 = .ok (.iaload, 1) := by decide +kernel
theorem dX0_remove_98 : decode cX0_remove 98 = .ok (.iconst 1, 1) := by decide +kernel
theorem dX0_remove_99 : decode cX0_remove 99 = .ok (.isub, 1) := by decide +kernel
theorem dX0_remove_100 : decode cX0_remove 100 = .ok (.goto 9, 3) := by decide +kernel
theorem dX0_remove_103 : decode cX0_remove 103 = .ok (.aload_n 0, 1) := by decide +kernel
theorem dX0_remove_104 : decode cX0_remove 104 = .ok (.getfield 21, 3) := by decide +kernel
theorem dX0_remove_107 : decode cX0_remove 107 = .ok (.iload_n 2, 1) := by decide +kernel
theorem dX0_remove_108 : decode cX0_remove 108 = .ok (.iaload, 1) := by decide +kernel
theorem dX0_remove_109 : decode cX0_remove 109 = .ok (.iastore, 1) := by decide +kernel
theorem dX0_remove_110 : decode cX0_remove 110 = .ok (.aload_n 0, 1) := by decide +kernel
theorem dX0_remove_111 : decode cX0_remove 111 = .ok (.getfield 24, 3) := by decide +kernel
theorem dX0_remove_114 : decode cX0_remove 114 = .ok (.iload_n 2, 1) := by decide +kernel
theorem dX0_remove_115 : decode cX0_remove 115 = .ok (.iconst 1, 1) := by decide +kernel
theorem dX0_remove_116 : decode cX0_remove 116 = .ok (.isub, 1) := by decide +kernel
theorem dX0_remove_117 : decode cX0_remove 117 = .ok (.aload_n 0, 1) := by decide +kernel
theorem dX0_remove_118 : decode cX0_remove 118 = .ok (.getfield 24, 3) := by decide +kernel
theorem dX0_remove_121 : decode cX0_remove 121 = .ok (.iload_n 2, 1) := by decide +kernel
theorem dX0_remove_122 : decode cX0_remove 122 = .ok (.iaload, 1) := by decide +kernel
theorem dX0_remove_123 : decode cX0_remove 123 = .ok (.iastore, 1) := by decide +kernel
theorem dX0_remove_124 : decode cX0_remove 124 = .ok (.aload_n 0, 1) := by decide +kernel
theorem dX0_remove_125 : decode cX0_remove 125 = .ok (.getfield 27, 3) := by decide +kernel
theorem dX0_remove_128 : decode cX0_remove 128 = .ok (.iload_n 2, 1) := by decide +kernel
theorem dX0_remove_129 : decode cX0_remove 129 = .ok (.iconst 1, 1) := by decide +kernel
theorem dX0_remove_130 : decode cX0_remove 130 = .ok (.isub, 1) := by decide +kernel
theorem dX0_remove_131 : decode cX0_remove 131 = .ok (.aload_n 0, 1) := by decide +kernel
theorem dX0_remove_132 : decode cX0_remove 132 = .ok (.getfield 27, 3) := by decide +kernel
theorem dX0_remove_135 : decode cX0_remove 135 = .ok (.iload_n 2, 1) := by decide +kernel
theorem dX0_remove_136 : decode cX0_remove 136 = .ok (.iaload, 1) := by decide +kernel
theorem dX0_remove_137 : decode cX0_remove 137 = .ok (.iastore, 1) := by decide +kernel
theorem dX0_remove_138 : decode cX0_remove 138 = .ok (.iinc 2 1, 3) := by decide +kernel
theorem dX0_remove_141 : decode cX0_remove 141 = .ok (.goto (-137), 3) := by decide +kernel
theorem dX0_remove_144 : decode cX0_remove 144 = .ok (.aload_n 0, 1) := by decide +kernel
theorem dX0_remove_145 : decode cX0_remove 145 = .ok (.dup, 1) := by decide +kernel
theorem dX0_remove_146 : decode cX0_remove 146 = .ok (.getfield 34, 3) := by decide +kernel
theorem dX0_remove_149 : decode cX0_remove 149 = .ok (.iconst 1, 1) := by decide +kernel
theorem dX0_remove_150 : decode cX0_remove 150 = .ok (.isub, 1) := by decide +kernel
theorem dX0_remove_151 : decode cX0_remove 151 = .ok (.putfield 34, 3) := by decide +kernel
theorem dX0_remove_154 : decode cX0_remove 154 = .ok (.return_, 1) := by decide +kernel
set_option maxRecDepth 20000 in
theorem ggX0_lastToReduce_X0_isParent : GoodIn wsX0_lastToReduce wsX0_isParent := goodIn_r _ [6, 1, 7, 8, 19, 20, 21, 22, 23, 24, 25, 26] rfl (by decide +kernel)
set_option maxRecDepth 20000 in
theorem gX0_lastToReduce_X0_isParent : GoodIn wsX0_lastToReduce (wsV RX0 98 RX0 yX0_isParent wsX0_isParent) := goodIn_app (goodIn_r _ [2, 3, 4, 5] rfl (by decide +kernel)) ggX0_lastToReduce_X0_isParent
set_option maxRecDepth 20000 in
theorem ggX0_lastToReduce_X0_firstSubsumer : GoodIn wsX0_lastToReduce wsX0_firstSubsumer := goodIn_r _ [12, 1, 13, 14, 15, 16, 17, 5, 18, 19, 20, 21, 22, 23, 24, 25, 26] rfl (by decide +kernel)
set_option maxRecDepth 20000 in
theorem gX0_lastToReduce_X0_firstSubsumer : GoodIn wsX0_lastToReduce (wsV RX0 84 RX0 yX0_firstSubsumer wsX0_firstSubsumer) := goodIn_app (goodIn_r _ [9, 10, 11, 5] rfl (by decide +kernel)) ggX0_lastToReduce_X0_firstSubsumer
theorem dX0_lastToReduce_0 : decode cX0_lastToReduce 0 = .ok (.aload_n 0, 1) := by decide +kernel
theorem dX0_lastToReduce_1 : decode cX0_lastToReduce 1 = .ok (.getfield 34, 3) := by decide +kernel
theorem dX0_lastToReduce_4 : decode cX0_lastToReduce 4 = .ok (.iconst 1, 1) := by decide +kernel
theorem dX0_lastToReduce_5 : decode cX0_lastToReduce 5 = .ok (.isub, 1) := by decide +kernel
theorem dX0_lastToReduce_6 : decode cX0_lastToReduce 6 = .ok (.istore_n 1, 1) := by decide +kernel
theorem dX0_lastToReduce_7 : decode cX0_lastToReduce 7 = .ok (.iload_n 1, 1) := by decide +kernel
theorem dX0_lastToReduce_8 : decode cX0_lastToReduce 8 = .ok (.ifCond .lt 28, 3) := by decide +kernel
theorem dX0_lastToReduce_11 : decode cX0_lastToReduce 11 = .ok (.aload_n 0, 1) := by decide +kernel
theorem dX0_lastToReduce_12 : decode cX0_lastToReduce 12 = .ok (.iload_n 1, 1) := by decide +kernel
theorem dX0_lastToReduce_13 : decode cX0_lastToReduce 13 = .ok (.invokevirtual 98, 3) := by decide +kernel
theorem dX0_lastToReduce_16 : decode cX0_lastToReduce 16 = .ok (.ifCond .ne 14, 3) := by decide +kernel
theorem dX0_lastToReduce_19 : decode cX0_lastToReduce 19 = .ok (.aload_n 0, 1) := by decide +kernel
theorem dX0_lastToReduce_20 : decode cX0_lastToReduce 20 = .ok (.iload_n 1, 1) := by decide +kernel
theorem dX0_lastToReduce_21 : decode cX0_lastToReduce 21 = .ok (.invokevirtual 84, 3) := by decide +kernel
theorem dX0_lastToReduce_24 : decode cX0_lastToReduce 24 = .ok (.iconst (-1), 1) := by decide +kernel
theorem dX0_lastToReduce_25 : decode cX0_lastToReduce 25 = .ok (.if_icmp .eq 5, 3) := by decide +kernel
theorem dX0_lastToReduce_28 : decode cX0_lastToReduce 28 = .ok (.iload_n 1, 1) := by decide +kernel
theorem dX0_lastToReduce_29 : decode cX0_lastToReduce 29 = .ok (.ireturn, 1) := by decide +kernel
theorem dX0_lastToReduce_30 : decode cX0_lastToReduce 30 = .ok (.iinc 1 (-1), 3) := by decide +kernel
theorem dX0_lastToReduce_33 : decode cX0_lastToReduce 33 = .ok (.goto (-26), 3) := by decide +kernel
theorem dX0_lastToReduce_36 : decode cX0_lastToReduce 36 = .ok (.iconst (-1), 1) := by decide +kernel
theorem dX0_lastToReduce_37 : decode cX0_lastToReduce 37 = .ok (.ireturn, 1) := by decide +kernel
set_option maxRecDepth 20000 in
theorem ggX0_removeSubsumed_X0_lastToReduce : GoodIn wsX0_removeSubsumed wsX0_lastToReduce := goodIn_r _ [5, 6, 7, 8, 9, 4, 10, 11, 12, 13, 14, 15, 16, 17, 18, 19, 20, 21, 22, 29, 30, 31, 32, 33, 34, 35, 36] rfl (by decide +kernel)
set_option maxRecDepth 20000 in
theorem gX0_removeSubsumed_X0_lastToReduce : GoodIn wsX0_removeSubsumed (wsV RX0 102 RX0 yX0_lastToReduce wsX0_lastToReduce) := goodIn_app (goodIn_r _ [1, 2, 3, 4] rfl (by decide +kernel)) ggX0_removeSubsumed_X0_lastToReduce
set_option maxRecDepth 20000 in
theorem ggX0_removeSubsumed_X0_remove : GoodIn wsX0_removeSubsumed wsX0_remove := goodIn_r _ [26, 6, 17, 18, 11, 12, 27, 28, 29, 30, 31, 32, 33, 34, 35, 36] rfl (by decide +kernel)
set_option maxRecDepth 20000 in
theorem gX0_removeSubsumed_X0_remove : GoodIn wsX0_removeSubsumed (wsV RX0 105 RX0 yX0_remove wsX0_remove) := goodIn_app (goodIn_r _ [23, 24, 25, 4] rfl (by decide +kernel)) ggX0_removeSubsumed_X0_remove
theorem dX0_removeSubsumed_0 : decode cX0_removeSubsumed 0 = .ok (.iconst 0, 1) := by decide +kernel
theorem dX0_removeSubsumed_1 : decode cX0_removeSubsumed 1 = .ok (.istore_n 1, 1) := by decide +kernel
theorem dX0_removeSubsumed_2 : decode cX0_removeSubsumed 2 = .ok (.aload_n 0, 1) := by decide +kernel
theorem dX0_removeSubsumed_3 : decode cX0_removeSubsumed 3 = .ok (.invokevirtual 102, 3) := by decide +kernel
theorem dX0_removeSubsumed_6 : decode cX0_removeSubsumed 6 = .ok (.istore_n 2, 1) := by decide +kernel
theorem dX0_removeSubsumed_7 : decode cX0_removeSubsumed 7 = .ok (.iload_n 2, 1) := by decide +kernel
theorem dX0_removeSubsumed_8 : decode cX0_removeSubsumed 8 = .ok (.iconst (-1), 1) := by decide +kernel
theorem dX0_removeSubsumed_9 : decode cX0_removeSubsumed 9 = .ok (.if_icmp .eq 25, 3) := by decide +kernel
theorem dX0_removeSubsumed_12 : decode cX0_removeSubsumed 12 = .ok (.iload_n 1, 1) := by decide +kernel
theorem dX0_removeSubsumed_13 : decode cX0_removeSubsumed 13 = .ok (.bipush 60, 2) := by decide +kernel
theorem dX0_removeSubsumed_15 : decode cX0_removeSubsumed 15 = .ok (.if_icmp .ge 19, 3) := by decide +kernel
theorem dX0_removeSubsumed_18 : decode cX0_removeSubsumed 18 = .ok (.aload_n 0, 1) := by decide +kernel
theorem dX0_removeSubsumed_19 : decode cX0_removeSubsumed 19 = .ok (.iload_n 2, 1) := by decide +kernel
theorem dX0_removeSubsumed_20 : decode cX0_removeSubsumed 20 = .ok (.invokevirtual 105, 3) := by decide +kernel
theorem dX0_removeSubsumed_23 : decode cX0_removeSubsumed 23 = .ok (.iinc 1 1, 3) := by decide +kernel
theorem dX0_removeSubsumed_26 : decode cX0_removeSubsumed 26 = .ok (.aload_n 0, 1) := by decide +kernel
theorem dX0_removeSubsumed_27 : decode cX0_removeSubsumed 27 = .ok (.invokevirtual 102, 3) := by decide +kernel
theorem dX0_removeSubsumed_30 : decode cX0_removeSubsumed 30 = .ok (.istore_n 2, 1) := by decide +kernel
theorem dX0_removeSubsumed_31 : decode cX0_removeSubsumed 31 = .ok (.goto (-24), 3) := by decide +kernel
theorem dX0_removeSubsumed_34 : decode cX0_removeSubsumed 34 = .ok (.iload_n 1, 1) := by decide +kernel
theorem dX0_removeSubsumed_35 : decode cX0_removeSubsumed 35 = .ok (.ireturn, 1) := by decide +kernel
theorem dX0_negate_0 : decode cX0_negate 0 = .ok (.iconst 1, 1) := by decide +kernel
theorem dX0_negate_1 : decode cX0_negate 1 = .ok (.iload_n 1, 1) := by decide +kernel
theorem dX0_negate_2 : decode cX0_negate 2 = .ok (.ishl, 1) := by decide +kernel
theorem dX0_negate_3 : decode cX0_negate 3 = .ok (.istore_n 2, 1) := by decide +kernel
theorem dX0_negate_4 : decode cX0_negate 4 = .ok (.iconst 0, 1) := by decide +kernel
theorem dX0_negate_5 : decode cX0_negate 5 = .ok (.istore_n 3, 1) := by decide +kernel
theorem dX0_negate_6 : decode cX0_negate 6 = .ok (.iload_n 3, 1) := by decide +kernel
theorem dX0_negate_7 : decode cX0_negate 7 = .ok (.aload_n 0, 1) := by decide +kernel
theorem dX0_negate_8 : decode cX0_negate 8 = .ok (.getfield 34, 3) := by decide +kernel
theorem dX0_negate_11 : decode cX0_negate 11 = .ok (.if_icmp .ge 86, 3) := by decide +kernel
theorem dX0_negate_14 : decode cX0_negate 14 = .ok (.aload_n 0, 1) := by decide +kernel
theorem dX0_negate_15 : decode cX0_negate 15 = .ok (.getfield 9, 3) := by decide +kernel
theorem dX0_negate_18 : decode cX0_negate 18 = .ok (.iload_n 3, 1) := by decide +kernel
theorem dX0_negate_19 : decode cX0_negate 19 = .ok (.iaload, 1) := by decide +kernel
theorem dX0_negate_20 : decode cX0_negate 20 = .ok (.aload_n 0, 1) := by decide +kernel
theorem dX0_negate_21 : decode cX0_negate 21 = .ok (.getfield 15, 3) := by decide +kernel
theorem dX0_negate_24 : decode cX0_negate 24 = .ok (.iload_n 3, 1) := by decide +kernel
theorem dX0_negate_25 : decode cX0_negate 25 = .ok (.iaload, 1) := by decide +kernel
theorem dX0_negate_26 : decode cX0_negate 26 = .ok (.ixor, 1) := by decide +kernel
theorem dX0_negate_27 : decode cX0_negate 27 = .ok (.iload_n 2, 1) := by decide +kernel
theorem dX0_negate_28 : decode cX0_negate 28 = .ok (.iand, 1) := by decide +kernel
theorem dX0_negate_29 : decode cX0_negate 29 = .ok (.istore 4, 2) := by decide +kernel
theorem dX0_negate_31 : decode cX0_negate 31 = .ok (.aload_n 0, 1) := by decide +kernel
theorem dX0_negate_32 : decode cX0_negate 32 = .ok (.getfield 9, 3) := by decide +kernel
theorem dX0_negate_35 : decode cX0_negate 35 = .ok (.iload_n 3, 1) := by decide +kernel
theorem dX0_negate_36 : decode cX0_negate 36 = .ok (.dup2, 1) := by decide +kernel
theorem dX0_negate_37 : decode cX0_negate 37 = .ok (.iaload, 1) := by decide +kernel
theorem dX0_negate_38 : decode cX0_negate 38 = .ok (.iload 4, 2) := by decide +kernel
theorem dX0_negate_40 : decode cX0_negate 40 = .ok (.ixor, 1) := by decide +kernel
theorem dX0_negate_41 : decode cX0_negate 41 = .ok (.iastore, 1) := by decide +kernel
theorem dX0_negate_42 : decode cX0_negate 42 = .ok (.aload_n 0, 1) := by decide +kernel
theorem dX0_negate_43 : decode cX0_negate 43 = .ok (.getfield 15, 3) := by decide +kernel
theorem dX0_negate_46 : decode cX0_negate 46 = .ok (.iload_n 3, 1) := by decide +kernel
theorem dX0_negate_47 : decode cX0_negate 47 = .ok (.dup2, 1) := by decide +kernel
theorem dX0_negate_48 : decode cX0_negate 48 = .ok (.iaload, 1) := by decide +kernel
theorem dX0_negate_49 : decode cX0_negate 49 = .ok (.iload 4, 2) := by decide +kernel
theorem dX0_negate_51 : decode cX0_negate 51 = .ok (.ixor, 1) := by decide +kernel
theorem dX0_negate_52 : decode cX0_negate 52 = .ok (.iastore, 1) := by decide +kernel
theorem dX0_negate_53 : decode cX0_negate 53 = .ok (.aload_n 0, 1) := by decide +kernel
theorem dX0_negate_54 : decode cX0_negate 54 = .ok (.getfield 24, 3) := by decide +kernel
theorem dX0_negate_57 : decode cX0_negate 57 = .ok (.iload_n 3, 1) := by decide +kernel
theorem dX0_negate_58 : decode cX0_negate 58 = .ok (.iaload, 1) := by decide +kernel
theorem dX0_negate_59 : decode cX0_negate 59 = .ok (.iload_n 1, 1) := by decide +kernel
theorem dX0_negate_60 : decode cX0_negate 60 = .ok (.if_icmp .ne 31, 3) := by decide +kernel
theorem dX0_negate_63 : decode cX0_negate 63 = .ok (.aload_n 0, 1) := by decide +kernel
theorem dX0_negate_64 : decode cX0_negate 64 = .ok (.getfield 18, 3) := by decide +kernel
theorem dX0_negate_67 : decode cX0_negate 67 = .ok (.iload_n 3, 1) := by decide +kernel
theorem dX0_negate_68 : decode cX0_negate 68 = .ok (.iaload, 1) := by decide +kernel
theorem dX0_negate_69 : decode cX0_negate 69 = .ok (.istore 5, 2) := by decide +kernel
theorem dX0_negate_71 : decode cX0_negate 71 = .ok (.aload_n 0, 1) := by decide +kernel
theorem dX0_negate_72 : decode cX0_negate 72 = .ok (.getfield 18, 3) := by decide +kernel
theorem dX0_negate_75 : decode cX0_negate 75 = .ok (.iload_n 3, 1) := by decide +kernel
theorem dX0_negate_76 : decode cX0_negate 76 = .ok (.aload_n 0, 1) := by decide +kernel
theorem dX0_negate_77 : decode cX0_negate 77 = .ok (.getfield 21, 3) := by decide +kernel
theorem dX0_negate_80 : decode cX0_negate 80 = .ok (.iload_n 3, 1) := by decide +kernel
theorem dX0_negate_81 : decode cX0_negate 81 = .ok (.iaload, 1) := by decide +kernel
theorem dX0_negate_82 : decode cX0_negate 82 = .ok (.iastore, 1) := by decide +kernel
theorem dX0_negate_83 : decode cX0_negate 83 = .ok (.aload_n 0, 1) := by decide +kernel
theorem dX0_negate_84 : decode cX0_negate 84 = .ok (.getfield 21, 3) := by decide +kernel
theorem dX0_negate_87 : decode cX0_negate 87 = .ok (.iload_n 3, 1) := by decide +kernel
theorem dX0_negate_88 : decode cX0_negate 88 = .ok (.iload 5, 2) := by decide +kernel
theorem dX0_negate_90 : decode cX0_negate 90 = .ok (.iastore, 1) := by decide +kernel
theorem dX0_negate_91 : decode cX0_negate 91 = .ok (.iinc 3 1, 3) := by decide +kernel
theorem dX0_negate_94 : decode cX0_negate 94 = .ok (.goto (-88), 3) := by decide +kernel
theorem dX0_negate_97 : decode cX0_negate 97 = .ok (.return_, 1) := by decide +kernel
set_option maxRecDepth 20000 in
theorem ggX1_init_X0_init : GoodIn wsX1_init wsX0_init := goodIn_r _ [11, 12, 2, 3, 13, 14, 15, 16, 17, 18, 19, 20, 21, 25, 26, 27, 28, 29, 30, 31, 32] rfl (by decide +kernel)
set_option maxRecDepth 20000 in
theorem gX1_init_X0_init_n24 : GoodIn wsX1_init (wsX0_init) := ggX1_init_X0_init
theorem dX1_init_0 : decode cX1_init 0 = .ok (.aload_n 0, 1) := by decide +kernel
theorem dX1_init_1 : decode cX1_init 1 = .ok (.invokespecial 3, 3) := by decide +kernel
theorem dX1_init_4 : decode cX1_init 4 = .ok (.aload_n 0, 1) := by decide +kernel
theorem dX1_init_5 : decode cX1_init 5 = .ok (.bipush 8, 2) := by decide +kernel
theorem dX1_init_7 : decode cX1_init 7 = .ok (.anewarray 9, 3) := by decide +kernel
theorem dX1_init_10 : decode cX1_init 10 = .ok (.putfield 11, 3) := by decide +kernel
theorem dX1_init_13 : decode cX1_init 13 = .ok (.aload_n 0, 1) := by decide +kernel
theorem dX1_init_14 : decode cX1_init 14 = .ok (.iconst 0, 1) := by decide +kernel
theorem dX1_init_15 : decode cX1_init 15 = .ok (.putfield 17, 3) := by decide +kernel
theorem dX1_init_18 : decode cX1_init 18 = .ok (.aload_n 0, 1) := by decide +kernel
theorem dX1_init_19 : decode cX1_init 19 = .ok (.iconst 0, 1) := by decide +kernel
theorem dX1_init_20 : decode cX1_init 20 = .ok (.putfield 21, 3) := by decide +kernel
theorem dX1_init_23 : decode cX1_init 23 = .ok (.iconst 0, 1) := by decide +kernel
theorem dX1_init_24 : decode cX1_init 24 = .ok (.istore_n 1, 1) := by decide +kernel
theorem dX1_init_25 : decode cX1_init 25 = .ok (.iload_n 1, 1) := by decide +kernel
theorem dX1_init_26 : decode cX1_init 26 = .ok (.bipush 8, 2) := by decide +kernel
theorem dX1_init_28 : decode cX1_init 28 = .ok (.if_icmp .ge 22, 3) := by decide +kernel
theorem dX1_init_31 : decode cX1_init 31 = .ok (.aload_n 0, 1) := by decide +kernel
theorem dX1_init_32 : decode cX1_init 32 = .ok (.getfield 11, 3) := by decide +kernel
theorem dX1_init_35 : decode cX1_init 35 = .ok (.iload_n 1, 1) := by decide +kernel
theorem dX1_init_36 : decode cX1_init 36 = .ok (.new 9, 3) := by decide +kernel
theorem dX1_init_39 : decode cX1_init 39 = .ok (.dup, 1) := by decide +kernel
theorem dX1_init_40 : decode cX1_init 40 = .ok (.invokespecial 24, 3) := by decide +kernel
theorem dX1_init_43 : decode cX1_init 43 = .ok (.aastore, 1) := by decide +kernel
theorem dX1_init_44 : decode cX1_init 44 = .ok (.iinc 1 1, 3) := by decide +kernel
theorem dX1_init_47 : decode cX1_init 47 = .ok (.goto (-22), 3) := by decide +kernel
theorem dX1_init_50 : decode cX1_init 50 = .ok (.return_, 1) := by decide +kernel
theorem dX1_clear_0 : decode cX1_clear 0 = .ok (.aload_n 0, 1) := by decide +kernel
theorem dX1_clear_1 : decode cX1_clear 1 = .ok (.iconst 0, 1) := by decide +kernel
theorem dX1_clear_2 : decode cX1_clear 2 = .ok (.putfield 21, 3) := by decide +kernel
theorem dX1_clear_5 : decode cX1_clear 5 = .ok (.return_, 1) := by decide +kernel
set_option maxRecDepth 20000 in
theorem ggX1_push_X0_copyFrom : GoodIn wsX1_push wsX0_copyFrom := goodIn_r _ [12, 13, 14, 15, 16, 17, 18, 19, 20, 21, 22, 23, 24, 28, 29, 30, 31, 32, 33, 34, 35] rfl (by decide +kernel)
set_option maxRecDepth 20000 in
theorem gX1_push_X0_copyFrom : GoodIn wsX1_push (wsV RX1 25 RX0 yX0_copyFrom wsX0_copyFrom) := goodIn_app (goodIn_r _ [8, 9, 10, 11] rfl (by decide +kernel)) ggX1_push_X0_copyFrom
theorem dX1_push_0 : decode cX1_push 0 = .ok (.aload_n 0, 1) := by decide +kernel
theorem dX1_push_1 : decode cX1_push 1 = .ok (.getfield 11, 3) := by decide +kernel
theorem dX1_push_4 : decode cX1_push 4 = .ok (.aload_n 0, 1) := by decide +kernel
theorem dX1_push_5 : decode cX1_push 5 = .ok (.getfield 17, 3) := by decide +kernel
theorem dX1_push_8 : decode cX1_push 8 = .ok (.aaload, 1) := by decide +kernel
theorem dX1_push_9 : decode cX1_push 9 = .ok (.aload_n 1, 1) := by decide +kernel
theorem dX1_push_10 : decode cX1_push 10 = .ok (.invokevirtual 25, 3) := by decide +kernel
theorem dX1_push_13 : decode cX1_push 13 = .ok (.aload_n 0, 1) := by decide +kernel
theorem dX1_push_14 : decode cX1_push 14 = .ok (.aload_n 0, 1) := by decide +kernel
theorem dX1_push_15 : decode cX1_push 15 = .ok (.getfield 17, 3) := by decide +kernel
theorem dX1_push_18 : decode cX1_push 18 = .ok (.bipush 7, 2) := by decide +kernel
theorem dX1_push_20 : decode cX1_push 20 = .ok (.if_icmp .ne 7, 3) := by decide +kernel
theorem dX1_push_23 : decode cX1_push 23 = .ok (.iconst 0, 1) := by decide +kernel
theorem dX1_push_24 : decode cX1_push 24 = .ok (.goto 9, 3) := by decide +kernel
theorem dX1_push_27 : decode cX1_push 27 = .ok (.aload_n 0, 1) := by decide +kernel
theorem dX1_push_28 : decode cX1_push 28 = .ok (.getfield 17, 3) := by decide +kernel
theorem dX1_push_31 : decode cX1_push 31 = .ok (.iconst 1, 1) := by decide +kernel
theorem dX1_push_32 : decode cX1_push 32 = .ok (.iadd, 1) := by decide +kernel
theorem dX1_push_33 : decode cX1_push 33 = .ok (.putfield 17, 3) := by decide +kernel
theorem dX1_push_36 : decode cX1_push 36 = .ok (.aload_n 0, 1) := by decide +kernel
theorem dX1_push_37 : decode cX1_push 37 = .ok (.aload_n 0, 1) := by decide +kernel
theorem dX1_push_38 : decode cX1_push 38 = .ok (.getfield 21, 3) := by decide +kernel
theorem dX1_push_41 : decode cX1_push 41 = .ok (.iconst 1, 1) := by decide +kernel
theorem dX1_push_42 : decode cX1_push 42 = .ok (.iadd, 1) := by decide +kernel
theorem dX1_push_43 : decode cX1_push 43 = .ok (.bipush 8, 2) := by decide +kernel
theorem dX1_push_45 : decode cX1_push 45 = .ok (.invokestatic 29, 3) := by decide +kernel
theorem dX1_push_48 : decode cX1_push 48 = .ok (.putfield 21, 3) := by decide +kernel
theorem dX1_push_51 : decode cX1_push 51 = .ok (.return_, 1) := by decide +kernel
set_option maxRecDepth 20000 in
theorem ggX1_pop_X0_copyFrom : GoodIn wsX1_pop wsX0_copyFrom := goodIn_r _ [8, 9, 10, 11, 12, 13, 14, 15, 16, 17, 18, 19, 20, 24, 25, 26, 27, 28, 29, 30, 31] rfl (by decide +kernel)
set_option maxRecDepth 20000 in
theorem gX1_pop_X0_copyFrom : GoodIn wsX1_pop (wsV RX1 25 RX0 yX0_copyFrom wsX0_copyFrom) := goodIn_app (goodIn_r _ [4, 5, 6, 7] rfl (by decide +kernel)) ggX1_pop_X0_copyFrom
theorem dX1_pop_0 : decode cX1_pop 0 = .ok (.aload_n 0, 1) := by decide +kernel
theorem dX1_pop_1 : decode cX1_pop 1 = .ok (.aload_n 0, 1) := by decide +kernel
theorem dX1_pop_2 : decode cX1_pop 2 = .ok (.getfield 17, 3) := by decide +kernel
theorem dX1_pop_5 : decode cX1_pop 5 = .ok (.ifCond .ne 8, 3) := by decide +kernel
theorem dX1_pop_8 : decode cX1_pop 8 = .ok (.bipush 7, 2) := by decide +kernel
theorem dX1_pop_10 : decode cX1_pop 10 = .ok (.goto 9, 3) := by decide +kernel
theorem dX1_pop_13 : decode cX1_pop 13 = .ok (.aload_n 0, 1) := by decide +kernel
theorem dX1_pop_14 : decode cX1_pop 14 = .ok (.getfield 17, 3) := by decide +kernel
theorem dX1_pop_17 : decode cX1_pop 17 = .ok (.iconst 1, 1) := by decide +kernel
theorem dX1_pop_18 : decode cX1_pop 18 = .ok (.isub, 1) := by decide +kernel
theorem dX1_pop_19 : decode cX1_pop 19 = .ok (.putfield 17, 3) := by decide +kernel
theorem dX1_pop_22 : decode cX1_pop 22 = .ok (.aload_n 0, 1) := by decide +kernel
theorem dX1_pop_23 : decode cX1_pop 23 = .ok (.dup, 1) := by decide +kernel
theorem dX1_pop_24 : decode cX1_pop 24 = .ok (.getfield 21, 3) := by decide +kernel
theorem dX1_pop_27 : decode cX1_pop 27 = .ok (.iconst 1, 1) := by decide +kernel
theorem dX1_pop_28 : decode cX1_pop 28 = .ok (.isub, 1) := by decide +kernel
theorem dX1_pop_29 : decode cX1_pop 29 = .ok (.putfield 21, 3) := by decide +kernel
theorem dX1_pop_32 : decode cX1_pop 32 = .ok (.aload_n 1, 1) := by decide +kernel
theorem dX1_pop_33 : decode cX1_pop 33 = .ok (.aload_n 0, 1) := by decide +kernel
theorem dX1_pop_34 : decode cX1_pop 34 = .ok (.getfield 11, 3) := by decide +kernel
theorem dX1_pop_37 : decode cX1_pop 37 = .ok (.aload_n 0, 1) := by decide +kernel
theorem dX1_pop_38 : decode cX1_pop 38 = .ok (.getfield 17, 3) := by decide +kernel
theorem dX1_pop_41 : decode cX1_pop 41 = .ok (.aaload, 1) := by decide +kernel
theorem dX1_pop_42 : decode cX1_pop 42 = .ok (.invokevirtual 25, 3) := by decide +kernel
theorem dX1_pop_45 : decode cX1_pop 45 = .ok (.return_, 1) := by decide +kernel
set_option maxRecDepth 20000 in
theorem ggX2_areTrue_X0_isTrueUnder : GoodIn wsX2_areTrue wsX0_isTrueUnder := goodIn_r _ [6, 7, 8, 9, 10, 11, 12, 13, 14, 15, 16] rfl (by decide +kernel)
set_option maxRecDepth 20000 in
theorem gX2_areTrue_X0_isTrueUnder : GoodIn wsX2_areTrue (wsV RX2 15 RX0 yX0_isTrueUnder wsX0_isTrueUnder) := goodIn_app (goodIn_r _ [2, 3, 4, 5] rfl (by decide +kernel)) ggX2_areTrue_X0_isTrueUnder
theorem dX2_areTrue_0 : decode cX2_areTrue 0 = .ok (.iconst 0, 1) := by decide +kernel
theorem dX2_areTrue_1 : decode cX2_areTrue 1 = .ok (.istore_n 3, 1) := by decide +kernel
theorem dX2_areTrue_2 : decode cX2_areTrue 2 = .ok (.iload_n 3, 1) := by decide +kernel
theorem dX2_areTrue_3 : decode cX2_areTrue 3 = .ok (.aload_n 0, 1) := by decide +kernel
theorem dX2_areTrue_4 : decode cX2_areTrue 4 = .ok (.getfield 9, 3) := by decide +kernel
theorem dX2_areTrue_7 : decode cX2_areTrue 7 = .ok (.if_icmp .ge 25, 3) := by decide +kernel
theorem dX2_areTrue_10 : decode cX2_areTrue 10 = .ok (.iload_n 3, 1) := by decide +kernel
theorem dX2_areTrue_11 : decode cX2_areTrue 11 = .ok (.iload_n 2, 1) := by decide +kernel
theorem dX2_areTrue_12 : decode cX2_areTrue 12 = .ok (.if_icmp .eq 14, 3) := by decide +kernel
theorem dX2_areTrue_15 : decode cX2_areTrue 15 = .ok (.aload_n 0, 1) := by decide +kernel
theorem dX2_areTrue_16 : decode cX2_areTrue 16 = .ok (.iload_n 3, 1) := by decide +kernel
theorem dX2_areTrue_17 : decode cX2_areTrue 17 = .ok (.iload_n 1, 1) := by decide +kernel
theorem dX2_areTrue_18 : decode cX2_areTrue 18 = .ok (.invokevirtual 15, 3) := by decide +kernel
theorem dX2_areTrue_21 : decode cX2_areTrue 21 = .ok (.ifCond .ne 5, 3) := by decide +kernel
theorem dX2_areTrue_24 : decode cX2_areTrue 24 = .ok (.iconst 0, 1) := by decide +kernel
theorem dX2_areTrue_25 : decode cX2_areTrue 25 = .ok (.ireturn, 1) := by decide +kernel
theorem dX2_areTrue_26 : decode cX2_areTrue 26 = .ok (.iinc 3 1, 3) := by decide +kernel
theorem dX2_areTrue_29 : decode cX2_areTrue 29 = .ok (.goto (-27), 3) := by decide +kernel
theorem dX2_areTrue_32 : decode cX2_areTrue 32 = .ok (.iconst 1, 1) := by decide +kernel
theorem dX2_areTrue_33 : decode cX2_areTrue 33 = .ok (.ireturn, 1) := by decide +kernel
set_option maxRecDepth 20000 in
theorem ggX2_count_X0_allVariables : GoodIn wsX2_count wsX0_allVariables := goodIn_r _ [5, 6, 18, 19, 20, 21, 22, 23, 24, 25] rfl (by decide +kernel)
set_option maxRecDepth 20000 in
theorem gX2_count_X0_allVariables : GoodIn wsX2_count (wsV RX2 19 RX0 yX0_allVariables wsX0_allVariables) := goodIn_app (goodIn_r _ [1, 2, 3, 4] rfl (by decide +kernel)) ggX2_count_X0_allVariables
set_option maxRecDepth 20000 in
theorem ggX2_count_X2_areTrue : GoodIn wsX2_count wsX2_areTrue := goodIn_r _ [10, 11, 12, 13, 14, 4, 15, 16, 17, 18, 19, 20, 21, 22, 23, 24, 25] rfl (by decide +kernel)
set_option maxRecDepth 20000 in
theorem gX2_count_X2_areTrue : GoodIn wsX2_count (va_wsS RX2 23 yX2_areTrue wsX2_areTrue) := goodIn_app (goodIn_r _ [7, 8, 9] rfl (by decide +kernel)) ggX2_count_X2_areTrue
theorem dX2_count_0 : decode cX2_count 0 = .ok (.iconst 0, 1) := by decide +kernel
theorem dX2_count_1 : decode cX2_count 1 = .ok (.istore_n 1, 1) := by decide +kernel
theorem dX2_count_2 : decode cX2_count 2 = .ok (.iconst 0, 1) := by decide +kernel
theorem dX2_count_3 : decode cX2_count 3 = .ok (.istore_n 2, 1) := by decide +kernel
theorem dX2_count_4 : decode cX2_count 4 = .ok (.iload_n 2, 1) := by decide +kernel
theorem dX2_count_5 : decode cX2_count 5 = .ok (.aload_n 0, 1) := by decide +kernel
theorem dX2_count_6 : decode cX2_count 6 = .ok (.invokevirtual 19, 3) := by decide +kernel
theorem dX2_count_9 : decode cX2_count 9 = .ok (.if_icmp .gt 21, 3) := by decide +kernel
theorem dX2_count_12 : decode cX2_count 12 = .ok (.aload_n 0, 1) := by decide +kernel
theorem dX2_count_13 : decode cX2_count 13 = .ok (.iload_n 2, 1) := by decide +kernel
theorem dX2_count_14 : decode cX2_count 14 = .ok (.iconst (-1), 1) := by decide +kernel
theorem dX2_count_15 : decode cX2_count 15 = .ok (.invokestatic 23, 3) := by decide +kernel
theorem dX2_count_18 : decode cX2_count 18 = .ok (.ifCond .eq 6, 3) := by decide +kernel
theorem dX2_count_21 : decode cX2_count 21 = .ok (.iinc 1 1, 3) := by decide +kernel
theorem dX2_count_24 : decode cX2_count 24 = .ok (.iinc 2 1, 3) := by decide +kernel
theorem dX2_count_27 : decode cX2_count 27 = .ok (.goto (-23), 3) := by decide +kernel
theorem dX2_count_30 : decode cX2_count 30 = .ok (.iload_n 1, 1) := by decide +kernel
theorem dX2_count_31 : decode cX2_count 31 = .ok (.ireturn, 1) := by decide +kernel
set_option maxRecDepth 20000 in
theorem ggX2_at_X0_allVariables : GoodIn wsX2_at wsX0_allVariables := goodIn_r _ [5, 6, 18, 19, 20, 21, 22, 23, 24, 25] rfl (by decide +kernel)
set_option maxRecDepth 20000 in
theorem gX2_at_X0_allVariables : GoodIn wsX2_at (wsV RX2 19 RX0 yX0_allVariables wsX0_allVariables) := goodIn_app (goodIn_r _ [1, 2, 3, 4] rfl (by decide +kernel)) ggX2_at_X0_allVariables
set_option maxRecDepth 20000 in
theorem ggX2_at_X2_areTrue : GoodIn wsX2_at wsX2_areTrue := goodIn_r _ [10, 11, 12, 13, 14, 4, 15, 16, 17, 18, 19, 20, 21, 22, 23, 24, 25] rfl (by decide +kernel)
set_option maxRecDepth 20000 in
theorem gX2_at_X2_areTrue : GoodIn wsX2_at (va_wsS RX2 23 yX2_areTrue wsX2_areTrue) := goodIn_app (goodIn_r _ [7, 8, 9] rfl (by decide +kernel)) ggX2_at_X2_areTrue
theorem dX2_at_0 : decode cX2_at 0 = .ok (.iconst 0, 1) := by decide +kernel
theorem dX2_at_1 : decode cX2_at 1 = .ok (.istore_n 2, 1) := by decide +kernel
theorem dX2_at_2 : decode cX2_at 2 = .ok (.iconst 0, 1) := by decide +kernel
theorem dX2_at_3 : decode cX2_at 3 = .ok (.istore_n 3, 1) := by decide +kernel
theorem dX2_at_4 : decode cX2_at 4 = .ok (.iload_n 3, 1) := by decide +kernel
theorem dX2_at_5 : decode cX2_at 5 = .ok (.aload_n 0, 1) := by decide +kernel
theorem dX2_at_6 : decode cX2_at 6 = .ok (.invokevirtual 19, 3) := by decide +kernel
theorem dX2_at_9 : decode cX2_at 9 = .ok (.if_icmp .gt 28, 3) := by decide +kernel
theorem dX2_at_12 : decode cX2_at 12 = .ok (.aload_n 0, 1) := by decide +kernel
theorem dX2_at_13 : decode cX2_at 13 = .ok (.iload_n 3, 1) := by decide +kernel
theorem dX2_at_14 : decode cX2_at 14 = .ok (.iconst (-1), 1) := by decide +kernel
theorem dX2_at_15 : decode cX2_at 15 = .ok (.invokestatic 23, 3) := by decide +kernel
theorem dX2_at_18 : decode cX2_at 18 = .ok (.ifCond .eq 13, 3) := by decide +kernel
theorem dX2_at_21 : decode cX2_at 21 = .ok (.iload_n 2, 1) := by decide +kernel
theorem dX2_at_22 : decode cX2_at 22 = .ok (.iload_n 1, 1) := by decide +kernel
theorem dX2_at_23 : decode cX2_at 23 = .ok (.if_icmp .ne 5, 3) := by decide +kernel
theorem dX2_at_26 : decode cX2_at 26 = .ok (.iload_n 3, 1) := by decide +kernel
theorem dX2_at_27 : decode cX2_at 27 = .ok (.ireturn, 1) := by decide +kernel
theorem dX2_at_28 : decode cX2_at 28 = .ok (.iinc 2 1, 3) := by decide +kernel
theorem dX2_at_31 : decode cX2_at 31 = .ok (.iinc 3 1, 3) := by decide +kernel
theorem dX2_at_34 : decode cX2_at 34 = .ok (.goto (-30), 3) := by decide +kernel
theorem dX2_at_37 : decode cX2_at 37 = .ok (.iconst (-1), 1) := by decide +kernel
theorem dX2_at_38 : decode cX2_at 38 = .ok (.ireturn, 1) := by decide +kernel
set_option maxRecDepth 20000 in
theorem ggX2_countFalse_X0_isTrueUnder : GoodIn wsX2_countFalse wsX0_isTrueUnder := goodIn_r _ [6, 7, 8, 9, 10, 11, 12, 13, 14, 15, 16] rfl (by decide +kernel)
set_option maxRecDepth 20000 in
theorem gX2_countFalse_X0_isTrueUnder : GoodIn wsX2_countFalse (wsV RX2 15 RX0 yX0_isTrueUnder wsX0_isTrueUnder) := goodIn_app (goodIn_r _ [2, 3, 4, 5] rfl (by decide +kernel)) ggX2_countFalse_X0_isTrueUnder
theorem dX2_countFalse_0 : decode cX2_countFalse 0 = .ok (.iconst 0, 1) := by decide +kernel
theorem dX2_countFalse_1 : decode cX2_countFalse 1 = .ok (.istore_n 2, 1) := by decide +kernel
theorem dX2_countFalse_2 : decode cX2_countFalse 2 = .ok (.iconst 0, 1) := by decide +kernel
theorem dX2_countFalse_3 : decode cX2_countFalse 3 = .ok (.istore_n 3, 1) := by decide +kernel
theorem dX2_countFalse_4 : decode cX2_countFalse 4 = .ok (.iload_n 3, 1) := by decide +kernel
theorem dX2_countFalse_5 : decode cX2_countFalse 5 = .ok (.aload_n 0, 1) := by decide +kernel
theorem dX2_countFalse_6 : decode cX2_countFalse 6 = .ok (.getfield 9, 3) := by decide +kernel
theorem dX2_countFalse_9 : decode cX2_countFalse 9 = .ok (.if_icmp .ge 21, 3) := by decide +kernel
theorem dX2_countFalse_12 : decode cX2_countFalse 12 = .ok (.aload_n 0, 1) := by decide +kernel
theorem dX2_countFalse_13 : decode cX2_countFalse 13 = .ok (.iload_n 3, 1) := by decide +kernel
theorem dX2_countFalse_14 : decode cX2_countFalse 14 = .ok (.iload_n 1, 1) := by decide +kernel
theorem dX2_countFalse_15 : decode cX2_countFalse 15 = .ok (.invokevirtual 15, 3) := by decide +kernel
theorem dX2_countFalse_18 : decode cX2_countFalse 18 = .ok (.ifCond .ne 6, 3) := by decide +kernel
theorem dX2_countFalse_21 : decode cX2_countFalse 21 = .ok (.iinc 2 1, 3) := by decide +kernel
theorem dX2_countFalse_24 : decode cX2_countFalse 24 = .ok (.iinc 3 1, 3) := by decide +kernel
theorem dX2_countFalse_27 : decode cX2_countFalse 27 = .ok (.goto (-23), 3) := by decide +kernel
theorem dX2_countFalse_30 : decode cX2_countFalse 30 = .ok (.iload_n 2, 1) := by decide +kernel
theorem dX2_countFalse_31 : decode cX2_countFalse 31 = .ok (.ireturn, 1) := by decide +kernel
set_option maxRecDepth 20000 in
theorem ggX2_firstBestFlip_X2_countFalse : GoodIn wsX2_firstBestFlip wsX2_countFalse := goodIn_r _ [5, 6, 7, 8, 9, 10, 11, 12, 13, 14, 15, 16, 17, 18, 19, 20, 21] rfl (by decide +kernel)
set_option maxRecDepth 20000 in
theorem gX2_firstBestFlip_X2_countFalse : GoodIn wsX2_firstBestFlip (va_wsS RX2 32 yX2_countFalse wsX2_countFalse) := goodIn_app (goodIn_r _ [2, 3, 4] rfl (by decide +kernel)) ggX2_firstBestFlip_X2_countFalse
theorem dX2_firstBestFlip_0 : decode cX2_firstBestFlip 0 = .ok (.iconst 0, 1) := by decide +kernel
theorem dX2_firstBestFlip_1 : decode cX2_firstBestFlip 1 = .ok (.istore_n 2, 1) := by decide +kernel
theorem dX2_firstBestFlip_2 : decode cX2_firstBestFlip 2 = .ok (.bipush 61, 2) := by decide +kernel
theorem dX2_firstBestFlip_4 : decode cX2_firstBestFlip 4 = .ok (.istore_n 3, 1) := by decide +kernel
theorem dX2_firstBestFlip_5 : decode cX2_firstBestFlip 5 = .ok (.iconst 0, 1) := by decide +kernel
theorem dX2_firstBestFlip_6 : decode cX2_firstBestFlip 6 = .ok (.istore 4, 2) := by decide +kernel
theorem dX2_firstBestFlip_8 : decode cX2_firstBestFlip 8 = .ok (.iload 4, 2) := by decide +kernel
theorem dX2_firstBestFlip_10 : decode cX2_firstBestFlip 10 = .ok (.aload_n 0, 1) := by decide +kernel
theorem dX2_firstBestFlip_11 : decode cX2_firstBestFlip 11 = .ok (.getfield 29, 3) := by decide +kernel
theorem dX2_firstBestFlip_14 : decode cX2_firstBestFlip 14 = .ok (.if_icmp .ge 33, 3) := by decide +kernel
theorem dX2_firstBestFlip_17 : decode cX2_firstBestFlip 17 = .ok (.aload_n 0, 1) := by decide +kernel
theorem dX2_firstBestFlip_18 : decode cX2_firstBestFlip 18 = .ok (.iload_n 1, 1) := by decide +kernel
theorem dX2_firstBestFlip_19 : decode cX2_firstBestFlip 19 = .ok (.iconst 1, 1) := by decide +kernel
theorem dX2_firstBestFlip_20 : decode cX2_firstBestFlip 20 = .ok (.iload 4, 2) := by decide +kernel
theorem dX2_firstBestFlip_22 : decode cX2_firstBestFlip 22 = .ok (.ishl, 1) := by decide +kernel
theorem dX2_firstBestFlip_23 : decode cX2_firstBestFlip 23 = .ok (.ixor, 1) := by decide +kernel
theorem dX2_firstBestFlip_24 : decode cX2_firstBestFlip 24 = .ok (.invokestatic 32, 3) := by decide +kernel
theorem dX2_firstBestFlip_27 : decode cX2_firstBestFlip 27 = .ok (.istore 5, 2) := by decide +kernel
theorem dX2_firstBestFlip_29 : decode cX2_firstBestFlip 29 = .ok (.iload 5, 2) := by decide +kernel
theorem dX2_firstBestFlip_31 : decode cX2_firstBestFlip 31 = .ok (.iload_n 3, 1) := by decide +kernel
theorem dX2_firstBestFlip_32 : decode cX2_firstBestFlip 32 = .ok (.if_icmp .ge 9, 3) := by decide +kernel
theorem dX2_firstBestFlip_35 : decode cX2_firstBestFlip 35 = .ok (.iload 4, 2) := by decide +kernel
theorem dX2_firstBestFlip_37 : decode cX2_firstBestFlip 37 = .ok (.istore_n 2, 1) := by decide +kernel
theorem dX2_firstBestFlip_38 : decode cX2_firstBestFlip 38 = .ok (.iload 5, 2) := by decide +kernel
theorem dX2_firstBestFlip_40 : decode cX2_firstBestFlip 40 = .ok (.istore_n 3, 1) := by decide +kernel
theorem dX2_firstBestFlip_41 : decode cX2_firstBestFlip 41 = .ok (.iinc 4 1, 3) := by decide +kernel
theorem dX2_firstBestFlip_44 : decode cX2_firstBestFlip 44 = .ok (.goto (-36), 3) := by decide +kernel
theorem dX2_firstBestFlip_47 : decode cX2_firstBestFlip 47 = .ok (.iload_n 2, 1) := by decide +kernel
theorem dX2_firstBestFlip_48 : decode cX2_firstBestFlip 48 = .ok (.ireturn, 1) := by decide +kernel
set_option maxRecDepth 20000 in
theorem ggX2_trueInAll_X0_allVariables : GoodIn wsX2_trueInAll wsX0_allVariables := goodIn_r _ [5, 6, 18, 19, 20, 21, 22, 23, 24, 25] rfl (by decide +kernel)
set_option maxRecDepth 20000 in
theorem gX2_trueInAll_X0_allVariables : GoodIn wsX2_trueInAll (wsV RX2 19 RX0 yX0_allVariables wsX0_allVariables) := goodIn_app (goodIn_r _ [1, 2, 3, 4] rfl (by decide +kernel)) ggX2_trueInAll_X0_allVariables
set_option maxRecDepth 20000 in
theorem ggX2_trueInAll_X2_areTrue : GoodIn wsX2_trueInAll wsX2_areTrue := goodIn_r _ [10, 11, 12, 13, 14, 4, 15, 16, 17, 18, 19, 20, 21, 22, 23, 24, 25] rfl (by decide +kernel)
set_option maxRecDepth 20000 in
theorem gX2_trueInAll_X2_areTrue : GoodIn wsX2_trueInAll (va_wsS RX2 23 yX2_areTrue wsX2_areTrue) := goodIn_app (goodIn_r _ [7, 8, 9] rfl (by decide +kernel)) ggX2_trueInAll_X2_areTrue
theorem dX2_trueInAll_0 : decode cX2_trueInAll 0 = .ok (.aload_n 0, 1) := by decide +kernel
theorem dX2_trueInAll_1 : decode cX2_trueInAll 1 = .ok (.invokevirtual 19, 3) := by decide +kernel
theorem dX2_trueInAll_4 : decode cX2_trueInAll 4 = .ok (.istore_n 1, 1) := by decide +kernel
theorem dX2_trueInAll_5 : decode cX2_trueInAll 5 = .ok (.iconst 0, 1) := by decide +kernel
theorem dX2_trueInAll_6 : decode cX2_trueInAll 6 = .ok (.istore_n 2, 1) := by decide +kernel
theorem dX2_trueInAll_7 : decode cX2_trueInAll 7 = .ok (.iload_n 2, 1) := by decide +kernel
theorem dX2_trueInAll_8 : decode cX2_trueInAll 8 = .ok (.aload_n 0, 1) := by decide +kernel
theorem dX2_trueInAll_9 : decode cX2_trueInAll 9 = .ok (.invokevirtual 19, 3) := by decide +kernel
theorem dX2_trueInAll_12 : decode cX2_trueInAll 12 = .ok (.if_icmp .gt 22, 3) := by decide +kernel
theorem dX2_trueInAll_15 : decode cX2_trueInAll 15 = .ok (.aload_n 0, 1) := by decide +kernel
theorem dX2_trueInAll_16 : decode cX2_trueInAll 16 = .ok (.iload_n 2, 1) := by decide +kernel
theorem dX2_trueInAll_17 : decode cX2_trueInAll 17 = .ok (.iconst (-1), 1) := by decide +kernel
theorem dX2_trueInAll_18 : decode cX2_trueInAll 18 = .ok (.invokestatic 23, 3) := by decide +kernel
theorem dX2_trueInAll_21 : decode cX2_trueInAll 21 = .ok (.ifCond .eq 7, 3) := by decide +kernel
theorem dX2_trueInAll_24 : decode cX2_trueInAll 24 = .ok (.iload_n 1, 1) := by decide +kernel
theorem dX2_trueInAll_25 : decode cX2_trueInAll 25 = .ok (.iload_n 2, 1) := by decide +kernel
theorem dX2_trueInAll_26 : decode cX2_trueInAll 26 = .ok (.iand, 1) := by decide +kernel
theorem dX2_trueInAll_27 : decode cX2_trueInAll 27 = .ok (.istore_n 1, 1) := by decide +kernel
theorem dX2_trueInAll_28 : decode cX2_trueInAll 28 = .ok (.iinc 2 1, 3) := by decide +kernel
theorem dX2_trueInAll_31 : decode cX2_trueInAll 31 = .ok (.goto (-24), 3) := by decide +kernel
theorem dX2_trueInAll_34 : decode cX2_trueInAll 34 = .ok (.iload_n 1, 1) := by decide +kernel
theorem dX2_trueInAll_35 : decode cX2_trueInAll 35 = .ok (.ireturn, 1) := by decide +kernel
set_option maxRecDepth 20000 in
theorem ggX2_falseInAll_X0_allVariables : GoodIn wsX2_falseInAll wsX0_allVariables := goodIn_r _ [5, 6, 18, 19, 20, 21, 22, 23, 24, 25] rfl (by decide +kernel)
set_option maxRecDepth 20000 in
theorem gX2_falseInAll_X0_allVariables : GoodIn wsX2_falseInAll (wsV RX2 19 RX0 yX0_allVariables wsX0_allVariables) := goodIn_app (goodIn_r _ [1, 2, 3, 4] rfl (by decide +kernel)) ggX2_falseInAll_X0_allVariables
set_option maxRecDepth 20000 in
theorem ggX2_falseInAll_X2_areTrue : GoodIn wsX2_falseInAll wsX2_areTrue := goodIn_r _ [10, 11, 12, 13, 14, 4, 15, 16, 17, 18, 19, 20, 21, 22, 23, 24, 25] rfl (by decide +kernel)
set_option maxRecDepth 20000 in
theorem gX2_falseInAll_X2_areTrue : GoodIn wsX2_falseInAll (va_wsS RX2 23 yX2_areTrue wsX2_areTrue) := goodIn_app (goodIn_r _ [7, 8, 9] rfl (by decide +kernel)) ggX2_falseInAll_X2_areTrue
theorem dX2_falseInAll_0 : decode cX2_falseInAll 0 = .ok (.aload_n 0, 1) := by decide +kernel
theorem dX2_falseInAll_1 : decode cX2_falseInAll 1 = .ok (.invokevirtual 19, 3) := by decide +kernel
theorem dX2_falseInAll_4 : decode cX2_falseInAll 4 = .ok (.istore_n 1, 1) := by decide +kernel
theorem dX2_falseInAll_5 : decode cX2_falseInAll 5 = .ok (.iconst 0, 1) := by decide +kernel
theorem dX2_falseInAll_6 : decode cX2_falseInAll 6 = .ok (.istore_n 2, 1) := by decide +kernel
theorem dX2_falseInAll_7 : decode cX2_falseInAll 7 = .ok (.iload_n 2, 1) := by decide +kernel
theorem dX2_falseInAll_8 : decode cX2_falseInAll 8 = .ok (.aload_n 0, 1) := by decide +kernel
theorem dX2_falseInAll_9 : decode cX2_falseInAll 9 = .ok (.invokevirtual 19, 3) := by decide +kernel
theorem dX2_falseInAll_12 : decode cX2_falseInAll 12 = .ok (.if_icmp .gt 24, 3) := by decide +kernel
theorem dX2_falseInAll_15 : decode cX2_falseInAll 15 = .ok (.aload_n 0, 1) := by decide +kernel
theorem dX2_falseInAll_16 : decode cX2_falseInAll 16 = .ok (.iload_n 2, 1) := by decide +kernel
theorem dX2_falseInAll_17 : decode cX2_falseInAll 17 = .ok (.iconst (-1), 1) := by decide +kernel
theorem dX2_falseInAll_18 : decode cX2_falseInAll 18 = .ok (.invokestatic 23, 3) := by decide +kernel
theorem dX2_falseInAll_21 : decode cX2_falseInAll 21 = .ok (.ifCond .eq 9, 3) := by decide +kernel
theorem dX2_falseInAll_24 : decode cX2_falseInAll 24 = .ok (.iload_n 1, 1) := by decide +kernel
theorem dX2_falseInAll_25 : decode cX2_falseInAll 25 = .ok (.iload_n 2, 1) := by decide +kernel
theorem dX2_falseInAll_26 : decode cX2_falseInAll 26 = .ok (.iconst (-1), 1) := by decide +kernel
theorem dX2_falseInAll_27 : decode cX2_falseInAll 27 = .ok (.ixor, 1) := by decide +kernel
theorem dX2_falseInAll_28 : decode cX2_falseInAll 28 = .ok (.iand, 1) := by decide +kernel
theorem dX2_falseInAll_29 : decode cX2_falseInAll 29 = .ok (.istore_n 1, 1) := by decide +kernel
theorem dX2_falseInAll_30 : decode cX2_falseInAll 30 = .ok (.iinc 2 1, 3) := by decide +kernel
theorem dX2_falseInAll_33 : decode cX2_falseInAll 33 = .ok (.goto (-26), 3) := by decide +kernel
theorem dX2_falseInAll_36 : decode cX2_falseInAll 36 = .ok (.iload_n 1, 1) := by decide +kernel
theorem dX2_falseInAll_37 : decode cX2_falseInAll 37 = .ok (.ireturn, 1) := by decide +kernel
set_option maxRecDepth 20000 in
theorem ggX2_imply_X0_allVariables : GoodIn wsX2_imply wsX0_allVariables := goodIn_r _ [5, 6, 18, 19, 20, 21, 22, 23, 24, 25] rfl (by decide +kernel)
set_option maxRecDepth 20000 in
theorem gX2_imply_X0_allVariables : GoodIn wsX2_imply (wsV RX2 19 RX0 yX0_allVariables wsX0_allVariables) := goodIn_app (goodIn_r _ [1, 2, 3, 4] rfl (by decide +kernel)) ggX2_imply_X0_allVariables
set_option maxRecDepth 20000 in
theorem ggX2_imply_X2_areTrue : GoodIn wsX2_imply wsX2_areTrue := goodIn_r _ [10, 11, 12, 13, 14, 4, 15, 16, 17, 18, 19, 20, 21, 22, 23, 24, 25] rfl (by decide +kernel)
set_option maxRecDepth 20000 in
theorem gX2_imply_X2_areTrue : GoodIn wsX2_imply (va_wsS RX2 23 yX2_areTrue wsX2_areTrue) := goodIn_app (goodIn_r _ [7, 8, 9] rfl (by decide +kernel)) ggX2_imply_X2_areTrue
theorem dX2_imply_0 : decode cX2_imply 0 = .ok (.iconst 0, 1) := by decide +kernel
theorem dX2_imply_1 : decode cX2_imply 1 = .ok (.istore 4, 2) := by decide +kernel
theorem dX2_imply_3 : decode cX2_imply 3 = .ok (.iload 4, 2) := by decide +kernel
theorem dX2_imply_5 : decode cX2_imply 5 = .ok (.aload_n 0, 1) := by decide +kernel
theorem dX2_imply_6 : decode cX2_imply 6 = .ok (.invokevirtual 19, 3) := by decide +kernel
theorem dX2_imply_9 : decode cX2_imply 9 = .ok (.if_icmp .gt 49, 3) := by decide +kernel
theorem dX2_imply_12 : decode cX2_imply 12 = .ok (.iload_n 1, 1) := by decide +kernel
theorem dX2_imply_13 : decode cX2_imply 13 = .ok (.iload 4, 2) := by decide +kernel
theorem dX2_imply_15 : decode cX2_imply 15 = .ok (.iand, 1) := by decide +kernel
theorem dX2_imply_16 : decode cX2_imply 16 = .ok (.ifCond .ne 16, 3) := by decide +kernel
theorem dX2_imply_19 : decode cX2_imply 19 = .ok (.iload_n 2, 1) := by decide +kernel
theorem dX2_imply_20 : decode cX2_imply 20 = .ok (.iload 4, 2) := by decide +kernel
theorem dX2_imply_22 : decode cX2_imply 22 = .ok (.iconst (-1), 1) := by decide +kernel
theorem dX2_imply_23 : decode cX2_imply 23 = .ok (.ixor, 1) := by decide +kernel
theorem dX2_imply_24 : decode cX2_imply 24 = .ok (.iand, 1) := by decide +kernel
theorem dX2_imply_25 : decode cX2_imply 25 = .ok (.ifCond .ne 7, 3) := by decide +kernel
theorem dX2_imply_28 : decode cX2_imply 28 = .ok (.iconst 1, 1) := by decide +kernel
theorem dX2_imply_29 : decode cX2_imply 29 = .ok (.goto 4, 3) := by decide +kernel
theorem dX2_imply_32 : decode cX2_imply 32 = .ok (.iconst 0, 1) := by decide +kernel
theorem dX2_imply_33 : decode cX2_imply 33 = .ok (.istore 5, 2) := by decide +kernel
theorem dX2_imply_35 : decode cX2_imply 35 = .ok (.iload 5, 2) := by decide +kernel
theorem dX2_imply_37 : decode cX2_imply 37 = .ok (.ifCond .eq 15, 3) := by decide +kernel
theorem dX2_imply_40 : decode cX2_imply 40 = .ok (.aload_n 0, 1) := by decide +kernel
theorem dX2_imply_41 : decode cX2_imply 41 = .ok (.iload 4, 2) := by decide +kernel
theorem dX2_imply_43 : decode cX2_imply 43 = .ok (.iload_n 3, 1) := by decide +kernel
theorem dX2_imply_44 : decode cX2_imply 44 = .ok (.invokestatic 23, 3) := by decide +kernel
theorem dX2_imply_47 : decode cX2_imply 47 = .ok (.ifCond .eq 5, 3) := by decide +kernel
theorem dX2_imply_50 : decode cX2_imply 50 = .ok (.iconst 0, 1) := by decide +kernel
theorem dX2_imply_51 : decode cX2_imply 51 = .ok (.ireturn, 1) := by decide +kernel
theorem dX2_imply_52 : decode cX2_imply 52 = .ok (.iinc 4 1, 3) := by decide +kernel
theorem dX2_imply_55 : decode cX2_imply 55 = .ok (.goto (-52), 3) := by decide +kernel
theorem dX2_imply_58 : decode cX2_imply 58 = .ok (.iconst 1, 1) := by decide +kernel
theorem dX2_imply_59 : decode cX2_imply 59 = .ok (.ireturn, 1) := by decide +kernel
theorem dX3_init_0 : decode cX3_init 0 = .ok (.aload_n 0, 1) := by decide +kernel
theorem dX3_init_1 : decode cX3_init 1 = .ok (.invokespecial 3, 3) := by decide +kernel
theorem dX3_init_4 : decode cX3_init 4 = .ok (.aload_n 0, 1) := by decide +kernel
theorem dX3_init_5 : decode cX3_init 5 = .ok (.bipush 35, 2) := by decide +kernel
theorem dX3_init_7 : decode cX3_init 7 = .ok (.newarray .byte, 2) := by decide +kernel
theorem dX3_init_9 : decode cX3_init 9 = .ok (.putfield 9, 3) := by decide +kernel
theorem dX3_init_12 : decode cX3_init 12 = .ok (.aload_n 0, 1) := by decide +kernel
theorem dX3_init_13 : decode cX3_init 13 = .ok (.iconst 0, 1) := by decide +kernel
theorem dX3_init_14 : decode cX3_init 14 = .ok (.putfield 15, 3) := by decide +kernel
theorem dX3_init_17 : decode cX3_init 17 = .ok (.return_, 1) := by decide +kernel
set_option maxRecDepth 20000 in
theorem ggX3_write_X3_put : GoodIn wsX3_write wsX3_put := goodIn_r _ [6, 1, 7, 8, 9] rfl (by decide +kernel)
set_option maxRecDepth 20000 in
theorem gX3_write_X3_put : GoodIn wsX3_write (wsV RX3 19 RX3 yX3_put wsX3_put) := goodIn_app (goodIn_r _ [2, 3, 4, 5] rfl (by decide +kernel)) ggX3_write_X3_put
theorem dX3_write_0 : decode cX3_write 0 = .ok (.aload_n 0, 1) := by decide +kernel
theorem dX3_write_1 : decode cX3_write 1 = .ok (.iconst 0, 1) := by decide +kernel
theorem dX3_write_2 : decode cX3_write 2 = .ok (.putfield 15, 3) := by decide +kernel
theorem dX3_write_5 : decode cX3_write 5 = .ok (.iconst 0, 1) := by decide +kernel
theorem dX3_write_6 : decode cX3_write 6 = .ok (.istore_n 3, 1) := by decide +kernel
theorem dX3_write_7 : decode cX3_write 7 = .ok (.iload_n 3, 1) := by decide +kernel
theorem dX3_write_8 : decode cX3_write 8 = .ok (.bipush 12, 2) := by decide +kernel
theorem dX3_write_10 : decode cX3_write 10 = .ok (.if_icmp .ge 57, 3) := by decide +kernel
theorem dX3_write_13 : decode cX3_write 13 = .ok (.iconst 1, 1) := by decide +kernel
theorem dX3_write_14 : decode cX3_write 14 = .ok (.iload_n 3, 1) := by decide +kernel
theorem dX3_write_15 : decode cX3_write 15 = .ok (.ishl, 1) := by decide +kernel
theorem dX3_write_16 : decode cX3_write 16 = .ok (.istore 4, 2) := by decide +kernel
theorem dX3_write_18 : decode cX3_write 18 = .ok (.iload_n 1, 1) := by decide +kernel
theorem dX3_write_19 : decode cX3_write 19 = .ok (.iload_n 2, 1) := by decide +kernel
theorem dX3_write_20 : decode cX3_write 20 = .ok (.ior, 1) := by decide +kernel
theorem dX3_write_21 : decode cX3_write 21 = .ok (.iload 4, 2) := by decide +kernel
theorem dX3_write_23 : decode cX3_write 23 = .ok (.iand, 1) := by decide +kernel
theorem dX3_write_24 : decode cX3_write 24 = .ok (.ifCond .eq 37, 3) := by decide +kernel
theorem dX3_write_27 : decode cX3_write 27 = .ok (.aload_n 0, 1) := by decide +kernel
theorem dX3_write_28 : decode cX3_write 28 = .ok (.getfield 15, 3) := by decide +kernel
theorem dX3_write_31 : decode cX3_write 31 = .ok (.ifCond .le 9, 3) := by decide +kernel
theorem dX3_write_34 : decode cX3_write 34 = .ok (.aload_n 0, 1) := by decide +kernel
theorem dX3_write_35 : decode cX3_write 35 = .ok (.bipush 32, 2) := by decide +kernel
theorem dX3_write_37 : decode cX3_write 37 = .ok (.invokevirtual 19, 3) := by decide +kernel
theorem dX3_write_40 : decode cX3_write 40 = .ok (.iload_n 2, 1) := by decide +kernel
theorem dX3_write_41 : decode cX3_write 41 = .ok (.iload 4, 2) := by decide +kernel
theorem dX3_write_43 : decode cX3_write 43 = .ok (.iand, 1) := by decide +kernel
theorem dX3_write_44 : decode cX3_write 44 = .ok (.ifCond .eq 9, 3) := by decide +kernel
theorem dX3_write_47 : decode cX3_write 47 = .ok (.aload_n 0, 1) := by decide +kernel
theorem dX3_write_48 : decode cX3_write 48 = .ok (.bipush 45, 2) := by decide +kernel
theorem dX3_write_50 : decode cX3_write 50 = .ok (.invokevirtual 19, 3) := by decide +kernel
theorem dX3_write_53 : decode cX3_write 53 = .ok (.aload_n 0, 1) := by decide +kernel
theorem dX3_write_54 : decode cX3_write 54 = .ok (.bipush 97, 2) := by decide +kernel
theorem dX3_write_56 : decode cX3_write 56 = .ok (.iload_n 3, 1) := by decide +kernel
theorem dX3_write_57 : decode cX3_write 57 = .ok (.iadd, 1) := by decide +kernel
theorem dX3_write_58 : decode cX3_write 58 = .ok (.invokevirtual 19, 3) := by decide +kernel
theorem dX3_write_61 : decode cX3_write 61 = .ok (.iinc 3 1, 3) := by decide +kernel
theorem dX3_write_64 : decode cX3_write 64 = .ok (.goto (-57), 3) := by decide +kernel
theorem dX3_write_67 : decode cX3_write 67 = .ok (.aload_n 0, 1) := by decide +kernel
theorem dX3_write_68 : decode cX3_write 68 = .ok (.getfield 15, 3) := by decide +kernel
theorem dX3_write_71 : decode cX3_write 71 = .ok (.ifCond .ne 9, 3) := by decide +kernel
theorem dX3_write_74 : decode cX3_write 74 = .ok (.aload_n 0, 1) := by decide +kernel
theorem dX3_write_75 : decode cX3_write 75 = .ok (.bipush 35, 2) := by decide +kernel
theorem dX3_write_77 : decode cX3_write 77 = .ok (.invokevirtual 19, 3) := by decide +kernel
theorem dX3_write_80 : decode cX3_write 80 = .ok (.return_, 1) := by decide +kernel
theorem dX3_put_0 : decode cX3_put 0 = .ok (.aload_n 0, 1) := by decide +kernel
theorem dX3_put_1 : decode cX3_put 1 = .ok (.getfield 15, 3) := by decide +kernel
theorem dX3_put_4 : decode cX3_put 4 = .ok (.bipush 35, 2) := by decide +kernel
theorem dX3_put_6 : decode cX3_put 6 = .ok (.if_icmp .ge 24, 3) := by decide +kernel
theorem dX3_put_9 : decode cX3_put 9 = .ok (.aload_n 0, 1) := by decide +kernel
theorem dX3_put_10 : decode cX3_put 10 = .ok (.getfield 9, 3) := by decide +kernel
theorem dX3_put_13 : decode cX3_put 13 = .ok (.aload_n 0, 1) := by decide +kernel
theorem dX3_put_14 : decode cX3_put 14 = .ok (.getfield 15, 3) := by decide +kernel
theorem dX3_put_17 : decode cX3_put 17 = .ok (.iload_n 1, 1) := by decide +kernel
theorem dX3_put_18 : decode cX3_put 18 = .ok (.i2b, 1) := by decide +kernel
theorem dX3_put_19 : decode cX3_put 19 = .ok (.bastore, 1) := by decide +kernel
theorem dX3_put_20 : decode cX3_put 20 = .ok (.aload_n 0, 1) := by decide +kernel
theorem dX3_put_21 : decode cX3_put 21 = .ok (.dup, 1) := by decide +kernel
theorem dX3_put_22 : decode cX3_put 22 = .ok (.getfield 15, 3) := by decide +kernel
theorem dX3_put_25 : decode cX3_put 25 = .ok (.iconst 1, 1) := by decide +kernel
theorem dX3_put_26 : decode cX3_put 26 = .ok (.iadd, 1) := by decide +kernel
theorem dX3_put_27 : decode cX3_put 27 = .ok (.putfield 15, 3) := by decide +kernel
theorem dX3_put_30 : decode cX3_put 30 = .ok (.return_, 1) := by decide +kernel
theorem dX4_init_0 : decode cX4_init 0 = .ok (.aload_n 0, 1) := by decide +kernel
theorem dX4_init_1 : decode cX4_init 1 = .ok (.invokespecial 3, 3) := by decide +kernel
theorem dX4_init_4 : decode cX4_init 4 = .ok (.aload_n 0, 1) := by decide +kernel
theorem dX4_init_5 : decode cX4_init 5 = .ok (.iconst 0, 1) := by decide +kernel
theorem dX4_init_6 : decode cX4_init 6 = .ok (.putfield 9, 3) := by decide +kernel
theorem dX4_init_9 : decode cX4_init 9 = .ok (.aload_n 0, 1) := by decide +kernel
theorem dX4_init_10 : decode cX4_init 10 = .ok (.iconst 0, 1) := by decide +kernel
theorem dX4_init_11 : decode cX4_init 11 = .ok (.putfield 15, 3) := by decide +kernel
theorem dX4_init_14 : decode cX4_init 14 = .ok (.return_, 1) := by decide +kernel
set_option maxRecDepth 20000 in
theorem ggX4_run_X4_runRound : GoodIn wsX4_run wsX4_runRound := goodIn_r _ [7, 8, 9, 10, 2, 1, 11, 12, 13, 14, 15, 16, 17, 18, 19, 20, 21, 22, 23, 24, 25, 28, 29, 30, 31, 32, 33, 34, 35, 26, 27] rfl (by decide +kernel)
set_option maxRecDepth 20000 in
theorem gX4_run_X4_runRound : GoodIn wsX4_run (wsV RX4 18 RX4 yX4_runRound wsX4_runRound) := goodIn_app (goodIn_r _ [3, 4, 5, 6] rfl (by decide +kernel)) ggX4_run_X4_runRound
theorem dX4_run_0 : decode cX4_run 0 = .ok (.aload_n 0, 1) := by decide +kernel
theorem dX4_run_1 : decode cX4_run 1 = .ok (.iconst 0, 1) := by decide +kernel
theorem dX4_run_2 : decode cX4_run 2 = .ok (.putfield 9, 3) := by decide +kernel
theorem dX4_run_5 : decode cX4_run 5 = .ok (.aload_n 0, 1) := by decide +kernel
theorem dX4_run_6 : decode cX4_run 6 = .ok (.iconst 0, 1) := by decide +kernel
theorem dX4_run_7 : decode cX4_run 7 = .ok (.putfield 15, 3) := by decide +kernel
theorem dX4_run_10 : decode cX4_run 10 = .ok (.iconst 1, 1) := by decide +kernel
theorem dX4_run_11 : decode cX4_run 11 = .ok (.istore_n 2, 1) := by decide +kernel
theorem dX4_run_12 : decode cX4_run 12 = .ok (.iconst 0, 1) := by decide +kernel
theorem dX4_run_13 : decode cX4_run 13 = .ok (.istore_n 3, 1) := by decide +kernel
theorem dX4_run_14 : decode cX4_run 14 = .ok (.iload_n 2, 1) := by decide +kernel
theorem dX4_run_15 : decode cX4_run 15 = .ok (.ifCond .eq 21, 3) := by decide +kernel
theorem dX4_run_18 : decode cX4_run 18 = .ok (.iload_n 3, 1) := by decide +kernel
theorem dX4_run_19 : decode cX4_run 19 = .ok (.bipush 24, 2) := by decide +kernel
theorem dX4_run_21 : decode cX4_run 21 = .ok (.if_icmp .gt 15, 3) := by decide +kernel
theorem dX4_run_24 : decode cX4_run 24 = .ok (.aload_n 0, 1) := by decide +kernel
theorem dX4_run_25 : decode cX4_run 25 = .ok (.aload_n 1, 1) := by decide +kernel
theorem dX4_run_26 : decode cX4_run 26 = .ok (.invokevirtual 18, 3) := by decide +kernel
theorem dX4_run_29 : decode cX4_run 29 = .ok (.istore_n 2, 1) := by decide +kernel
theorem dX4_run_30 : decode cX4_run 30 = .ok (.iinc 3 1, 3) := by decide +kernel
theorem dX4_run_33 : decode cX4_run 33 = .ok (.goto (-19), 3) := by decide +kernel
theorem dX4_run_36 : decode cX4_run 36 = .ok (.return_, 1) := by decide +kernel
set_option maxRecDepth 20000 in
theorem ggX4_runRound_X0_literalsIn : GoodIn wsX4_runRound wsX0_literalsIn := goodIn_r _ [10, 11, 12, 13, 14, 15, 16, 17, 18, 19, 21, 22, 23, 24, 25, 26, 27, 28] rfl (by decide +kernel)
set_option maxRecDepth 20000 in
theorem gX4_runRound_X0_literalsIn : GoodIn wsX4_runRound (wsV RX4 34 RX0 yX0_literalsIn wsX0_literalsIn) := goodIn_app (goodIn_r _ [6, 7, 8, 9] rfl (by decide +kernel)) ggX4_runRound_X0_literalsIn
set_option maxRecDepth 20000 in
theorem ggX4_runRound_J6_bitCount_0f7a4 : GoodIn wsX4_runRound wsJ6_bitCount_0f7a4 := goodIn_r _ [16, 17, 18, 19] rfl (by decide +kernel)
set_option maxRecDepth 20000 in
theorem gX4_runRound_J6_bitCount_0f7a4 : GoodIn wsX4_runRound (va_wsS RX4 38 yJ6_bitCount_0f7a4 wsJ6_bitCount_0f7a4) := goodIn_app (goodIn_r _ [20, 14, 15] rfl (by decide +kernel)) ggX4_runRound_J6_bitCount_0f7a4
theorem dX4_runRound_0 : decode cX4_runRound 0 = .ok (.iconst 0, 1) := by decide +kernel
theorem dX4_runRound_1 : decode cX4_runRound 1 = .ok (.istore_n 2, 1) := by decide +kernel
theorem dX4_runRound_2 : decode cX4_runRound 2 = .ok (.iconst 0, 1) := by decide +kernel
theorem dX4_runRound_3 : decode cX4_runRound 3 = .ok (.istore_n 3, 1) := by decide +kernel
theorem dX4_runRound_4 : decode cX4_runRound 4 = .ok (.iload_n 3, 1) := by decide +kernel
theorem dX4_runRound_5 : decode cX4_runRound 5 = .ok (.aload_n 1, 1) := by decide +kernel
theorem dX4_runRound_6 : decode cX4_runRound 6 = .ok (.getfield 22, 3) := by decide +kernel
theorem dX4_runRound_9 : decode cX4_runRound 9 = .ok (.if_icmp .ge 125, 3) := by decide +kernel
theorem dX4_runRound_12 : decode cX4_runRound 12 = .ok (.aload_n 1, 1) := by decide +kernel
theorem dX4_runRound_13 : decode cX4_runRound 13 = .ok (.getfield 27, 3) := by decide +kernel
theorem dX4_runRound_16 : decode cX4_runRound 16 = .ok (.iload_n 3, 1) := by decide +kernel
theorem dX4_runRound_17 : decode cX4_runRound 17 = .ok (.iaload, 1) := by decide +kernel
theorem dX4_runRound_18 : decode cX4_runRound 18 = .ok (.istore 4, 2) := by decide +kernel
theorem dX4_runRound_20 : decode cX4_runRound 20 = .ok (.aload_n 1, 1) := by decide +kernel
theorem dX4_runRound_21 : decode cX4_runRound 21 = .ok (.getfield 31, 3) := by decide +kernel
theorem dX4_runRound_24 : decode cX4_runRound 24 = .ok (.iload_n 3, 1) := by decide +kernel
theorem dX4_runRound_25 : decode cX4_runRound 25 = .ok (.iaload, 1) := by decide +kernel
theorem dX4_runRound_26 : decode cX4_runRound 26 = .ok (.istore 5, 2) := by decide +kernel
theorem dX4_runRound_28 : decode cX4_runRound 28 = .ok (.aload_n 1, 1) := by decide +kernel
theorem dX4_runRound_29 : decode cX4_runRound 29 = .ok (.iload_n 3, 1) := by decide +kernel
theorem dX4_runRound_30 : decode cX4_runRound 30 = .ok (.invokevirtual 34, 3) := by decide +kernel
theorem dX4_runRound_33 : decode cX4_runRound 33 = .ok (.iconst 1, 1) := by decide +kernel
theorem dX4_runRound_34 : decode cX4_runRound 34 = .ok (.if_icmp .eq 25, 3) := by decide +kernel
theorem dX4_runRound_37 : decode cX4_runRound 37 = .ok (.iload 4, 2) := by decide +kernel
theorem dX4_runRound_39 : decode cX4_runRound 39 = .ok (.aload_n 0, 1) := by decide +kernel
theorem dX4_runRound_40 : decode cX4_runRound 40 = .ok (.getfield 15, 3) := by decide +kernel
theorem dX4_runRound_43 : decode cX4_runRound 43 = .ok (.iconst (-1), 1) := by decide +kernel
theorem dX4_runRound_44 : decode cX4_runRound 44 = .ok (.ixor, 1) := by decide +kernel
theorem dX4_runRound_45 : decode cX4_runRound 45 = .ok (.iand, 1) := by decide +kernel
theorem dX4_runRound_46 : decode cX4_runRound 46 = .ok (.istore 4, 2) := by decide +kernel
theorem dX4_runRound_48 : decode cX4_runRound 48 = .ok (.iload 5, 2) := by decide +kernel
theorem dX4_runRound_50 : decode cX4_runRound 50 = .ok (.aload_n 0, 1) := by decide +kernel
theorem dX4_runRound_51 : decode cX4_runRound 51 = .ok (.getfield 9, 3) := by decide +kernel
theorem dX4_runRound_54 : decode cX4_runRound 54 = .ok (.iconst (-1), 1) := by decide +kernel
theorem dX4_runRound_55 : decode cX4_runRound 55 = .ok (.ixor, 1) := by decide +kernel
theorem dX4_runRound_56 : decode cX4_runRound 56 = .ok (.iand, 1) := by decide +kernel
theorem dX4_runRound_57 : decode cX4_runRound 57 = .ok (.istore 5, 2) := by decide +kernel
theorem dX4_runRound_59 : decode cX4_runRound 59 = .ok (.iload 4, 2) := by decide +kernel
theorem dX4_runRound_61 : decode cX4_runRound 61 = .ok (.invokestatic 38, 3) := by decide +kernel
theorem dX4_runRound_64 : decode cX4_runRound 64 = .ok (.iload 5, 2) := by decide +kernel
theorem dX4_runRound_66 : decode cX4_runRound 66 = .ok (.invokestatic 38, 3) := by decide +kernel
theorem dX4_runRound_69 : decode cX4_runRound 69 = .ok (.iadd, 1) := by decide +kernel
theorem dX4_runRound_70 : decode cX4_runRound 70 = .ok (.iconst 1, 1) := by decide +kernel
theorem dX4_runRound_71 : decode cX4_runRound 71 = .ok (.if_icmp .ne 57, 3) := by decide +kernel
theorem dX4_runRound_74 : decode cX4_runRound 74 = .ok (.iload_n 2, 1) := by decide +kernel
theorem dX4_runRound_75 : decode cX4_runRound 75 = .ok (.iload 4, 2) := by decide +kernel
theorem dX4_runRound_77 : decode cX4_runRound 77 = .ok (.aload_n 0, 1) := by decide +kernel
theorem dX4_runRound_78 : decode cX4_runRound 78 = .ok (.getfield 9, 3) := by decide +kernel
theorem dX4_runRound_81 : decode cX4_runRound 81 = .ok (.iconst (-1), 1) := by decide +kernel
theorem dX4_runRound_82 : decode cX4_runRound 82 = .ok (.ixor, 1) := by decide +kernel
theorem dX4_runRound_83 : decode cX4_runRound 83 = .ok (.iand, 1) := by decide +kernel
theorem dX4_runRound_84 : decode cX4_runRound 84 = .ok (.ifCond .ne 15, 3) := by decide +kernel
theorem dX4_runRound_87 : decode cX4_runRound 87 = .ok (.iload 5, 2) := by decide +kernel
theorem dX4_runRound_89 : decode cX4_runRound 89 = .ok (.aload_n 0, 1) := by decide +kernel
theorem dX4_runRound_90 : decode cX4_runRound 90 = .ok (.getfield 15, 3) := by decide +kernel
theorem dX4_runRound_93 : decode cX4_runRound 93 = .ok (.iconst (-1), 1) := by decide +kernel
theorem dX4_runRound_94 : decode cX4_runRound 94 = .ok (.ixor, 1) := by decide +kernel
theorem dX4_runRound_95 : decode cX4_runRound 95 = .ok (.iand, 1) := by decide +kernel
theorem dX4_runRound_96 : decode cX4_runRound 96 = .ok (.ifCond .eq 7, 3) := by decide +kernel
theorem dX4_runRound_99 : decode cX4_runRound 99 = .ok (.iconst 1, 1) := by decide +kernel
theorem dX4_runRound_100 : decode cX4_runRound 100 = .ok (.goto 4, 3) := by decide +kernel
theorem dX4_runRound_103 : decode cX4_runRound 103 = .ok (.iconst 0, 1) := by decide +kernel
theorem dX4_runRound_104 : decode cX4_runRound 104 = .ok (.ior, 1) := by decide +kernel
theorem dX4_runRound_105 : decode cX4_runRound 105 = .ok (.istore_n 2, 1) := by decide +kernel
theorem dX4_runRound_106 : decode cX4_runRound 106 = .ok (.aload_n 0, 1) := by decide +kernel
theorem dX4_runRound_107 : decode cX4_runRound 107 = .ok (.dup, 1) := by decide +kernel
theorem dX4_runRound_108 : decode cX4_runRound 108 = .ok (.getfield 9, 3) := by decide +kernel
theorem dX4_runRound_111 : decode cX4_runRound 111 = .ok (.iload 4, 2) := by decide +kernel
theorem dX4_runRound_113 : decode cX4_runRound 113 = .ok (.ior, 1) := by decide +kernel
theorem dX4_runRound_114 : decode cX4_runRound 114 = .ok (.putfield 9, 3) := by decide +kernel
theorem dX4_runRound_117 : decode cX4_runRound 117 = .ok (.aload_n 0, 1) := by decide +kernel
theorem dX4_runRound_118 : decode cX4_runRound 118 = .ok (.dup, 1) := by decide +kernel
theorem dX4_runRound_119 : decode cX4_runRound 119 = .ok (.getfield 15, 3) := by decide +kernel
theorem dX4_runRound_122 : decode cX4_runRound 122 = .ok (.iload 5, 2) := by decide +kernel
theorem dX4_runRound_124 : decode cX4_runRound 124 = .ok (.ior, 1) := by decide +kernel
theorem dX4_runRound_125 : decode cX4_runRound 125 = .ok (.putfield 15, 3) := by decide +kernel
theorem dX4_runRound_128 : decode cX4_runRound 128 = .ok (.iinc 3 1, 3) := by decide +kernel
theorem dX4_runRound_131 : decode cX4_runRound 131 = .ok (.goto (-127), 3) := by decide +kernel
theorem dX4_runRound_134 : decode cX4_runRound 134 = .ok (.iload_n 2, 1) := by decide +kernel
theorem dX4_runRound_135 : decode cX4_runRound 135 = .ok (.ireturn, 1) := by decide +kernel
set_option maxRecDepth 20000 in
theorem ggX4_isContradictory_X0_isSomeWithin : GoodIn wsX4_isContradictory wsX0_isSomeWithin := goodIn_r _ [7, 8, 9, 10, 11, 6, 12, 13, 14, 17, 18, 19, 20, 21, 22, 23, 24] rfl (by decide +kernel)
set_option maxRecDepth 20000 in
theorem gX4_isContradictory_X0_isSomeWithin : GoodIn wsX4_isContradictory (wsV RX4 43 RX0 yX0_isSomeWithin wsX0_isSomeWithin) := goodIn_app (goodIn_r _ [3, 4, 5, 6] rfl (by decide +kernel)) ggX4_isContradictory_X0_isSomeWithin
theorem dX4_isContradictory_0 : decode cX4_isContradictory 0 = .ok (.aload_n 0, 1) := by decide +kernel
theorem dX4_isContradictory_1 : decode cX4_isContradictory 1 = .ok (.getfield 9, 3) := by decide +kernel
theorem dX4_isContradictory_4 : decode cX4_isContradictory 4 = .ok (.aload_n 0, 1) := by decide +kernel
theorem dX4_isContradictory_5 : decode cX4_isContradictory 5 = .ok (.getfield 15, 3) := by decide +kernel
theorem dX4_isContradictory_8 : decode cX4_isContradictory 8 = .ok (.iand, 1) := by decide +kernel
theorem dX4_isContradictory_9 : decode cX4_isContradictory 9 = .ok (.ifCond .ne 18, 3) := by decide +kernel
theorem dX4_isContradictory_12 : decode cX4_isContradictory 12 = .ok (.aload_n 1, 1) := by decide +kernel
theorem dX4_isContradictory_13 : decode cX4_isContradictory 13 = .ok (.aload_n 0, 1) := by decide +kernel
theorem dX4_isContradictory_14 : decode cX4_isContradictory 14 = .ok (.getfield 15, 3) := by decide +kernel
theorem dX4_isContradictory_17 : decode cX4_isContradictory 17 = .ok (.aload_n 0, 1) := by decide +kernel
theorem dX4_isContradictory_18 : decode cX4_isContradictory 18 = .ok (.getfield 9, 3) := by decide +kernel
theorem dX4_isContradictory_21 : decode cX4_isContradictory 21 = .ok (.invokevirtual 43, 3) := by decide +kernel
theorem dX4_isContradictory_24 : decode cX4_isContradictory 24 = .ok (.ifCond .eq 7, 3) := by decide +kernel
theorem dX4_isContradictory_27 : decode cX4_isContradictory 27 = .ok (.iconst 1, 1) := by decide +kernel
theorem dX4_isContradictory_28 : decode cX4_isContradictory 28 = .ok (.goto 4, 3) := by decide +kernel
theorem dX4_isContradictory_31 : decode cX4_isContradictory 31 = .ok (.iconst 0, 1) := by decide +kernel
theorem dX4_isContradictory_32 : decode cX4_isContradictory 32 = .ok (.ireturn, 1) := by decide +kernel
theorem dX5_init_0 : decode cX5_init 0 = .ok (.aload_n 0, 1) := by decide +kernel
theorem dX5_init_1 : decode cX5_init 1 = .ok (.invokespecial 3, 3) := by decide +kernel
theorem dX5_init_4 : decode cX5_init 4 = .ok (.aload_n 0, 1) := by decide +kernel
theorem dX5_init_5 : decode cX5_init 5 = .ok (.iconst 0, 1) := by decide +kernel
theorem dX5_init_6 : decode cX5_init 6 = .ok (.putfield 9, 3) := by decide +kernel
theorem dX5_init_9 : decode cX5_init 9 = .ok (.aload_n 0, 1) := by decide +kernel
theorem dX5_init_10 : decode cX5_init 10 = .ok (.iconst 1, 1) := by decide +kernel
theorem dX5_init_11 : decode cX5_init 11 = .ok (.putfield 15, 3) := by decide +kernel
theorem dX5_init_14 : decode cX5_init 14 = .ok (.return_, 1) := by decide +kernel
theorem dX5_begin_0 : decode cX5_begin 0 = .ok (.aload_n 0, 1) := by decide +kernel
theorem dX5_begin_1 : decode cX5_begin 1 = .ok (.iconst 0, 1) := by decide +kernel
theorem dX5_begin_2 : decode cX5_begin 2 = .ok (.putfield 9, 3) := by decide +kernel
theorem dX5_begin_5 : decode cX5_begin 5 = .ok (.aload_n 0, 1) := by decide +kernel
theorem dX5_begin_6 : decode cX5_begin 6 = .ok (.iconst 1, 1) := by decide +kernel
theorem dX5_begin_7 : decode cX5_begin 7 = .ok (.putfield 15, 3) := by decide +kernel
theorem dX5_begin_10 : decode cX5_begin 10 = .ok (.return_, 1) := by decide +kernel
set_option maxRecDepth 20000 in
theorem ggX5_findStep_X0_isFull : GoodIn wsX5_findStep wsX0_isFull := goodIn_r _ [8, 9, 49, 50, 51, 52, 53, 54, 55, 56] rfl (by decide +kernel)
set_option maxRecDepth 20000 in
theorem gX5_findStep_X0_isFull : GoodIn wsX5_findStep (wsV RX5 18 RX0 yX0_isFull wsX0_isFull) := goodIn_app (goodIn_r _ [4, 5, 6, 7] rfl (by decide +kernel)) ggX5_findStep_X0_isFull
set_option maxRecDepth 20000 in
theorem ggX5_findStep_X0_indexOf : GoodIn wsX5_findStep wsX0_indexOf := goodIn_r _ [13, 9, 14, 15, 49, 50, 51, 52, 53, 54, 55, 56] rfl (by decide +kernel)
set_option maxRecDepth 20000 in
theorem gX5_findStep_X0_indexOf : GoodIn wsX5_findStep (wsV RX5 24 RX0 yX0_indexOf wsX0_indexOf) := goodIn_app (goodIn_r _ [10, 11, 12, 7] rfl (by decide +kernel)) ggX5_findStep_X0_indexOf
set_option maxRecDepth 20000 in
theorem ggX5_findStep_X0_clashOnce : GoodIn wsX5_findStep wsX0_clashOnce := goodIn_r _ [19, 20, 21, 22, 7, 23, 14, 15, 24, 25, 26, 27, 28, 29, 30, 49, 50, 51, 52, 53, 54, 55, 56] rfl (by decide +kernel)
set_option maxRecDepth 20000 in
theorem gX5_findStep_X0_clashOnce : GoodIn wsX5_findStep (wsV RX5 31 RX0 yX0_clashOnce wsX0_clashOnce) := goodIn_app (goodIn_r _ [16, 17, 18, 7] rfl (by decide +kernel)) ggX5_findStep_X0_clashOnce
set_option maxRecDepth 20000 in
theorem ggX5_findStep_X0_mergedPositive : GoodIn wsX5_findStep wsX0_mergedPositive := goodIn_r _ [34, 14, 20, 21, 22, 7, 23, 15, 49, 50, 51, 52, 53, 54, 55, 56] rfl (by decide +kernel)
set_option maxRecDepth 20000 in
theorem gX5_findStep_X0_mergedPositive : GoodIn wsX5_findStep (wsV RX5 35 RX0 yX0_mergedPositive wsX0_mergedPositive) := goodIn_app (goodIn_r _ [31, 32, 33, 7] rfl (by decide +kernel)) ggX5_findStep_X0_mergedPositive
set_option maxRecDepth 20000 in
theorem ggX5_findStep_X0_mergedNegative : GoodIn wsX5_findStep wsX0_mergedNegative := goodIn_r _ [38, 15, 20, 21, 22, 7, 23, 14, 49, 50, 51, 52, 53, 54, 55, 56] rfl (by decide +kernel)
set_option maxRecDepth 20000 in
theorem gX5_findStep_X0_mergedNegative : GoodIn wsX5_findStep (wsV RX5 38 RX0 yX0_mergedNegative wsX0_mergedNegative) := goodIn_app (goodIn_r _ [35, 36, 37, 7] rfl (by decide +kernel)) ggX5_findStep_X0_mergedNegative
set_option maxRecDepth 20000 in
theorem ggX5_findStep_X0_isSomeWithin : GoodIn wsX5_findStep wsX0_isSomeWithin := goodIn_r _ [42, 9, 43, 44, 45, 7, 46, 14, 15, 49, 50, 51, 52, 53, 54, 55, 56] rfl (by decide +kernel)
set_option maxRecDepth 20000 in
theorem gX5_findStep_X0_isSomeWithin : GoodIn wsX5_findStep (wsV RX5 41 RX0 yX0_isSomeWithin wsX0_isSomeWithin) := goodIn_app (goodIn_r _ [39, 40, 41, 7] rfl (by decide +kernel)) ggX5_findStep_X0_isSomeWithin
theorem dX5_findStep_0 : decode cX5_findStep 0 = .ok (.aload_n 1, 1) := by decide +kernel
theorem dX5_findStep_1 : decode cX5_findStep 1 = .ok (.invokevirtual 18, 3) := by decide +kernel
theorem dX5_findStep_4 : decode cX5_findStep 4 = .ok (.ifCond .ne 13, 3) := by decide +kernel
theorem dX5_findStep_7 : decode cX5_findStep 7 = .ok (.aload_n 1, 1) := by decide +kernel
theorem dX5_findStep_8 : decode cX5_findStep 8 = .ok (.iconst 0, 1) := by decide +kernel
theorem dX5_findStep_9 : decode cX5_findStep 9 = .ok (.iconst 0, 1) := by decide +kernel
theorem dX5_findStep_10 : decode cX5_findStep 10 = .ok (.invokevirtual 24, 3) := by decide +kernel
theorem dX5_findStep_13 : decode cX5_findStep 13 = .ok (.iconst (-1), 1) := by decide +kernel
theorem dX5_findStep_14 : decode cX5_findStep 14 = .ok (.if_icmp .eq 5, 3) := by decide +kernel
theorem dX5_findStep_17 : decode cX5_findStep 17 = .ok (.iconst 0, 1) := by decide +kernel
theorem dX5_findStep_18 : decode cX5_findStep 18 = .ok (.ireturn, 1) := by decide +kernel
theorem dX5_findStep_19 : decode cX5_findStep 19 = .ok (.aload_n 0, 1) := by decide +kernel
theorem dX5_findStep_20 : decode cX5_findStep 20 = .ok (.getfield 15, 3) := by decide +kernel
theorem dX5_findStep_23 : decode cX5_findStep 23 = .ok (.aload_n 1, 1) := by decide +kernel
theorem dX5_findStep_24 : decode cX5_findStep 24 = .ok (.getfield 28, 3) := by decide +kernel
theorem dX5_findStep_27 : decode cX5_findStep 27 = .ok (.if_icmp .ge 93, 3) := by decide +kernel
theorem dX5_findStep_30 : decode cX5_findStep 30 = .ok (.aload_n 0, 1) := by decide +kernel
theorem dX5_findStep_31 : decode cX5_findStep 31 = .ok (.getfield 9, 3) := by decide +kernel
theorem dX5_findStep_34 : decode cX5_findStep 34 = .ok (.aload_n 0, 1) := by decide +kernel
theorem dX5_findStep_35 : decode cX5_findStep 35 = .ok (.getfield 15, 3) := by decide +kernel
theorem dX5_findStep_38 : decode cX5_findStep 38 = .ok (.if_icmp .ge 64, 3) := by decide +kernel
theorem dX5_findStep_41 : decode cX5_findStep 41 = .ok (.aload_n 1, 1) := by decide +kernel
theorem dX5_findStep_42 : decode cX5_findStep 42 = .ok (.aload_n 0, 1) := by decide +kernel
theorem dX5_findStep_43 : decode cX5_findStep 43 = .ok (.getfield 9, 3) := by decide +kernel
theorem dX5_findStep_46 : decode cX5_findStep 46 = .ok (.aload_n 0, 1) := by decide +kernel
theorem dX5_findStep_47 : decode cX5_findStep 47 = .ok (.getfield 15, 3) := by decide +kernel
theorem dX5_findStep_50 : decode cX5_findStep 50 = .ok (.invokevirtual 31, 3) := by decide +kernel
theorem dX5_findStep_53 : decode cX5_findStep 53 = .ok (.ifCond .eq 36, 3) := by decide +kernel
theorem dX5_findStep_56 : decode cX5_findStep 56 = .ok (.aload_n 1, 1) := by decide +kernel
theorem dX5_findStep_57 : decode cX5_findStep 57 = .ok (.aload_n 1, 1) := by decide +kernel
theorem dX5_findStep_58 : decode cX5_findStep 58 = .ok (.aload_n 0, 1) := by decide +kernel
theorem dX5_findStep_59 : decode cX5_findStep 59 = .ok (.getfield 9, 3) := by decide +kernel
theorem dX5_findStep_62 : decode cX5_findStep 62 = .ok (.aload_n 0, 1) := by decide +kernel
theorem dX5_findStep_63 : decode cX5_findStep 63 = .ok (.getfield 15, 3) := by decide +kernel
theorem dX5_findStep_66 : decode cX5_findStep 66 = .ok (.invokevirtual 35, 3) := by decide +kernel
theorem dX5_findStep_69 : decode cX5_findStep 69 = .ok (.aload_n 1, 1) := by decide +kernel
theorem dX5_findStep_70 : decode cX5_findStep 70 = .ok (.aload_n 0, 1) := by decide +kernel
theorem dX5_findStep_71 : decode cX5_findStep 71 = .ok (.getfield 9, 3) := by decide +kernel
theorem dX5_findStep_74 : decode cX5_findStep 74 = .ok (.aload_n 0, 1) := by decide +kernel
theorem dX5_findStep_75 : decode cX5_findStep 75 = .ok (.getfield 15, 3) := by decide +kernel
theorem dX5_findStep_78 : decode cX5_findStep 78 = .ok (.invokevirtual 38, 3) := by decide +kernel
theorem dX5_findStep_81 : decode cX5_findStep 81 = .ok (.invokevirtual 41, 3) := by decide +kernel
theorem dX5_findStep_84 : decode cX5_findStep 84 = .ok (.ifCond .ne 5, 3) := by decide +kernel
theorem dX5_findStep_87 : decode cX5_findStep 87 = .ok (.iconst 1, 1) := by decide +kernel
theorem dX5_findStep_88 : decode cX5_findStep 88 = .ok (.ireturn, 1) := by decide +kernel
theorem dX5_findStep_89 : decode cX5_findStep 89 = .ok (.aload_n 0, 1) := by decide +kernel
theorem dX5_findStep_90 : decode cX5_findStep 90 = .ok (.dup, 1) := by decide +kernel
theorem dX5_findStep_91 : decode cX5_findStep 91 = .ok (.getfield 9, 3) := by decide +kernel
theorem dX5_findStep_94 : decode cX5_findStep 94 = .ok (.iconst 1, 1) := by decide +kernel
theorem dX5_findStep_95 : decode cX5_findStep 95 = .ok (.iadd, 1) := by decide +kernel
theorem dX5_findStep_96 : decode cX5_findStep 96 = .ok (.putfield 9, 3) := by decide +kernel
theorem dX5_findStep_99 : decode cX5_findStep 99 = .ok (.goto (-69), 3) := by decide +kernel
theorem dX5_findStep_102 : decode cX5_findStep 102 = .ok (.aload_n 0, 1) := by decide +kernel
theorem dX5_findStep_103 : decode cX5_findStep 103 = .ok (.iconst 0, 1) := by decide +kernel
theorem dX5_findStep_104 : decode cX5_findStep 104 = .ok (.putfield 9, 3) := by decide +kernel
theorem dX5_findStep_107 : decode cX5_findStep 107 = .ok (.aload_n 0, 1) := by decide +kernel
theorem dX5_findStep_108 : decode cX5_findStep 108 = .ok (.dup, 1) := by decide +kernel
theorem dX5_findStep_109 : decode cX5_findStep 109 = .ok (.getfield 15, 3) := by decide +kernel
theorem dX5_findStep_112 : decode cX5_findStep 112 = .ok (.iconst 1, 1) := by decide +kernel
theorem dX5_findStep_113 : decode cX5_findStep 113 = .ok (.iadd, 1) := by decide +kernel
theorem dX5_findStep_114 : decode cX5_findStep 114 = .ok (.putfield 15, 3) := by decide +kernel
theorem dX5_findStep_117 : decode cX5_findStep 117 = .ok (.goto (-98), 3) := by decide +kernel
theorem dX5_findStep_120 : decode cX5_findStep 120 = .ok (.iconst 0, 1) := by decide +kernel
theorem dX5_findStep_121 : decode cX5_findStep 121 = .ok (.ireturn, 1) := by decide +kernel
set_option maxRecDepth 20000 in
theorem ggX5_makeSteps_X5_begin : GoodIn wsX5_makeSteps wsX5_begin := goodIn_r _ [7, 1, 2, 79, 80] rfl (by decide +kernel)
set_option maxRecDepth 20000 in
theorem gX5_makeSteps_X5_begin : GoodIn wsX5_makeSteps (wsV RX5 44 RX5 yX5_begin wsX5_begin) := goodIn_app (goodIn_r _ [3, 4, 5, 6] rfl (by decide +kernel)) ggX5_makeSteps_X5_begin
set_option maxRecDepth 20000 in
theorem ggX5_makeSteps_X5_findStep : GoodIn wsX5_makeSteps wsX5_findStep := goodIn_r _ [11, 2, 12, 1, 13, 14, 15, 16, 17, 18, 19, 20, 21, 22, 23, 24, 25, 26, 27, 28, 29, 30, 31, 32, 33, 34, 35, 36, 37, 38, 39, 40, 41, 42, 43, 44, 45, 46, 47, 48, 49, 50, 51, 52, 53, 54, 55, 79, 80, 81, 82, 83, 84, 85, 86, 87, 88] rfl (by decide +kernel)
set_option maxRecDepth 20000 in
theorem gX5_makeSteps_X5_findStep : GoodIn wsX5_makeSteps (wsV RX5 47 RX5 yX5_findStep wsX5_findStep) := goodIn_app (goodIn_r _ [8, 9, 10, 6] rfl (by decide +kernel)) ggX5_makeSteps_X5_findStep
set_option maxRecDepth 20000 in
theorem ggX5_makeSteps_X0_addResolvent : GoodIn wsX5_makeSteps wsX0_addResolvent := goodIn_r _ [59, 23, 60, 61, 62, 63, 64, 65, 66, 67, 29, 30, 31, 16, 32, 24, 68, 41, 42, 43, 69, 45, 46, 47, 70, 71, 72, 73, 18, 74, 14, 15, 17, 75, 76, 35, 77, 78, 81, 82, 83, 84, 85, 86, 87, 88] rfl (by decide +kernel)
set_option maxRecDepth 20000 in
theorem gX5_makeSteps_X0_addResolvent : GoodIn wsX5_makeSteps (wsV RX5 51 RX0 yX0_addResolvent wsX0_addResolvent) := goodIn_app (goodIn_r _ [56, 57, 58, 16] rfl (by decide +kernel)) ggX5_makeSteps_X0_addResolvent
theorem dX5_makeSteps_0 : decode cX5_makeSteps 0 = .ok (.aload_n 0, 1) := by decide +kernel
theorem dX5_makeSteps_1 : decode cX5_makeSteps 1 = .ok (.invokevirtual 44, 3) := by decide +kernel
theorem dX5_makeSteps_4 : decode cX5_makeSteps 4 = .ok (.iconst 0, 1) := by decide +kernel
theorem dX5_makeSteps_5 : decode cX5_makeSteps 5 = .ok (.istore_n 3, 1) := by decide +kernel
theorem dX5_makeSteps_6 : decode cX5_makeSteps 6 = .ok (.iload_n 3, 1) := by decide +kernel
theorem dX5_makeSteps_7 : decode cX5_makeSteps 7 = .ok (.iload_n 2, 1) := by decide +kernel
theorem dX5_makeSteps_8 : decode cX5_makeSteps 8 = .ok (.if_icmp .ge 30, 3) := by decide +kernel
theorem dX5_makeSteps_11 : decode cX5_makeSteps 11 = .ok (.aload_n 0, 1) := by decide +kernel
theorem dX5_makeSteps_12 : decode cX5_makeSteps 12 = .ok (.aload_n 1, 1) := by decide +kernel
theorem dX5_makeSteps_13 : decode cX5_makeSteps 13 = .ok (.invokevirtual 47, 3) := by decide +kernel
theorem dX5_makeSteps_16 : decode cX5_makeSteps 16 = .ok (.ifCond .eq 22, 3) := by decide +kernel
theorem dX5_makeSteps_19 : decode cX5_makeSteps 19 = .ok (.aload_n 1, 1) := by decide +kernel
theorem dX5_makeSteps_20 : decode cX5_makeSteps 20 = .ok (.aload_n 0, 1) := by decide +kernel
theorem dX5_makeSteps_21 : decode cX5_makeSteps 21 = .ok (.getfield 9, 3) := by decide +kernel
theorem dX5_makeSteps_24 : decode cX5_makeSteps 24 = .ok (.aload_n 0, 1) := by decide +kernel
theorem dX5_makeSteps_25 : decode cX5_makeSteps 25 = .ok (.getfield 15, 3) := by decide +kernel
theorem dX5_makeSteps_28 : decode cX5_makeSteps 28 = .ok (.invokevirtual 51, 3) := by decide +kernel
theorem dX5_makeSteps_31 : decode cX5_makeSteps 31 = .ok (.pop, 1) := by decide +kernel
theorem dX5_makeSteps_32 : decode cX5_makeSteps 32 = .ok (.iinc 3 1, 3) := by decide +kernel
theorem dX5_makeSteps_35 : decode cX5_makeSteps 35 = .ok (.goto (-29), 3) := by decide +kernel
theorem dX5_makeSteps_38 : decode cX5_makeSteps 38 = .ok (.iload_n 3, 1) := by decide +kernel
theorem dX5_makeSteps_39 : decode cX5_makeSteps 39 = .ok (.ireturn, 1) := by decide +kernel
set_option maxRecDepth 20000 in
theorem ggX6_init_X7_init : GoodIn wsX6_init wsX7_init := goodIn_r _ [26, 27, 2, 3, 28, 29, 30, 31, 32, 33, 56, 57, 58, 59, 60] rfl (by decide +kernel)
set_option maxRecDepth 20000 in
theorem gX6_init_X7_init_n11 : GoodIn wsX6_init (wsX7_init) := ggX6_init_X7_init
set_option maxRecDepth 20000 in
theorem ggX6_init_X0_init : GoodIn wsX6_init wsX0_init := goodIn_r _ [35, 36, 2, 3, 37, 38, 39, 40, 41, 42, 43, 44, 45, 70, 71, 72, 73, 74, 75, 76, 77] rfl (by decide +kernel)
set_option maxRecDepth 20000 in
theorem gX6_init_X0_init_n20 : GoodIn wsX6_init (wsX0_init) := ggX6_init_X0_init
set_option maxRecDepth 20000 in
theorem ggX6_init_X5_init : GoodIn wsX6_init wsX5_init := goodIn_r _ [47, 48, 2, 3, 49, 50, 78, 79] rfl (by decide +kernel)
set_option maxRecDepth 20000 in
theorem gX6_init_X5_init_n27 : GoodIn wsX6_init (wsX5_init) := ggX6_init_X5_init
set_option maxRecDepth 20000 in
theorem ggX6_init_X4_init : GoodIn wsX6_init wsX4_init := goodIn_r _ [52, 53, 2, 3, 54, 55, 80, 81] rfl (by decide +kernel)
set_option maxRecDepth 20000 in
theorem gX6_init_X4_init_n34 : GoodIn wsX6_init (wsX4_init) := ggX6_init_X4_init
theorem dX6_init_0 : decode cX6_init 0 = .ok (.aload_n 0, 1) := by decide +kernel
theorem dX6_init_1 : decode cX6_init 1 = .ok (.invokespecial 3, 3) := by decide +kernel
theorem dX6_init_4 : decode cX6_init 4 = .ok (.aload_n 0, 1) := by decide +kernel
theorem dX6_init_5 : decode cX6_init 5 = .ok (.new 9, 3) := by decide +kernel
theorem dX6_init_8 : decode cX6_init 8 = .ok (.dup, 1) := by decide +kernel
theorem dX6_init_9 : decode cX6_init 9 = .ok (.invokespecial 11, 3) := by decide +kernel
theorem dX6_init_12 : decode cX6_init 12 = .ok (.putfield 12, 3) := by decide +kernel
theorem dX6_init_15 : decode cX6_init 15 = .ok (.aload_n 0, 1) := by decide +kernel
theorem dX6_init_16 : decode cX6_init 16 = .ok (.new 18, 3) := by decide +kernel
theorem dX6_init_19 : decode cX6_init 19 = .ok (.dup, 1) := by decide +kernel
theorem dX6_init_20 : decode cX6_init 20 = .ok (.invokespecial 20, 3) := by decide +kernel
theorem dX6_init_23 : decode cX6_init 23 = .ok (.putfield 21, 3) := by decide +kernel
theorem dX6_init_26 : decode cX6_init 26 = .ok (.aload_n 0, 1) := by decide +kernel
theorem dX6_init_27 : decode cX6_init 27 = .ok (.new 25, 3) := by decide +kernel
theorem dX6_init_30 : decode cX6_init 30 = .ok (.dup, 1) := by decide +kernel
theorem dX6_init_31 : decode cX6_init 31 = .ok (.invokespecial 27, 3) := by decide +kernel
theorem dX6_init_34 : decode cX6_init 34 = .ok (.putfield 28, 3) := by decide +kernel
theorem dX6_init_37 : decode cX6_init 37 = .ok (.aload_n 0, 1) := by decide +kernel
theorem dX6_init_38 : decode cX6_init 38 = .ok (.new 32, 3) := by decide +kernel
theorem dX6_init_41 : decode cX6_init 41 = .ok (.dup, 1) := by decide +kernel
theorem dX6_init_42 : decode cX6_init 42 = .ok (.invokespecial 34, 3) := by decide +kernel
theorem dX6_init_45 : decode cX6_init 45 = .ok (.putfield 35, 3) := by decide +kernel
theorem dX6_init_48 : decode cX6_init 48 = .ok (.aload_n 0, 1) := by decide +kernel
theorem dX6_init_49 : decode cX6_init 49 = .ok (.iconst 0, 1) := by decide +kernel
theorem dX6_init_50 : decode cX6_init 50 = .ok (.putfield 39, 3) := by decide +kernel
theorem dX6_init_53 : decode cX6_init 53 = .ok (.aload_n 0, 1) := by decide +kernel
theorem dX6_init_54 : decode cX6_init 54 = .ok (.iconst (-1), 1) := by decide +kernel
theorem dX6_init_55 : decode cX6_init 55 = .ok (.putfield 43, 3) := by decide +kernel
theorem dX6_init_58 : decode cX6_init 58 = .ok (.aload_n 0, 1) := by decide +kernel
theorem dX6_init_59 : decode cX6_init 59 = .ok (.iconst 0, 1) := by decide +kernel
theorem dX6_init_60 : decode cX6_init 60 = .ok (.putfield 46, 3) := by decide +kernel
theorem dX6_init_63 : decode cX6_init 63 = .ok (.aload_n 0, 1) := by decide +kernel
theorem dX6_init_64 : decode cX6_init 64 = .ok (.iconst 0, 1) := by decide +kernel
theorem dX6_init_65 : decode cX6_init 65 = .ok (.putfield 49, 3) := by decide +kernel
theorem dX6_init_68 : decode cX6_init 68 = .ok (.aload_n 0, 1) := by decide +kernel
theorem dX6_init_69 : decode cX6_init 69 = .ok (.iconst 0, 1) := by decide +kernel
theorem dX6_init_70 : decode cX6_init 70 = .ok (.putfield 52, 3) := by decide +kernel
theorem dX6_init_73 : decode cX6_init 73 = .ok (.return_, 1) := by decide +kernel
set_option maxRecDepth 20000 in
theorem ggX6_begin_X7_begin : GoodIn wsX6_begin wsX7_begin := goodIn_r _ [9, 10, 11, 12, 13, 8, 14, 15, 16, 17, 18, 28, 29, 30, 31, 32] rfl (by decide +kernel)
set_option maxRecDepth 20000 in
theorem gX6_begin_X7_begin : GoodIn wsX6_begin (wsV RX6 55 RX7 yX7_begin wsX7_begin) := goodIn_app (goodIn_r _ [5, 6, 7, 8] rfl (by decide +kernel)) ggX6_begin_X7_begin
theorem dX6_begin_0 : decode cX6_begin 0 = .ok (.aload_n 0, 1) := by decide +kernel
theorem dX6_begin_1 : decode cX6_begin 1 = .ok (.iconst 0, 1) := by decide +kernel
theorem dX6_begin_2 : decode cX6_begin 2 = .ok (.putfield 39, 3) := by decide +kernel
theorem dX6_begin_5 : decode cX6_begin 5 = .ok (.aload_n 0, 1) := by decide +kernel
theorem dX6_begin_6 : decode cX6_begin 6 = .ok (.iconst (-1), 1) := by decide +kernel
theorem dX6_begin_7 : decode cX6_begin 7 = .ok (.putfield 43, 3) := by decide +kernel
theorem dX6_begin_10 : decode cX6_begin 10 = .ok (.aload_n 0, 1) := by decide +kernel
theorem dX6_begin_11 : decode cX6_begin 11 = .ok (.iconst 0, 1) := by decide +kernel
theorem dX6_begin_12 : decode cX6_begin 12 = .ok (.putfield 46, 3) := by decide +kernel
theorem dX6_begin_15 : decode cX6_begin 15 = .ok (.aload_n 0, 1) := by decide +kernel
theorem dX6_begin_16 : decode cX6_begin 16 = .ok (.getfield 12, 3) := by decide +kernel
theorem dX6_begin_19 : decode cX6_begin 19 = .ok (.invokevirtual 55, 3) := by decide +kernel
theorem dX6_begin_22 : decode cX6_begin 22 = .ok (.return_, 1) := by decide +kernel
theorem dX6_end_0 : decode cX6_end 0 = .ok (.aload_n 0, 1) := by decide +kernel
theorem dX6_end_1 : decode cX6_end 1 = .ok (.getfield 12, 3) := by decide +kernel
theorem dX6_end_4 : decode cX6_end 4 = .ok (.iconst 0, 1) := by decide +kernel
theorem dX6_end_5 : decode cX6_end 5 = .ok (.putfield 58, 3) := by decide +kernel
theorem dX6_end_8 : decode cX6_end 8 = .ok (.return_, 1) := by decide +kernel
theorem dX6_isFailed_0 : decode cX6_isFailed 0 = .ok (.aload_n 0, 1) := by decide +kernel
theorem dX6_isFailed_1 : decode cX6_isFailed 1 = .ok (.getfield 39, 3) := by decide +kernel
theorem dX6_isFailed_4 : decode cX6_isFailed 4 = .ok (.ifCond .eq 7, 3) := by decide +kernel
theorem dX6_isFailed_7 : decode cX6_isFailed 7 = .ok (.iconst 1, 1) := by decide +kernel
theorem dX6_isFailed_8 : decode cX6_isFailed 8 = .ok (.goto 4, 3) := by decide +kernel
theorem dX6_isFailed_11 : decode cX6_isFailed 11 = .ok (.iconst 0, 1) := by decide +kernel
theorem dX6_isFailed_12 : decode cX6_isFailed 12 = .ok (.ireturn, 1) := by decide +kernel
theorem dX6_fail_0 : decode cX6_fail 0 = .ok (.aload_n 0, 1) := by decide +kernel
theorem dX6_fail_1 : decode cX6_fail 1 = .ok (.getfield 39, 3) := by decide +kernel
theorem dX6_fail_4 : decode cX6_fail 4 = .ok (.ifCond .ne 13, 3) := by decide +kernel
theorem dX6_fail_7 : decode cX6_fail 7 = .ok (.aload_n 0, 1) := by decide +kernel
theorem dX6_fail_8 : decode cX6_fail 8 = .ok (.iload_n 1, 1) := by decide +kernel
theorem dX6_fail_9 : decode cX6_fail 9 = .ok (.putfield 39, 3) := by decide +kernel
theorem dX6_fail_12 : decode cX6_fail 12 = .ok (.aload_n 0, 1) := by decide +kernel
theorem dX6_fail_13 : decode cX6_fail 13 = .ok (.iload_n 2, 1) := by decide +kernel
theorem dX6_fail_14 : decode cX6_fail 14 = .ok (.putfield 43, 3) := by decide +kernel
theorem dX6_fail_17 : decode cX6_fail 17 = .ok (.return_, 1) := by decide +kernel
set_option maxRecDepth 20000 in
theorem ggX6_readHeader_X7_isWord : GoodIn wsX6_readHeader wsX7_isWord := goodIn_r _ [8, 9, 10, 11, 12, 13, 14, 15, 16, 17, 18, 19, 20, 21, 22, 23, 24, 25, 26, 27, 28, 29, 30, 31, 32, 33, 34, 35, 36, 37, 38, 39, 40, 41, 42, 43, 44, 45, 46, 47, 48, 49, 50, 51, 52, 53, 54, 55, 56, 57, 58, 59, 60, 61, 62, 107, 108, 109, 110, 111] rfl (by decide +kernel)
set_option maxRecDepth 20000 in
theorem gX6_readHeader_X7_isWord : GoodIn wsX6_readHeader (wsV RX6 63 RX7 yX7_isWord wsX7_isWord) := goodIn_app (goodIn_r _ [4, 5, 6, 7] rfl (by decide +kernel)) ggX6_readHeader_X7_isWord
set_option maxRecDepth 20000 in
theorem ggX6_readHeader_X6_fail : GoodIn wsX6_readHeader wsX6_fail := goodIn_r _ [67, 68, 69, 98, 99, 100, 101, 102, 103, 104, 105, 106] rfl (by decide +kernel)
set_option maxRecDepth 20000 in
theorem gX6_readHeader_X6_fail : GoodIn wsX6_readHeader (wsV RX6 70 RX6 yX6_fail wsX6_fail) := goodIn_app (goodIn_r _ [63, 64, 65, 66] rfl (by decide +kernel)) ggX6_readHeader_X6_fail
set_option maxRecDepth 20000 in
theorem ggX6_readHeader_X7_advance : GoodIn wsX6_readHeader wsX7_advance := goodIn_r _ [73, 10, 11, 12, 13, 9, 107, 108, 109, 110, 111] rfl (by decide +kernel)
set_option maxRecDepth 20000 in
theorem gX6_readHeader_X7_advance : GoodIn wsX6_readHeader (wsV RX6 74 RX7 yX7_advance wsX7_advance) := goodIn_app (goodIn_r _ [70, 71, 72, 7] rfl (by decide +kernel)) ggX6_readHeader_X7_advance
set_option maxRecDepth 20000 in
theorem ggX6_readHeader_X6_readNumber : GoodIn wsX6_readHeader wsX6_readNumber := goodIn_r _ [77, 1, 78, 2, 79, 80, 81, 66, 82, 68, 63, 64, 65, 67, 69, 83, 84, 85, 7, 86, 10, 11, 12, 13, 70, 71, 72, 73, 9, 98, 99, 100, 101, 102, 103, 104, 105, 106, 107, 108, 109, 110, 111] rfl (by decide +kernel)
set_option maxRecDepth 20000 in
theorem gX6_readHeader_X6_readNumber : GoodIn wsX6_readHeader (wsV RX6 77 RX6 yX6_readNumber wsX6_readNumber) := goodIn_app (goodIn_r _ [74, 75, 76, 66] rfl (by decide +kernel)) ggX6_readHeader_X6_readNumber
set_option maxRecDepth 20000 in
theorem ggX6_readHeader_X6_readSemicolon : GoodIn wsX6_readHeader wsX6_readSemicolon := goodIn_r _ [90, 1, 78, 2, 79, 80, 81, 66, 82, 68, 63, 64, 65, 67, 69, 70, 71, 72, 7, 73, 10, 11, 12, 13, 9, 98, 99, 100, 101, 102, 103, 104, 105, 106, 107, 108, 109, 110, 111] rfl (by decide +kernel)
set_option maxRecDepth 20000 in
theorem gX6_readHeader_X6_readSemicolon : GoodIn wsX6_readHeader (wsV RX6 81 RX6 yX6_readSemicolon wsX6_readSemicolon) := goodIn_app (goodIn_r _ [87, 88, 89, 66] rfl (by decide +kernel)) ggX6_readHeader_X6_readSemicolon
set_option maxRecDepth 20000 in
theorem ggX6_readHeader_X6_isFailed : GoodIn wsX6_readHeader wsX6_isFailed := goodIn_r _ [82, 68, 98, 99, 100, 101, 102, 103, 104, 105, 106] rfl (by decide +kernel)
set_option maxRecDepth 20000 in
theorem gX6_readHeader_X6_isFailed : GoodIn wsX6_readHeader (wsV RX6 84 RX6 yX6_isFailed wsX6_isFailed) := goodIn_app (goodIn_r _ [79, 80, 81, 66] rfl (by decide +kernel)) ggX6_readHeader_X6_isFailed
set_option maxRecDepth 20000 in
theorem ggX6_readHeader_X0_begin : GoodIn wsX6_readHeader wsX0_begin := goodIn_r _ [95, 96, 97, 112, 113, 114, 115, 116, 117, 118, 119] rfl (by decide +kernel)
set_option maxRecDepth 20000 in
theorem gX6_readHeader_X0_begin : GoodIn wsX6_readHeader (wsV RX6 88 RX0 yX0_begin wsX0_begin) := goodIn_app (goodIn_r _ [91, 92, 93, 94] rfl (by decide +kernel)) ggX6_readHeader_X0_begin
theorem dX6_readHeader_0 : decode cX6_readHeader 0 = .ok (.aload_n 0, 1) := by decide +kernel
theorem dX6_readHeader_1 : decode cX6_readHeader 1 = .ok (.getfield 12, 3) := by decide +kernel
theorem dX6_readHeader_4 : decode cX6_readHeader 4 = .ok (.ldc 61, 2) := by decide +kernel
theorem dX6_readHeader_6 : decode cX6_readHeader 6 = .ok (.invokevirtual 63, 3) := by decide +kernel
theorem dX6_readHeader_9 : decode cX6_readHeader 9 = .ok (.ifCond .ne 16, 3) := by decide +kernel
theorem dX6_readHeader_12 : decode cX6_readHeader 12 = .ok (.aload_n 0, 1) := by decide +kernel
theorem dX6_readHeader_13 : decode cX6_readHeader 13 = .ok (.iconst 1, 1) := by decide +kernel
theorem dX6_readHeader_14 : decode cX6_readHeader 14 = .ok (.aload_n 0, 1) := by decide +kernel
theorem dX6_readHeader_15 : decode cX6_readHeader 15 = .ok (.getfield 12, 3) := by decide +kernel
theorem dX6_readHeader_18 : decode cX6_readHeader 18 = .ok (.getfield 67, 3) := by decide +kernel
theorem dX6_readHeader_21 : decode cX6_readHeader 21 = .ok (.invokevirtual 70, 3) := by decide +kernel
theorem dX6_readHeader_24 : decode cX6_readHeader 24 = .ok (.return_, 1) := by decide +kernel
theorem dX6_readHeader_25 : decode cX6_readHeader 25 = .ok (.aload_n 0, 1) := by decide +kernel
theorem dX6_readHeader_26 : decode cX6_readHeader 26 = .ok (.getfield 12, 3) := by decide +kernel
theorem dX6_readHeader_29 : decode cX6_readHeader 29 = .ok (.invokevirtual 74, 3) := by decide +kernel
theorem dX6_readHeader_32 : decode cX6_readHeader 32 = .ok (.aload_n 0, 1) := by decide +kernel
theorem dX6_readHeader_33 : decode cX6_readHeader 33 = .ok (.iconst 1, 1) := by decide +kernel
theorem dX6_readHeader_34 : decode cX6_readHeader 34 = .ok (.bipush 12, 2) := by decide +kernel
theorem dX6_readHeader_36 : decode cX6_readHeader 36 = .ok (.invokevirtual 77, 3) := by decide +kernel
theorem dX6_readHeader_39 : decode cX6_readHeader 39 = .ok (.istore_n 1, 1) := by decide +kernel
theorem dX6_readHeader_40 : decode cX6_readHeader 40 = .ok (.aload_n 0, 1) := by decide +kernel
theorem dX6_readHeader_41 : decode cX6_readHeader 41 = .ok (.invokevirtual 81, 3) := by decide +kernel
theorem dX6_readHeader_44 : decode cX6_readHeader 44 = .ok (.aload_n 0, 1) := by decide +kernel
theorem dX6_readHeader_45 : decode cX6_readHeader 45 = .ok (.invokevirtual 84, 3) := by decide +kernel
theorem dX6_readHeader_48 : decode cX6_readHeader 48 = .ok (.ifCond .ne 11, 3) := by decide +kernel
theorem dX6_readHeader_51 : decode cX6_readHeader 51 = .ok (.aload_n 0, 1) := by decide +kernel
theorem dX6_readHeader_52 : decode cX6_readHeader 52 = .ok (.getfield 21, 3) := by decide +kernel
theorem dX6_readHeader_55 : decode cX6_readHeader 55 = .ok (.iload_n 1, 1) := by decide +kernel
theorem dX6_readHeader_56 : decode cX6_readHeader 56 = .ok (.invokevirtual 88, 3) := by decide +kernel
theorem dX6_readHeader_59 : decode cX6_readHeader 59 = .ok (.return_, 1) := by decide +kernel
set_option maxRecDepth 20000 in
theorem ggX6_readCommands_X6_isFailed : GoodIn wsX6_readCommands wsX6_isFailed := goodIn_r _ [9, 10, 327, 328, 329, 330, 331, 332, 333, 334, 335] rfl (by decide +kernel)
set_option maxRecDepth 20000 in
theorem gX6_readCommands_X6_isFailed : GoodIn wsX6_readCommands (wsV RX6 84 RX6 yX6_isFailed wsX6_isFailed) := goodIn_app (goodIn_r _ [5, 6, 7, 8] rfl (by decide +kernel)) ggX6_readCommands_X6_isFailed
set_option maxRecDepth 20000 in
theorem ggX6_readCommands_X7_isWord : GoodIn wsX6_readCommands wsX7_isWord := goodIn_r _ [15, 16, 17, 18, 19, 20, 21, 22, 23, 24, 25, 26, 27, 28, 29, 30, 31, 32, 33, 34, 35, 36, 37, 38, 39, 40, 41, 42, 43, 44, 45, 46, 47, 48, 49, 50, 51, 52, 53, 54, 55, 56, 57, 58, 59, 60, 61, 62, 63, 64, 65, 66, 67, 68, 69, 336, 337, 338, 339, 340] rfl (by decide +kernel)
set_option maxRecDepth 20000 in
theorem gX6_readCommands_X7_isWord : GoodIn wsX6_readCommands (wsV RX6 63 RX7 yX7_isWord wsX7_isWord) := goodIn_app (goodIn_r _ [11, 12, 13, 14] rfl (by decide +kernel)) ggX6_readCommands_X7_isWord
set_option maxRecDepth 20000 in
theorem ggX6_readCommands_X6_readClause : GoodIn wsX6_readCommands wsX6_readClause := goodIn_r _ [73, 1, 3, 74, 75, 76, 77, 78, 79, 80, 81, 82, 83, 84, 85, 8, 86, 10, 87, 88, 89, 90, 14, 91, 17, 18, 19, 20, 16, 92, 93, 94, 95, 2, 5, 6, 7, 9, 96, 97, 98, 99, 100, 101, 102, 103, 104, 105, 106, 107, 108, 109, 110, 111, 112, 113, 114, 115, 116, 117, 118, 119, 120, 121, 122, 123, 327, 328, 329, 330, 331, 332, 333, 334, 335, 336, 337, 338, 339, 340, 341, 342, 343, 344, 345, 346, 347, 348] rfl (by decide +kernel)
set_option maxRecDepth 20000 in
theorem gX6_readCommands_X6_readClause : GoodIn wsX6_readCommands (wsV RX6 96 RX6 yX6_readClause wsX6_readClause) := goodIn_app (goodIn_r _ [70, 71, 72, 8] rfl (by decide +kernel)) ggX6_readCommands_X6_readClause
set_option maxRecDepth 20000 in
theorem ggX6_readCommands_X6_readResolve : GoodIn wsX6_readCommands wsX6_readResolve := goodIn_r _ [127, 1, 3, 74, 88, 89, 90, 14, 91, 17, 18, 19, 20, 16, 128, 129, 130, 8, 131, 132, 133, 134, 135, 136, 2, 5, 6, 7, 9, 10, 83, 84, 85, 86, 87, 137, 138, 139, 140, 141, 142, 143, 80, 144, 145, 146, 147, 148, 113, 114, 149, 150, 151, 152, 153, 154, 155, 156, 157, 158, 159, 160, 161, 162, 163, 164, 165, 166, 167, 123, 78, 79, 81, 82, 168, 110, 111, 112, 169, 170, 171, 172, 122, 173, 174, 175, 176, 119, 120, 121, 177, 116, 117, 118, 178, 179, 180, 181, 327, 328, 329, 330, 331, 332, 333, 334, 335, 336, 337, 338, 339, 340, 341, 342, 343, 344, 345, 346, 347, 348] rfl (by decide +kernel)
set_option maxRecDepth 20000 in
theorem gX6_readCommands_X6_readResolve : GoodIn wsX6_readCommands (wsV RX6 101 RX6 yX6_readResolve wsX6_readResolve) := goodIn_app (goodIn_r _ [124, 125, 126, 8] rfl (by decide +kernel)) ggX6_readCommands_X6_readResolve
set_option maxRecDepth 20000 in
theorem ggX6_readCommands_X6_readSaturate : GoodIn wsX6_readCommands wsX6_readSaturate := goodIn_r _ [185, 1, 186, 74, 88, 89, 90, 14, 91, 17, 18, 19, 20, 16, 133, 134, 135, 8, 136, 2, 3, 5, 6, 7, 9, 10, 83, 84, 85, 86, 87, 137, 138, 139, 140, 187, 188, 189, 190, 191, 192, 193, 194, 195, 196, 197, 198, 199, 200, 201, 202, 203, 78, 79, 80, 81, 82, 204, 110, 111, 112, 113, 114, 205, 142, 143, 144, 145, 146, 147, 148, 149, 150, 151, 152, 153, 154, 155, 206, 161, 162, 163, 207, 165, 166, 167, 208, 209, 210, 211, 212, 213, 214, 215, 216, 170, 171, 172, 122, 173, 174, 175, 176, 119, 120, 121, 160, 164, 177, 116, 117, 118, 123, 178, 179, 180, 181, 327, 328, 329, 330, 331, 332, 333, 334, 335, 336, 337, 338, 339, 340, 349, 350, 341, 342, 343, 344, 345, 346, 347, 348] rfl (by decide +kernel)
set_option maxRecDepth 20000 in
theorem gX6_readCommands_X6_readSaturate : GoodIn wsX6_readCommands (wsV RX6 106 RX6 yX6_readSaturate wsX6_readSaturate) := goodIn_app (goodIn_r _ [182, 183, 184, 8] rfl (by decide +kernel)) ggX6_readCommands_X6_readSaturate
set_option maxRecDepth 20000 in
theorem ggX6_readCommands_X6_readDrop : GoodIn wsX6_readCommands wsX6_readDrop := goodIn_r _ [220, 1, 3, 74, 88, 89, 90, 14, 91, 17, 18, 19, 20, 16, 128, 129, 130, 8, 131, 132, 133, 134, 135, 136, 2, 5, 6, 7, 9, 10, 83, 84, 85, 86, 87, 137, 138, 139, 140, 221, 222, 223, 80, 224, 82, 119, 120, 225, 226, 227, 228, 113, 114, 121, 122, 327, 328, 329, 330, 331, 332, 333, 334, 335, 336, 337, 338, 339, 340, 341, 342, 343, 344, 345, 346, 347, 348] rfl (by decide +kernel)
set_option maxRecDepth 20000 in
theorem gX6_readCommands_X6_readDrop : GoodIn wsX6_readCommands (wsV RX6 111 RX6 yX6_readDrop wsX6_readDrop) := goodIn_app (goodIn_r _ [217, 218, 219, 8] rfl (by decide +kernel)) ggX6_readCommands_X6_readDrop
set_option maxRecDepth 20000 in
theorem ggX6_readCommands_X6_readNegate : GoodIn wsX6_readCommands wsX6_readNegate := goodIn_r _ [232, 1, 74, 88, 89, 90, 14, 91, 17, 18, 19, 20, 16, 100, 101, 102, 8, 103, 3, 104, 105, 106, 107, 108, 83, 84, 85, 86, 10, 87, 233, 234, 235, 80, 236, 82, 113, 114, 121, 119, 120, 327, 328, 329, 330, 331, 332, 333, 334, 335, 336, 337, 338, 339, 340, 341, 342, 343, 344, 345, 346, 347, 348] rfl (by decide +kernel)
set_option maxRecDepth 20000 in
theorem gX6_readCommands_X6_readNegate : GoodIn wsX6_readCommands (wsV RX6 116 RX6 yX6_readNegate wsX6_readNegate) := goodIn_app (goodIn_r _ [229, 230, 231, 8] rfl (by decide +kernel)) ggX6_readCommands_X6_readNegate
set_option maxRecDepth 20000 in
theorem ggX6_readCommands_X6_readInvert : GoodIn wsX6_readCommands wsX6_readInvert := goodIn_r _ [240, 1, 74, 104, 88, 89, 90, 14, 91, 17, 18, 19, 20, 16, 233, 234, 235, 80, 236, 82, 113, 114, 121, 119, 120, 327, 328, 329, 330, 331, 332, 333, 334, 335, 341, 342, 343, 344, 345, 346, 347, 348, 336, 337, 338, 339, 340] rfl (by decide +kernel)
set_option maxRecDepth 20000 in
theorem gX6_readCommands_X6_readInvert : GoodIn wsX6_readCommands (wsV RX6 121 RX6 yX6_readInvert wsX6_readInvert) := goodIn_app (goodIn_r _ [237, 238, 239, 8] rfl (by decide +kernel)) ggX6_readCommands_X6_readInvert
set_option maxRecDepth 20000 in
theorem ggX6_readCommands_X6_readReduce : GoodIn wsX6_readCommands wsX6_readReduce := goodIn_r _ [244, 1, 74, 88, 89, 90, 14, 91, 17, 18, 19, 20, 16, 245, 246, 247, 80, 248, 249, 250, 251, 252, 82, 253, 222, 223, 224, 119, 120, 254, 255, 256, 257, 113, 114, 212, 213, 214, 215, 258, 226, 227, 228, 121, 122, 327, 328, 329, 330, 331, 332, 333, 334, 335, 336, 337, 338, 339, 340, 341, 342, 343, 344, 345, 346, 347, 348] rfl (by decide +kernel)
set_option maxRecDepth 20000 in
theorem gX6_readCommands_X6_readReduce : GoodIn wsX6_readCommands (wsV RX6 126 RX6 yX6_readReduce wsX6_readReduce) := goodIn_app (goodIn_r _ [241, 242, 243, 8] rfl (by decide +kernel)) ggX6_readCommands_X6_readReduce
set_option maxRecDepth 20000 in
theorem ggX6_readCommands_X7_advance : GoodIn wsX6_readCommands wsX7_advance := goodIn_r _ [91, 17, 18, 19, 20, 16, 336, 337, 338, 339, 340] rfl (by decide +kernel)
set_option maxRecDepth 20000 in
theorem gX6_readCommands_X7_advance : GoodIn wsX6_readCommands (wsV RX6 74 RX7 yX7_advance wsX7_advance) := goodIn_app (goodIn_r _ [88, 89, 90, 14] rfl (by decide +kernel)) ggX6_readCommands_X7_advance
set_option maxRecDepth 20000 in
theorem ggX6_readCommands_X6_readCondition : GoodIn wsX6_readCommands wsX6_readCondition := goodIn_r _ [262, 74, 132, 75, 76, 263, 1, 3, 264, 265, 266, 8, 267, 11, 12, 13, 14, 15, 16, 17, 18, 19, 20, 21, 22, 23, 24, 25, 26, 27, 28, 29, 30, 31, 32, 33, 34, 35, 36, 37, 38, 39, 40, 41, 42, 43, 44, 45, 46, 47, 48, 49, 50, 51, 52, 53, 54, 55, 56, 57, 58, 59, 60, 61, 62, 63, 64, 65, 66, 67, 68, 69, 88, 89, 90, 91, 268, 269, 270, 271, 133, 134, 135, 136, 2, 5, 6, 7, 9, 10, 83, 84, 85, 86, 87, 137, 138, 139, 140, 272, 273, 274, 275, 276, 277, 278, 80, 279, 280, 281, 282, 283, 284, 285, 286, 287, 288, 113, 114, 109, 110, 111, 112, 82, 92, 93, 94, 95, 96, 97, 98, 99, 100, 101, 102, 103, 104, 105, 106, 107, 108, 289, 290, 291, 292, 293, 294, 295, 296, 297, 298, 299, 300, 301, 302, 303, 304, 305, 306, 307, 308, 309, 310, 311, 312, 313, 314, 315, 316, 149, 150, 151, 152, 153, 154, 155, 317, 318, 319, 320, 321, 254, 255, 256, 257, 212, 213, 214, 215, 128, 129, 130, 131, 322, 327, 328, 329, 330, 331, 332, 333, 334, 335, 341, 342, 343, 344, 345, 346, 347, 348, 336, 337, 338, 339, 340, 351, 352] rfl (by decide +kernel)
set_option maxRecDepth 20000 in
theorem gX6_readCommands_X6_readCondition : GoodIn wsX6_readCommands (wsV RX6 131 RX6 yX6_readCondition wsX6_readCondition) := goodIn_app (goodIn_r _ [259, 260, 261, 8] rfl (by decide +kernel)) ggX6_readCommands_X6_readCondition
set_option maxRecDepth 20000 in
theorem ggX6_readCommands_X6_fail : GoodIn wsX6_readCommands wsX6_fail := goodIn_r _ [86, 10, 87, 327, 328, 329, 330, 331, 332, 333, 334, 335] rfl (by decide +kernel)
set_option maxRecDepth 20000 in
theorem gX6_readCommands_X6_fail : GoodIn wsX6_readCommands (wsV RX6 70 RX6 yX6_fail wsX6_fail) := goodIn_app (goodIn_r _ [83, 84, 85, 8] rfl (by decide +kernel)) ggX6_readCommands_X6_fail
set_option maxRecDepth 20000 in
theorem ggX6_readCommands_X6_readSemicolon : GoodIn wsX6_readCommands wsX6_readSemicolon := goodIn_r _ [326, 1, 2, 3, 5, 6, 7, 8, 9, 10, 83, 84, 85, 86, 87, 88, 89, 90, 14, 91, 17, 18, 19, 20, 16, 327, 328, 329, 330, 331, 332, 333, 334, 335, 336, 337, 338, 339, 340] rfl (by decide +kernel)
set_option maxRecDepth 20000 in
theorem gX6_readCommands_X6_readSemicolon : GoodIn wsX6_readCommands (wsV RX6 81 RX6 yX6_readSemicolon wsX6_readSemicolon) := goodIn_app (goodIn_r _ [323, 324, 325, 8] rfl (by decide +kernel)) ggX6_readCommands_X6_readSemicolon
theorem dX6_readCommands_0 : decode cX6_readCommands 0 = .ok (.iconst 0, 1) := by decide +kernel
theorem dX6_readCommands_1 : decode cX6_readCommands 1 = .ok (.istore_n 1, 1) := by decide +kernel
theorem dX6_readCommands_2 : decode cX6_readCommands 2 = .ok (.iload_n 1, 1) := by decide +kernel
theorem dX6_readCommands_3 : decode cX6_readCommands 3 = .ok (.sipush 500, 3) := by decide +kernel
theorem dX6_readCommands_6 : decode cX6_readCommands 6 = .ok (.if_icmp .ge 228, 3) := by decide +kernel
theorem dX6_readCommands_9 : decode cX6_readCommands 9 = .ok (.aload_n 0, 1) := by decide +kernel
theorem dX6_readCommands_10 : decode cX6_readCommands 10 = .ok (.invokevirtual 84, 3) := by decide +kernel
theorem dX6_readCommands_13 : decode cX6_readCommands 13 = .ok (.ifCond .ne 221, 3) := by decide +kernel
theorem dX6_readCommands_16 : decode cX6_readCommands 16 = .ok (.aload_n 0, 1) := by decide +kernel
theorem dX6_readCommands_17 : decode cX6_readCommands 17 = .ok (.getfield 12, 3) := by decide +kernel
theorem dX6_readCommands_20 : decode cX6_readCommands 20 = .ok (.getfield 91, 3) := by decide +kernel
theorem dX6_readCommands_23 : decode cX6_readCommands 23 = .ok (.ifCond .eq 211, 3) := by decide +kernel
theorem dX6_readCommands_26 : decode cX6_readCommands 26 = .ok (.aload_n 0, 1) := by decide +kernel
theorem dX6_readCommands_27 : decode cX6_readCommands 27 = .ok (.getfield 12, 3) := by decide +kernel
theorem dX6_readCommands_30 : decode cX6_readCommands 30 = .ok (.ldc 94, 2) := by decide +kernel
theorem dX6_readCommands_32 : decode cX6_readCommands 32 = .ok (.invokevirtual 63, 3) := by decide +kernel
theorem dX6_readCommands_35 : decode cX6_readCommands 35 = .ok (.ifCond .eq 10, 3) := by decide +kernel
theorem dX6_readCommands_38 : decode cX6_readCommands 38 = .ok (.aload_n 0, 1) := by decide +kernel
theorem dX6_readCommands_39 : decode cX6_readCommands 39 = .ok (.invokevirtual 96, 3) := by decide +kernel
theorem dX6_readCommands_42 : decode cX6_readCommands 42 = .ok (.goto 172, 3) := by decide +kernel
theorem dX6_readCommands_45 : decode cX6_readCommands 45 = .ok (.aload_n 0, 1) := by decide +kernel
theorem dX6_readCommands_46 : decode cX6_readCommands 46 = .ok (.getfield 12, 3) := by decide +kernel
theorem dX6_readCommands_49 : decode cX6_readCommands 49 = .ok (.ldc 99, 2) := by decide +kernel
theorem dX6_readCommands_51 : decode cX6_readCommands 51 = .ok (.invokevirtual 63, 3) := by decide +kernel
theorem dX6_readCommands_54 : decode cX6_readCommands 54 = .ok (.ifCond .eq 10, 3) := by decide +kernel
theorem dX6_readCommands_57 : decode cX6_readCommands 57 = .ok (.aload_n 0, 1) := by decide +kernel
theorem dX6_readCommands_58 : decode cX6_readCommands 58 = .ok (.invokevirtual 101, 3) := by decide +kernel
theorem dX6_readCommands_61 : decode cX6_readCommands 61 = .ok (.goto 153, 3) := by decide +kernel
theorem dX6_readCommands_64 : decode cX6_readCommands 64 = .ok (.aload_n 0, 1) := by decide +kernel
theorem dX6_readCommands_65 : decode cX6_readCommands 65 = .ok (.getfield 12, 3) := by decide +kernel
theorem dX6_readCommands_68 : decode cX6_readCommands 68 = .ok (.ldc 104, 2) := by decide +kernel
theorem dX6_readCommands_70 : decode cX6_readCommands 70 = .ok (.invokevirtual 63, 3) := by decide +kernel
theorem dX6_readCommands_73 : decode cX6_readCommands 73 = .ok (.ifCond .eq 10, 3) := by decide +kernel
theorem dX6_readCommands_76 : decode cX6_readCommands 76 = .ok (.aload_n 0, 1) := by decide +kernel
theorem dX6_readCommands_77 : decode cX6_readCommands 77 = .ok (.invokevirtual 106, 3) := by decide +kernel
theorem dX6_readCommands_80 : decode cX6_readCommands 80 = .ok (.goto 134, 3) := by decide +kernel
theorem dX6_readCommands_83 : decode cX6_readCommands 83 = .ok (.aload_n 0, 1) := by decide +kernel
theorem dX6_readCommands_84 : decode cX6_readCommands 84 = .ok (.getfield 12, 3) := by decide +kernel
theorem dX6_readCommands_87 : decode cX6_readCommands 87 = .ok (.ldc 109, 2) := by decide +kernel
theorem dX6_readCommands_89 : decode cX6_readCommands 89 = .ok (.invokevirtual 63, 3) := by decide +kernel
theorem dX6_readCommands_92 : decode cX6_readCommands 92 = .ok (.ifCond .eq 10, 3) := by decide +kernel
theorem dX6_readCommands_95 : decode cX6_readCommands 95 = .ok (.aload_n 0, 1) := by decide +kernel
theorem dX6_readCommands_96 : decode cX6_readCommands 96 = .ok (.invokevirtual 111, 3) := by decide +kernel
theorem dX6_readCommands_99 : decode cX6_readCommands 99 = .ok (.goto 115, 3) := by decide +kernel
theorem dX6_readCommands_102 : decode cX6_readCommands 102 = .ok (.aload_n 0, 1) := by decide +kernel
theorem dX6_readCommands_103 : decode cX6_readCommands 103 = .ok (.getfield 12, 3) := by decide +kernel
theorem dX6_readCommands_106 : decode cX6_readCommands 106 = .ok (.ldc 114, 2) := by decide +kernel
theorem dX6_readCommands_108 : decode cX6_readCommands 108 = .ok (.invokevirtual 63, 3) := by decide +kernel
theorem dX6_readCommands_111 : decode cX6_readCommands 111 = .ok (.ifCond .eq 10, 3) := by decide +kernel
theorem dX6_readCommands_114 : decode cX6_readCommands 114 = .ok (.aload_n 0, 1) := by decide +kernel
theorem dX6_readCommands_115 : decode cX6_readCommands 115 = .ok (.invokevirtual 116, 3) := by decide +kernel
theorem dX6_readCommands_118 : decode cX6_readCommands 118 = .ok (.goto 96, 3) := by decide +kernel
theorem dX6_readCommands_121 : decode cX6_readCommands 121 = .ok (.aload_n 0, 1) := by decide +kernel
theorem dX6_readCommands_122 : decode cX6_readCommands 122 = .ok (.getfield 12, 3) := by decide +kernel
theorem dX6_readCommands_125 : decode cX6_readCommands 125 = .ok (.ldc 119, 2) := by decide +kernel
theorem dX6_readCommands_127 : decode cX6_readCommands 127 = .ok (.invokevirtual 63, 3) := by decide +kernel
theorem dX6_readCommands_130 : decode cX6_readCommands 130 = .ok (.ifCond .eq 10, 3) := by decide +kernel
theorem dX6_readCommands_133 : decode cX6_readCommands 133 = .ok (.aload_n 0, 1) := by decide +kernel
theorem dX6_readCommands_134 : decode cX6_readCommands 134 = .ok (.invokevirtual 121, 3) := by decide +kernel
theorem dX6_readCommands_137 : decode cX6_readCommands 137 = .ok (.goto 77, 3) := by decide +kernel
theorem dX6_readCommands_140 : decode cX6_readCommands 140 = .ok (.aload_n 0, 1) := by decide +kernel
theorem dX6_readCommands_141 : decode cX6_readCommands 141 = .ok (.getfield 12, 3) := by decide +kernel
theorem dX6_readCommands_144 : decode cX6_readCommands 144 = .ok (.ldc 124, 2) := by decide +kernel
theorem dX6_readCommands_146 : decode cX6_readCommands 146 = .ok (.invokevirtual 63, 3) := by decide +kernel
theorem dX6_readCommands_149 : decode cX6_readCommands 149 = .ok (.ifCond .eq 10, 3) := by decide +kernel
theorem dX6_readCommands_152 : decode cX6_readCommands 152 = .ok (.aload_n 0, 1) := by decide +kernel
theorem dX6_readCommands_153 : decode cX6_readCommands 153 = .ok (.invokevirtual 126, 3) := by decide +kernel
theorem dX6_readCommands_156 : decode cX6_readCommands 156 = .ok (.goto 58, 3) := by decide +kernel
theorem dX6_readCommands_159 : decode cX6_readCommands 159 = .ok (.aload_n 0, 1) := by decide +kernel
theorem dX6_readCommands_160 : decode cX6_readCommands 160 = .ok (.getfield 12, 3) := by decide +kernel
theorem dX6_readCommands_163 : decode cX6_readCommands 163 = .ok (.ldc 129, 2) := by decide +kernel
theorem dX6_readCommands_165 : decode cX6_readCommands 165 = .ok (.invokevirtual 63, 3) := by decide +kernel
theorem dX6_readCommands_168 : decode cX6_readCommands 168 = .ok (.ifCond .eq 34, 3) := by decide +kernel
theorem dX6_readCommands_171 : decode cX6_readCommands 171 = .ok (.aload_n 0, 1) := by decide +kernel
theorem dX6_readCommands_172 : decode cX6_readCommands 172 = .ok (.getfield 12, 3) := by decide +kernel
theorem dX6_readCommands_175 : decode cX6_readCommands 175 = .ok (.getfield 67, 3) := by decide +kernel
theorem dX6_readCommands_178 : decode cX6_readCommands 178 = .ok (.istore_n 2, 1) := by decide +kernel
theorem dX6_readCommands_179 : decode cX6_readCommands 179 = .ok (.aload_n 0, 1) := by decide +kernel
theorem dX6_readCommands_180 : decode cX6_readCommands 180 = .ok (.getfield 12, 3) := by decide +kernel
theorem dX6_readCommands_183 : decode cX6_readCommands 183 = .ok (.invokevirtual 74, 3) := by decide +kernel
theorem dX6_readCommands_186 : decode cX6_readCommands 186 = .ok (.aload_n 0, 1) := by decide +kernel
theorem dX6_readCommands_187 : decode cX6_readCommands 187 = .ok (.invokevirtual 131, 3) := by decide +kernel
theorem dX6_readCommands_190 : decode cX6_readCommands 190 = .ok (.ifCond .ne 9, 3) := by decide +kernel
theorem dX6_readCommands_193 : decode cX6_readCommands 193 = .ok (.aload_n 0, 1) := by decide +kernel
theorem dX6_readCommands_194 : decode cX6_readCommands 194 = .ok (.iconst 5, 1) := by decide +kernel
theorem dX6_readCommands_195 : decode cX6_readCommands 195 = .ok (.iload_n 2, 1) := by decide +kernel
theorem dX6_readCommands_196 : decode cX6_readCommands 196 = .ok (.invokevirtual 70, 3) := by decide +kernel
theorem dX6_readCommands_199 : decode cX6_readCommands 199 = .ok (.goto 15, 3) := by decide +kernel
theorem dX6_readCommands_202 : decode cX6_readCommands 202 = .ok (.aload_n 0, 1) := by decide +kernel
theorem dX6_readCommands_203 : decode cX6_readCommands 203 = .ok (.iconst 1, 1) := by decide +kernel
theorem dX6_readCommands_204 : decode cX6_readCommands 204 = .ok (.aload_n 0, 1) := by decide +kernel
theorem dX6_readCommands_205 : decode cX6_readCommands 205 = .ok (.getfield 12, 3) := by decide +kernel
theorem dX6_readCommands_208 : decode cX6_readCommands 208 = .ok (.getfield 67, 3) := by decide +kernel
theorem dX6_readCommands_211 : decode cX6_readCommands 211 = .ok (.invokevirtual 70, 3) := by decide +kernel
theorem dX6_readCommands_214 : decode cX6_readCommands 214 = .ok (.aload_n 0, 1) := by decide +kernel
theorem dX6_readCommands_215 : decode cX6_readCommands 215 = .ok (.invokevirtual 81, 3) := by decide +kernel
theorem dX6_readCommands_218 : decode cX6_readCommands 218 = .ok (.aload_n 0, 1) := by decide +kernel
theorem dX6_readCommands_219 : decode cX6_readCommands 219 = .ok (.dup, 1) := by decide +kernel
theorem dX6_readCommands_220 : decode cX6_readCommands 220 = .ok (.getfield 46, 3) := by decide +kernel
theorem dX6_readCommands_223 : decode cX6_readCommands 223 = .ok (.iconst 1, 1) := by decide +kernel
theorem dX6_readCommands_224 : decode cX6_readCommands 224 = .ok (.iadd, 1) := by decide +kernel
theorem dX6_readCommands_225 : decode cX6_readCommands 225 = .ok (.putfield 46, 3) := by decide +kernel
theorem dX6_readCommands_228 : decode cX6_readCommands 228 = .ok (.iinc 1 1, 3) := by decide +kernel
theorem dX6_readCommands_231 : decode cX6_readCommands 231 = .ok (.goto (-229), 3) := by decide +kernel
theorem dX6_readCommands_234 : decode cX6_readCommands 234 = .ok (.return_, 1) := by decide +kernel
set_option maxRecDepth 20000 in
theorem ggX6_readClause_X0_isFull : GoodIn wsX6_readClause wsX0_isFull := goodIn_r _ [10, 11, 80, 81, 82, 83, 84, 85, 86, 87] rfl (by decide +kernel)
set_option maxRecDepth 20000 in
theorem gX6_readClause_X0_isFull : GoodIn wsX6_readClause (wsV RX6 134 RX0 yX0_isFull wsX0_isFull) := goodIn_app (goodIn_r _ [6, 7, 8, 9] rfl (by decide +kernel)) ggX6_readClause_X0_isFull
set_option maxRecDepth 20000 in
theorem ggX6_readClause_X6_fail : GoodIn wsX6_readClause wsX6_fail := goodIn_r _ [16, 17, 18, 66, 67, 68, 69, 70, 71, 72, 73, 74] rfl (by decide +kernel)
set_option maxRecDepth 20000 in
theorem gX6_readClause_X6_fail : GoodIn wsX6_readClause (wsV RX6 70 RX6 yX6_fail wsX6_fail) := goodIn_app (goodIn_r _ [12, 13, 14, 15] rfl (by decide +kernel)) ggX6_readClause_X6_fail
set_option maxRecDepth 20000 in
theorem ggX6_readClause_X7_advance : GoodIn wsX6_readClause wsX7_advance := goodIn_r _ [23, 24, 25, 26, 27, 28, 75, 76, 77, 78, 79] rfl (by decide +kernel)
set_option maxRecDepth 20000 in
theorem gX6_readClause_X7_advance : GoodIn wsX6_readClause (wsV RX6 74 RX7 yX7_advance wsX7_advance) := goodIn_app (goodIn_r _ [19, 20, 21, 22] rfl (by decide +kernel)) ggX6_readClause_X7_advance
set_option maxRecDepth 20000 in
theorem ggX6_readClause_X6_readLiterals : GoodIn wsX6_readClause wsX6_readLiterals := goodIn_r _ [32, 4, 5, 1, 33, 34, 35, 36, 15, 37, 17, 38, 39, 40, 41, 2, 19, 20, 21, 22, 23, 24, 25, 26, 27, 28, 42, 43, 44, 45, 3, 46, 47, 48, 49, 50, 12, 13, 14, 16, 18, 66, 67, 68, 69, 70, 71, 72, 73, 74, 75, 76, 77, 78, 79, 80, 81, 82, 83, 84, 85, 86, 87] rfl (by decide +kernel)
set_option maxRecDepth 20000 in
theorem gX6_readClause_X6_readLiterals : GoodIn wsX6_readClause (wsV RX6 137 RX6 yX6_readLiterals wsX6_readLiterals) := goodIn_app (goodIn_r _ [29, 30, 31, 15] rfl (by decide +kernel)) ggX6_readClause_X6_readLiterals
set_option maxRecDepth 20000 in
theorem ggX6_readClause_X6_isFailed : GoodIn wsX6_readClause wsX6_isFailed := goodIn_r _ [37, 17, 66, 67, 68, 69, 70, 71, 72, 73, 74] rfl (by decide +kernel)
set_option maxRecDepth 20000 in
theorem gX6_readClause_X6_isFailed : GoodIn wsX6_readClause (wsV RX6 84 RX6 yX6_isFailed wsX6_isFailed) := goodIn_app (goodIn_r _ [34, 35, 36, 15] rfl (by decide +kernel)) ggX6_readClause_X6_isFailed
set_option maxRecDepth 20000 in
theorem ggX6_readClause_X0_indexOf : GoodIn wsX6_readClause wsX0_indexOf := goodIn_r _ [54, 11, 55, 56, 80, 81, 82, 83, 84, 85, 86, 87] rfl (by decide +kernel)
set_option maxRecDepth 20000 in
theorem gX6_readClause_X0_indexOf : GoodIn wsX6_readClause (wsV RX6 140 RX0 yX0_indexOf wsX0_indexOf) := goodIn_app (goodIn_r _ [51, 52, 53, 9] rfl (by decide +kernel)) ggX6_readClause_X0_indexOf
set_option maxRecDepth 20000 in
theorem ggX6_readClause_X0_addGiven : GoodIn wsX6_readClause wsX0_addGiven := goodIn_r _ [60, 11, 55, 56, 61, 62, 63, 64, 65, 7, 8, 9, 10, 80, 81, 82, 83, 84, 85, 86, 87] rfl (by decide +kernel)
set_option maxRecDepth 20000 in
theorem gX6_readClause_X0_addGiven : GoodIn wsX6_readClause (wsV RX6 143 RX0 yX0_addGiven wsX0_addGiven) := goodIn_app (goodIn_r _ [57, 58, 59, 9] rfl (by decide +kernel)) ggX6_readClause_X0_addGiven
theorem dX6_readClause_0 : decode cX6_readClause 0 = .ok (.aload_n 0, 1) := by decide +kernel
theorem dX6_readClause_1 : decode cX6_readClause 1 = .ok (.getfield 12, 3) := by decide +kernel
theorem dX6_readClause_4 : decode cX6_readClause 4 = .ok (.getfield 67, 3) := by decide +kernel
theorem dX6_readClause_7 : decode cX6_readClause 7 = .ok (.istore_n 1, 1) := by decide +kernel
theorem dX6_readClause_8 : decode cX6_readClause 8 = .ok (.aload_n 0, 1) := by decide +kernel
theorem dX6_readClause_9 : decode cX6_readClause 9 = .ok (.getfield 21, 3) := by decide +kernel
theorem dX6_readClause_12 : decode cX6_readClause 12 = .ok (.invokevirtual 134, 3) := by decide +kernel
theorem dX6_readClause_15 : decode cX6_readClause 15 = .ok (.ifCond .eq 10, 3) := by decide +kernel
theorem dX6_readClause_18 : decode cX6_readClause 18 = .ok (.aload_n 0, 1) := by decide +kernel
theorem dX6_readClause_19 : decode cX6_readClause 19 = .ok (.iconst 4, 1) := by decide +kernel
theorem dX6_readClause_20 : decode cX6_readClause 20 = .ok (.iload_n 1, 1) := by decide +kernel
theorem dX6_readClause_21 : decode cX6_readClause 21 = .ok (.invokevirtual 70, 3) := by decide +kernel
theorem dX6_readClause_24 : decode cX6_readClause 24 = .ok (.return_, 1) := by decide +kernel
theorem dX6_readClause_25 : decode cX6_readClause 25 = .ok (.aload_n 0, 1) := by decide +kernel
theorem dX6_readClause_26 : decode cX6_readClause 26 = .ok (.getfield 12, 3) := by decide +kernel
theorem dX6_readClause_29 : decode cX6_readClause 29 = .ok (.invokevirtual 74, 3) := by decide +kernel
theorem dX6_readClause_32 : decode cX6_readClause 32 = .ok (.aload_n 0, 1) := by decide +kernel
theorem dX6_readClause_33 : decode cX6_readClause 33 = .ok (.invokevirtual 137, 3) := by decide +kernel
theorem dX6_readClause_36 : decode cX6_readClause 36 = .ok (.aload_n 0, 1) := by decide +kernel
theorem dX6_readClause_37 : decode cX6_readClause 37 = .ok (.invokevirtual 84, 3) := by decide +kernel
theorem dX6_readClause_40 : decode cX6_readClause 40 = .ok (.ifCond .eq 4, 3) := by decide +kernel
theorem dX6_readClause_43 : decode cX6_readClause 43 = .ok (.return_, 1) := by decide +kernel
theorem dX6_readClause_44 : decode cX6_readClause 44 = .ok (.aload_n 0, 1) := by decide +kernel
theorem dX6_readClause_45 : decode cX6_readClause 45 = .ok (.getfield 21, 3) := by decide +kernel
theorem dX6_readClause_48 : decode cX6_readClause 48 = .ok (.aload_n 0, 1) := by decide +kernel
theorem dX6_readClause_49 : decode cX6_readClause 49 = .ok (.getfield 49, 3) := by decide +kernel
theorem dX6_readClause_52 : decode cX6_readClause 52 = .ok (.aload_n 0, 1) := by decide +kernel
theorem dX6_readClause_53 : decode cX6_readClause 53 = .ok (.getfield 52, 3) := by decide +kernel
theorem dX6_readClause_56 : decode cX6_readClause 56 = .ok (.invokevirtual 140, 3) := by decide +kernel
theorem dX6_readClause_59 : decode cX6_readClause 59 = .ok (.iconst (-1), 1) := by decide +kernel
theorem dX6_readClause_60 : decode cX6_readClause 60 = .ok (.if_icmp .eq 10, 3) := by decide +kernel
theorem dX6_readClause_63 : decode cX6_readClause 63 = .ok (.aload_n 0, 1) := by decide +kernel
theorem dX6_readClause_64 : decode cX6_readClause 64 = .ok (.iconst 4, 1) := by decide +kernel
theorem dX6_readClause_65 : decode cX6_readClause 65 = .ok (.iload_n 1, 1) := by decide +kernel
theorem dX6_readClause_66 : decode cX6_readClause 66 = .ok (.invokevirtual 70, 3) := by decide +kernel
theorem dX6_readClause_69 : decode cX6_readClause 69 = .ok (.return_, 1) := by decide +kernel
theorem dX6_readClause_70 : decode cX6_readClause 70 = .ok (.aload_n 0, 1) := by decide +kernel
theorem dX6_readClause_71 : decode cX6_readClause 71 = .ok (.getfield 21, 3) := by decide +kernel
theorem dX6_readClause_74 : decode cX6_readClause 74 = .ok (.aload_n 0, 1) := by decide +kernel
theorem dX6_readClause_75 : decode cX6_readClause 75 = .ok (.getfield 49, 3) := by decide +kernel
theorem dX6_readClause_78 : decode cX6_readClause 78 = .ok (.aload_n 0, 1) := by decide +kernel
theorem dX6_readClause_79 : decode cX6_readClause 79 = .ok (.getfield 52, 3) := by decide +kernel
theorem dX6_readClause_82 : decode cX6_readClause 82 = .ok (.invokevirtual 143, 3) := by decide +kernel
theorem dX6_readClause_85 : decode cX6_readClause 85 = .ok (.pop, 1) := by decide +kernel
theorem dX6_readClause_86 : decode cX6_readClause 86 = .ok (.return_, 1) := by decide +kernel
set_option maxRecDepth 20000 in
theorem ggX6_readResolve_X7_advance : GoodIn wsX6_readResolve wsX7_advance := goodIn_r _ [8, 9, 10, 11, 12, 13, 107, 108, 109, 110, 111] rfl (by decide +kernel)
set_option maxRecDepth 20000 in
theorem gX6_readResolve_X7_advance : GoodIn wsX6_readResolve (wsV RX6 74 RX7 yX7_advance wsX7_advance) := goodIn_app (goodIn_r _ [4, 5, 6, 7] rfl (by decide +kernel)) ggX6_readResolve_X7_advance
set_option maxRecDepth 20000 in
theorem ggX6_readResolve_X6_readClauseNumber : GoodIn wsX6_readResolve wsX6_readClauseNumber := goodIn_r _ [18, 3, 19, 20, 21, 22, 17, 23, 1, 24, 2, 25, 26, 27, 28, 29, 30, 31, 32, 33, 34, 35, 36, 37, 7, 38, 9, 10, 11, 12, 4, 5, 6, 8, 13, 98, 99, 100, 101, 102, 103, 104, 105, 106, 112, 113, 114, 115, 116, 117, 118, 119, 107, 108, 109, 110, 111] rfl (by decide +kernel)
set_option maxRecDepth 20000 in
theorem gX6_readResolve_X6_readClauseNumber : GoodIn wsX6_readResolve (wsV RX6 146 RX6 yX6_readClauseNumber wsX6_readClauseNumber) := goodIn_app (goodIn_r _ [14, 15, 16, 17] rfl (by decide +kernel)) ggX6_readResolve_X6_readClauseNumber
set_option maxRecDepth 20000 in
theorem ggX6_readResolve_X0_clashOnce : GoodIn wsX6_readResolve wsX0_clashOnce := goodIn_r _ [43, 44, 45, 46, 42, 47, 48, 49, 50, 51, 52, 53, 54, 55, 56, 112, 113, 114, 115, 116, 117, 118, 119] rfl (by decide +kernel)
set_option maxRecDepth 20000 in
theorem gX6_readResolve_X0_clashOnce : GoodIn wsX6_readResolve (wsV RX6 150 RX0 yX0_clashOnce wsX0_clashOnce) := goodIn_app (goodIn_r _ [39, 40, 41, 42] rfl (by decide +kernel)) ggX6_readResolve_X0_clashOnce
set_option maxRecDepth 20000 in
theorem ggX6_readResolve_X0_hasRoomForResolvent : GoodIn wsX6_readResolve wsX0_hasRoomForResolvent := goodIn_r _ [60, 61, 62, 63, 42, 64, 48, 44, 45, 46, 47, 49, 65, 66, 67, 68, 69, 70, 71, 72, 73, 74, 75, 76, 77, 112, 113, 114, 115, 116, 117, 118, 119] rfl (by decide +kernel)
set_option maxRecDepth 20000 in
theorem gX6_readResolve_X0_hasRoomForResolvent : GoodIn wsX6_readResolve (wsV RX6 154 RX0 yX0_hasRoomForResolvent wsX0_hasRoomForResolvent) := goodIn_app (goodIn_r _ [57, 58, 59, 42] rfl (by decide +kernel)) ggX6_readResolve_X0_hasRoomForResolvent
set_option maxRecDepth 20000 in
theorem ggX6_readResolve_X6_fail : GoodIn wsX6_readResolve wsX6_fail := goodIn_r _ [33, 29, 34, 98, 99, 100, 101, 102, 103, 104, 105, 106] rfl (by decide +kernel)
set_option maxRecDepth 20000 in
theorem gX6_readResolve_X6_fail : GoodIn wsX6_readResolve (wsV RX6 70 RX6 yX6_fail wsX6_fail) := goodIn_app (goodIn_r _ [30, 31, 32, 17] rfl (by decide +kernel)) ggX6_readResolve_X6_fail
set_option maxRecDepth 20000 in
theorem ggX6_readResolve_X0_addResolvent : GoodIn wsX6_readResolve wsX0_addResolvent := goodIn_r _ [81, 48, 82, 83, 84, 85, 86, 87, 88, 89, 44, 45, 46, 42, 47, 49, 61, 62, 63, 64, 65, 66, 67, 68, 90, 91, 92, 93, 73, 69, 70, 71, 72, 94, 95, 52, 96, 97, 112, 113, 114, 115, 116, 117, 118, 119] rfl (by decide +kernel)
set_option maxRecDepth 20000 in
theorem gX6_readResolve_X0_addResolvent : GoodIn wsX6_readResolve (wsV RX6 157 RX0 yX0_addResolvent wsX0_addResolvent) := goodIn_app (goodIn_r _ [78, 79, 80, 42] rfl (by decide +kernel)) ggX6_readResolve_X0_addResolvent
theorem dX6_readResolve_0 : decode cX6_readResolve 0 = .ok (.aload_n 0, 1) := by decide +kernel
theorem dX6_readResolve_1 : decode cX6_readResolve 1 = .ok (.getfield 12, 3) := by decide +kernel
theorem dX6_readResolve_4 : decode cX6_readResolve 4 = .ok (.invokevirtual 74, 3) := by decide +kernel
theorem dX6_readResolve_7 : decode cX6_readResolve 7 = .ok (.aload_n 0, 1) := by decide +kernel
theorem dX6_readResolve_8 : decode cX6_readResolve 8 = .ok (.invokevirtual 146, 3) := by decide +kernel
theorem dX6_readResolve_11 : decode cX6_readResolve 11 = .ok (.istore_n 1, 1) := by decide +kernel
theorem dX6_readResolve_12 : decode cX6_readResolve 12 = .ok (.aload_n 0, 1) := by decide +kernel
theorem dX6_readResolve_13 : decode cX6_readResolve 13 = .ok (.getfield 12, 3) := by decide +kernel
theorem dX6_readResolve_16 : decode cX6_readResolve 16 = .ok (.getfield 67, 3) := by decide +kernel
theorem dX6_readResolve_19 : decode cX6_readResolve 19 = .ok (.istore_n 2, 1) := by decide +kernel
theorem dX6_readResolve_20 : decode cX6_readResolve 20 = .ok (.aload_n 0, 1) := by decide +kernel
theorem dX6_readResolve_21 : decode cX6_readResolve 21 = .ok (.invokevirtual 146, 3) := by decide +kernel
theorem dX6_readResolve_24 : decode cX6_readResolve 24 = .ok (.istore_n 3, 1) := by decide +kernel
theorem dX6_readResolve_25 : decode cX6_readResolve 25 = .ok (.iload_n 1, 1) := by decide +kernel
theorem dX6_readResolve_26 : decode cX6_readResolve 26 = .ok (.iconst (-1), 1) := by decide +kernel
theorem dX6_readResolve_27 : decode cX6_readResolve 27 = .ok (.if_icmp .eq 8, 3) := by decide +kernel
theorem dX6_readResolve_30 : decode cX6_readResolve 30 = .ok (.iload_n 3, 1) := by decide +kernel
theorem dX6_readResolve_31 : decode cX6_readResolve 31 = .ok (.iconst (-1), 1) := by decide +kernel
theorem dX6_readResolve_32 : decode cX6_readResolve 32 = .ok (.if_icmp .ne 4, 3) := by decide +kernel
theorem dX6_readResolve_35 : decode cX6_readResolve 35 = .ok (.return_, 1) := by decide +kernel
theorem dX6_readResolve_36 : decode cX6_readResolve 36 = .ok (.aload_n 0, 1) := by decide +kernel
theorem dX6_readResolve_37 : decode cX6_readResolve 37 = .ok (.getfield 21, 3) := by decide +kernel
theorem dX6_readResolve_40 : decode cX6_readResolve 40 = .ok (.iload_n 1, 1) := by decide +kernel
theorem dX6_readResolve_41 : decode cX6_readResolve 41 = .ok (.iload_n 3, 1) := by decide +kernel
theorem dX6_readResolve_42 : decode cX6_readResolve 42 = .ok (.invokevirtual 150, 3) := by decide +kernel
theorem dX6_readResolve_45 : decode cX6_readResolve 45 = .ok (.ifCond .eq 15, 3) := by decide +kernel
theorem dX6_readResolve_48 : decode cX6_readResolve 48 = .ok (.aload_n 0, 1) := by decide +kernel
theorem dX6_readResolve_49 : decode cX6_readResolve 49 = .ok (.getfield 21, 3) := by decide +kernel
theorem dX6_readResolve_52 : decode cX6_readResolve 52 = .ok (.iload_n 1, 1) := by decide +kernel
theorem dX6_readResolve_53 : decode cX6_readResolve 53 = .ok (.iload_n 3, 1) := by decide +kernel
theorem dX6_readResolve_54 : decode cX6_readResolve 54 = .ok (.invokevirtual 154, 3) := by decide +kernel
theorem dX6_readResolve_57 : decode cX6_readResolve 57 = .ok (.ifCond .ne 10, 3) := by decide +kernel
theorem dX6_readResolve_60 : decode cX6_readResolve 60 = .ok (.aload_n 0, 1) := by decide +kernel
theorem dX6_readResolve_61 : decode cX6_readResolve 61 = .ok (.iconst 4, 1) := by decide +kernel
theorem dX6_readResolve_62 : decode cX6_readResolve 62 = .ok (.iload_n 2, 1) := by decide +kernel
theorem dX6_readResolve_63 : decode cX6_readResolve 63 = .ok (.invokevirtual 70, 3) := by decide +kernel
theorem dX6_readResolve_66 : decode cX6_readResolve 66 = .ok (.return_, 1) := by decide +kernel
theorem dX6_readResolve_67 : decode cX6_readResolve 67 = .ok (.aload_n 0, 1) := by decide +kernel
theorem dX6_readResolve_68 : decode cX6_readResolve 68 = .ok (.getfield 21, 3) := by decide +kernel
theorem dX6_readResolve_71 : decode cX6_readResolve 71 = .ok (.iload_n 1, 1) := by decide +kernel
theorem dX6_readResolve_72 : decode cX6_readResolve 72 = .ok (.iload_n 3, 1) := by decide +kernel
theorem dX6_readResolve_73 : decode cX6_readResolve 73 = .ok (.invokevirtual 157, 3) := by decide +kernel
theorem dX6_readResolve_76 : decode cX6_readResolve 76 = .ok (.pop, 1) := by decide +kernel
theorem dX6_readResolve_77 : decode cX6_readResolve 77 = .ok (.return_, 1) := by decide +kernel
set_option maxRecDepth 20000 in
theorem ggX6_readSaturate_X7_advance : GoodIn wsX6_readSaturate wsX7_advance := goodIn_r _ [8, 9, 10, 11, 12, 13, 126, 127, 128, 129, 130] rfl (by decide +kernel)
set_option maxRecDepth 20000 in
theorem gX6_readSaturate_X7_advance : GoodIn wsX6_readSaturate (wsV RX6 74 RX7 yX7_advance wsX7_advance) := goodIn_app (goodIn_r _ [4, 5, 6, 7] rfl (by decide +kernel)) ggX6_readSaturate_X7_advance
set_option maxRecDepth 20000 in
theorem ggX6_readSaturate_X6_readNumber : GoodIn wsX6_readSaturate wsX6_readNumber := goodIn_r _ [18, 1, 19, 20, 21, 22, 23, 17, 24, 25, 26, 27, 28, 29, 30, 31, 32, 33, 7, 34, 9, 10, 11, 12, 4, 5, 6, 8, 13, 117, 118, 119, 120, 121, 122, 123, 124, 125, 126, 127, 128, 129, 130] rfl (by decide +kernel)
set_option maxRecDepth 20000 in
theorem gX6_readSaturate_X6_readNumber : GoodIn wsX6_readSaturate (wsV RX6 77 RX6 yX6_readNumber wsX6_readNumber) := goodIn_app (goodIn_r _ [14, 15, 16, 17] rfl (by decide +kernel)) ggX6_readSaturate_X6_readNumber
set_option maxRecDepth 20000 in
theorem ggX6_readSaturate_X5_makeSteps : GoodIn wsX6_readSaturate wsX5_makeSteps := goodIn_r _ [39, 40, 41, 42, 43, 44, 38, 45, 46, 47, 48, 49, 50, 51, 52, 53, 54, 55, 56, 57, 58, 59, 60, 61, 62, 63, 64, 65, 66, 67, 68, 69, 70, 71, 72, 73, 74, 75, 76, 77, 78, 79, 80, 81, 82, 83, 84, 85, 86, 87, 88, 89, 90, 91, 92, 93, 94, 95, 96, 97, 98, 99, 100, 101, 102, 103, 104, 105, 106, 107, 108, 109, 110, 111, 112, 113, 114, 115, 116, 131, 132, 133, 134, 135, 136, 137, 138, 139, 140] rfl (by decide +kernel)
set_option maxRecDepth 20000 in
theorem gX6_readSaturate_X5_makeSteps : GoodIn wsX6_readSaturate (wsV RX6 160 RX5 yX5_makeSteps wsX5_makeSteps) := goodIn_app (goodIn_r _ [35, 36, 37, 38] rfl (by decide +kernel)) ggX6_readSaturate_X5_makeSteps
theorem dX6_readSaturate_0 : decode cX6_readSaturate 0 = .ok (.aload_n 0, 1) := by decide +kernel
theorem dX6_readSaturate_1 : decode cX6_readSaturate 1 = .ok (.getfield 12, 3) := by decide +kernel
theorem dX6_readSaturate_4 : decode cX6_readSaturate 4 = .ok (.invokevirtual 74, 3) := by decide +kernel
theorem dX6_readSaturate_7 : decode cX6_readSaturate 7 = .ok (.aload_n 0, 1) := by decide +kernel
theorem dX6_readSaturate_8 : decode cX6_readSaturate 8 = .ok (.iconst 1, 1) := by decide +kernel
theorem dX6_readSaturate_9 : decode cX6_readSaturate 9 = .ok (.bipush 99, 2) := by decide +kernel
theorem dX6_readSaturate_11 : decode cX6_readSaturate 11 = .ok (.invokevirtual 77, 3) := by decide +kernel
theorem dX6_readSaturate_14 : decode cX6_readSaturate 14 = .ok (.istore_n 1, 1) := by decide +kernel
theorem dX6_readSaturate_15 : decode cX6_readSaturate 15 = .ok (.iload_n 1, 1) := by decide +kernel
theorem dX6_readSaturate_16 : decode cX6_readSaturate 16 = .ok (.iconst (-1), 1) := by decide +kernel
theorem dX6_readSaturate_17 : decode cX6_readSaturate 17 = .ok (.if_icmp .eq 16, 3) := by decide +kernel
theorem dX6_readSaturate_20 : decode cX6_readSaturate 20 = .ok (.aload_n 0, 1) := by decide +kernel
theorem dX6_readSaturate_21 : decode cX6_readSaturate 21 = .ok (.getfield 28, 3) := by decide +kernel
theorem dX6_readSaturate_24 : decode cX6_readSaturate 24 = .ok (.aload_n 0, 1) := by decide +kernel
theorem dX6_readSaturate_25 : decode cX6_readSaturate 25 = .ok (.getfield 21, 3) := by decide +kernel
theorem dX6_readSaturate_28 : decode cX6_readSaturate 28 = .ok (.iload_n 1, 1) := by decide +kernel
theorem dX6_readSaturate_29 : decode cX6_readSaturate 29 = .ok (.invokevirtual 160, 3) := by decide +kernel
theorem dX6_readSaturate_32 : decode cX6_readSaturate 32 = .ok (.pop, 1) := by decide +kernel
theorem dX6_readSaturate_33 : decode cX6_readSaturate 33 = .ok (.return_, 1) := by decide +kernel
set_option maxRecDepth 20000 in
theorem ggX6_readDrop_X7_advance : GoodIn wsX6_readDrop wsX7_advance := goodIn_r _ [8, 9, 10, 11, 12, 13, 64, 65, 66, 67, 68] rfl (by decide +kernel)
set_option maxRecDepth 20000 in
theorem gX6_readDrop_X7_advance : GoodIn wsX6_readDrop (wsV RX6 74 RX7 yX7_advance wsX7_advance) := goodIn_app (goodIn_r _ [4, 5, 6, 7] rfl (by decide +kernel)) ggX6_readDrop_X7_advance
set_option maxRecDepth 20000 in
theorem ggX6_readDrop_X6_readClauseNumber : GoodIn wsX6_readDrop wsX6_readClauseNumber := goodIn_r _ [18, 3, 19, 20, 21, 22, 17, 23, 1, 24, 2, 25, 26, 27, 28, 29, 30, 31, 32, 33, 34, 35, 36, 37, 7, 38, 9, 10, 11, 12, 4, 5, 6, 8, 13, 55, 56, 57, 58, 59, 60, 61, 62, 63, 69, 70, 71, 72, 73, 74, 75, 76, 64, 65, 66, 67, 68] rfl (by decide +kernel)
set_option maxRecDepth 20000 in
theorem gX6_readDrop_X6_readClauseNumber : GoodIn wsX6_readDrop (wsV RX6 146 RX6 yX6_readClauseNumber wsX6_readClauseNumber) := goodIn_app (goodIn_r _ [14, 15, 16, 17] rfl (by decide +kernel)) ggX6_readDrop_X6_readClauseNumber
set_option maxRecDepth 20000 in
theorem ggX6_readDrop_X0_isParent : GoodIn wsX6_readDrop wsX0_isParent := goodIn_r _ [43, 44, 45, 46, 69, 70, 71, 72, 73, 74, 75, 76] rfl (by decide +kernel)
set_option maxRecDepth 20000 in
theorem gX6_readDrop_X0_isParent : GoodIn wsX6_readDrop (wsV RX6 164 RX0 yX0_isParent wsX0_isParent) := goodIn_app (goodIn_r _ [39, 40, 41, 42] rfl (by decide +kernel)) ggX6_readDrop_X0_isParent
set_option maxRecDepth 20000 in
theorem ggX6_readDrop_X6_fail : GoodIn wsX6_readDrop wsX6_fail := goodIn_r _ [33, 29, 34, 55, 56, 57, 58, 59, 60, 61, 62, 63] rfl (by decide +kernel)
set_option maxRecDepth 20000 in
theorem gX6_readDrop_X6_fail : GoodIn wsX6_readDrop (wsV RX6 70 RX6 yX6_fail wsX6_fail) := goodIn_app (goodIn_r _ [30, 31, 32, 17] rfl (by decide +kernel)) ggX6_readDrop_X6_fail
set_option maxRecDepth 20000 in
theorem ggX6_readDrop_X0_remove : GoodIn wsX6_readDrop wsX0_remove := goodIn_r _ [50, 44, 51, 52, 45, 46, 53, 54, 69, 70, 71, 72, 73, 74, 75, 76] rfl (by decide +kernel)
set_option maxRecDepth 20000 in
theorem gX6_readDrop_X0_remove : GoodIn wsX6_readDrop (wsV RX6 168 RX0 yX0_remove wsX0_remove) := goodIn_app (goodIn_r _ [47, 48, 49, 42] rfl (by decide +kernel)) ggX6_readDrop_X0_remove
theorem dX6_readDrop_0 : decode cX6_readDrop 0 = .ok (.aload_n 0, 1) := by decide +kernel
theorem dX6_readDrop_1 : decode cX6_readDrop 1 = .ok (.getfield 12, 3) := by decide +kernel
theorem dX6_readDrop_4 : decode cX6_readDrop 4 = .ok (.invokevirtual 74, 3) := by decide +kernel
theorem dX6_readDrop_7 : decode cX6_readDrop 7 = .ok (.aload_n 0, 1) := by decide +kernel
theorem dX6_readDrop_8 : decode cX6_readDrop 8 = .ok (.getfield 12, 3) := by decide +kernel
theorem dX6_readDrop_11 : decode cX6_readDrop 11 = .ok (.getfield 67, 3) := by decide +kernel
theorem dX6_readDrop_14 : decode cX6_readDrop 14 = .ok (.istore_n 1, 1) := by decide +kernel
theorem dX6_readDrop_15 : decode cX6_readDrop 15 = .ok (.aload_n 0, 1) := by decide +kernel
theorem dX6_readDrop_16 : decode cX6_readDrop 16 = .ok (.invokevirtual 146, 3) := by decide +kernel
theorem dX6_readDrop_19 : decode cX6_readDrop 19 = .ok (.istore_n 2, 1) := by decide +kernel
theorem dX6_readDrop_20 : decode cX6_readDrop 20 = .ok (.iload_n 2, 1) := by decide +kernel
theorem dX6_readDrop_21 : decode cX6_readDrop 21 = .ok (.iconst (-1), 1) := by decide +kernel
theorem dX6_readDrop_22 : decode cX6_readDrop 22 = .ok (.if_icmp .ne 4, 3) := by decide +kernel
theorem dX6_readDrop_25 : decode cX6_readDrop 25 = .ok (.return_, 1) := by decide +kernel
theorem dX6_readDrop_26 : decode cX6_readDrop 26 = .ok (.aload_n 0, 1) := by decide +kernel
theorem dX6_readDrop_27 : decode cX6_readDrop 27 = .ok (.getfield 21, 3) := by decide +kernel
theorem dX6_readDrop_30 : decode cX6_readDrop 30 = .ok (.iload_n 2, 1) := by decide +kernel
theorem dX6_readDrop_31 : decode cX6_readDrop 31 = .ok (.invokevirtual 164, 3) := by decide +kernel
theorem dX6_readDrop_34 : decode cX6_readDrop 34 = .ok (.ifCond .eq 10, 3) := by decide +kernel
theorem dX6_readDrop_37 : decode cX6_readDrop 37 = .ok (.aload_n 0, 1) := by decide +kernel
theorem dX6_readDrop_38 : decode cX6_readDrop 38 = .ok (.iconst 4, 1) := by decide +kernel
theorem dX6_readDrop_39 : decode cX6_readDrop 39 = .ok (.iload_n 1, 1) := by decide +kernel
theorem dX6_readDrop_40 : decode cX6_readDrop 40 = .ok (.invokevirtual 70, 3) := by decide +kernel
theorem dX6_readDrop_43 : decode cX6_readDrop 43 = .ok (.return_, 1) := by decide +kernel
theorem dX6_readDrop_44 : decode cX6_readDrop 44 = .ok (.aload_n 0, 1) := by decide +kernel
theorem dX6_readDrop_45 : decode cX6_readDrop 45 = .ok (.getfield 21, 3) := by decide +kernel
theorem dX6_readDrop_48 : decode cX6_readDrop 48 = .ok (.iload_n 2, 1) := by decide +kernel
theorem dX6_readDrop_49 : decode cX6_readDrop 49 = .ok (.invokevirtual 168, 3) := by decide +kernel
theorem dX6_readDrop_52 : decode cX6_readDrop 52 = .ok (.return_, 1) := by decide +kernel
set_option maxRecDepth 20000 in
theorem ggX6_readNegate_X7_advance : GoodIn wsX6_readNegate wsX7_advance := goodIn_r _ [7, 8, 9, 10, 11, 12, 50, 51, 52, 53, 54] rfl (by decide +kernel)
set_option maxRecDepth 20000 in
theorem gX6_readNegate_X7_advance : GoodIn wsX6_readNegate (wsV RX6 74 RX7 yX7_advance wsX7_advance) := goodIn_app (goodIn_r _ [3, 4, 5, 6] rfl (by decide +kernel)) ggX6_readNegate_X7_advance
set_option maxRecDepth 20000 in
theorem ggX6_readNegate_X6_readVariable : GoodIn wsX6_readNegate wsX6_readVariable := goodIn_r _ [17, 1, 18, 2, 19, 20, 21, 22, 6, 23, 12, 8, 9, 10, 11, 24, 25, 26, 16, 27, 28, 29, 3, 4, 5, 7, 41, 42, 43, 44, 45, 46, 47, 48, 49, 50, 51, 52, 53, 54, 55, 56, 57, 58, 59, 60, 61, 62] rfl (by decide +kernel)
set_option maxRecDepth 20000 in
theorem gX6_readNegate_X6_readVariable : GoodIn wsX6_readNegate (wsV RX6 171 RX6 yX6_readVariable wsX6_readVariable) := goodIn_app (goodIn_r _ [13, 14, 15, 16] rfl (by decide +kernel)) ggX6_readNegate_X6_readVariable
set_option maxRecDepth 20000 in
theorem ggX6_readNegate_X0_negate : GoodIn wsX6_readNegate wsX0_negate := goodIn_r _ [34, 35, 36, 37, 38, 39, 40, 55, 56, 57, 58, 59, 60, 61, 62] rfl (by decide +kernel)
set_option maxRecDepth 20000 in
theorem gX6_readNegate_X0_negate : GoodIn wsX6_readNegate (wsV RX6 174 RX0 yX0_negate wsX0_negate) := goodIn_app (goodIn_r _ [30, 31, 32, 33] rfl (by decide +kernel)) ggX6_readNegate_X0_negate
theorem dX6_readNegate_0 : decode cX6_readNegate 0 = .ok (.aload_n 0, 1) := by decide +kernel
theorem dX6_readNegate_1 : decode cX6_readNegate 1 = .ok (.getfield 12, 3) := by decide +kernel
theorem dX6_readNegate_4 : decode cX6_readNegate 4 = .ok (.invokevirtual 74, 3) := by decide +kernel
theorem dX6_readNegate_7 : decode cX6_readNegate 7 = .ok (.aload_n 0, 1) := by decide +kernel
theorem dX6_readNegate_8 : decode cX6_readNegate 8 = .ok (.invokevirtual 171, 3) := by decide +kernel
theorem dX6_readNegate_11 : decode cX6_readNegate 11 = .ok (.istore_n 1, 1) := by decide +kernel
theorem dX6_readNegate_12 : decode cX6_readNegate 12 = .ok (.iload_n 1, 1) := by decide +kernel
theorem dX6_readNegate_13 : decode cX6_readNegate 13 = .ok (.iconst (-1), 1) := by decide +kernel
theorem dX6_readNegate_14 : decode cX6_readNegate 14 = .ok (.if_icmp .eq 11, 3) := by decide +kernel
theorem dX6_readNegate_17 : decode cX6_readNegate 17 = .ok (.aload_n 0, 1) := by decide +kernel
theorem dX6_readNegate_18 : decode cX6_readNegate 18 = .ok (.getfield 21, 3) := by decide +kernel
theorem dX6_readNegate_21 : decode cX6_readNegate 21 = .ok (.iload_n 1, 1) := by decide +kernel
theorem dX6_readNegate_22 : decode cX6_readNegate 22 = .ok (.invokevirtual 174, 3) := by decide +kernel
theorem dX6_readNegate_25 : decode cX6_readNegate 25 = .ok (.return_, 1) := by decide +kernel
set_option maxRecDepth 20000 in
theorem ggX6_readInvert_X7_advance : GoodIn wsX6_readInvert wsX7_advance := goodIn_r _ [8, 9, 10, 11, 12, 13, 42, 43, 44, 45, 46] rfl (by decide +kernel)
set_option maxRecDepth 20000 in
theorem gX6_readInvert_X7_advance : GoodIn wsX6_readInvert (wsV RX6 74 RX7 yX7_advance wsX7_advance) := goodIn_app (goodIn_r _ [4, 5, 6, 7] rfl (by decide +kernel)) ggX6_readInvert_X7_advance
set_option maxRecDepth 20000 in
theorem ggX6_readInvert_X0_negate : GoodIn wsX6_readInvert wsX0_negate := goodIn_r _ [18, 19, 20, 21, 22, 23, 24, 34, 35, 36, 37, 38, 39, 40, 41] rfl (by decide +kernel)
set_option maxRecDepth 20000 in
theorem gX6_readInvert_X0_negate : GoodIn wsX6_readInvert (wsV RX6 174 RX0 yX0_negate wsX0_negate) := goodIn_app (goodIn_r _ [14, 15, 16, 17] rfl (by decide +kernel)) ggX6_readInvert_X0_negate
theorem dX6_readInvert_0 : decode cX6_readInvert 0 = .ok (.aload_n 0, 1) := by decide +kernel
theorem dX6_readInvert_1 : decode cX6_readInvert 1 = .ok (.getfield 12, 3) := by decide +kernel
theorem dX6_readInvert_4 : decode cX6_readInvert 4 = .ok (.invokevirtual 74, 3) := by decide +kernel
theorem dX6_readInvert_7 : decode cX6_readInvert 7 = .ok (.iconst 0, 1) := by decide +kernel
theorem dX6_readInvert_8 : decode cX6_readInvert 8 = .ok (.istore_n 1, 1) := by decide +kernel
theorem dX6_readInvert_9 : decode cX6_readInvert 9 = .ok (.iload_n 1, 1) := by decide +kernel
theorem dX6_readInvert_10 : decode cX6_readInvert 10 = .ok (.aload_n 0, 1) := by decide +kernel
theorem dX6_readInvert_11 : decode cX6_readInvert 11 = .ok (.getfield 21, 3) := by decide +kernel
theorem dX6_readInvert_14 : decode cX6_readInvert 14 = .ok (.getfield 176, 3) := by decide +kernel
theorem dX6_readInvert_17 : decode cX6_readInvert 17 = .ok (.if_icmp .ge 17, 3) := by decide +kernel
theorem dX6_readInvert_20 : decode cX6_readInvert 20 = .ok (.aload_n 0, 1) := by decide +kernel
theorem dX6_readInvert_21 : decode cX6_readInvert 21 = .ok (.getfield 21, 3) := by decide +kernel
theorem dX6_readInvert_24 : decode cX6_readInvert 24 = .ok (.iload_n 1, 1) := by decide +kernel
theorem dX6_readInvert_25 : decode cX6_readInvert 25 = .ok (.invokevirtual 174, 3) := by decide +kernel
theorem dX6_readInvert_28 : decode cX6_readInvert 28 = .ok (.iinc 1 1, 3) := by decide +kernel
theorem dX6_readInvert_31 : decode cX6_readInvert 31 = .ok (.goto (-22), 3) := by decide +kernel
theorem dX6_readInvert_34 : decode cX6_readInvert 34 = .ok (.return_, 1) := by decide +kernel
set_option maxRecDepth 20000 in
theorem ggX6_readReduce_X7_advance : GoodIn wsX6_readReduce wsX7_advance := goodIn_r _ [7, 8, 9, 10, 11, 12, 54, 55, 56, 57, 58] rfl (by decide +kernel)
set_option maxRecDepth 20000 in
theorem gX6_readReduce_X7_advance : GoodIn wsX6_readReduce (wsV RX6 74 RX7 yX7_advance wsX7_advance) := goodIn_app (goodIn_r _ [3, 4, 5, 6] rfl (by decide +kernel)) ggX6_readReduce_X7_advance
set_option maxRecDepth 20000 in
theorem ggX6_readReduce_X0_removeSubsumed : GoodIn wsX6_readReduce wsX0_removeSubsumed := goodIn_r _ [17, 18, 19, 20, 16, 21, 22, 23, 24, 25, 26, 27, 28, 29, 30, 31, 32, 33, 34, 35, 36, 37, 38, 39, 40, 41, 42, 43, 44, 59, 60, 61, 62, 63, 64, 65, 66] rfl (by decide +kernel)
set_option maxRecDepth 20000 in
theorem gX6_readReduce_X0_removeSubsumed : GoodIn wsX6_readReduce (wsV RX6 179 RX0 yX0_removeSubsumed wsX0_removeSubsumed) := goodIn_app (goodIn_r _ [13, 14, 15, 16] rfl (by decide +kernel)) ggX6_readReduce_X0_removeSubsumed
theorem dX6_readReduce_0 : decode cX6_readReduce 0 = .ok (.aload_n 0, 1) := by decide +kernel
theorem dX6_readReduce_1 : decode cX6_readReduce 1 = .ok (.getfield 12, 3) := by decide +kernel
theorem dX6_readReduce_4 : decode cX6_readReduce 4 = .ok (.invokevirtual 74, 3) := by decide +kernel
theorem dX6_readReduce_7 : decode cX6_readReduce 7 = .ok (.aload_n 0, 1) := by decide +kernel
theorem dX6_readReduce_8 : decode cX6_readReduce 8 = .ok (.getfield 21, 3) := by decide +kernel
theorem dX6_readReduce_11 : decode cX6_readReduce 11 = .ok (.invokevirtual 179, 3) := by decide +kernel
theorem dX6_readReduce_14 : decode cX6_readReduce 14 = .ok (.pop, 1) := by decide +kernel
theorem dX6_readReduce_15 : decode cX6_readReduce 15 = .ok (.return_, 1) := by decide +kernel
set_option maxRecDepth 20000 in
theorem ggX6_readCondition_X6_passWord : GoodIn wsX6_readCondition wsX6_passWord := goodIn_r _ [12, 6, 13, 14, 15, 16, 17, 18, 19, 20, 21, 22, 23, 24, 25, 26, 27, 28, 29, 30, 31, 32, 33, 34, 35, 36, 37, 38, 39, 40, 41, 42, 43, 44, 45, 46, 47, 48, 49, 50, 51, 52, 53, 54, 55, 56, 57, 58, 59, 60, 61, 62, 63, 64, 65, 66, 67, 68, 69, 70, 71, 72, 73, 74, 75, 194, 195, 196, 197, 198, 199, 200, 201, 202, 211, 212, 213, 214, 215] rfl (by decide +kernel)
set_option maxRecDepth 20000 in
theorem gX6_readCondition_X6_passWord : GoodIn wsX6_readCondition (wsV RX6 184 RX6 yX6_passWord wsX6_passWord) := goodIn_app (goodIn_r _ [8, 9, 10, 11] rfl (by decide +kernel)) ggX6_readCondition_X6_passWord
set_option maxRecDepth 20000 in
theorem ggX6_readCondition_X6_readValue : GoodIn wsX6_readCondition wsX6_readValue := goodIn_r _ [79, 80, 81, 82, 11, 83, 6, 84, 7, 85, 86, 87, 88, 89, 90, 91, 92, 93, 94, 95, 96, 97, 16, 98, 19, 20, 21, 22, 72, 73, 74, 75, 18, 194, 195, 196, 197, 198, 199, 200, 201, 202, 211, 212, 213, 214, 215] rfl (by decide +kernel)
set_option maxRecDepth 20000 in
theorem gX6_readCondition_X6_readValue : GoodIn wsX6_readCondition (wsV RX6 187 RX6 yX6_readValue wsX6_readValue) := goodIn_app (goodIn_r _ [76, 77, 78, 11] rfl (by decide +kernel)) ggX6_readCondition_X6_readValue
set_option maxRecDepth 20000 in
theorem ggX6_readCondition_X2_count : GoodIn wsX6_readCondition wsX2_count := goodIn_r _ [102, 103, 104, 105, 106, 107, 108, 109, 110, 101, 111, 112, 113, 114, 115, 116, 117, 118, 203, 204, 205, 206, 207, 208, 209, 210] rfl (by decide +kernel)
set_option maxRecDepth 20000 in
theorem gX6_readCondition_X2_count : GoodIn wsX6_readCondition (va_wsS RX6 195 yX2_count wsX2_count) := goodIn_app (goodIn_r _ [99, 100, 101] rfl (by decide +kernel)) ggX6_readCondition_X2_count
set_option maxRecDepth 20000 in
theorem ggX6_readCondition_X0_indexOf : GoodIn wsX6_readCondition wsX0_indexOf := goodIn_r _ [122, 123, 117, 118, 203, 204, 205, 206, 207, 208, 209, 210] rfl (by decide +kernel)
set_option maxRecDepth 20000 in
theorem gX6_readCondition_X0_indexOf : GoodIn wsX6_readCondition (wsV RX6 140 RX0 yX0_indexOf wsX0_indexOf) := goodIn_app (goodIn_r _ [119, 120, 121, 106] rfl (by decide +kernel)) ggX6_readCondition_X0_indexOf
set_option maxRecDepth 20000 in
theorem ggX6_readCondition_X6_readLiterals : GoodIn wsX6_readCondition wsX6_readLiterals := goodIn_r _ [127, 3, 4, 6, 84, 85, 86, 87, 11, 88, 89, 128, 129, 130, 131, 7, 72, 73, 74, 16, 75, 19, 20, 21, 22, 18, 132, 133, 134, 135, 1, 136, 137, 138, 139, 140, 90, 91, 92, 93, 94, 194, 195, 196, 197, 198, 199, 200, 201, 202, 211, 212, 213, 214, 215, 203, 204, 205, 206, 207, 208, 209, 210] rfl (by decide +kernel)
set_option maxRecDepth 20000 in
theorem gX6_readCondition_X6_readLiterals : GoodIn wsX6_readCondition (wsV RX6 137 RX6 yX6_readLiterals wsX6_readLiterals) := goodIn_app (goodIn_r _ [124, 125, 126, 11] rfl (by decide +kernel)) ggX6_readCondition_X6_readLiterals
set_option maxRecDepth 20000 in
theorem ggX6_readCondition_X2_imply : GoodIn wsX6_readCondition wsX2_imply := goodIn_r _ [143, 103, 104, 105, 106, 107, 108, 109, 110, 101, 111, 112, 113, 114, 115, 116, 117, 118, 203, 204, 205, 206, 207, 208, 209, 210] rfl (by decide +kernel)
set_option maxRecDepth 20000 in
theorem gX6_readCondition_X2_imply : GoodIn wsX6_readCondition (va_wsS RX6 206 yX2_imply wsX2_imply) := goodIn_app (goodIn_r _ [141, 142, 101] rfl (by decide +kernel)) ggX6_readCondition_X2_imply
set_option maxRecDepth 20000 in
theorem ggX6_readCondition_X6_readFixed : GoodIn wsX6_readCondition wsX6_readFixed := goodIn_r _ [147, 3, 4, 148, 1, 149, 150, 128, 129, 130, 11, 131, 6, 84, 7, 72, 73, 74, 16, 75, 19, 20, 21, 22, 18, 132, 133, 134, 135, 136, 137, 138, 139, 140, 90, 91, 92, 93, 89, 94, 151, 152, 153, 154, 155, 156, 157, 158, 159, 160, 161, 162, 163, 164, 165, 166, 167, 106, 168, 117, 118, 169, 170, 171, 172, 173, 174, 175, 176, 194, 195, 196, 197, 198, 199, 200, 201, 202, 216, 217, 211, 212, 213, 214, 215, 203, 204, 205, 206, 207, 208, 209, 210] rfl (by decide +kernel)
set_option maxRecDepth 20000 in
theorem gX6_readCondition_X6_readFixed : GoodIn wsX6_readCondition (wsV RX6 212 RX6 yX6_readFixed wsX6_readFixed) := goodIn_app (goodIn_r _ [144, 145, 146, 11] rfl (by decide +kernel)) ggX6_readCondition_X6_readFixed
set_option maxRecDepth 20000 in
theorem ggX6_readCondition_X0_countSubsumed : GoodIn wsX6_readCondition wsX0_countSubsumed := goodIn_r _ [180, 123, 181, 182, 183, 106, 184, 117, 118, 185, 186, 187, 188, 203, 204, 205, 206, 207, 208, 209, 210] rfl (by decide +kernel)
set_option maxRecDepth 20000 in
theorem gX6_readCondition_X0_countSubsumed : GoodIn wsX6_readCondition (wsV RX6 217 RX0 yX0_countSubsumed wsX0_countSubsumed) := goodIn_app (goodIn_r _ [177, 178, 179, 106] rfl (by decide +kernel)) ggX6_readCondition_X0_countSubsumed
set_option maxRecDepth 20000 in
theorem ggX6_readCondition_X6_readClauseNumber : GoodIn wsX6_readCondition wsX6_readClauseNumber := goodIn_r _ [192, 1, 2, 80, 81, 82, 11, 83, 6, 84, 7, 85, 86, 87, 88, 89, 90, 91, 92, 93, 94, 95, 96, 97, 16, 98, 19, 20, 21, 22, 72, 73, 74, 75, 18, 194, 195, 196, 197, 198, 199, 200, 201, 202, 203, 204, 205, 206, 207, 208, 209, 210, 211, 212, 213, 214, 215] rfl (by decide +kernel)
set_option maxRecDepth 20000 in
theorem gX6_readCondition_X6_readClauseNumber : GoodIn wsX6_readCondition (wsV RX6 146 RX6 yX6_readClauseNumber wsX6_readClauseNumber) := goodIn_app (goodIn_r _ [189, 190, 191, 11] rfl (by decide +kernel)) ggX6_readCondition_X6_readClauseNumber
set_option maxRecDepth 20000 in
theorem ggX6_readCondition_X0_literalsIn : GoodIn wsX6_readCondition wsX0_literalsIn := goodIn_r _ [168, 117, 118, 169, 170, 171, 172, 173, 174, 175, 203, 204, 205, 206, 207, 208, 209, 210] rfl (by decide +kernel)
set_option maxRecDepth 20000 in
theorem gX6_readCondition_X0_literalsIn : GoodIn wsX6_readCondition (wsV RX6 222 RX0 yX0_literalsIn wsX0_literalsIn) := goodIn_app (goodIn_r _ [193, 166, 167, 106] rfl (by decide +kernel)) ggX6_readCondition_X0_literalsIn
set_option maxRecDepth 20000 in
theorem ggX6_readCondition_X6_fail : GoodIn wsX6_readCondition wsX6_fail := goodIn_r _ [93, 89, 94, 194, 195, 196, 197, 198, 199, 200, 201, 202] rfl (by decide +kernel)
set_option maxRecDepth 20000 in
theorem gX6_readCondition_X6_fail : GoodIn wsX6_readCondition (wsV RX6 70 RX6 yX6_fail wsX6_fail) := goodIn_app (goodIn_r _ [90, 91, 92, 11] rfl (by decide +kernel)) ggX6_readCondition_X6_fail
theorem dX6_readCondition_0 : decode cX6_readCondition 0 = .ok (.aload_n 0, 1) := by decide +kernel
theorem dX6_readCondition_1 : decode cX6_readCondition 1 = .ok (.ldc 182, 2) := by decide +kernel
theorem dX6_readCondition_3 : decode cX6_readCondition 3 = .ok (.invokevirtual 184, 3) := by decide +kernel
theorem dX6_readCondition_6 : decode cX6_readCondition 6 = .ok (.ifCond .eq 23, 3) := by decide +kernel
theorem dX6_readCondition_9 : decode cX6_readCondition 9 = .ok (.aload_n 0, 1) := by decide +kernel
theorem dX6_readCondition_10 : decode cX6_readCondition 10 = .ok (.invokevirtual 187, 3) := by decide +kernel
theorem dX6_readCondition_13 : decode cX6_readCondition 13 = .ok (.aload_n 0, 1) := by decide +kernel
theorem dX6_readCondition_14 : decode cX6_readCondition 14 = .ok (.getfield 21, 3) := by decide +kernel
theorem dX6_readCondition_17 : decode cX6_readCondition 17 = .ok (.getfield 190, 3) := by decide +kernel
theorem dX6_readCondition_20 : decode cX6_readCondition 20 = .ok (.if_icmp .ne 7, 3) := by decide +kernel
theorem dX6_readCondition_23 : decode cX6_readCondition 23 = .ok (.iconst 1, 1) := by decide +kernel
theorem dX6_readCondition_24 : decode cX6_readCondition 24 = .ok (.goto 4, 3) := by decide +kernel
theorem dX6_readCondition_27 : decode cX6_readCondition 27 = .ok (.iconst 0, 1) := by decide +kernel
theorem dX6_readCondition_28 : decode cX6_readCondition 28 = .ok (.ireturn, 1) := by decide +kernel
theorem dX6_readCondition_29 : decode cX6_readCondition 29 = .ok (.aload_n 0, 1) := by decide +kernel
theorem dX6_readCondition_30 : decode cX6_readCondition 30 = .ok (.ldc 193, 2) := by decide +kernel
theorem dX6_readCondition_32 : decode cX6_readCondition 32 = .ok (.invokevirtual 184, 3) := by decide +kernel
theorem dX6_readCondition_35 : decode cX6_readCondition 35 = .ok (.ifCond .eq 23, 3) := by decide +kernel
theorem dX6_readCondition_38 : decode cX6_readCondition 38 = .ok (.aload_n 0, 1) := by decide +kernel
theorem dX6_readCondition_39 : decode cX6_readCondition 39 = .ok (.invokevirtual 187, 3) := by decide +kernel
theorem dX6_readCondition_42 : decode cX6_readCondition 42 = .ok (.aload_n 0, 1) := by decide +kernel
theorem dX6_readCondition_43 : decode cX6_readCondition 43 = .ok (.getfield 21, 3) := by decide +kernel
theorem dX6_readCondition_46 : decode cX6_readCondition 46 = .ok (.invokestatic 195, 3) := by decide +kernel
theorem dX6_readCondition_49 : decode cX6_readCondition 49 = .ok (.if_icmp .ne 7, 3) := by decide +kernel
theorem dX6_readCondition_52 : decode cX6_readCondition 52 = .ok (.iconst 1, 1) := by decide +kernel
theorem dX6_readCondition_53 : decode cX6_readCondition 53 = .ok (.goto 4, 3) := by decide +kernel
theorem dX6_readCondition_56 : decode cX6_readCondition 56 = .ok (.iconst 0, 1) := by decide +kernel
theorem dX6_readCondition_57 : decode cX6_readCondition 57 = .ok (.ireturn, 1) := by decide +kernel
theorem dX6_readCondition_58 : decode cX6_readCondition 58 = .ok (.aload_n 0, 1) := by decide +kernel
theorem dX6_readCondition_59 : decode cX6_readCondition 59 = .ok (.ldc 200, 2) := by decide +kernel
theorem dX6_readCondition_61 : decode cX6_readCondition 61 = .ok (.invokevirtual 184, 3) := by decide +kernel
theorem dX6_readCondition_64 : decode cX6_readCondition 64 = .ok (.ifCond .eq 22, 3) := by decide +kernel
theorem dX6_readCondition_67 : decode cX6_readCondition 67 = .ok (.aload_n 0, 1) := by decide +kernel
theorem dX6_readCondition_68 : decode cX6_readCondition 68 = .ok (.getfield 21, 3) := by decide +kernel
theorem dX6_readCondition_71 : decode cX6_readCondition 71 = .ok (.iconst 0, 1) := by decide +kernel
theorem dX6_readCondition_72 : decode cX6_readCondition 72 = .ok (.iconst 0, 1) := by decide +kernel
theorem dX6_readCondition_73 : decode cX6_readCondition 73 = .ok (.invokevirtual 140, 3) := by decide +kernel
theorem dX6_readCondition_76 : decode cX6_readCondition 76 = .ok (.iconst (-1), 1) := by decide +kernel
theorem dX6_readCondition_77 : decode cX6_readCondition 77 = .ok (.if_icmp .eq 7, 3) := by decide +kernel
theorem dX6_readCondition_80 : decode cX6_readCondition 80 = .ok (.iconst 1, 1) := by decide +kernel
theorem dX6_readCondition_81 : decode cX6_readCondition 81 = .ok (.goto 4, 3) := by decide +kernel
theorem dX6_readCondition_84 : decode cX6_readCondition 84 = .ok (.iconst 0, 1) := by decide +kernel
theorem dX6_readCondition_85 : decode cX6_readCondition 85 = .ok (.ireturn, 1) := by decide +kernel
theorem dX6_readCondition_86 : decode cX6_readCondition 86 = .ok (.aload_n 0, 1) := by decide +kernel
theorem dX6_readCondition_87 : decode cX6_readCondition 87 = .ok (.ldc 202, 2) := by decide +kernel
theorem dX6_readCondition_89 : decode cX6_readCondition 89 = .ok (.invokevirtual 184, 3) := by decide +kernel
theorem dX6_readCondition_92 : decode cX6_readCondition 92 = .ok (.ifCond .eq 22, 3) := by decide +kernel
theorem dX6_readCondition_95 : decode cX6_readCondition 95 = .ok (.aload_n 0, 1) := by decide +kernel
theorem dX6_readCondition_96 : decode cX6_readCondition 96 = .ok (.getfield 21, 3) := by decide +kernel
theorem dX6_readCondition_99 : decode cX6_readCondition 99 = .ok (.iconst 0, 1) := by decide +kernel
theorem dX6_readCondition_100 : decode cX6_readCondition 100 = .ok (.iconst 0, 1) := by decide +kernel
theorem dX6_readCondition_101 : decode cX6_readCondition 101 = .ok (.invokevirtual 140, 3) := by decide +kernel
theorem dX6_readCondition_104 : decode cX6_readCondition 104 = .ok (.iconst (-1), 1) := by decide +kernel
theorem dX6_readCondition_105 : decode cX6_readCondition 105 = .ok (.if_icmp .ne 7, 3) := by decide +kernel
theorem dX6_readCondition_108 : decode cX6_readCondition 108 = .ok (.iconst 1, 1) := by decide +kernel
theorem dX6_readCondition_109 : decode cX6_readCondition 109 = .ok (.goto 4, 3) := by decide +kernel
theorem dX6_readCondition_112 : decode cX6_readCondition 112 = .ok (.iconst 0, 1) := by decide +kernel
theorem dX6_readCondition_113 : decode cX6_readCondition 113 = .ok (.ireturn, 1) := by decide +kernel
theorem dX6_readCondition_114 : decode cX6_readCondition 114 = .ok (.aload_n 0, 1) := by decide +kernel
theorem dX6_readCondition_115 : decode cX6_readCondition 115 = .ok (.ldc 204, 2) := by decide +kernel
theorem dX6_readCondition_117 : decode cX6_readCondition 117 = .ok (.invokevirtual 184, 3) := by decide +kernel
theorem dX6_readCondition_120 : decode cX6_readCondition 120 = .ok (.ifCond .eq 24, 3) := by decide +kernel
theorem dX6_readCondition_123 : decode cX6_readCondition 123 = .ok (.aload_n 0, 1) := by decide +kernel
theorem dX6_readCondition_124 : decode cX6_readCondition 124 = .ok (.invokevirtual 137, 3) := by decide +kernel
theorem dX6_readCondition_127 : decode cX6_readCondition 127 = .ok (.aload_n 0, 1) := by decide +kernel
theorem dX6_readCondition_128 : decode cX6_readCondition 128 = .ok (.getfield 21, 3) := by decide +kernel
theorem dX6_readCondition_131 : decode cX6_readCondition 131 = .ok (.aload_n 0, 1) := by decide +kernel
theorem dX6_readCondition_132 : decode cX6_readCondition 132 = .ok (.getfield 49, 3) := by decide +kernel
theorem dX6_readCondition_135 : decode cX6_readCondition 135 = .ok (.aload_n 0, 1) := by decide +kernel
theorem dX6_readCondition_136 : decode cX6_readCondition 136 = .ok (.getfield 52, 3) := by decide +kernel
theorem dX6_readCondition_139 : decode cX6_readCondition 139 = .ok (.iconst (-1), 1) := by decide +kernel
theorem dX6_readCondition_140 : decode cX6_readCondition 140 = .ok (.invokestatic 206, 3) := by decide +kernel
theorem dX6_readCondition_143 : decode cX6_readCondition 143 = .ok (.ireturn, 1) := by decide +kernel
theorem dX6_readCondition_144 : decode cX6_readCondition 144 = .ok (.aload_n 0, 1) := by decide +kernel
theorem dX6_readCondition_145 : decode cX6_readCondition 145 = .ok (.ldc 210, 2) := by decide +kernel
theorem dX6_readCondition_147 : decode cX6_readCondition 147 = .ok (.invokevirtual 184, 3) := by decide +kernel
theorem dX6_readCondition_150 : decode cX6_readCondition 150 = .ok (.ifCond .eq 8, 3) := by decide +kernel
theorem dX6_readCondition_153 : decode cX6_readCondition 153 = .ok (.aload_n 0, 1) := by decide +kernel
theorem dX6_readCondition_154 : decode cX6_readCondition 154 = .ok (.invokevirtual 212, 3) := by decide +kernel
theorem dX6_readCondition_157 : decode cX6_readCondition 157 = .ok (.ireturn, 1) := by decide +kernel
theorem dX6_readCondition_158 : decode cX6_readCondition 158 = .ok (.aload_n 0, 1) := by decide +kernel
theorem dX6_readCondition_159 : decode cX6_readCondition 159 = .ok (.ldc 215, 2) := by decide +kernel
theorem dX6_readCondition_161 : decode cX6_readCondition 161 = .ok (.invokevirtual 184, 3) := by decide +kernel
theorem dX6_readCondition_164 : decode cX6_readCondition 164 = .ok (.ifCond .eq 23, 3) := by decide +kernel
theorem dX6_readCondition_167 : decode cX6_readCondition 167 = .ok (.aload_n 0, 1) := by decide +kernel
theorem dX6_readCondition_168 : decode cX6_readCondition 168 = .ok (.invokevirtual 187, 3) := by decide +kernel
theorem dX6_readCondition_171 : decode cX6_readCondition 171 = .ok (.aload_n 0, 1) := by decide +kernel
theorem dX6_readCondition_172 : decode cX6_readCondition 172 = .ok (.getfield 21, 3) := by decide +kernel
theorem dX6_readCondition_175 : decode cX6_readCondition 175 = .ok (.invokevirtual 217, 3) := by decide +kernel
theorem dX6_readCondition_178 : decode cX6_readCondition 178 = .ok (.if_icmp .ne 7, 3) := by decide +kernel
theorem dX6_readCondition_181 : decode cX6_readCondition 181 = .ok (.iconst 1, 1) := by decide +kernel
theorem dX6_readCondition_182 : decode cX6_readCondition 182 = .ok (.goto 4, 3) := by decide +kernel
theorem dX6_readCondition_185 : decode cX6_readCondition 185 = .ok (.iconst 0, 1) := by decide +kernel
theorem dX6_readCondition_186 : decode cX6_readCondition 186 = .ok (.ireturn, 1) := by decide +kernel
theorem dX6_readCondition_187 : decode cX6_readCondition 187 = .ok (.aload_n 0, 1) := by decide +kernel
theorem dX6_readCondition_188 : decode cX6_readCondition 188 = .ok (.ldc 220, 2) := by decide +kernel
theorem dX6_readCondition_190 : decode cX6_readCondition 190 = .ok (.invokevirtual 184, 3) := by decide +kernel
theorem dX6_readCondition_193 : decode cX6_readCondition 193 = .ok (.ifCond .eq 36, 3) := by decide +kernel
theorem dX6_readCondition_196 : decode cX6_readCondition 196 = .ok (.aload_n 0, 1) := by decide +kernel
theorem dX6_readCondition_197 : decode cX6_readCondition 197 = .ok (.invokevirtual 146, 3) := by decide +kernel
theorem dX6_readCondition_200 : decode cX6_readCondition 200 = .ok (.istore_n 1, 1) := by decide +kernel
theorem dX6_readCondition_201 : decode cX6_readCondition 201 = .ok (.aload_n 0, 1) := by decide +kernel
theorem dX6_readCondition_202 : decode cX6_readCondition 202 = .ok (.invokevirtual 187, 3) := by decide +kernel
theorem dX6_readCondition_205 : decode cX6_readCondition 205 = .ok (.istore_n 2, 1) := by decide +kernel
theorem dX6_readCondition_206 : decode cX6_readCondition 206 = .ok (.iload_n 1, 1) := by decide +kernel
theorem dX6_readCondition_207 : decode cX6_readCondition 207 = .ok (.iconst (-1), 1) := by decide +kernel
theorem dX6_readCondition_208 : decode cX6_readCondition 208 = .ok (.if_icmp .eq 19, 3) := by decide +kernel
theorem dX6_readCondition_211 : decode cX6_readCondition 211 = .ok (.aload_n 0, 1) := by decide +kernel
theorem dX6_readCondition_212 : decode cX6_readCondition 212 = .ok (.getfield 21, 3) := by decide +kernel
theorem dX6_readCondition_215 : decode cX6_readCondition 215 = .ok (.iload_n 1, 1) := by decide +kernel
theorem dX6_readCondition_216 : decode cX6_readCondition 216 = .ok (.invokevirtual 222, 3) := by decide +kernel
theorem dX6_readCondition_219 : decode cX6_readCondition 219 = .ok (.iload_n 2, 1) := by decide +kernel
theorem dX6_readCondition_220 : decode cX6_readCondition 220 = .ok (.if_icmp .ne 7, 3) := by decide +kernel
theorem dX6_readCondition_223 : decode cX6_readCondition 223 = .ok (.iconst 1, 1) := by decide +kernel
theorem dX6_readCondition_224 : decode cX6_readCondition 224 = .ok (.goto 4, 3) := by decide +kernel
theorem dX6_readCondition_227 : decode cX6_readCondition 227 = .ok (.iconst 0, 1) := by decide +kernel
theorem dX6_readCondition_228 : decode cX6_readCondition 228 = .ok (.ireturn, 1) := by decide +kernel
theorem dX6_readCondition_229 : decode cX6_readCondition 229 = .ok (.aload_n 0, 1) := by decide +kernel
theorem dX6_readCondition_230 : decode cX6_readCondition 230 = .ok (.ldc 226, 2) := by decide +kernel
theorem dX6_readCondition_232 : decode cX6_readCondition 232 = .ok (.invokevirtual 184, 3) := by decide +kernel
theorem dX6_readCondition_235 : decode cX6_readCondition 235 = .ok (.ifCond .eq 37, 3) := by decide +kernel
theorem dX6_readCondition_238 : decode cX6_readCondition 238 = .ok (.aload_n 0, 1) := by decide +kernel
theorem dX6_readCondition_239 : decode cX6_readCondition 239 = .ok (.invokevirtual 146, 3) := by decide +kernel
theorem dX6_readCondition_242 : decode cX6_readCondition 242 = .ok (.istore_n 1, 1) := by decide +kernel
theorem dX6_readCondition_243 : decode cX6_readCondition 243 = .ok (.aload_n 0, 1) := by decide +kernel
theorem dX6_readCondition_244 : decode cX6_readCondition 244 = .ok (.invokevirtual 187, 3) := by decide +kernel
theorem dX6_readCondition_247 : decode cX6_readCondition 247 = .ok (.istore_n 2, 1) := by decide +kernel
theorem dX6_readCondition_248 : decode cX6_readCondition 248 = .ok (.iload_n 1, 1) := by decide +kernel
theorem dX6_readCondition_249 : decode cX6_readCondition 249 = .ok (.iconst (-1), 1) := by decide +kernel
theorem dX6_readCondition_250 : decode cX6_readCondition 250 = .ok (.if_icmp .eq 20, 3) := by decide +kernel
theorem dX6_readCondition_253 : decode cX6_readCondition 253 = .ok (.aload_n 0, 1) := by decide +kernel
theorem dX6_readCondition_254 : decode cX6_readCondition 254 = .ok (.getfield 21, 3) := by decide +kernel
theorem dX6_readCondition_257 : decode cX6_readCondition 257 = .ok (.getfield 228, 3) := by decide +kernel
theorem dX6_readCondition_260 : decode cX6_readCondition 260 = .ok (.iload_n 1, 1) := by decide +kernel
theorem dX6_readCondition_261 : decode cX6_readCondition 261 = .ok (.iaload, 1) := by decide +kernel
theorem dX6_readCondition_262 : decode cX6_readCondition 262 = .ok (.iload_n 2, 1) := by decide +kernel
theorem dX6_readCondition_263 : decode cX6_readCondition 263 = .ok (.if_icmp .ne 7, 3) := by decide +kernel
theorem dX6_readCondition_266 : decode cX6_readCondition 266 = .ok (.iconst 1, 1) := by decide +kernel
theorem dX6_readCondition_267 : decode cX6_readCondition 267 = .ok (.goto 4, 3) := by decide +kernel
theorem dX6_readCondition_270 : decode cX6_readCondition 270 = .ok (.iconst 0, 1) := by decide +kernel
theorem dX6_readCondition_271 : decode cX6_readCondition 271 = .ok (.ireturn, 1) := by decide +kernel
theorem dX6_readCondition_272 : decode cX6_readCondition 272 = .ok (.aload_n 0, 1) := by decide +kernel
theorem dX6_readCondition_273 : decode cX6_readCondition 273 = .ok (.iconst 1, 1) := by decide +kernel
theorem dX6_readCondition_274 : decode cX6_readCondition 274 = .ok (.aload_n 0, 1) := by decide +kernel
theorem dX6_readCondition_275 : decode cX6_readCondition 275 = .ok (.getfield 12, 3) := by decide +kernel
theorem dX6_readCondition_278 : decode cX6_readCondition 278 = .ok (.getfield 67, 3) := by decide +kernel
theorem dX6_readCondition_281 : decode cX6_readCondition 281 = .ok (.invokevirtual 70, 3) := by decide +kernel
theorem dX6_readCondition_284 : decode cX6_readCondition 284 = .ok (.iconst 0, 1) := by decide +kernel
theorem dX6_readCondition_285 : decode cX6_readCondition 285 = .ok (.ireturn, 1) := by decide +kernel
set_option maxRecDepth 20000 in
theorem ggX6_passWord_X7_isWord : GoodIn wsX6_passWord wsX7_isWord := goodIn_r _ [6, 7, 8, 9, 10, 11, 12, 13, 14, 15, 16, 17, 18, 19, 20, 21, 22, 23, 24, 25, 26, 27, 28, 29, 30, 31, 32, 33, 34, 35, 36, 37, 38, 39, 40, 41, 42, 43, 44, 45, 46, 47, 48, 49, 50, 51, 52, 53, 54, 55, 56, 57, 58, 59, 60, 74, 75, 76, 77, 78] rfl (by decide +kernel)
set_option maxRecDepth 20000 in
theorem gX6_passWord_X7_isWord : GoodIn wsX6_passWord (wsV RX6 63 RX7 yX7_isWord wsX7_isWord) := goodIn_app (goodIn_r _ [2, 3, 4, 5] rfl (by decide +kernel)) ggX6_passWord_X7_isWord
set_option maxRecDepth 20000 in
theorem ggX6_passWord_X7_advance : GoodIn wsX6_passWord wsX7_advance := goodIn_r _ [64, 8, 9, 10, 11, 7, 74, 75, 76, 77, 78] rfl (by decide +kernel)
set_option maxRecDepth 20000 in
theorem gX6_passWord_X7_advance : GoodIn wsX6_passWord (wsV RX6 74 RX7 yX7_advance wsX7_advance) := goodIn_app (goodIn_r _ [61, 62, 63, 5] rfl (by decide +kernel)) ggX6_passWord_X7_advance
theorem dX6_passWord_0 : decode cX6_passWord 0 = .ok (.aload_n 0, 1) := by decide +kernel
theorem dX6_passWord_1 : decode cX6_passWord 1 = .ok (.getfield 12, 3) := by decide +kernel
theorem dX6_passWord_4 : decode cX6_passWord 4 = .ok (.aload_n 1, 1) := by decide +kernel
theorem dX6_passWord_5 : decode cX6_passWord 5 = .ok (.invokevirtual 63, 3) := by decide +kernel
theorem dX6_passWord_8 : decode cX6_passWord 8 = .ok (.istore_n 2, 1) := by decide +kernel
theorem dX6_passWord_9 : decode cX6_passWord 9 = .ok (.iload_n 2, 1) := by decide +kernel
theorem dX6_passWord_10 : decode cX6_passWord 10 = .ok (.ifCond .eq 10, 3) := by decide +kernel
theorem dX6_passWord_13 : decode cX6_passWord 13 = .ok (.aload_n 0, 1) := by decide +kernel
theorem dX6_passWord_14 : decode cX6_passWord 14 = .ok (.getfield 12, 3) := by decide +kernel
theorem dX6_passWord_17 : decode cX6_passWord 17 = .ok (.invokevirtual 74, 3) := by decide +kernel
theorem dX6_passWord_20 : decode cX6_passWord 20 = .ok (.iload_n 2, 1) := by decide +kernel
theorem dX6_passWord_21 : decode cX6_passWord 21 = .ok (.ireturn, 1) := by decide +kernel
set_option maxRecDepth 20000 in
theorem ggX6_readFixed_X6_readLiteral : GoodIn wsX6_readFixed wsX6_readLiteral := goodIn_r _ [11, 12, 13, 14, 1, 2, 15, 16, 17, 18, 19, 20, 21, 22, 23, 24, 25, 26, 27, 10, 28, 4, 29, 30, 31, 32, 33, 34, 35, 36, 37, 38, 39, 69, 70, 71, 72, 73, 74, 75, 76, 77, 80, 81, 82, 83, 84, 85, 86, 87, 88, 89, 90, 91, 92] rfl (by decide +kernel)
set_option maxRecDepth 20000 in
theorem gX6_readFixed_X6_readLiteral : GoodIn wsX6_readFixed (wsV RX6 231 RX6 yX6_readLiteral wsX6_readLiteral) := goodIn_app (goodIn_r _ [7, 8, 9, 10] rfl (by decide +kernel)) ggX6_readFixed_X6_readLiteral
set_option maxRecDepth 20000 in
theorem ggX6_readFixed_X4_run : GoodIn wsX6_readFixed wsX4_run := goodIn_r _ [44, 45, 46, 47, 48, 49, 43, 50, 51, 52, 53, 54, 55, 56, 57, 58, 59, 60, 61, 62, 63, 64, 65, 66, 67, 68, 78, 79, 85, 86, 87, 88, 89, 90, 91, 92] rfl (by decide +kernel)
set_option maxRecDepth 20000 in
theorem gX6_readFixed_X4_run : GoodIn wsX6_readFixed (wsV RX6 234 RX4 yX4_run wsX4_run) := goodIn_app (goodIn_r _ [40, 41, 42, 43] rfl (by decide +kernel)) ggX6_readFixed_X4_run
theorem dX6_readFixed_0 : decode cX6_readFixed 0 = .ok (.aload_n 0, 1) := by decide +kernel
theorem dX6_readFixed_1 : decode cX6_readFixed 1 = .ok (.iconst 0, 1) := by decide +kernel
theorem dX6_readFixed_2 : decode cX6_readFixed 2 = .ok (.putfield 49, 3) := by decide +kernel
theorem dX6_readFixed_5 : decode cX6_readFixed 5 = .ok (.aload_n 0, 1) := by decide +kernel
theorem dX6_readFixed_6 : decode cX6_readFixed 6 = .ok (.iconst 0, 1) := by decide +kernel
theorem dX6_readFixed_7 : decode cX6_readFixed 7 = .ok (.putfield 52, 3) := by decide +kernel
theorem dX6_readFixed_10 : decode cX6_readFixed 10 = .ok (.aload_n 0, 1) := by decide +kernel
theorem dX6_readFixed_11 : decode cX6_readFixed 11 = .ok (.invokevirtual 231, 3) := by decide +kernel
theorem dX6_readFixed_14 : decode cX6_readFixed 14 = .ok (.aload_n 0, 1) := by decide +kernel
theorem dX6_readFixed_15 : decode cX6_readFixed 15 = .ok (.getfield 35, 3) := by decide +kernel
theorem dX6_readFixed_18 : decode cX6_readFixed 18 = .ok (.aload_n 0, 1) := by decide +kernel
theorem dX6_readFixed_19 : decode cX6_readFixed 19 = .ok (.getfield 21, 3) := by decide +kernel
theorem dX6_readFixed_22 : decode cX6_readFixed 22 = .ok (.invokevirtual 234, 3) := by decide +kernel
theorem dX6_readFixed_25 : decode cX6_readFixed 25 = .ok (.aload_n 0, 1) := by decide +kernel
theorem dX6_readFixed_26 : decode cX6_readFixed 26 = .ok (.getfield 49, 3) := by decide +kernel
theorem dX6_readFixed_29 : decode cX6_readFixed 29 = .ok (.aload_n 0, 1) := by decide +kernel
theorem dX6_readFixed_30 : decode cX6_readFixed 30 = .ok (.getfield 35, 3) := by decide +kernel
theorem dX6_readFixed_33 : decode cX6_readFixed 33 = .ok (.getfield 238, 3) := by decide +kernel
theorem dX6_readFixed_36 : decode cX6_readFixed 36 = .ok (.iconst (-1), 1) := by decide +kernel
theorem dX6_readFixed_37 : decode cX6_readFixed 37 = .ok (.ixor, 1) := by decide +kernel
theorem dX6_readFixed_38 : decode cX6_readFixed 38 = .ok (.iand, 1) := by decide +kernel
theorem dX6_readFixed_39 : decode cX6_readFixed 39 = .ok (.ifCond .ne 24, 3) := by decide +kernel
theorem dX6_readFixed_42 : decode cX6_readFixed 42 = .ok (.aload_n 0, 1) := by decide +kernel
theorem dX6_readFixed_43 : decode cX6_readFixed 43 = .ok (.getfield 52, 3) := by decide +kernel
theorem dX6_readFixed_46 : decode cX6_readFixed 46 = .ok (.aload_n 0, 1) := by decide +kernel
theorem dX6_readFixed_47 : decode cX6_readFixed 47 = .ok (.getfield 35, 3) := by decide +kernel
theorem dX6_readFixed_50 : decode cX6_readFixed 50 = .ok (.getfield 241, 3) := by decide +kernel
theorem dX6_readFixed_53 : decode cX6_readFixed 53 = .ok (.iconst (-1), 1) := by decide +kernel
theorem dX6_readFixed_54 : decode cX6_readFixed 54 = .ok (.ixor, 1) := by decide +kernel
theorem dX6_readFixed_55 : decode cX6_readFixed 55 = .ok (.iand, 1) := by decide +kernel
theorem dX6_readFixed_56 : decode cX6_readFixed 56 = .ok (.ifCond .ne 7, 3) := by decide +kernel
theorem dX6_readFixed_59 : decode cX6_readFixed 59 = .ok (.iconst 1, 1) := by decide +kernel
theorem dX6_readFixed_60 : decode cX6_readFixed 60 = .ok (.goto 4, 3) := by decide +kernel
theorem dX6_readFixed_63 : decode cX6_readFixed 63 = .ok (.iconst 0, 1) := by decide +kernel
theorem dX6_readFixed_64 : decode cX6_readFixed 64 = .ok (.ireturn, 1) := by decide +kernel
set_option maxRecDepth 20000 in
theorem ggX6_readLiterals_X6_isFailed : GoodIn wsX6_readLiterals wsX6_isFailed := goodIn_r _ [9, 10, 41, 42, 43, 44, 45, 46, 47, 48, 49] rfl (by decide +kernel)
set_option maxRecDepth 20000 in
theorem gX6_readLiterals_X6_isFailed : GoodIn wsX6_readLiterals (wsV RX6 84 RX6 yX6_isFailed wsX6_isFailed) := goodIn_app (goodIn_r _ [5, 6, 7, 8] rfl (by decide +kernel)) ggX6_readLiterals_X6_isFailed
set_option maxRecDepth 20000 in
theorem ggX6_readLiterals_X6_readLiteral : GoodIn wsX6_readLiterals wsX6_readLiteral := goodIn_r _ [14, 3, 4, 15, 1, 2, 16, 17, 18, 19, 20, 21, 22, 23, 24, 25, 26, 27, 28, 8, 29, 30, 31, 32, 33, 34, 35, 36, 37, 38, 39, 10, 40, 41, 42, 43, 44, 45, 46, 47, 48, 49, 50, 51, 52, 53, 54, 55, 56, 57, 58, 59, 60, 61, 62] rfl (by decide +kernel)
set_option maxRecDepth 20000 in
theorem gX6_readLiterals_X6_readLiteral : GoodIn wsX6_readLiterals (wsV RX6 231 RX6 yX6_readLiteral wsX6_readLiteral) := goodIn_app (goodIn_r _ [11, 12, 13, 8] rfl (by decide +kernel)) ggX6_readLiterals_X6_readLiteral
theorem dX6_readLiterals_0 : decode cX6_readLiterals 0 = .ok (.aload_n 0, 1) := by decide +kernel
theorem dX6_readLiterals_1 : decode cX6_readLiterals 1 = .ok (.iconst 0, 1) := by decide +kernel
theorem dX6_readLiterals_2 : decode cX6_readLiterals 2 = .ok (.putfield 49, 3) := by decide +kernel
theorem dX6_readLiterals_5 : decode cX6_readLiterals 5 = .ok (.aload_n 0, 1) := by decide +kernel
theorem dX6_readLiterals_6 : decode cX6_readLiterals 6 = .ok (.iconst 0, 1) := by decide +kernel
theorem dX6_readLiterals_7 : decode cX6_readLiterals 7 = .ok (.putfield 52, 3) := by decide +kernel
theorem dX6_readLiterals_10 : decode cX6_readLiterals 10 = .ok (.iconst 0, 1) := by decide +kernel
theorem dX6_readLiterals_11 : decode cX6_readLiterals 11 = .ok (.istore_n 1, 1) := by decide +kernel
theorem dX6_readLiterals_12 : decode cX6_readLiterals 12 = .ok (.iload_n 1, 1) := by decide +kernel
theorem dX6_readLiterals_13 : decode cX6_readLiterals 13 = .ok (.sipush 500, 3) := by decide +kernel
theorem dX6_readLiterals_16 : decode cX6_readLiterals 16 = .ok (.if_icmp .ge 43, 3) := by decide +kernel
theorem dX6_readLiterals_19 : decode cX6_readLiterals 19 = .ok (.aload_n 0, 1) := by decide +kernel
theorem dX6_readLiterals_20 : decode cX6_readLiterals 20 = .ok (.invokevirtual 84, 3) := by decide +kernel
theorem dX6_readLiterals_23 : decode cX6_readLiterals 23 = .ok (.ifCond .ne 36, 3) := by decide +kernel
theorem dX6_readLiterals_26 : decode cX6_readLiterals 26 = .ok (.aload_n 0, 1) := by decide +kernel
theorem dX6_readLiterals_27 : decode cX6_readLiterals 27 = .ok (.getfield 12, 3) := by decide +kernel
theorem dX6_readLiterals_30 : decode cX6_readLiterals 30 = .ok (.getfield 91, 3) := by decide +kernel
theorem dX6_readLiterals_33 : decode cX6_readLiterals 33 = .ok (.iconst 1, 1) := by decide +kernel
theorem dX6_readLiterals_34 : decode cX6_readLiterals 34 = .ok (.if_icmp .eq 15, 3) := by decide +kernel
theorem dX6_readLiterals_37 : decode cX6_readLiterals 37 = .ok (.aload_n 0, 1) := by decide +kernel
theorem dX6_readLiterals_38 : decode cX6_readLiterals 38 = .ok (.getfield 12, 3) := by decide +kernel
theorem dX6_readLiterals_41 : decode cX6_readLiterals 41 = .ok (.getfield 91, 3) := by decide +kernel
theorem dX6_readLiterals_44 : decode cX6_readLiterals 44 = .ok (.iconst 4, 1) := by decide +kernel
theorem dX6_readLiterals_45 : decode cX6_readLiterals 45 = .ok (.if_icmp .eq 4, 3) := by decide +kernel
theorem dX6_readLiterals_48 : decode cX6_readLiterals 48 = .ok (.return_, 1) := by decide +kernel
theorem dX6_readLiterals_49 : decode cX6_readLiterals 49 = .ok (.aload_n 0, 1) := by decide +kernel
theorem dX6_readLiterals_50 : decode cX6_readLiterals 50 = .ok (.invokevirtual 231, 3) := by decide +kernel
theorem dX6_readLiterals_53 : decode cX6_readLiterals 53 = .ok (.iinc 1 1, 3) := by decide +kernel
theorem dX6_readLiterals_56 : decode cX6_readLiterals 56 = .ok (.goto (-44), 3) := by decide +kernel
theorem dX6_readLiterals_59 : decode cX6_readLiterals 59 = .ok (.return_, 1) := by decide +kernel
set_option maxRecDepth 20000 in
theorem ggX6_readLiteral_X7_advance : GoodIn wsX6_readLiteral wsX7_advance := goodIn_r _ [10, 11, 12, 13, 14, 15, 42, 43, 44, 45, 46] rfl (by decide +kernel)
set_option maxRecDepth 20000 in
theorem gX6_readLiteral_X7_advance : GoodIn wsX6_readLiteral (wsV RX6 74 RX7 yX7_advance wsX7_advance) := goodIn_app (goodIn_r _ [6, 7, 8, 9] rfl (by decide +kernel)) ggX6_readLiteral_X7_advance
set_option maxRecDepth 20000 in
theorem ggX6_readLiteral_X6_readVariable : GoodIn wsX6_readLiteral wsX6_readVariable := goodIn_r _ [20, 1, 3, 21, 22, 23, 24, 25, 9, 26, 15, 11, 12, 13, 14, 27, 28, 29, 19, 30, 31, 32, 6, 7, 8, 10, 33, 34, 35, 36, 37, 38, 39, 40, 41, 42, 43, 44, 45, 46, 47, 48, 49, 50, 51, 52, 53, 54] rfl (by decide +kernel)
set_option maxRecDepth 20000 in
theorem gX6_readLiteral_X6_readVariable : GoodIn wsX6_readLiteral (wsV RX6 171 RX6 yX6_readVariable wsX6_readVariable) := goodIn_app (goodIn_r _ [16, 17, 18, 19] rfl (by decide +kernel)) ggX6_readLiteral_X6_readVariable
set_option maxRecDepth 20000 in
theorem ggX6_readLiteral_X6_fail : GoodIn wsX6_readLiteral wsX6_fail := goodIn_r _ [30, 31, 32, 33, 34, 35, 36, 37, 38, 39, 40, 41] rfl (by decide +kernel)
set_option maxRecDepth 20000 in
theorem gX6_readLiteral_X6_fail : GoodIn wsX6_readLiteral (wsV RX6 70 RX6 yX6_fail wsX6_fail) := goodIn_app (goodIn_r _ [27, 28, 29, 19] rfl (by decide +kernel)) ggX6_readLiteral_X6_fail
theorem dX6_readLiteral_0 : decode cX6_readLiteral 0 = .ok (.aload_n 0, 1) := by decide +kernel
theorem dX6_readLiteral_1 : decode cX6_readLiteral 1 = .ok (.getfield 12, 3) := by decide +kernel
theorem dX6_readLiteral_4 : decode cX6_readLiteral 4 = .ok (.getfield 91, 3) := by decide +kernel
theorem dX6_readLiteral_7 : decode cX6_readLiteral 7 = .ok (.iconst 4, 1) := by decide +kernel
theorem dX6_readLiteral_8 : decode cX6_readLiteral 8 = .ok (.if_icmp .ne 7, 3) := by decide +kernel
theorem dX6_readLiteral_11 : decode cX6_readLiteral 11 = .ok (.iconst 1, 1) := by decide +kernel
theorem dX6_readLiteral_12 : decode cX6_readLiteral 12 = .ok (.goto 4, 3) := by decide +kernel
theorem dX6_readLiteral_15 : decode cX6_readLiteral 15 = .ok (.iconst 0, 1) := by decide +kernel
theorem dX6_readLiteral_16 : decode cX6_readLiteral 16 = .ok (.istore_n 1, 1) := by decide +kernel
theorem dX6_readLiteral_17 : decode cX6_readLiteral 17 = .ok (.iload_n 1, 1) := by decide +kernel
theorem dX6_readLiteral_18 : decode cX6_readLiteral 18 = .ok (.ifCond .eq 10, 3) := by decide +kernel
theorem dX6_readLiteral_21 : decode cX6_readLiteral 21 = .ok (.aload_n 0, 1) := by decide +kernel
theorem dX6_readLiteral_22 : decode cX6_readLiteral 22 = .ok (.getfield 12, 3) := by decide +kernel
theorem dX6_readLiteral_25 : decode cX6_readLiteral 25 = .ok (.invokevirtual 74, 3) := by decide +kernel
theorem dX6_readLiteral_28 : decode cX6_readLiteral 28 = .ok (.aload_n 0, 1) := by decide +kernel
theorem dX6_readLiteral_29 : decode cX6_readLiteral 29 = .ok (.getfield 12, 3) := by decide +kernel
theorem dX6_readLiteral_32 : decode cX6_readLiteral 32 = .ok (.getfield 67, 3) := by decide +kernel
theorem dX6_readLiteral_35 : decode cX6_readLiteral 35 = .ok (.istore_n 2, 1) := by decide +kernel
theorem dX6_readLiteral_36 : decode cX6_readLiteral 36 = .ok (.aload_n 0, 1) := by decide +kernel
theorem dX6_readLiteral_37 : decode cX6_readLiteral 37 = .ok (.invokevirtual 171, 3) := by decide +kernel
theorem dX6_readLiteral_40 : decode cX6_readLiteral 40 = .ok (.istore_n 3, 1) := by decide +kernel
theorem dX6_readLiteral_41 : decode cX6_readLiteral 41 = .ok (.iload_n 3, 1) := by decide +kernel
theorem dX6_readLiteral_42 : decode cX6_readLiteral 42 = .ok (.iconst (-1), 1) := by decide +kernel
theorem dX6_readLiteral_43 : decode cX6_readLiteral 43 = .ok (.if_icmp .ne 4, 3) := by decide +kernel
theorem dX6_readLiteral_46 : decode cX6_readLiteral 46 = .ok (.return_, 1) := by decide +kernel
theorem dX6_readLiteral_47 : decode cX6_readLiteral 47 = .ok (.iconst 1, 1) := by decide +kernel
theorem dX6_readLiteral_48 : decode cX6_readLiteral 48 = .ok (.iload_n 3, 1) := by decide +kernel
theorem dX6_readLiteral_49 : decode cX6_readLiteral 49 = .ok (.ishl, 1) := by decide +kernel
theorem dX6_readLiteral_50 : decode cX6_readLiteral 50 = .ok (.istore 4, 2) := by decide +kernel
theorem dX6_readLiteral_52 : decode cX6_readLiteral 52 = .ok (.iload_n 1, 1) := by decide +kernel
theorem dX6_readLiteral_53 : decode cX6_readLiteral 53 = .ok (.ifCond .eq 10, 3) := by decide +kernel
theorem dX6_readLiteral_56 : decode cX6_readLiteral 56 = .ok (.aload_n 0, 1) := by decide +kernel
theorem dX6_readLiteral_57 : decode cX6_readLiteral 57 = .ok (.getfield 49, 3) := by decide +kernel
theorem dX6_readLiteral_60 : decode cX6_readLiteral 60 = .ok (.goto 7, 3) := by decide +kernel
theorem dX6_readLiteral_63 : decode cX6_readLiteral 63 = .ok (.aload_n 0, 1) := by decide +kernel
theorem dX6_readLiteral_64 : decode cX6_readLiteral 64 = .ok (.getfield 52, 3) := by decide +kernel
theorem dX6_readLiteral_67 : decode cX6_readLiteral 67 = .ok (.iload 4, 2) := by decide +kernel
theorem dX6_readLiteral_69 : decode cX6_readLiteral 69 = .ok (.iand, 1) := by decide +kernel
theorem dX6_readLiteral_70 : decode cX6_readLiteral 70 = .ok (.ifCond .eq 12, 3) := by decide +kernel
theorem dX6_readLiteral_73 : decode cX6_readLiteral 73 = .ok (.aload_n 0, 1) := by decide +kernel
theorem dX6_readLiteral_74 : decode cX6_readLiteral 74 = .ok (.iconst 3, 1) := by decide +kernel
theorem dX6_readLiteral_75 : decode cX6_readLiteral 75 = .ok (.iload_n 2, 1) := by decide +kernel
theorem dX6_readLiteral_76 : decode cX6_readLiteral 76 = .ok (.invokevirtual 70, 3) := by decide +kernel
theorem dX6_readLiteral_79 : decode cX6_readLiteral 79 = .ok (.goto 32, 3) := by decide +kernel
theorem dX6_readLiteral_82 : decode cX6_readLiteral 82 = .ok (.iload_n 1, 1) := by decide +kernel
theorem dX6_readLiteral_83 : decode cX6_readLiteral 83 = .ok (.ifCond .eq 17, 3) := by decide +kernel
theorem dX6_readLiteral_86 : decode cX6_readLiteral 86 = .ok (.aload_n 0, 1) := by decide +kernel
theorem dX6_readLiteral_87 : decode cX6_readLiteral 87 = .ok (.dup, 1) := by decide +kernel
theorem dX6_readLiteral_88 : decode cX6_readLiteral 88 = .ok (.getfield 52, 3) := by decide +kernel
theorem dX6_readLiteral_91 : decode cX6_readLiteral 91 = .ok (.iload 4, 2) := by decide +kernel
theorem dX6_readLiteral_93 : decode cX6_readLiteral 93 = .ok (.ior, 1) := by decide +kernel
theorem dX6_readLiteral_94 : decode cX6_readLiteral 94 = .ok (.putfield 52, 3) := by decide +kernel
theorem dX6_readLiteral_97 : decode cX6_readLiteral 97 = .ok (.goto 14, 3) := by decide +kernel
theorem dX6_readLiteral_100 : decode cX6_readLiteral 100 = .ok (.aload_n 0, 1) := by decide +kernel
theorem dX6_readLiteral_101 : decode cX6_readLiteral 101 = .ok (.dup, 1) := by decide +kernel
theorem dX6_readLiteral_102 : decode cX6_readLiteral 102 = .ok (.getfield 49, 3) := by decide +kernel
theorem dX6_readLiteral_105 : decode cX6_readLiteral 105 = .ok (.iload 4, 2) := by decide +kernel
theorem dX6_readLiteral_107 : decode cX6_readLiteral 107 = .ok (.ior, 1) := by decide +kernel
theorem dX6_readLiteral_108 : decode cX6_readLiteral 108 = .ok (.putfield 49, 3) := by decide +kernel
theorem dX6_readLiteral_111 : decode cX6_readLiteral 111 = .ok (.return_, 1) := by decide +kernel
set_option maxRecDepth 20000 in
theorem ggX6_readVariable_X7_letter : GoodIn wsX6_readVariable wsX7_letter := goodIn_r _ [9, 10, 11, 12, 13, 14, 35, 36, 37, 38, 39] rfl (by decide +kernel)
set_option maxRecDepth 20000 in
theorem gX6_readVariable_X7_letter : GoodIn wsX6_readVariable (wsV RX6 244 RX7 yX7_letter wsX7_letter) := goodIn_app (goodIn_r _ [5, 6, 7, 8] rfl (by decide +kernel)) ggX6_readVariable_X7_letter
set_option maxRecDepth 20000 in
theorem ggX6_readVariable_X6_fail : GoodIn wsX6_readVariable wsX6_fail := goodIn_r _ [19, 20, 21, 26, 27, 28, 29, 30, 31, 32, 33, 34] rfl (by decide +kernel)
set_option maxRecDepth 20000 in
theorem gX6_readVariable_X6_fail : GoodIn wsX6_readVariable (wsV RX6 70 RX6 yX6_fail wsX6_fail) := goodIn_app (goodIn_r _ [15, 16, 17, 18] rfl (by decide +kernel)) ggX6_readVariable_X6_fail
set_option maxRecDepth 20000 in
theorem ggX6_readVariable_X7_advance : GoodIn wsX6_readVariable wsX7_advance := goodIn_r _ [25, 11, 12, 13, 14, 10, 35, 36, 37, 38, 39] rfl (by decide +kernel)
set_option maxRecDepth 20000 in
theorem gX6_readVariable_X7_advance : GoodIn wsX6_readVariable (wsV RX6 74 RX7 yX7_advance wsX7_advance) := goodIn_app (goodIn_r _ [22, 23, 24, 8] rfl (by decide +kernel)) ggX6_readVariable_X7_advance
theorem dX6_readVariable_0 : decode cX6_readVariable 0 = .ok (.aload_n 0, 1) := by decide +kernel
theorem dX6_readVariable_1 : decode cX6_readVariable 1 = .ok (.getfield 12, 3) := by decide +kernel
theorem dX6_readVariable_4 : decode cX6_readVariable 4 = .ok (.invokevirtual 244, 3) := by decide +kernel
theorem dX6_readVariable_7 : decode cX6_readVariable 7 = .ok (.istore_n 1, 1) := by decide +kernel
theorem dX6_readVariable_8 : decode cX6_readVariable 8 = .ok (.iload_n 1, 1) := by decide +kernel
theorem dX6_readVariable_9 : decode cX6_readVariable 9 = .ok (.iconst (-1), 1) := by decide +kernel
theorem dX6_readVariable_10 : decode cX6_readVariable 10 = .ok (.if_icmp .ne 17, 3) := by decide +kernel
theorem dX6_readVariable_13 : decode cX6_readVariable 13 = .ok (.aload_n 0, 1) := by decide +kernel
theorem dX6_readVariable_14 : decode cX6_readVariable 14 = .ok (.iconst 1, 1) := by decide +kernel
theorem dX6_readVariable_15 : decode cX6_readVariable 15 = .ok (.aload_n 0, 1) := by decide +kernel
theorem dX6_readVariable_16 : decode cX6_readVariable 16 = .ok (.getfield 12, 3) := by decide +kernel
theorem dX6_readVariable_19 : decode cX6_readVariable 19 = .ok (.getfield 67, 3) := by decide +kernel
theorem dX6_readVariable_22 : decode cX6_readVariable 22 = .ok (.invokevirtual 70, 3) := by decide +kernel
theorem dX6_readVariable_25 : decode cX6_readVariable 25 = .ok (.iconst (-1), 1) := by decide +kernel
theorem dX6_readVariable_26 : decode cX6_readVariable 26 = .ok (.ireturn, 1) := by decide +kernel
theorem dX6_readVariable_27 : decode cX6_readVariable 27 = .ok (.iload_n 1, 1) := by decide +kernel
theorem dX6_readVariable_28 : decode cX6_readVariable 28 = .ok (.aload_n 0, 1) := by decide +kernel
theorem dX6_readVariable_29 : decode cX6_readVariable 29 = .ok (.getfield 21, 3) := by decide +kernel
theorem dX6_readVariable_32 : decode cX6_readVariable 32 = .ok (.getfield 176, 3) := by decide +kernel
theorem dX6_readVariable_35 : decode cX6_readVariable 35 = .ok (.if_icmp .lt 17, 3) := by decide +kernel
theorem dX6_readVariable_38 : decode cX6_readVariable 38 = .ok (.aload_n 0, 1) := by decide +kernel
theorem dX6_readVariable_39 : decode cX6_readVariable 39 = .ok (.iconst 2, 1) := by decide +kernel
theorem dX6_readVariable_40 : decode cX6_readVariable 40 = .ok (.aload_n 0, 1) := by decide +kernel
theorem dX6_readVariable_41 : decode cX6_readVariable 41 = .ok (.getfield 12, 3) := by decide +kernel
theorem dX6_readVariable_44 : decode cX6_readVariable 44 = .ok (.getfield 67, 3) := by decide +kernel
theorem dX6_readVariable_47 : decode cX6_readVariable 47 = .ok (.invokevirtual 70, 3) := by decide +kernel
theorem dX6_readVariable_50 : decode cX6_readVariable 50 = .ok (.iconst (-1), 1) := by decide +kernel
theorem dX6_readVariable_51 : decode cX6_readVariable 51 = .ok (.ireturn, 1) := by decide +kernel
theorem dX6_readVariable_52 : decode cX6_readVariable 52 = .ok (.aload_n 0, 1) := by decide +kernel
theorem dX6_readVariable_53 : decode cX6_readVariable 53 = .ok (.getfield 12, 3) := by decide +kernel
theorem dX6_readVariable_56 : decode cX6_readVariable 56 = .ok (.invokevirtual 74, 3) := by decide +kernel
theorem dX6_readVariable_59 : decode cX6_readVariable 59 = .ok (.iload_n 1, 1) := by decide +kernel
theorem dX6_readVariable_60 : decode cX6_readVariable 60 = .ok (.ireturn, 1) := by decide +kernel
set_option maxRecDepth 20000 in
theorem ggX6_readClauseNumber_X6_readNumber : GoodIn wsX6_readClauseNumber wsX6_readNumber := goodIn_r _ [7, 8, 9, 10, 11, 12, 13, 6, 14, 15, 16, 17, 18, 19, 20, 21, 22, 23, 24, 25, 26, 27, 28, 29, 30, 31, 32, 33, 34, 35, 36, 37, 38, 39, 40, 41, 42, 43, 52, 53, 54, 55, 56] rfl (by decide +kernel)
set_option maxRecDepth 20000 in
theorem gX6_readClauseNumber_X6_readNumber : GoodIn wsX6_readClauseNumber (wsV RX6 77 RX6 yX6_readNumber wsX6_readNumber) := goodIn_app (goodIn_r _ [3, 4, 5, 6] rfl (by decide +kernel)) ggX6_readClauseNumber_X6_readNumber
theorem dX6_readClauseNumber_0 : decode cX6_readClauseNumber 0 = .ok (.aload_n 0, 1) := by decide +kernel
theorem dX6_readClauseNumber_1 : decode cX6_readClauseNumber 1 = .ok (.iconst 0, 1) := by decide +kernel
theorem dX6_readClauseNumber_2 : decode cX6_readClauseNumber 2 = .ok (.aload_n 0, 1) := by decide +kernel
theorem dX6_readClauseNumber_3 : decode cX6_readClauseNumber 3 = .ok (.getfield 21, 3) := by decide +kernel
theorem dX6_readClauseNumber_6 : decode cX6_readClauseNumber 6 = .ok (.getfield 190, 3) := by decide +kernel
theorem dX6_readClauseNumber_9 : decode cX6_readClauseNumber 9 = .ok (.iconst 1, 1) := by decide +kernel
theorem dX6_readClauseNumber_10 : decode cX6_readClauseNumber 10 = .ok (.isub, 1) := by decide +kernel
theorem dX6_readClauseNumber_11 : decode cX6_readClauseNumber 11 = .ok (.invokevirtual 77, 3) := by decide +kernel
theorem dX6_readClauseNumber_14 : decode cX6_readClauseNumber 14 = .ok (.ireturn, 1) := by decide +kernel
set_option maxRecDepth 20000 in
theorem ggX6_readValue_X6_readNumber : GoodIn wsX6_readValue wsX6_readNumber := goodIn_r _ [5, 6, 7, 8, 9, 10, 11, 4, 12, 13, 14, 15, 16, 17, 18, 19, 20, 21, 22, 23, 24, 25, 26, 27, 28, 29, 30, 31, 32, 33, 34, 35, 36, 37, 38, 39, 40, 41, 42, 43, 44, 45, 46] rfl (by decide +kernel)
set_option maxRecDepth 20000 in
theorem gX6_readValue_X6_readNumber : GoodIn wsX6_readValue (wsV RX6 77 RX6 yX6_readNumber wsX6_readNumber) := goodIn_app (goodIn_r _ [1, 2, 3, 4] rfl (by decide +kernel)) ggX6_readValue_X6_readNumber
theorem dX6_readValue_0 : decode cX6_readValue 0 = .ok (.aload_n 0, 1) := by decide +kernel
theorem dX6_readValue_1 : decode cX6_readValue 1 = .ok (.iconst 0, 1) := by decide +kernel
theorem dX6_readValue_2 : decode cX6_readValue 2 = .ok (.sipush 9999, 3) := by decide +kernel
theorem dX6_readValue_5 : decode cX6_readValue 5 = .ok (.invokevirtual 77, 3) := by decide +kernel
theorem dX6_readValue_8 : decode cX6_readValue 8 = .ok (.ireturn, 1) := by decide +kernel
set_option maxRecDepth 20000 in
theorem ggX6_readNumber_X6_isFailed : GoodIn wsX6_readNumber wsX6_isFailed := goodIn_r _ [8, 9, 29, 30, 31, 32, 33, 34, 35, 36, 37] rfl (by decide +kernel)
set_option maxRecDepth 20000 in
theorem gX6_readNumber_X6_isFailed : GoodIn wsX6_readNumber (wsV RX6 84 RX6 yX6_isFailed wsX6_isFailed) := goodIn_app (goodIn_r _ [4, 5, 6, 7] rfl (by decide +kernel)) ggX6_readNumber_X6_isFailed
set_option maxRecDepth 20000 in
theorem ggX6_readNumber_X6_fail : GoodIn wsX6_readNumber wsX6_fail := goodIn_r _ [13, 9, 14, 29, 30, 31, 32, 33, 34, 35, 36, 37] rfl (by decide +kernel)
set_option maxRecDepth 20000 in
theorem gX6_readNumber_X6_fail : GoodIn wsX6_readNumber (wsV RX6 70 RX6 yX6_fail wsX6_fail) := goodIn_app (goodIn_r _ [10, 11, 12, 7] rfl (by decide +kernel)) ggX6_readNumber_X6_fail
set_option maxRecDepth 20000 in
theorem ggX6_readNumber_X7_number : GoodIn wsX6_readNumber wsX7_number := goodIn_r _ [19, 20, 21, 22, 23, 38, 39, 40, 41, 42] rfl (by decide +kernel)
set_option maxRecDepth 20000 in
theorem gX6_readNumber_X7_number : GoodIn wsX6_readNumber (wsV RX6 247 RX7 yX7_number wsX7_number) := goodIn_app (goodIn_r _ [15, 16, 17, 18] rfl (by decide +kernel)) ggX6_readNumber_X7_number
set_option maxRecDepth 20000 in
theorem ggX6_readNumber_X7_advance : GoodIn wsX6_readNumber wsX7_advance := goodIn_r _ [27, 20, 21, 22, 23, 28, 38, 39, 40, 41, 42] rfl (by decide +kernel)
set_option maxRecDepth 20000 in
theorem gX6_readNumber_X7_advance : GoodIn wsX6_readNumber (wsV RX6 74 RX7 yX7_advance wsX7_advance) := goodIn_app (goodIn_r _ [24, 25, 26, 18] rfl (by decide +kernel)) ggX6_readNumber_X7_advance
theorem dX6_readNumber_0 : decode cX6_readNumber 0 = .ok (.aload_n 0, 1) := by decide +kernel
theorem dX6_readNumber_1 : decode cX6_readNumber 1 = .ok (.invokevirtual 84, 3) := by decide +kernel
theorem dX6_readNumber_4 : decode cX6_readNumber 4 = .ok (.ifCond .eq 5, 3) := by decide +kernel
theorem dX6_readNumber_7 : decode cX6_readNumber 7 = .ok (.iconst (-1), 1) := by decide +kernel
theorem dX6_readNumber_8 : decode cX6_readNumber 8 = .ok (.ireturn, 1) := by decide +kernel
theorem dX6_readNumber_9 : decode cX6_readNumber 9 = .ok (.aload_n 0, 1) := by decide +kernel
theorem dX6_readNumber_10 : decode cX6_readNumber 10 = .ok (.getfield 12, 3) := by decide +kernel
theorem dX6_readNumber_13 : decode cX6_readNumber 13 = .ok (.getfield 91, 3) := by decide +kernel
theorem dX6_readNumber_16 : decode cX6_readNumber 16 = .ok (.iconst 2, 1) := by decide +kernel
theorem dX6_readNumber_17 : decode cX6_readNumber 17 = .ok (.if_icmp .eq 17, 3) := by decide +kernel
theorem dX6_readNumber_20 : decode cX6_readNumber 20 = .ok (.aload_n 0, 1) := by decide +kernel
theorem dX6_readNumber_21 : decode cX6_readNumber 21 = .ok (.iconst 1, 1) := by decide +kernel
theorem dX6_readNumber_22 : decode cX6_readNumber 22 = .ok (.aload_n 0, 1) := by decide +kernel
theorem dX6_readNumber_23 : decode cX6_readNumber 23 = .ok (.getfield 12, 3) := by decide +kernel
theorem dX6_readNumber_26 : decode cX6_readNumber 26 = .ok (.getfield 67, 3) := by decide +kernel
theorem dX6_readNumber_29 : decode cX6_readNumber 29 = .ok (.invokevirtual 70, 3) := by decide +kernel
theorem dX6_readNumber_32 : decode cX6_readNumber 32 = .ok (.iconst (-1), 1) := by decide +kernel
theorem dX6_readNumber_33 : decode cX6_readNumber 33 = .ok (.ireturn, 1) := by decide +kernel
theorem dX6_readNumber_34 : decode cX6_readNumber 34 = .ok (.aload_n 0, 1) := by decide +kernel
theorem dX6_readNumber_35 : decode cX6_readNumber 35 = .ok (.getfield 12, 3) := by decide +kernel
theorem dX6_readNumber_38 : decode cX6_readNumber 38 = .ok (.invokevirtual 247, 3) := by decide +kernel
theorem dX6_readNumber_41 : decode cX6_readNumber 41 = .ok (.istore_n 3, 1) := by decide +kernel
theorem dX6_readNumber_42 : decode cX6_readNumber 42 = .ok (.iload_n 3, 1) := by decide +kernel
theorem dX6_readNumber_43 : decode cX6_readNumber 43 = .ok (.iload_n 1, 1) := by decide +kernel
theorem dX6_readNumber_44 : decode cX6_readNumber 44 = .ok (.if_icmp .lt 8, 3) := by decide +kernel
theorem dX6_readNumber_47 : decode cX6_readNumber 47 = .ok (.iload_n 3, 1) := by decide +kernel
theorem dX6_readNumber_48 : decode cX6_readNumber 48 = .ok (.iload_n 2, 1) := by decide +kernel
theorem dX6_readNumber_49 : decode cX6_readNumber 49 = .ok (.if_icmp .le 17, 3) := by decide +kernel
theorem dX6_readNumber_52 : decode cX6_readNumber 52 = .ok (.aload_n 0, 1) := by decide +kernel
theorem dX6_readNumber_53 : decode cX6_readNumber 53 = .ok (.iconst 2, 1) := by decide +kernel
theorem dX6_readNumber_54 : decode cX6_readNumber 54 = .ok (.aload_n 0, 1) := by decide +kernel
theorem dX6_readNumber_55 : decode cX6_readNumber 55 = .ok (.getfield 12, 3) := by decide +kernel
theorem dX6_readNumber_58 : decode cX6_readNumber 58 = .ok (.getfield 67, 3) := by decide +kernel
theorem dX6_readNumber_61 : decode cX6_readNumber 61 = .ok (.invokevirtual 70, 3) := by decide +kernel
theorem dX6_readNumber_64 : decode cX6_readNumber 64 = .ok (.iconst (-1), 1) := by decide +kernel
theorem dX6_readNumber_65 : decode cX6_readNumber 65 = .ok (.ireturn, 1) := by decide +kernel
theorem dX6_readNumber_66 : decode cX6_readNumber 66 = .ok (.aload_n 0, 1) := by decide +kernel
theorem dX6_readNumber_67 : decode cX6_readNumber 67 = .ok (.getfield 12, 3) := by decide +kernel
theorem dX6_readNumber_70 : decode cX6_readNumber 70 = .ok (.invokevirtual 74, 3) := by decide +kernel
theorem dX6_readNumber_73 : decode cX6_readNumber 73 = .ok (.iload_n 3, 1) := by decide +kernel
theorem dX6_readNumber_74 : decode cX6_readNumber 74 = .ok (.ireturn, 1) := by decide +kernel
set_option maxRecDepth 20000 in
theorem ggX6_readSemicolon_X6_isFailed : GoodIn wsX6_readSemicolon wsX6_isFailed := goodIn_r _ [8, 9, 25, 26, 27, 28, 29, 30, 31, 32, 33] rfl (by decide +kernel)
set_option maxRecDepth 20000 in
theorem gX6_readSemicolon_X6_isFailed : GoodIn wsX6_readSemicolon (wsV RX6 84 RX6 yX6_isFailed wsX6_isFailed) := goodIn_app (goodIn_r _ [4, 5, 6, 7] rfl (by decide +kernel)) ggX6_readSemicolon_X6_isFailed
set_option maxRecDepth 20000 in
theorem ggX6_readSemicolon_X6_fail : GoodIn wsX6_readSemicolon wsX6_fail := goodIn_r _ [13, 9, 14, 25, 26, 27, 28, 29, 30, 31, 32, 33] rfl (by decide +kernel)
set_option maxRecDepth 20000 in
theorem gX6_readSemicolon_X6_fail : GoodIn wsX6_readSemicolon (wsV RX6 70 RX6 yX6_fail wsX6_fail) := goodIn_app (goodIn_r _ [10, 11, 12, 7] rfl (by decide +kernel)) ggX6_readSemicolon_X6_fail
set_option maxRecDepth 20000 in
theorem ggX6_readSemicolon_X7_advance : GoodIn wsX6_readSemicolon wsX7_advance := goodIn_r _ [19, 20, 21, 22, 23, 24, 34, 35, 36, 37, 38] rfl (by decide +kernel)
set_option maxRecDepth 20000 in
theorem gX6_readSemicolon_X7_advance : GoodIn wsX6_readSemicolon (wsV RX6 74 RX7 yX7_advance wsX7_advance) := goodIn_app (goodIn_r _ [15, 16, 17, 18] rfl (by decide +kernel)) ggX6_readSemicolon_X7_advance
theorem dX6_readSemicolon_0 : decode cX6_readSemicolon 0 = .ok (.aload_n 0, 1) := by decide +kernel
theorem dX6_readSemicolon_1 : decode cX6_readSemicolon 1 = .ok (.invokevirtual 84, 3) := by decide +kernel
theorem dX6_readSemicolon_4 : decode cX6_readSemicolon 4 = .ok (.ifCond .eq 4, 3) := by decide +kernel
theorem dX6_readSemicolon_7 : decode cX6_readSemicolon 7 = .ok (.return_, 1) := by decide +kernel
theorem dX6_readSemicolon_8 : decode cX6_readSemicolon 8 = .ok (.aload_n 0, 1) := by decide +kernel
theorem dX6_readSemicolon_9 : decode cX6_readSemicolon 9 = .ok (.getfield 12, 3) := by decide +kernel
theorem dX6_readSemicolon_12 : decode cX6_readSemicolon 12 = .ok (.getfield 91, 3) := by decide +kernel
theorem dX6_readSemicolon_15 : decode cX6_readSemicolon 15 = .ok (.iconst 3, 1) := by decide +kernel
theorem dX6_readSemicolon_16 : decode cX6_readSemicolon 16 = .ok (.if_icmp .eq 16, 3) := by decide +kernel
theorem dX6_readSemicolon_19 : decode cX6_readSemicolon 19 = .ok (.aload_n 0, 1) := by decide +kernel
theorem dX6_readSemicolon_20 : decode cX6_readSemicolon 20 = .ok (.iconst 1, 1) := by decide +kernel
theorem dX6_readSemicolon_21 : decode cX6_readSemicolon 21 = .ok (.aload_n 0, 1) := by decide +kernel
theorem dX6_readSemicolon_22 : decode cX6_readSemicolon 22 = .ok (.getfield 12, 3) := by decide +kernel
theorem dX6_readSemicolon_25 : decode cX6_readSemicolon 25 = .ok (.getfield 67, 3) := by decide +kernel
theorem dX6_readSemicolon_28 : decode cX6_readSemicolon 28 = .ok (.invokevirtual 70, 3) := by decide +kernel
theorem dX6_readSemicolon_31 : decode cX6_readSemicolon 31 = .ok (.return_, 1) := by decide +kernel
theorem dX6_readSemicolon_32 : decode cX6_readSemicolon 32 = .ok (.aload_n 0, 1) := by decide +kernel
theorem dX6_readSemicolon_33 : decode cX6_readSemicolon 33 = .ok (.getfield 12, 3) := by decide +kernel
theorem dX6_readSemicolon_36 : decode cX6_readSemicolon 36 = .ok (.invokevirtual 74, 3) := by decide +kernel
theorem dX6_readSemicolon_39 : decode cX6_readSemicolon 39 = .ok (.return_, 1) := by decide +kernel
theorem dX7_init_0 : decode cX7_init 0 = .ok (.aload_n 0, 1) := by decide +kernel
theorem dX7_init_1 : decode cX7_init 1 = .ok (.invokespecial 3, 3) := by decide +kernel
theorem dX7_init_4 : decode cX7_init 4 = .ok (.aload_n 0, 1) := by decide +kernel
theorem dX7_init_5 : decode cX7_init 5 = .ok (.sipush 500, 3) := by decide +kernel
theorem dX7_init_8 : decode cX7_init 8 = .ok (.newarray .byte, 2) := by decide +kernel
theorem dX7_init_10 : decode cX7_init 10 = .ok (.putfield 9, 3) := by decide +kernel
theorem dX7_init_13 : decode cX7_init 13 = .ok (.aload_n 0, 1) := by decide +kernel
theorem dX7_init_14 : decode cX7_init 14 = .ok (.iconst 0, 1) := by decide +kernel
theorem dX7_init_15 : decode cX7_init 15 = .ok (.putfield 15, 3) := by decide +kernel
theorem dX7_init_18 : decode cX7_init 18 = .ok (.aload_n 0, 1) := by decide +kernel
theorem dX7_init_19 : decode cX7_init 19 = .ok (.iconst 0, 1) := by decide +kernel
theorem dX7_init_20 : decode cX7_init 20 = .ok (.putfield 19, 3) := by decide +kernel
theorem dX7_init_23 : decode cX7_init 23 = .ok (.aload_n 0, 1) := by decide +kernel
theorem dX7_init_24 : decode cX7_init 24 = .ok (.iconst 0, 1) := by decide +kernel
theorem dX7_init_25 : decode cX7_init 25 = .ok (.putfield 22, 3) := by decide +kernel
theorem dX7_init_28 : decode cX7_init 28 = .ok (.aload_n 0, 1) := by decide +kernel
theorem dX7_init_29 : decode cX7_init 29 = .ok (.iconst 0, 1) := by decide +kernel
theorem dX7_init_30 : decode cX7_init 30 = .ok (.putfield 25, 3) := by decide +kernel
theorem dX7_init_33 : decode cX7_init 33 = .ok (.return_, 1) := by decide +kernel
theorem dX7_addFour_0 : decode cX7_addFour 0 = .ok (.bipush 24, 2) := by decide +kernel
theorem dX7_addFour_2 : decode cX7_addFour 2 = .ok (.istore_n 2, 1) := by decide +kernel
theorem dX7_addFour_3 : decode cX7_addFour 3 = .ok (.iload_n 2, 1) := by decide +kernel
theorem dX7_addFour_4 : decode cX7_addFour 4 = .ok (.ifCond .lt 42, 3) := by decide +kernel
theorem dX7_addFour_7 : decode cX7_addFour 7 = .ok (.aload_n 0, 1) := by decide +kernel
theorem dX7_addFour_8 : decode cX7_addFour 8 = .ok (.getfield 15, 3) := by decide +kernel
theorem dX7_addFour_11 : decode cX7_addFour 11 = .ok (.sipush 500, 3) := by decide +kernel
theorem dX7_addFour_14 : decode cX7_addFour 14 = .ok (.if_icmp .ge 32, 3) := by decide +kernel
theorem dX7_addFour_17 : decode cX7_addFour 17 = .ok (.aload_n 0, 1) := by decide +kernel
theorem dX7_addFour_18 : decode cX7_addFour 18 = .ok (.getfield 9, 3) := by decide +kernel
theorem dX7_addFour_21 : decode cX7_addFour 21 = .ok (.aload_n 0, 1) := by decide +kernel
theorem dX7_addFour_22 : decode cX7_addFour 22 = .ok (.getfield 15, 3) := by decide +kernel
theorem dX7_addFour_25 : decode cX7_addFour 25 = .ok (.iload_n 1, 1) := by decide +kernel
theorem dX7_addFour_26 : decode cX7_addFour 26 = .ok (.iload_n 2, 1) := by decide +kernel
theorem dX7_addFour_27 : decode cX7_addFour 27 = .ok (.ishr, 1) := by decide +kernel
theorem dX7_addFour_28 : decode cX7_addFour 28 = .ok (.i2b, 1) := by decide +kernel
theorem dX7_addFour_29 : decode cX7_addFour 29 = .ok (.bastore, 1) := by decide +kernel
theorem dX7_addFour_30 : decode cX7_addFour 30 = .ok (.aload_n 0, 1) := by decide +kernel
theorem dX7_addFour_31 : decode cX7_addFour 31 = .ok (.dup, 1) := by decide +kernel
theorem dX7_addFour_32 : decode cX7_addFour 32 = .ok (.getfield 15, 3) := by decide +kernel
theorem dX7_addFour_35 : decode cX7_addFour 35 = .ok (.iconst 1, 1) := by decide +kernel
theorem dX7_addFour_36 : decode cX7_addFour 36 = .ok (.iadd, 1) := by decide +kernel
theorem dX7_addFour_37 : decode cX7_addFour 37 = .ok (.putfield 15, 3) := by decide +kernel
theorem dX7_addFour_40 : decode cX7_addFour 40 = .ok (.iinc 2 (-8), 3) := by decide +kernel
theorem dX7_addFour_43 : decode cX7_addFour 43 = .ok (.goto (-40), 3) := by decide +kernel
theorem dX7_addFour_46 : decode cX7_addFour 46 = .ok (.return_, 1) := by decide +kernel
set_option maxRecDepth 20000 in
theorem ggX7_begin_X7_advance : GoodIn wsX7_begin wsX7_advance := goodIn_r _ [6, 1, 7, 8, 9, 10, 11, 12, 13, 14, 15] rfl (by decide +kernel)
set_option maxRecDepth 20000 in
theorem gX7_begin_X7_advance : GoodIn wsX7_begin (wsV RX7 28 RX7 yX7_advance wsX7_advance) := goodIn_app (goodIn_r _ [2, 3, 4, 5] rfl (by decide +kernel)) ggX7_begin_X7_advance
theorem dX7_begin_0 : decode cX7_begin 0 = .ok (.aload_n 0, 1) := by decide +kernel
theorem dX7_begin_1 : decode cX7_begin 1 = .ok (.iconst 0, 1) := by decide +kernel
theorem dX7_begin_2 : decode cX7_begin 2 = .ok (.putfield 25, 3) := by decide +kernel
theorem dX7_begin_5 : decode cX7_begin 5 = .ok (.aload_n 0, 1) := by decide +kernel
theorem dX7_begin_6 : decode cX7_begin 6 = .ok (.invokevirtual 28, 3) := by decide +kernel
theorem dX7_begin_9 : decode cX7_begin 9 = .ok (.return_, 1) := by decide +kernel
theorem dX7_advance_0 : decode cX7_advance 0 = .ok (.aload_n 0, 1) := by decide +kernel
theorem dX7_advance_1 : decode cX7_advance 1 = .ok (.aload_n 0, 1) := by decide +kernel
theorem dX7_advance_2 : decode cX7_advance 2 = .ok (.getfield 25, 3) := by decide +kernel
theorem dX7_advance_5 : decode cX7_advance 5 = .ok (.putfield 22, 3) := by decide +kernel
theorem dX7_advance_8 : decode cX7_advance 8 = .ok (.aload_n 0, 1) := by decide +kernel
theorem dX7_advance_9 : decode cX7_advance 9 = .ok (.getfield 22, 3) := by decide +kernel
theorem dX7_advance_12 : decode cX7_advance 12 = .ok (.aload_n 0, 1) := by decide +kernel
theorem dX7_advance_13 : decode cX7_advance 13 = .ok (.getfield 15, 3) := by decide +kernel
theorem dX7_advance_16 : decode cX7_advance 16 = .ok (.if_icmp .ge 58, 3) := by decide +kernel
theorem dX7_advance_19 : decode cX7_advance 19 = .ok (.aload_n 0, 1) := by decide +kernel
theorem dX7_advance_20 : decode cX7_advance 20 = .ok (.getfield 9, 3) := by decide +kernel
theorem dX7_advance_23 : decode cX7_advance 23 = .ok (.aload_n 0, 1) := by decide +kernel
theorem dX7_advance_24 : decode cX7_advance 24 = .ok (.getfield 22, 3) := by decide +kernel
theorem dX7_advance_27 : decode cX7_advance 27 = .ok (.baload, 1) := by decide +kernel
theorem dX7_advance_28 : decode cX7_advance 28 = .ok (.bipush 32, 2) := by decide +kernel
theorem dX7_advance_30 : decode cX7_advance 30 = .ok (.if_icmp .eq 31, 3) := by decide +kernel
theorem dX7_advance_33 : decode cX7_advance 33 = .ok (.aload_n 0, 1) := by decide +kernel
theorem dX7_advance_34 : decode cX7_advance 34 = .ok (.getfield 9, 3) := by decide +kernel
theorem dX7_advance_37 : decode cX7_advance 37 = .ok (.aload_n 0, 1) := by decide +kernel
theorem dX7_advance_38 : decode cX7_advance 38 = .ok (.getfield 22, 3) := by decide +kernel
theorem dX7_advance_41 : decode cX7_advance 41 = .ok (.baload, 1) := by decide +kernel
theorem dX7_advance_42 : decode cX7_advance 42 = .ok (.bipush 9, 2) := by decide +kernel
theorem dX7_advance_44 : decode cX7_advance 44 = .ok (.if_icmp .eq 17, 3) := by decide +kernel
theorem dX7_advance_47 : decode cX7_advance 47 = .ok (.aload_n 0, 1) := by decide +kernel
theorem dX7_advance_48 : decode cX7_advance 48 = .ok (.getfield 9, 3) := by decide +kernel
theorem dX7_advance_51 : decode cX7_advance 51 = .ok (.aload_n 0, 1) := by decide +kernel
theorem dX7_advance_52 : decode cX7_advance 52 = .ok (.getfield 22, 3) := by decide +kernel
theorem dX7_advance_55 : decode cX7_advance 55 = .ok (.baload, 1) := by decide +kernel
theorem dX7_advance_56 : decode cX7_advance 56 = .ok (.bipush 10, 2) := by decide +kernel
theorem dX7_advance_58 : decode cX7_advance 58 = .ok (.if_icmp .ne 16, 3) := by decide +kernel
theorem dX7_advance_61 : decode cX7_advance 61 = .ok (.aload_n 0, 1) := by decide +kernel
theorem dX7_advance_62 : decode cX7_advance 62 = .ok (.dup, 1) := by decide +kernel
theorem dX7_advance_63 : decode cX7_advance 63 = .ok (.getfield 22, 3) := by decide +kernel
theorem dX7_advance_66 : decode cX7_advance 66 = .ok (.iconst 1, 1) := by decide +kernel
theorem dX7_advance_67 : decode cX7_advance 67 = .ok (.iadd, 1) := by decide +kernel
theorem dX7_advance_68 : decode cX7_advance 68 = .ok (.putfield 22, 3) := by decide +kernel
theorem dX7_advance_71 : decode cX7_advance 71 = .ok (.goto (-63), 3) := by decide +kernel
theorem dX7_advance_74 : decode cX7_advance 74 = .ok (.aload_n 0, 1) := by decide +kernel
theorem dX7_advance_75 : decode cX7_advance 75 = .ok (.aload_n 0, 1) := by decide +kernel
theorem dX7_advance_76 : decode cX7_advance 76 = .ok (.getfield 22, 3) := by decide +kernel
theorem dX7_advance_79 : decode cX7_advance 79 = .ok (.putfield 25, 3) := by decide +kernel
theorem dX7_advance_82 : decode cX7_advance 82 = .ok (.aload_n 0, 1) := by decide +kernel
theorem dX7_advance_83 : decode cX7_advance 83 = .ok (.iconst 1, 1) := by decide +kernel
theorem dX7_advance_84 : decode cX7_advance 84 = .ok (.putfield 19, 3) := by decide +kernel
theorem dX7_advance_87 : decode cX7_advance 87 = .ok (.aload_n 0, 1) := by decide +kernel
theorem dX7_advance_88 : decode cX7_advance 88 = .ok (.getfield 25, 3) := by decide +kernel
theorem dX7_advance_91 : decode cX7_advance 91 = .ok (.aload_n 0, 1) := by decide +kernel
theorem dX7_advance_92 : decode cX7_advance 92 = .ok (.getfield 15, 3) := by decide +kernel
theorem dX7_advance_95 : decode cX7_advance 95 = .ok (.if_icmp .ge 44, 3) := by decide +kernel
theorem dX7_advance_98 : decode cX7_advance 98 = .ok (.aload_n 0, 1) := by decide +kernel
theorem dX7_advance_99 : decode cX7_advance 99 = .ok (.getfield 9, 3) := by decide +kernel
theorem dX7_advance_102 : decode cX7_advance 102 = .ok (.aload_n 0, 1) := by decide +kernel
theorem dX7_advance_103 : decode cX7_advance 103 = .ok (.getfield 25, 3) := by decide +kernel
theorem dX7_advance_106 : decode cX7_advance 106 = .ok (.baload, 1) := by decide +kernel
theorem dX7_advance_107 : decode cX7_advance 107 = .ok (.bipush 97, 2) := by decide +kernel
theorem dX7_advance_109 : decode cX7_advance 109 = .ok (.if_icmp .lt 30, 3) := by decide +kernel
theorem dX7_advance_112 : decode cX7_advance 112 = .ok (.aload_n 0, 1) := by decide +kernel
theorem dX7_advance_113 : decode cX7_advance 113 = .ok (.getfield 9, 3) := by decide +kernel
theorem dX7_advance_116 : decode cX7_advance 116 = .ok (.aload_n 0, 1) := by decide +kernel
theorem dX7_advance_117 : decode cX7_advance 117 = .ok (.getfield 25, 3) := by decide +kernel
theorem dX7_advance_120 : decode cX7_advance 120 = .ok (.baload, 1) := by decide +kernel
theorem dX7_advance_121 : decode cX7_advance 121 = .ok (.bipush 122, 2) := by decide +kernel
theorem dX7_advance_123 : decode cX7_advance 123 = .ok (.if_icmp .gt 16, 3) := by decide +kernel
theorem dX7_advance_126 : decode cX7_advance 126 = .ok (.aload_n 0, 1) := by decide +kernel
theorem dX7_advance_127 : decode cX7_advance 127 = .ok (.dup, 1) := by decide +kernel
theorem dX7_advance_128 : decode cX7_advance 128 = .ok (.getfield 25, 3) := by decide +kernel
theorem dX7_advance_131 : decode cX7_advance 131 = .ok (.iconst 1, 1) := by decide +kernel
theorem dX7_advance_132 : decode cX7_advance 132 = .ok (.iadd, 1) := by decide +kernel
theorem dX7_advance_133 : decode cX7_advance 133 = .ok (.putfield 25, 3) := by decide +kernel
theorem dX7_advance_136 : decode cX7_advance 136 = .ok (.goto (-49), 3) := by decide +kernel
theorem dX7_advance_139 : decode cX7_advance 139 = .ok (.aload_n 0, 1) := by decide +kernel
theorem dX7_advance_140 : decode cX7_advance 140 = .ok (.getfield 25, 3) := by decide +kernel
theorem dX7_advance_143 : decode cX7_advance 143 = .ok (.aload_n 0, 1) := by decide +kernel
theorem dX7_advance_144 : decode cX7_advance 144 = .ok (.getfield 22, 3) := by decide +kernel
theorem dX7_advance_147 : decode cX7_advance 147 = .ok (.if_icmp .le 4, 3) := by decide +kernel
theorem dX7_advance_150 : decode cX7_advance 150 = .ok (.return_, 1) := by decide +kernel
theorem dX7_advance_151 : decode cX7_advance 151 = .ok (.aload_n 0, 1) := by decide +kernel
theorem dX7_advance_152 : decode cX7_advance 152 = .ok (.iconst 2, 1) := by decide +kernel
theorem dX7_advance_153 : decode cX7_advance 153 = .ok (.putfield 19, 3) := by decide +kernel
theorem dX7_advance_156 : decode cX7_advance 156 = .ok (.aload_n 0, 1) := by decide +kernel
theorem dX7_advance_157 : decode cX7_advance 157 = .ok (.getfield 25, 3) := by decide +kernel
theorem dX7_advance_160 : decode cX7_advance 160 = .ok (.aload_n 0, 1) := by decide +kernel
theorem dX7_advance_161 : decode cX7_advance 161 = .ok (.getfield 15, 3) := by decide +kernel
theorem dX7_advance_164 : decode cX7_advance 164 = .ok (.if_icmp .ge 44, 3) := by decide +kernel
theorem dX7_advance_167 : decode cX7_advance 167 = .ok (.aload_n 0, 1) := by decide +kernel
theorem dX7_advance_168 : decode cX7_advance 168 = .ok (.getfield 9, 3) := by decide +kernel
theorem dX7_advance_171 : decode cX7_advance 171 = .ok (.aload_n 0, 1) := by decide +kernel
theorem dX7_advance_172 : decode cX7_advance 172 = .ok (.getfield 25, 3) := by decide +kernel
theorem dX7_advance_175 : decode cX7_advance 175 = .ok (.baload, 1) := by decide +kernel
theorem dX7_advance_176 : decode cX7_advance 176 = .ok (.bipush 48, 2) := by decide +kernel
theorem dX7_advance_178 : decode cX7_advance 178 = .ok (.if_icmp .lt 30, 3) := by decide +kernel
theorem dX7_advance_181 : decode cX7_advance 181 = .ok (.aload_n 0, 1) := by decide +kernel
theorem dX7_advance_182 : decode cX7_advance 182 = .ok (.getfield 9, 3) := by decide +kernel
theorem dX7_advance_185 : decode cX7_advance 185 = .ok (.aload_n 0, 1) := by decide +kernel
theorem dX7_advance_186 : decode cX7_advance 186 = .ok (.getfield 25, 3) := by decide +kernel
theorem dX7_advance_189 : decode cX7_advance 189 = .ok (.baload, 1) := by decide +kernel
theorem dX7_advance_190 : decode cX7_advance 190 = .ok (.bipush 57, 2) := by decide +kernel
theorem dX7_advance_192 : decode cX7_advance 192 = .ok (.if_icmp .gt 16, 3) := by decide +kernel
theorem dX7_advance_195 : decode cX7_advance 195 = .ok (.aload_n 0, 1) := by decide +kernel
theorem dX7_advance_196 : decode cX7_advance 196 = .ok (.dup, 1) := by decide +kernel
theorem dX7_advance_197 : decode cX7_advance 197 = .ok (.getfield 25, 3) := by decide +kernel
theorem dX7_advance_200 : decode cX7_advance 200 = .ok (.iconst 1, 1) := by decide +kernel
theorem dX7_advance_201 : decode cX7_advance 201 = .ok (.iadd, 1) := by decide +kernel
theorem dX7_advance_202 : decode cX7_advance 202 = .ok (.putfield 25, 3) := by decide +kernel
theorem dX7_advance_205 : decode cX7_advance 205 = .ok (.goto (-49), 3) := by decide +kernel
theorem dX7_advance_208 : decode cX7_advance 208 = .ok (.aload_n 0, 1) := by decide +kernel
theorem dX7_advance_209 : decode cX7_advance 209 = .ok (.getfield 25, 3) := by decide +kernel
theorem dX7_advance_212 : decode cX7_advance 212 = .ok (.aload_n 0, 1) := by decide +kernel
theorem dX7_advance_213 : decode cX7_advance 213 = .ok (.getfield 22, 3) := by decide +kernel
theorem dX7_advance_216 : decode cX7_advance 216 = .ok (.if_icmp .le 4, 3) := by decide +kernel
theorem dX7_advance_219 : decode cX7_advance 219 = .ok (.return_, 1) := by decide +kernel
theorem dX7_advance_220 : decode cX7_advance 220 = .ok (.aload_n 0, 1) := by decide +kernel
theorem dX7_advance_221 : decode cX7_advance 221 = .ok (.iconst 0, 1) := by decide +kernel
theorem dX7_advance_222 : decode cX7_advance 222 = .ok (.putfield 19, 3) := by decide +kernel
theorem dX7_advance_225 : decode cX7_advance 225 = .ok (.aload_n 0, 1) := by decide +kernel
theorem dX7_advance_226 : decode cX7_advance 226 = .ok (.getfield 22, 3) := by decide +kernel
theorem dX7_advance_229 : decode cX7_advance 229 = .ok (.aload_n 0, 1) := by decide +kernel
theorem dX7_advance_230 : decode cX7_advance 230 = .ok (.getfield 15, 3) := by decide +kernel
theorem dX7_advance_233 : decode cX7_advance 233 = .ok (.if_icmp .ge 48, 3) := by decide +kernel
theorem dX7_advance_236 : decode cX7_advance 236 = .ok (.aload_n 0, 1) := by decide +kernel
theorem dX7_advance_237 : decode cX7_advance 237 = .ok (.getfield 9, 3) := by decide +kernel
theorem dX7_advance_240 : decode cX7_advance 240 = .ok (.aload_n 0, 1) := by decide +kernel
theorem dX7_advance_241 : decode cX7_advance 241 = .ok (.getfield 22, 3) := by decide +kernel
theorem dX7_advance_244 : decode cX7_advance 244 = .ok (.baload, 1) := by decide +kernel
theorem dX7_advance_245 : decode cX7_advance 245 = .ok (.istore_n 1, 1) := by decide +kernel
theorem dX7_advance_246 : decode cX7_advance 246 = .ok (.aload_n 0, 1) := by decide +kernel
theorem dX7_advance_247 : decode cX7_advance 247 = .ok (.iload_n 1, 1) := by decide +kernel
theorem dX7_advance_248 : decode cX7_advance 248 = .ok (.bipush 59, 2) := by decide +kernel
theorem dX7_advance_250 : decode cX7_advance 250 = .ok (.if_icmp .ne 7, 3) := by decide +kernel
theorem dX7_advance_253 : decode cX7_advance 253 = .ok (.iconst 3, 1) := by decide +kernel
theorem dX7_advance_254 : decode cX7_advance 254 = .ok (.goto 14, 3) := by decide +kernel
theorem dX7_advance_257 : decode cX7_advance 257 = .ok (.iload_n 1, 1) := by decide +kernel
theorem dX7_advance_258 : decode cX7_advance 258 = .ok (.bipush 45, 2) := by decide +kernel
theorem dX7_advance_260 : decode cX7_advance 260 = .ok (.if_icmp .ne 7, 3) := by decide +kernel
theorem dX7_advance_263 : decode cX7_advance 263 = .ok (.iconst 4, 1) := by decide +kernel
theorem dX7_advance_264 : decode cX7_advance 264 = .ok (.goto 4, 3) := by decide +kernel
theorem dX7_advance_267 : decode cX7_advance 267 = .ok (.iconst 5, 1) := by decide +kernel
theorem dX7_advance_268 : decode cX7_advance 268 = .ok (.putfield 19, 3) := by decide +kernel
theorem dX7_advance_271 : decode cX7_advance 271 = .ok (.aload_n 0, 1) := by decide +kernel
theorem dX7_advance_272 : decode cX7_advance 272 = .ok (.aload_n 0, 1) := by decide +kernel
theorem dX7_advance_273 : decode cX7_advance 273 = .ok (.getfield 22, 3) := by decide +kernel
theorem dX7_advance_276 : decode cX7_advance 276 = .ok (.iconst 1, 1) := by decide +kernel
theorem dX7_advance_277 : decode cX7_advance 277 = .ok (.iadd, 1) := by decide +kernel
theorem dX7_advance_278 : decode cX7_advance 278 = .ok (.putfield 25, 3) := by decide +kernel
theorem dX7_advance_281 : decode cX7_advance 281 = .ok (.return_, 1) := by decide +kernel
set_option maxRecDepth 20000 in
theorem ggX7_isWord_J0_length_8abf5 : GoodIn wsX7_isWord wsJ0_length_8abf5 := goodIn_r _ [10, 11, 12, 13, 14, 9, 15, 16, 17] rfl (by decide +kernel)
set_option maxRecDepth 20000 in
theorem gX7_isWord_J0_length_8abf5 : GoodIn wsX7_isWord (wsV RX7 31 RJ0 yJ0_length_8abf5 wsJ0_length_8abf5) := goodIn_app (goodIn_r _ [6, 7, 8, 9] rfl (by decide +kernel)) ggX7_isWord_J0_length_8abf5
set_option maxRecDepth 20000 in
theorem ggX7_isWord_J0_charAt_5068e : GoodIn wsX7_isWord wsJ0_charAt_5068e := goodIn_r _ [21, 11, 22, 23, 24, 9, 25, 16, 17, 26, 27, 28, 29, 30, 31, 32, 33, 34, 35, 36, 37, 38, 39, 40, 41, 42, 43, 44, 45, 46, 47, 48, 49, 50, 51, 52, 53, 54] rfl (by decide +kernel)
set_option maxRecDepth 20000 in
theorem gX7_isWord_J0_charAt_5068e : GoodIn wsX7_isWord (wsV RX7 36 RJ0 yJ0_charAt_5068e wsJ0_charAt_5068e) := goodIn_app (goodIn_r _ [18, 19, 20, 9] rfl (by decide +kernel)) ggX7_isWord_J0_charAt_5068e
theorem dX7_isWord_0 : decode cX7_isWord 0 = .ok (.aload_n 0, 1) := by decide +kernel
theorem dX7_isWord_1 : decode cX7_isWord 1 = .ok (.getfield 19, 3) := by decide +kernel
theorem dX7_isWord_4 : decode cX7_isWord 4 = .ok (.iconst 1, 1) := by decide +kernel
theorem dX7_isWord_5 : decode cX7_isWord 5 = .ok (.if_icmp .ne 19, 3) := by decide +kernel
theorem dX7_isWord_8 : decode cX7_isWord 8 = .ok (.aload_n 0, 1) := by decide +kernel
theorem dX7_isWord_9 : decode cX7_isWord 9 = .ok (.getfield 25, 3) := by decide +kernel
theorem dX7_isWord_12 : decode cX7_isWord 12 = .ok (.aload_n 0, 1) := by decide +kernel
theorem dX7_isWord_13 : decode cX7_isWord 13 = .ok (.getfield 22, 3) := by decide +kernel
theorem dX7_isWord_16 : decode cX7_isWord 16 = .ok (.isub, 1) := by decide +kernel
theorem dX7_isWord_17 : decode cX7_isWord 17 = .ok (.aload_n 1, 1) := by decide +kernel
theorem dX7_isWord_18 : decode cX7_isWord 18 = .ok (.invokevirtual 31, 3) := by decide +kernel
theorem dX7_isWord_21 : decode cX7_isWord 21 = .ok (.if_icmp .eq 5, 3) := by decide +kernel
theorem dX7_isWord_24 : decode cX7_isWord 24 = .ok (.iconst 0, 1) := by decide +kernel
theorem dX7_isWord_25 : decode cX7_isWord 25 = .ok (.ireturn, 1) := by decide +kernel
theorem dX7_isWord_26 : decode cX7_isWord 26 = .ok (.iconst 0, 1) := by decide +kernel
theorem dX7_isWord_27 : decode cX7_isWord 27 = .ok (.istore_n 2, 1) := by decide +kernel
theorem dX7_isWord_28 : decode cX7_isWord 28 = .ok (.iload_n 2, 1) := by decide +kernel
theorem dX7_isWord_29 : decode cX7_isWord 29 = .ok (.aload_n 1, 1) := by decide +kernel
theorem dX7_isWord_30 : decode cX7_isWord 30 = .ok (.invokevirtual 31, 3) := by decide +kernel
theorem dX7_isWord_33 : decode cX7_isWord 33 = .ok (.if_icmp .ge 43, 3) := by decide +kernel
theorem dX7_isWord_36 : decode cX7_isWord 36 = .ok (.aload_n 0, 1) := by decide +kernel
theorem dX7_isWord_37 : decode cX7_isWord 37 = .ok (.getfield 22, 3) := by decide +kernel
theorem dX7_isWord_40 : decode cX7_isWord 40 = .ok (.iload_n 2, 1) := by decide +kernel
theorem dX7_isWord_41 : decode cX7_isWord 41 = .ok (.iadd, 1) := by decide +kernel
theorem dX7_isWord_42 : decode cX7_isWord 42 = .ok (.aload_n 0, 1) := by decide +kernel
theorem dX7_isWord_43 : decode cX7_isWord 43 = .ok (.getfield 15, 3) := by decide +kernel
theorem dX7_isWord_46 : decode cX7_isWord 46 = .ok (.if_icmp .ge 30, 3) := by decide +kernel
theorem dX7_isWord_49 : decode cX7_isWord 49 = .ok (.aload_n 0, 1) := by decide +kernel
theorem dX7_isWord_50 : decode cX7_isWord 50 = .ok (.getfield 9, 3) := by decide +kernel
theorem dX7_isWord_53 : decode cX7_isWord 53 = .ok (.aload_n 0, 1) := by decide +kernel
theorem dX7_isWord_54 : decode cX7_isWord 54 = .ok (.getfield 22, 3) := by decide +kernel
theorem dX7_isWord_57 : decode cX7_isWord 57 = .ok (.iload_n 2, 1) := by decide +kernel
theorem dX7_isWord_58 : decode cX7_isWord 58 = .ok (.iadd, 1) := by decide +kernel
theorem dX7_isWord_59 : decode cX7_isWord 59 = .ok (.baload, 1) := by decide +kernel
theorem dX7_isWord_60 : decode cX7_isWord 60 = .ok (.aload_n 1, 1) := by decide +kernel
theorem dX7_isWord_61 : decode cX7_isWord 61 = .ok (.iload_n 2, 1) := by decide +kernel
theorem dX7_isWord_62 : decode cX7_isWord 62 = .ok (.invokevirtual 36, 3) := by decide +kernel
theorem dX7_isWord_65 : decode cX7_isWord 65 = .ok (.if_icmp .eq 5, 3) := by decide +kernel
theorem dX7_isWord_68 : decode cX7_isWord 68 = .ok (.iconst 0, 1) := by decide +kernel
theorem dX7_isWord_69 : decode cX7_isWord 69 = .ok (.ireturn, 1) := by decide +kernel
theorem dX7_isWord_70 : decode cX7_isWord 70 = .ok (.iinc 2 1, 3) := by decide +kernel
theorem dX7_isWord_73 : decode cX7_isWord 73 = .ok (.goto (-45), 3) := by decide +kernel
theorem dX7_isWord_76 : decode cX7_isWord 76 = .ok (.iconst 1, 1) := by decide +kernel
theorem dX7_isWord_77 : decode cX7_isWord 77 = .ok (.ireturn, 1) := by decide +kernel
theorem dX7_letter_0 : decode cX7_letter 0 = .ok (.aload_n 0, 1) := by decide +kernel
theorem dX7_letter_1 : decode cX7_letter 1 = .ok (.getfield 19, 3) := by decide +kernel
theorem dX7_letter_4 : decode cX7_letter 4 = .ok (.iconst 1, 1) := by decide +kernel
theorem dX7_letter_5 : decode cX7_letter 5 = .ok (.if_icmp .ne 27, 3) := by decide +kernel
theorem dX7_letter_8 : decode cX7_letter 8 = .ok (.aload_n 0, 1) := by decide +kernel
theorem dX7_letter_9 : decode cX7_letter 9 = .ok (.getfield 25, 3) := by decide +kernel
theorem dX7_letter_12 : decode cX7_letter 12 = .ok (.aload_n 0, 1) := by decide +kernel
theorem dX7_letter_13 : decode cX7_letter 13 = .ok (.getfield 22, 3) := by decide +kernel
theorem dX7_letter_16 : decode cX7_letter 16 = .ok (.isub, 1) := by decide +kernel
theorem dX7_letter_17 : decode cX7_letter 17 = .ok (.iconst 1, 1) := by decide +kernel
theorem dX7_letter_18 : decode cX7_letter 18 = .ok (.if_icmp .ne 14, 3) := by decide +kernel
theorem dX7_letter_21 : decode cX7_letter 21 = .ok (.aload_n 0, 1) := by decide +kernel
theorem dX7_letter_22 : decode cX7_letter 22 = .ok (.getfield 22, 3) := by decide +kernel
theorem dX7_letter_25 : decode cX7_letter 25 = .ok (.aload_n 0, 1) := by decide +kernel
theorem dX7_letter_26 : decode cX7_letter 26 = .ok (.getfield 15, 3) := by decide +kernel
theorem dX7_letter_29 : decode cX7_letter 29 = .ok (.if_icmp .lt 5, 3) := by decide +kernel
theorem dX7_letter_32 : decode cX7_letter 32 = .ok (.iconst (-1), 1) := by decide +kernel
theorem dX7_letter_33 : decode cX7_letter 33 = .ok (.ireturn, 1) := by decide +kernel
theorem dX7_letter_34 : decode cX7_letter 34 = .ok (.aload_n 0, 1) := by decide +kernel
theorem dX7_letter_35 : decode cX7_letter 35 = .ok (.getfield 9, 3) := by decide +kernel
theorem dX7_letter_38 : decode cX7_letter 38 = .ok (.aload_n 0, 1) := by decide +kernel
theorem dX7_letter_39 : decode cX7_letter 39 = .ok (.getfield 22, 3) := by decide +kernel
theorem dX7_letter_42 : decode cX7_letter 42 = .ok (.baload, 1) := by decide +kernel
theorem dX7_letter_43 : decode cX7_letter 43 = .ok (.bipush 97, 2) := by decide +kernel
theorem dX7_letter_45 : decode cX7_letter 45 = .ok (.isub, 1) := by decide +kernel
theorem dX7_letter_46 : decode cX7_letter 46 = .ok (.ireturn, 1) := by decide +kernel
theorem dX7_number_0 : decode cX7_number 0 = .ok (.aload_n 0, 1) := by decide +kernel
theorem dX7_number_1 : decode cX7_number 1 = .ok (.getfield 25, 3) := by decide +kernel
theorem dX7_number_4 : decode cX7_number 4 = .ok (.aload_n 0, 1) := by decide +kernel
theorem dX7_number_5 : decode cX7_number 5 = .ok (.getfield 22, 3) := by decide +kernel
theorem dX7_number_8 : decode cX7_number 8 = .ok (.isub, 1) := by decide +kernel
theorem dX7_number_9 : decode cX7_number 9 = .ok (.iconst 4, 1) := by decide +kernel
theorem dX7_number_10 : decode cX7_number 10 = .ok (.if_icmp .le 5, 3) := by decide +kernel
theorem dX7_number_13 : decode cX7_number 13 = .ok (.iconst (-1), 1) := by decide +kernel
theorem dX7_number_14 : decode cX7_number 14 = .ok (.ireturn, 1) := by decide +kernel
theorem dX7_number_15 : decode cX7_number 15 = .ok (.iconst 0, 1) := by decide +kernel
theorem dX7_number_16 : decode cX7_number 16 = .ok (.istore_n 1, 1) := by decide +kernel
theorem dX7_number_17 : decode cX7_number 17 = .ok (.aload_n 0, 1) := by decide +kernel
theorem dX7_number_18 : decode cX7_number 18 = .ok (.getfield 22, 3) := by decide +kernel
theorem dX7_number_21 : decode cX7_number 21 = .ok (.istore_n 2, 1) := by decide +kernel
theorem dX7_number_22 : decode cX7_number 22 = .ok (.iload_n 2, 1) := by decide +kernel
theorem dX7_number_23 : decode cX7_number 23 = .ok (.aload_n 0, 1) := by decide +kernel
theorem dX7_number_24 : decode cX7_number 24 = .ok (.getfield 25, 3) := by decide +kernel
theorem dX7_number_27 : decode cX7_number 27 = .ok (.if_icmp .ge 32, 3) := by decide +kernel
theorem dX7_number_30 : decode cX7_number 30 = .ok (.iload_n 2, 1) := by decide +kernel
theorem dX7_number_31 : decode cX7_number 31 = .ok (.aload_n 0, 1) := by decide +kernel
theorem dX7_number_32 : decode cX7_number 32 = .ok (.getfield 15, 3) := by decide +kernel
theorem dX7_number_35 : decode cX7_number 35 = .ok (.if_icmp .ge 24, 3) := by decide +kernel
theorem dX7_number_38 : decode cX7_number 38 = .ok (.bipush 10, 2) := by decide +kernel
theorem dX7_number_40 : decode cX7_number 40 = .ok (.iload_n 1, 1) := by decide +kernel
theorem dX7_number_41 : decode cX7_number 41 = .ok (.imul, 1) := by decide +kernel
theorem dX7_number_42 : decode cX7_number 42 = .ok (.aload_n 0, 1) := by decide +kernel
theorem dX7_number_43 : decode cX7_number 43 = .ok (.getfield 9, 3) := by decide +kernel
theorem dX7_number_46 : decode cX7_number 46 = .ok (.iload_n 2, 1) := by decide +kernel
theorem dX7_number_47 : decode cX7_number 47 = .ok (.baload, 1) := by decide +kernel
theorem dX7_number_48 : decode cX7_number 48 = .ok (.iadd, 1) := by decide +kernel
theorem dX7_number_49 : decode cX7_number 49 = .ok (.bipush 48, 2) := by decide +kernel
theorem dX7_number_51 : decode cX7_number 51 = .ok (.isub, 1) := by decide +kernel
theorem dX7_number_52 : decode cX7_number 52 = .ok (.istore_n 1, 1) := by decide +kernel
theorem dX7_number_53 : decode cX7_number 53 = .ok (.iinc 2 1, 3) := by decide +kernel
theorem dX7_number_56 : decode cX7_number 56 = .ok (.goto (-34), 3) := by decide +kernel
theorem dX7_number_59 : decode cX7_number 59 = .ok (.iload_n 1, 1) := by decide +kernel
theorem dX7_number_60 : decode cX7_number 60 = .ok (.ireturn, 1) := by decide +kernel
set_option maxRecDepth 20000 in
theorem ggX8_init_X0_init : GoodIn wsX8_init wsX0_init := goodIn_r _ [33, 34, 2, 3, 35, 36, 37, 38, 39, 40, 41, 42, 43, 94, 95, 96, 97, 98, 99, 100, 101] rfl (by decide +kernel)
set_option maxRecDepth 20000 in
theorem gX8_init_X0_init_n9 : GoodIn wsX8_init (wsX0_init) := ggX8_init_X0_init
set_option maxRecDepth 20000 in
theorem ggX8_init_X6_init : GoodIn wsX8_init wsX6_init := goodIn_r _ [45, 46, 2, 3, 47, 48, 49, 50, 51, 5, 6, 52, 53, 21, 22, 54, 55, 25, 26, 56, 57, 58, 59, 60, 61, 62, 63, 64, 65, 66, 67, 68, 69, 70, 32, 33, 34, 35, 36, 37, 38, 39, 40, 41, 42, 43, 71, 72, 73, 74, 75, 76, 77, 78, 79, 80, 129, 130, 131, 132, 133, 111, 112, 113, 114, 115, 116, 117, 118, 119, 94, 95, 96, 97, 98, 99, 100, 101, 123, 124, 125, 126] rfl (by decide +kernel)
set_option maxRecDepth 20000 in
theorem gX8_init_X6_init_n21 : GoodIn wsX8_init (wsX6_init) := ggX8_init_X6_init
set_option maxRecDepth 20000 in
theorem ggX8_init_X1_init : GoodIn wsX8_init wsX1_init := goodIn_r _ [83, 84, 2, 3, 85, 86, 87, 88, 5, 6, 32, 33, 34, 35, 36, 37, 38, 39, 40, 41, 42, 43, 120, 121, 122, 94, 95, 96, 97, 98, 99, 100, 101] rfl (by decide +kernel)
set_option maxRecDepth 20000 in
theorem gX8_init_X1_init : GoodIn wsX8_init (wsX1_init) := ggX8_init_X1_init
set_option maxRecDepth 20000 in
theorem ggX8_init_X5_init : GoodIn wsX8_init wsX5_init := goodIn_r _ [72, 73, 2, 3, 74, 75, 123, 124] rfl (by decide +kernel)
set_option maxRecDepth 20000 in
theorem gX8_init_X5_init_n43 : GoodIn wsX8_init (wsX5_init) := ggX8_init_X5_init
set_option maxRecDepth 20000 in
theorem ggX8_init_X4_init : GoodIn wsX8_init wsX4_init := goodIn_r _ [77, 78, 2, 3, 79, 80, 125, 126] rfl (by decide +kernel)
set_option maxRecDepth 20000 in
theorem gX8_init_X4_init_n50 : GoodIn wsX8_init (wsX4_init) := ggX8_init_X4_init
set_option maxRecDepth 20000 in
theorem ggX8_init_X3_init : GoodIn wsX8_init wsX3_init := goodIn_r _ [90, 91, 2, 3, 65, 92, 93, 127, 128] rfl (by decide +kernel)
set_option maxRecDepth 20000 in
theorem gX8_init_X3_init_n57 : GoodIn wsX8_init (wsX3_init) := ggX8_init_X3_init
theorem dX8_init_0 : decode cX8_init 0 = .ok (.aload_n 0, 1) := by decide +kernel
theorem dX8_init_1 : decode cX8_init 1 = .ok (.invokespecial 1, 3) := by decide +kernel
theorem dX8_init_4 : decode cX8_init 4 = .ok (.aload_n 0, 1) := by decide +kernel
theorem dX8_init_5 : decode cX8_init 5 = .ok (.new 7, 3) := by decide +kernel
theorem dX8_init_8 : decode cX8_init 8 = .ok (.dup, 1) := by decide +kernel
theorem dX8_init_9 : decode cX8_init 9 = .ok (.invokespecial 9, 3) := by decide +kernel
theorem dX8_init_12 : decode cX8_init 12 = .ok (.putfield 10, 3) := by decide +kernel
theorem dX8_init_15 : decode cX8_init 15 = .ok (.aload_n 0, 1) := by decide +kernel
theorem dX8_init_16 : decode cX8_init 16 = .ok (.new 7, 3) := by decide +kernel
theorem dX8_init_19 : decode cX8_init 19 = .ok (.dup, 1) := by decide +kernel
theorem dX8_init_20 : decode cX8_init 20 = .ok (.invokespecial 9, 3) := by decide +kernel
theorem dX8_init_23 : decode cX8_init 23 = .ok (.putfield 16, 3) := by decide +kernel
theorem dX8_init_26 : decode cX8_init 26 = .ok (.aload_n 0, 1) := by decide +kernel
theorem dX8_init_27 : decode cX8_init 27 = .ok (.new 19, 3) := by decide +kernel
theorem dX8_init_30 : decode cX8_init 30 = .ok (.dup, 1) := by decide +kernel
theorem dX8_init_31 : decode cX8_init 31 = .ok (.invokespecial 21, 3) := by decide +kernel
theorem dX8_init_34 : decode cX8_init 34 = .ok (.putfield 22, 3) := by decide +kernel
theorem dX8_init_37 : decode cX8_init 37 = .ok (.aload_n 0, 1) := by decide +kernel
theorem dX8_init_38 : decode cX8_init 38 = .ok (.new 26, 3) := by decide +kernel
theorem dX8_init_41 : decode cX8_init 41 = .ok (.dup, 1) := by decide +kernel
theorem dX8_init_42 : decode cX8_init 42 = .ok (.invokespecial 28, 3) := by decide +kernel
theorem dX8_init_45 : decode cX8_init 45 = .ok (.putfield 29, 3) := by decide +kernel
theorem dX8_init_48 : decode cX8_init 48 = .ok (.aload_n 0, 1) := by decide +kernel
theorem dX8_init_49 : decode cX8_init 49 = .ok (.iconst 2, 1) := by decide +kernel
theorem dX8_init_50 : decode cX8_init 50 = .ok (.anewarray 7, 3) := by decide +kernel
theorem dX8_init_53 : decode cX8_init 53 = .ok (.putfield 33, 3) := by decide +kernel
theorem dX8_init_56 : decode cX8_init 56 = .ok (.iconst 0, 1) := by decide +kernel
theorem dX8_init_57 : decode cX8_init 57 = .ok (.istore_n 1, 1) := by decide +kernel
theorem dX8_init_58 : decode cX8_init 58 = .ok (.iload_n 1, 1) := by decide +kernel
theorem dX8_init_59 : decode cX8_init 59 = .ok (.iconst 2, 1) := by decide +kernel
theorem dX8_init_60 : decode cX8_init 60 = .ok (.if_icmp .ge 22, 3) := by decide +kernel
theorem dX8_init_63 : decode cX8_init 63 = .ok (.aload_n 0, 1) := by decide +kernel
theorem dX8_init_64 : decode cX8_init 64 = .ok (.getfield 33, 3) := by decide +kernel
theorem dX8_init_67 : decode cX8_init 67 = .ok (.iload_n 1, 1) := by decide +kernel
theorem dX8_init_68 : decode cX8_init 68 = .ok (.new 7, 3) := by decide +kernel
theorem dX8_init_71 : decode cX8_init 71 = .ok (.dup, 1) := by decide +kernel
theorem dX8_init_72 : decode cX8_init 72 = .ok (.invokespecial 9, 3) := by decide +kernel
theorem dX8_init_75 : decode cX8_init 75 = .ok (.aastore, 1) := by decide +kernel
theorem dX8_init_76 : decode cX8_init 76 = .ok (.iinc 1 1, 3) := by decide +kernel
theorem dX8_init_79 : decode cX8_init 79 = .ok (.goto (-21), 3) := by decide +kernel
theorem dX8_init_82 : decode cX8_init 82 = .ok (.aload_n 0, 1) := by decide +kernel
theorem dX8_init_83 : decode cX8_init 83 = .ok (.iconst 2, 1) := by decide +kernel
theorem dX8_init_84 : decode cX8_init 84 = .ok (.newarray .boolean, 2) := by decide +kernel
theorem dX8_init_86 : decode cX8_init 86 = .ok (.putfield 37, 3) := by decide +kernel
theorem dX8_init_89 : decode cX8_init 89 = .ok (.aload_n 0, 1) := by decide +kernel
theorem dX8_init_90 : decode cX8_init 90 = .ok (.new 41, 3) := by decide +kernel
theorem dX8_init_93 : decode cX8_init 93 = .ok (.dup, 1) := by decide +kernel
theorem dX8_init_94 : decode cX8_init 94 = .ok (.invokespecial 43, 3) := by decide +kernel
theorem dX8_init_97 : decode cX8_init 97 = .ok (.putfield 44, 3) := by decide +kernel
theorem dX8_init_100 : decode cX8_init 100 = .ok (.aload_n 0, 1) := by decide +kernel
theorem dX8_init_101 : decode cX8_init 101 = .ok (.new 48, 3) := by decide +kernel
theorem dX8_init_104 : decode cX8_init 104 = .ok (.dup, 1) := by decide +kernel
theorem dX8_init_105 : decode cX8_init 105 = .ok (.invokespecial 50, 3) := by decide +kernel
theorem dX8_init_108 : decode cX8_init 108 = .ok (.putfield 51, 3) := by decide +kernel
theorem dX8_init_111 : decode cX8_init 111 = .ok (.aload_n 0, 1) := by decide +kernel
theorem dX8_init_112 : decode cX8_init 112 = .ok (.new 55, 3) := by decide +kernel
theorem dX8_init_115 : decode cX8_init 115 = .ok (.dup, 1) := by decide +kernel
theorem dX8_init_116 : decode cX8_init 116 = .ok (.invokespecial 57, 3) := by decide +kernel
theorem dX8_init_119 : decode cX8_init 119 = .ok (.putfield 58, 3) := by decide +kernel
theorem dX8_init_122 : decode cX8_init 122 = .ok (.return_, 1) := by decide +kernel
set_option maxRecDepth 20000 in
theorem ggX8_append_X7_addFour : GoodIn wsX8_append wsX7_addFour := goodIn_r _ [8, 9, 10, 29, 30, 31, 32, 33] rfl (by decide +kernel)
set_option maxRecDepth 20000 in
theorem gX8_append_X7_addFour : GoodIn wsX8_append (wsV RX8 72 RX7 yX7_addFour wsX7_addFour) := goodIn_app (goodIn_r _ [4, 5, 6, 7] rfl (by decide +kernel)) ggX8_append_X7_addFour
theorem dX8_append_0 : decode cX8_append 0 = .ok (.aload_n 0, 1) := by decide +kernel
theorem dX8_append_1 : decode cX8_append 1 = .ok (.getfield 22, 3) := by decide +kernel
theorem dX8_append_4 : decode cX8_append 4 = .ok (.getfield 62, 3) := by decide +kernel
theorem dX8_append_7 : decode cX8_append 7 = .ok (.astore 6, 2) := by decide +kernel
theorem dX8_append_9 : decode cX8_append 9 = .ok (.aload 6, 2) := by decide +kernel
theorem dX8_append_11 : decode cX8_append 11 = .ok (.getfield 66, 3) := by decide +kernel
theorem dX8_append_14 : decode cX8_append 14 = .ok (.bipush 20, 2) := by decide +kernel
theorem dX8_append_16 : decode cX8_append 16 = .ok (.iadd, 1) := by decide +kernel
theorem dX8_append_17 : decode cX8_append 17 = .ok (.sipush 500, 3) := by decide +kernel
theorem dX8_append_20 : decode cX8_append 20 = .ok (.if_icmp .le 5, 3) := by decide +kernel
theorem dX8_append_23 : decode cX8_append 23 = .ok (.iconst (-1), 1) := by decide +kernel
theorem dX8_append_24 : decode cX8_append 24 = .ok (.ireturn, 1) := by decide +kernel
theorem dX8_append_25 : decode cX8_append 25 = .ok (.aload 6, 2) := by decide +kernel
theorem dX8_append_27 : decode cX8_append 27 = .ok (.iload_n 1, 1) := by decide +kernel
theorem dX8_append_28 : decode cX8_append 28 = .ok (.invokevirtual 72, 3) := by decide +kernel
theorem dX8_append_31 : decode cX8_append 31 = .ok (.aload 6, 2) := by decide +kernel
theorem dX8_append_33 : decode cX8_append 33 = .ok (.iload_n 2, 1) := by decide +kernel
theorem dX8_append_34 : decode cX8_append 34 = .ok (.invokevirtual 72, 3) := by decide +kernel
theorem dX8_append_37 : decode cX8_append 37 = .ok (.aload 6, 2) := by decide +kernel
theorem dX8_append_39 : decode cX8_append 39 = .ok (.iload_n 3, 1) := by decide +kernel
theorem dX8_append_40 : decode cX8_append 40 = .ok (.invokevirtual 72, 3) := by decide +kernel
theorem dX8_append_43 : decode cX8_append 43 = .ok (.aload 6, 2) := by decide +kernel
theorem dX8_append_45 : decode cX8_append 45 = .ok (.iload 4, 2) := by decide +kernel
theorem dX8_append_47 : decode cX8_append 47 = .ok (.invokevirtual 72, 3) := by decide +kernel
theorem dX8_append_50 : decode cX8_append 50 = .ok (.aload 6, 2) := by decide +kernel
theorem dX8_append_52 : decode cX8_append 52 = .ok (.iload 5, 2) := by decide +kernel
theorem dX8_append_54 : decode cX8_append 54 = .ok (.invokevirtual 72, 3) := by decide +kernel
theorem dX8_append_57 : decode cX8_append 57 = .ok (.aload 6, 2) := by decide +kernel
theorem dX8_append_59 : decode cX8_append 59 = .ok (.getfield 66, 3) := by decide +kernel
theorem dX8_append_62 : decode cX8_append 62 = .ok (.ireturn, 1) := by decide +kernel
theorem dX8_truncate_0 : decode cX8_truncate 0 = .ok (.iload_n 1, 1) := by decide +kernel
theorem dX8_truncate_1 : decode cX8_truncate 1 = .ok (.ifCond .lt 17, 3) := by decide +kernel
theorem dX8_truncate_4 : decode cX8_truncate 4 = .ok (.iload_n 1, 1) := by decide +kernel
theorem dX8_truncate_5 : decode cX8_truncate 5 = .ok (.aload_n 0, 1) := by decide +kernel
theorem dX8_truncate_6 : decode cX8_truncate 6 = .ok (.getfield 22, 3) := by decide +kernel
theorem dX8_truncate_9 : decode cX8_truncate 9 = .ok (.getfield 62, 3) := by decide +kernel
theorem dX8_truncate_12 : decode cX8_truncate 12 = .ok (.getfield 66, 3) := by decide +kernel
theorem dX8_truncate_15 : decode cX8_truncate 15 = .ok (.if_icmp .le 5, 3) := by decide +kernel
theorem dX8_truncate_18 : decode cX8_truncate 18 = .ok (.iconst 0, 1) := by decide +kernel
theorem dX8_truncate_19 : decode cX8_truncate 19 = .ok (.ireturn, 1) := by decide +kernel
theorem dX8_truncate_20 : decode cX8_truncate 20 = .ok (.aload_n 0, 1) := by decide +kernel
theorem dX8_truncate_21 : decode cX8_truncate 21 = .ok (.getfield 22, 3) := by decide +kernel
theorem dX8_truncate_24 : decode cX8_truncate 24 = .ok (.getfield 62, 3) := by decide +kernel
theorem dX8_truncate_27 : decode cX8_truncate 27 = .ok (.iload_n 1, 1) := by decide +kernel
theorem dX8_truncate_28 : decode cX8_truncate 28 = .ok (.putfield 66, 3) := by decide +kernel
theorem dX8_truncate_31 : decode cX8_truncate 31 = .ok (.iconst 1, 1) := by decide +kernel
theorem dX8_truncate_32 : decode cX8_truncate 32 = .ok (.ireturn, 1) := by decide +kernel
set_option maxRecDepth 20000 in
theorem ggX8_load_X6_begin : GoodIn wsX8_load wsX6_begin := goodIn_r _ [14, 15, 16, 17, 18, 19, 20, 21, 22, 23, 24, 25, 26, 27, 28, 29, 30, 31, 32, 385, 386, 387, 388, 389, 390, 391, 392, 393, 402, 403, 404, 405, 406] rfl (by decide +kernel)
set_option maxRecDepth 20000 in
theorem gX8_load_X6_begin : GoodIn wsX8_load (wsV RX8 76 RX6 yX6_begin wsX6_begin) := goodIn_app (goodIn_r _ [10, 11, 12, 13] rfl (by decide +kernel)) ggX8_load_X6_begin
set_option maxRecDepth 20000 in
theorem ggX8_load_X6_readHeader : GoodIn wsX8_load wsX6_readHeader := goodIn_r _ [36, 18, 37, 38, 39, 40, 41, 22, 42, 32, 24, 29, 30, 31, 43, 44, 45, 46, 47, 48, 49, 50, 51, 52, 53, 54, 55, 56, 57, 58, 59, 60, 61, 62, 63, 64, 65, 66, 67, 68, 69, 70, 71, 72, 73, 74, 75, 76, 77, 78, 79, 80, 81, 82, 83, 84, 85, 86, 87, 88, 89, 90, 91, 92, 93, 94, 13, 95, 15, 16, 96, 26, 27, 28, 97, 98, 99, 100, 101, 102, 103, 104, 105, 106, 107, 108, 109, 110, 111, 112, 113, 114, 115, 116, 117, 118, 119, 120, 385, 386, 387, 388, 389, 390, 391, 392, 393, 402, 403, 404, 405, 406, 394, 395, 396, 397, 398, 399, 400, 401] rfl (by decide +kernel)
set_option maxRecDepth 20000 in
theorem gX8_load_X6_readHeader : GoodIn wsX8_load (wsV RX8 79 RX6 yX6_readHeader wsX6_readHeader) := goodIn_app (goodIn_r _ [33, 34, 35, 13] rfl (by decide +kernel)) ggX8_load_X6_readHeader
set_option maxRecDepth 20000 in
theorem ggX8_load_X6_readCommands : GoodIn wsX8_load wsX6_readCommands := goodIn_r _ [124, 18, 101, 37, 17, 102, 103, 104, 13, 105, 15, 39, 40, 41, 22, 42, 32, 24, 29, 30, 31, 43, 44, 45, 46, 47, 48, 49, 50, 51, 52, 53, 54, 55, 56, 57, 58, 59, 60, 61, 62, 63, 64, 65, 66, 67, 68, 69, 70, 71, 72, 73, 74, 75, 76, 77, 78, 79, 80, 81, 82, 83, 84, 85, 86, 87, 88, 89, 90, 91, 125, 126, 127, 128, 38, 129, 130, 131, 132, 133, 117, 134, 120, 92, 93, 94, 95, 16, 96, 26, 27, 28, 135, 136, 137, 138, 139, 140, 141, 142, 143, 144, 145, 146, 147, 148, 149, 150, 151, 152, 153, 154, 155, 156, 157, 158, 159, 160, 161, 162, 163, 164, 165, 166, 167, 168, 169, 170, 171, 172, 173, 174, 175, 97, 98, 99, 100, 106, 107, 108, 109, 176, 177, 178, 179, 180, 181, 182, 183, 184, 185, 186, 187, 188, 189, 190, 191, 192, 193, 194, 195, 196, 197, 198, 199, 200, 201, 202, 203, 204, 205, 206, 207, 208, 209, 210, 211, 212, 213, 214, 215, 216, 217, 218, 219, 220, 221, 222, 223, 224, 225, 226, 227, 228, 229, 230, 231, 232, 233, 234, 235, 236, 237, 238, 239, 240, 241, 242, 243, 244, 245, 246, 247, 248, 249, 250, 251, 252, 253, 254, 255, 256, 257, 258, 259, 260, 261, 262, 263, 264, 265, 266, 267, 268, 269, 270, 271, 272, 273, 274, 275, 276, 277, 278, 279, 280, 281, 282, 283, 284, 285, 286, 287, 288, 289, 290, 291, 292, 293, 294, 295, 296, 297, 298, 299, 300, 301, 302, 303, 304, 305, 306, 307, 308, 309, 310, 311, 312, 313, 314, 119, 315, 316, 317, 318, 319, 320, 321, 322, 323, 324, 325, 326, 327, 328, 329, 330, 331, 332, 333, 334, 335, 336, 337, 338, 339, 340, 341, 342, 343, 344, 345, 346, 347, 348, 349, 350, 351, 352, 353, 354, 355, 356, 110, 111, 112, 113, 385, 386, 387, 388, 389, 390, 391, 392, 393, 402, 403, 404, 405, 406, 394, 395, 396, 397, 398, 399, 400, 401, 407, 408, 409, 410] rfl (by decide +kernel)
set_option maxRecDepth 20000 in
theorem gX8_load_X6_readCommands : GoodIn wsX8_load (wsV RX8 82 RX6 yX6_readCommands wsX6_readCommands) := goodIn_app (goodIn_r _ [121, 122, 123, 13] rfl (by decide +kernel)) ggX8_load_X6_readCommands
set_option maxRecDepth 20000 in
theorem ggX8_load_X6_end : GoodIn wsX8_load wsX6_end := goodIn_r _ [360, 18, 361, 385, 386, 387, 388, 389, 390, 391, 392, 393, 402, 403, 404, 405, 406] rfl (by decide +kernel)
set_option maxRecDepth 20000 in
theorem gX8_load_X6_end : GoodIn wsX8_load (wsV RX8 85 RX6 yX6_end wsX6_end) := goodIn_app (goodIn_r _ [357, 358, 359, 13] rfl (by decide +kernel)) ggX8_load_X6_end
set_option maxRecDepth 20000 in
theorem ggX8_load_X0_copyFrom : GoodIn wsX8_load wsX0_copyFrom := goodIn_r _ [365, 119, 120, 156, 366, 367, 368, 369, 157, 162, 163, 164, 165, 394, 395, 396, 397, 398, 399, 400, 401] rfl (by decide +kernel)
set_option maxRecDepth 20000 in
theorem gX8_load_X0_copyFrom : GoodIn wsX8_load (wsV RX8 101 RX0 yX0_copyFrom wsX0_copyFrom) := goodIn_app (goodIn_r _ [362, 363, 364, 117] rfl (by decide +kernel)) ggX8_load_X0_copyFrom
set_option maxRecDepth 20000 in
theorem ggX8_load_X1_clear : GoodIn wsX8_load wsX1_clear := goodIn_r _ [374, 375, 411, 412, 413] rfl (by decide +kernel)
set_option maxRecDepth 20000 in
theorem gX8_load_X1_clear : GoodIn wsX8_load (wsV RX8 105 RX1 yX1_clear wsX1_clear) := goodIn_app (goodIn_r _ [370, 371, 372, 373] rfl (by decide +kernel)) ggX8_load_X1_clear
theorem dX8_load_0 : decode cX8_load 0 = .ok (.aload_n 0, 1) := by decide +kernel
theorem dX8_load_1 : decode cX8_load 1 = .ok (.getfield 22, 3) := by decide +kernel
theorem dX8_load_4 : decode cX8_load 4 = .ok (.invokevirtual 76, 3) := by decide +kernel
theorem dX8_load_7 : decode cX8_load 7 = .ok (.aload_n 0, 1) := by decide +kernel
theorem dX8_load_8 : decode cX8_load 8 = .ok (.getfield 22, 3) := by decide +kernel
theorem dX8_load_11 : decode cX8_load 11 = .ok (.invokevirtual 79, 3) := by decide +kernel
theorem dX8_load_14 : decode cX8_load 14 = .ok (.aload_n 0, 1) := by decide +kernel
theorem dX8_load_15 : decode cX8_load 15 = .ok (.getfield 22, 3) := by decide +kernel
theorem dX8_load_18 : decode cX8_load 18 = .ok (.invokevirtual 82, 3) := by decide +kernel
theorem dX8_load_21 : decode cX8_load 21 = .ok (.aload_n 0, 1) := by decide +kernel
theorem dX8_load_22 : decode cX8_load 22 = .ok (.getfield 22, 3) := by decide +kernel
theorem dX8_load_25 : decode cX8_load 25 = .ok (.invokevirtual 85, 3) := by decide +kernel
theorem dX8_load_28 : decode cX8_load 28 = .ok (.aload_n 0, 1) := by decide +kernel
theorem dX8_load_29 : decode cX8_load 29 = .ok (.getfield 22, 3) := by decide +kernel
theorem dX8_load_32 : decode cX8_load 32 = .ok (.getfield 88, 3) := by decide +kernel
theorem dX8_load_35 : decode cX8_load 35 = .ok (.ifCond .eq 13, 3) := by decide +kernel
theorem dX8_load_38 : decode cX8_load 38 = .ok (.new 91, 3) := by decide +kernel
theorem dX8_load_41 : decode cX8_load 41 = .ok (.dup, 1) := by decide +kernel
theorem dX8_load_42 : decode cX8_load 42 = .ok (.ldc 93, 2) := by decide +kernel
theorem dX8_load_44 : decode cX8_load 44 = .ok (.invokespecial 95, 3) := by decide +kernel
theorem dX8_load_47 : decode cX8_load 47 = .ok (.athrow, 1) := by decide +kernel
theorem dX8_load_48 : decode cX8_load 48 = .ok (.aload_n 0, 1) := by decide +kernel
theorem dX8_load_49 : decode cX8_load 49 = .ok (.getfield 10, 3) := by decide +kernel
theorem dX8_load_52 : decode cX8_load 52 = .ok (.aload_n 0, 1) := by decide +kernel
theorem dX8_load_53 : decode cX8_load 53 = .ok (.getfield 22, 3) := by decide +kernel
theorem dX8_load_56 : decode cX8_load 56 = .ok (.getfield 98, 3) := by decide +kernel
theorem dX8_load_59 : decode cX8_load 59 = .ok (.invokevirtual 101, 3) := by decide +kernel
theorem dX8_load_62 : decode cX8_load 62 = .ok (.aload_n 0, 1) := by decide +kernel
theorem dX8_load_63 : decode cX8_load 63 = .ok (.getfield 29, 3) := by decide +kernel
theorem dX8_load_66 : decode cX8_load 66 = .ok (.invokevirtual 105, 3) := by decide +kernel
theorem dX8_load_69 : decode cX8_load 69 = .ok (.iconst 0, 1) := by decide +kernel
theorem dX8_load_70 : decode cX8_load 70 = .ok (.istore_n 1, 1) := by decide +kernel
theorem dX8_load_71 : decode cX8_load 71 = .ok (.iload_n 1, 1) := by decide +kernel
theorem dX8_load_72 : decode cX8_load 72 = .ok (.iconst 2, 1) := by decide +kernel
theorem dX8_load_73 : decode cX8_load 73 = .ok (.if_icmp .ge 16, 3) := by decide +kernel
theorem dX8_load_76 : decode cX8_load 76 = .ok (.aload_n 0, 1) := by decide +kernel
theorem dX8_load_77 : decode cX8_load 77 = .ok (.getfield 37, 3) := by decide +kernel
theorem dX8_load_80 : decode cX8_load 80 = .ok (.iload_n 1, 1) := by decide +kernel
theorem dX8_load_81 : decode cX8_load 81 = .ok (.iconst 0, 1) := by decide +kernel
theorem dX8_load_82 : decode cX8_load 82 = .ok (.bastore, 1) := by decide +kernel
theorem dX8_load_83 : decode cX8_load 83 = .ok (.iinc 1 1, 3) := by decide +kernel
theorem dX8_load_86 : decode cX8_load 86 = .ok (.goto (-15), 3) := by decide +kernel
theorem dX8_load_89 : decode cX8_load 89 = .ok (.aload_n 0, 1) := by decide +kernel
theorem dX8_load_90 : decode cX8_load 90 = .ok (.getfield 10, 3) := by decide +kernel
theorem dX8_load_93 : decode cX8_load 93 = .ok (.getfield 108, 3) := by decide +kernel
theorem dX8_load_96 : decode cX8_load 96 = .ok (.ireturn, 1) := by decide +kernel
set_option maxRecDepth 20000 in
theorem ggX8_play_X6_begin : GoodIn wsX8_play wsX6_begin := goodIn_r _ [13, 14, 15, 16, 17, 18, 19, 20, 21, 22, 23, 24, 25, 26, 27, 28, 29, 30, 31, 382, 383, 384, 385, 386, 387, 388, 389, 390, 391, 392, 393, 394, 395] rfl (by decide +kernel)
set_option maxRecDepth 20000 in
theorem gX8_play_X6_begin : GoodIn wsX8_play (wsV RX8 76 RX6 yX6_begin wsX6_begin) := goodIn_app (goodIn_r _ [9, 10, 11, 12] rfl (by decide +kernel)) ggX8_play_X6_begin
set_option maxRecDepth 20000 in
theorem ggX8_play_X0_copyFrom : GoodIn wsX8_play wsX0_copyFrom := goodIn_r _ [36, 37, 38, 39, 40, 41, 42, 43, 44, 45, 46, 47, 48, 396, 397, 398, 399, 400, 401, 402, 403] rfl (by decide +kernel)
set_option maxRecDepth 20000 in
theorem gX8_play_X0_copyFrom : GoodIn wsX8_play (wsV RX8 101 RX0 yX0_copyFrom wsX0_copyFrom) := goodIn_app (goodIn_r _ [32, 33, 34, 35] rfl (by decide +kernel)) ggX8_play_X0_copyFrom
set_option maxRecDepth 20000 in
theorem ggX8_play_X6_readCommands : GoodIn wsX8_play wsX6_readCommands := goodIn_r _ [52, 17, 53, 54, 16, 55, 56, 57, 12, 58, 14, 59, 60, 61, 21, 62, 31, 23, 28, 29, 30, 63, 64, 65, 66, 67, 68, 69, 70, 71, 72, 73, 74, 75, 76, 77, 78, 79, 80, 81, 82, 83, 84, 85, 86, 87, 88, 89, 90, 91, 92, 93, 94, 95, 96, 97, 98, 99, 100, 101, 102, 103, 104, 105, 106, 107, 108, 109, 110, 111, 112, 113, 114, 115, 116, 117, 118, 119, 120, 121, 35, 122, 38, 123, 124, 125, 126, 15, 127, 25, 26, 27, 128, 129, 130, 131, 132, 133, 134, 135, 136, 137, 138, 139, 140, 141, 142, 143, 144, 145, 146, 147, 148, 39, 44, 149, 150, 151, 152, 45, 46, 47, 48, 153, 154, 155, 156, 157, 158, 159, 160, 161, 162, 163, 164, 165, 166, 167, 168, 169, 170, 171, 172, 173, 174, 175, 176, 177, 178, 179, 180, 181, 182, 183, 184, 185, 186, 187, 188, 189, 190, 191, 192, 193, 194, 195, 196, 197, 198, 199, 200, 201, 202, 203, 204, 205, 206, 207, 208, 209, 210, 211, 212, 213, 214, 215, 216, 217, 218, 219, 220, 221, 222, 223, 224, 225, 226, 227, 228, 229, 230, 231, 232, 233, 234, 235, 236, 237, 238, 239, 240, 241, 242, 243, 244, 245, 246, 247, 248, 249, 250, 251, 252, 253, 254, 255, 256, 257, 258, 259, 260, 261, 262, 263, 264, 265, 266, 267, 268, 269, 270, 271, 272, 273, 274, 275, 276, 277, 278, 279, 280, 281, 282, 283, 284, 285, 286, 287, 288, 289, 290, 291, 292, 293, 294, 295, 296, 297, 298, 299, 300, 301, 302, 303, 304, 305, 306, 307, 308, 309, 37, 310, 311, 312, 313, 314, 315, 316, 317, 318, 319, 320, 321, 322, 323, 324, 325, 326, 327, 328, 329, 330, 331, 332, 333, 334, 335, 336, 337, 338, 339, 340, 341, 342, 343, 344, 345, 346, 347, 348, 349, 350, 351, 352, 353, 354, 355, 382, 383, 384, 385, 386, 387, 388, 389, 390, 391, 392, 393, 394, 395, 396, 397, 398, 399, 400, 401, 402, 403, 404, 405, 406, 407] rfl (by decide +kernel)
set_option maxRecDepth 20000 in
theorem gX8_play_X6_readCommands : GoodIn wsX8_play (wsV RX8 82 RX6 yX6_readCommands wsX6_readCommands) := goodIn_app (goodIn_r _ [49, 50, 51, 12] rfl (by decide +kernel)) ggX8_play_X6_readCommands
set_option maxRecDepth 20000 in
theorem ggX8_play_X6_end : GoodIn wsX8_play wsX6_end := goodIn_r _ [359, 17, 360, 382, 383, 384, 385, 386, 387, 388, 389, 390, 391, 392, 393, 394, 395] rfl (by decide +kernel)
set_option maxRecDepth 20000 in
theorem gX8_play_X6_end : GoodIn wsX8_play (wsV RX8 85 RX6 yX6_end wsX6_end) := goodIn_app (goodIn_r _ [356, 357, 358, 12] rfl (by decide +kernel)) ggX8_play_X6_end
set_option maxRecDepth 20000 in
theorem ggX8_play_X1_push : GoodIn wsX8_play wsX1_push := goodIn_r _ [365, 366, 367, 368, 369, 370, 205, 371, 372, 33, 34, 35, 36, 37, 38, 39, 40, 41, 42, 43, 44, 45, 46, 47, 48, 408, 409, 410, 396, 397, 398, 399, 400, 401, 402, 403] rfl (by decide +kernel)
set_option maxRecDepth 20000 in
theorem gX8_play_X1_push : GoodIn wsX8_play (wsV RX8 113 RX1 yX1_push wsX1_push) := goodIn_app (goodIn_r _ [361, 362, 363, 364] rfl (by decide +kernel)) ggX8_play_X1_push
theorem dX8_play_0 : decode cX8_play 0 = .ok (.aload_n 0, 1) := by decide +kernel
theorem dX8_play_1 : decode cX8_play 1 = .ok (.getfield 22, 3) := by decide +kernel
theorem dX8_play_4 : decode cX8_play 4 = .ok (.invokevirtual 76, 3) := by decide +kernel
theorem dX8_play_7 : decode cX8_play 7 = .ok (.aload_n 0, 1) := by decide +kernel
theorem dX8_play_8 : decode cX8_play 8 = .ok (.getfield 22, 3) := by decide +kernel
theorem dX8_play_11 : decode cX8_play 11 = .ok (.getfield 98, 3) := by decide +kernel
theorem dX8_play_14 : decode cX8_play 14 = .ok (.aload_n 0, 1) := by decide +kernel
theorem dX8_play_15 : decode cX8_play 15 = .ok (.getfield 10, 3) := by decide +kernel
theorem dX8_play_18 : decode cX8_play 18 = .ok (.invokevirtual 101, 3) := by decide +kernel
theorem dX8_play_21 : decode cX8_play 21 = .ok (.aload_n 0, 1) := by decide +kernel
theorem dX8_play_22 : decode cX8_play 22 = .ok (.getfield 22, 3) := by decide +kernel
theorem dX8_play_25 : decode cX8_play 25 = .ok (.invokevirtual 82, 3) := by decide +kernel
theorem dX8_play_28 : decode cX8_play 28 = .ok (.aload_n 0, 1) := by decide +kernel
theorem dX8_play_29 : decode cX8_play 29 = .ok (.getfield 22, 3) := by decide +kernel
theorem dX8_play_32 : decode cX8_play 32 = .ok (.invokevirtual 85, 3) := by decide +kernel
theorem dX8_play_35 : decode cX8_play 35 = .ok (.aload_n 0, 1) := by decide +kernel
theorem dX8_play_36 : decode cX8_play 36 = .ok (.getfield 22, 3) := by decide +kernel
theorem dX8_play_39 : decode cX8_play 39 = .ok (.getfield 88, 3) := by decide +kernel
theorem dX8_play_42 : decode cX8_play 42 = .ok (.ifCond .eq 13, 3) := by decide +kernel
theorem dX8_play_45 : decode cX8_play 45 = .ok (.new 91, 3) := by decide +kernel
theorem dX8_play_48 : decode cX8_play 48 = .ok (.dup, 1) := by decide +kernel
theorem dX8_play_49 : decode cX8_play 49 = .ok (.ldc 111, 2) := by decide +kernel
theorem dX8_play_51 : decode cX8_play 51 = .ok (.invokespecial 95, 3) := by decide +kernel
theorem dX8_play_54 : decode cX8_play 54 = .ok (.athrow, 1) := by decide +kernel
theorem dX8_play_55 : decode cX8_play 55 = .ok (.aload_n 0, 1) := by decide +kernel
theorem dX8_play_56 : decode cX8_play 56 = .ok (.getfield 29, 3) := by decide +kernel
theorem dX8_play_59 : decode cX8_play 59 = .ok (.aload_n 0, 1) := by decide +kernel
theorem dX8_play_60 : decode cX8_play 60 = .ok (.getfield 10, 3) := by decide +kernel
theorem dX8_play_63 : decode cX8_play 63 = .ok (.invokevirtual 113, 3) := by decide +kernel
theorem dX8_play_66 : decode cX8_play 66 = .ok (.aload_n 0, 1) := by decide +kernel
theorem dX8_play_67 : decode cX8_play 67 = .ok (.getfield 10, 3) := by decide +kernel
theorem dX8_play_70 : decode cX8_play 70 = .ok (.aload_n 0, 1) := by decide +kernel
theorem dX8_play_71 : decode cX8_play 71 = .ok (.getfield 22, 3) := by decide +kernel
theorem dX8_play_74 : decode cX8_play 74 = .ok (.getfield 98, 3) := by decide +kernel
theorem dX8_play_77 : decode cX8_play 77 = .ok (.invokevirtual 101, 3) := by decide +kernel
theorem dX8_play_80 : decode cX8_play 80 = .ok (.aload_n 0, 1) := by decide +kernel
theorem dX8_play_81 : decode cX8_play 81 = .ok (.getfield 22, 3) := by decide +kernel
theorem dX8_play_84 : decode cX8_play 84 = .ok (.getfield 116, 3) := by decide +kernel
theorem dX8_play_87 : decode cX8_play 87 = .ok (.ireturn, 1) := by decide +kernel
theorem dX8_parseError_0 : decode cX8_parseError 0 = .ok (.aload_n 0, 1) := by decide +kernel
theorem dX8_parseError_1 : decode cX8_parseError 1 = .ok (.getfield 22, 3) := by decide +kernel
theorem dX8_parseError_4 : decode cX8_parseError 4 = .ok (.getfield 88, 3) := by decide +kernel
theorem dX8_parseError_7 : decode cX8_parseError 7 = .ok (.ireturn, 1) := by decide +kernel
theorem dX8_parseErrorPosition_0 : decode cX8_parseErrorPosition 0 = .ok (.aload_n 0, 1) := by decide +kernel
theorem dX8_parseErrorPosition_1 : decode cX8_parseErrorPosition 1 = .ok (.getfield 22, 3) := by decide +kernel
theorem dX8_parseErrorPosition_4 : decode cX8_parseErrorPosition 4 = .ok (.getfield 119, 3) := by decide +kernel
theorem dX8_parseErrorPosition_7 : decode cX8_parseErrorPosition 7 = .ok (.ireturn, 1) := by decide +kernel
theorem dX8_variableCount_0 : decode cX8_variableCount 0 = .ok (.aload_n 0, 1) := by decide +kernel
theorem dX8_variableCount_1 : decode cX8_variableCount 1 = .ok (.getfield 10, 3) := by decide +kernel
theorem dX8_variableCount_4 : decode cX8_variableCount 4 = .ok (.getfield 122, 3) := by decide +kernel
theorem dX8_variableCount_7 : decode cX8_variableCount 7 = .ok (.ireturn, 1) := by decide +kernel
theorem dX8_clauseCount_0 : decode cX8_clauseCount 0 = .ok (.aload_n 0, 1) := by decide +kernel
theorem dX8_clauseCount_1 : decode cX8_clauseCount 1 = .ok (.getfield 10, 3) := by decide +kernel
theorem dX8_clauseCount_4 : decode cX8_clauseCount 4 = .ok (.getfield 108, 3) := by decide +kernel
theorem dX8_clauseCount_7 : decode cX8_clauseCount 7 = .ok (.ireturn, 1) := by decide +kernel
set_option maxRecDepth 20000 in
theorem ggX8_positiveOf_X8_checkClause : GoodIn wsX8_positiveOf wsX8_checkClause := goodIn_ca (goodIn_r _ [7, 8, 9, 1, 10, 11, 12, 13, 14, 15, 16, 17, 18, 19, 20, 21, 22, 23, 24, 25, 26, 27, 28, 29, 30, 31, 32] rfl (by decide +kernel)) (goodIn_sub (fun _ h => List.mem_cons_of_mem _ (List.mem_append_right _ h)) (by decide +kernel))
set_option maxRecDepth 20000 in
theorem gX8_positiveOf_X8_checkClause : GoodIn wsX8_positiveOf (wsV RX8 125 RX8 yX8_checkClause wsX8_checkClause) := goodIn_app (goodIn_r _ [3, 4, 5, 6] rfl (by decide +kernel)) ggX8_positiveOf_X8_checkClause
theorem dX8_positiveOf_0 : decode cX8_positiveOf 0 = .ok (.aload_n 0, 1) := by decide +kernel
theorem dX8_positiveOf_1 : decode cX8_positiveOf 1 = .ok (.iload_n 1, 1) := by decide +kernel
theorem dX8_positiveOf_2 : decode cX8_positiveOf 2 = .ok (.invokevirtual 125, 3) := by decide +kernel
theorem dX8_positiveOf_5 : decode cX8_positiveOf 5 = .ok (.aload_n 0, 1) := by decide +kernel
theorem dX8_positiveOf_6 : decode cX8_positiveOf 6 = .ok (.getfield 10, 3) := by decide +kernel
theorem dX8_positiveOf_9 : decode cX8_positiveOf 9 = .ok (.getfield 128, 3) := by decide +kernel
theorem dX8_positiveOf_12 : decode cX8_positiveOf 12 = .ok (.iload_n 1, 1) := by decide +kernel
theorem dX8_positiveOf_13 : decode cX8_positiveOf 13 = .ok (.iaload, 1) := by decide +kernel
theorem dX8_positiveOf_14 : decode cX8_positiveOf 14 = .ok (.ireturn, 1) := by decide +kernel
set_option maxRecDepth 20000 in
theorem ggX8_negativeOf_X8_checkClause : GoodIn wsX8_negativeOf wsX8_checkClause := goodIn_ca (goodIn_r _ [7, 8, 9, 1, 10, 11, 12, 13, 14, 15, 16, 17, 18, 19, 20, 21, 22, 23, 24, 25, 26, 27, 28, 29, 30, 31, 32] rfl (by decide +kernel)) (goodIn_sub (fun _ h => List.mem_cons_of_mem _ (List.mem_append_right _ h)) (by decide +kernel))
set_option maxRecDepth 20000 in
theorem gX8_negativeOf_X8_checkClause : GoodIn wsX8_negativeOf (wsV RX8 125 RX8 yX8_checkClause wsX8_checkClause) := goodIn_app (goodIn_r _ [3, 4, 5, 6] rfl (by decide +kernel)) ggX8_negativeOf_X8_checkClause
theorem dX8_negativeOf_0 : decode cX8_negativeOf 0 = .ok (.aload_n 0, 1) := by decide +kernel
theorem dX8_negativeOf_1 : decode cX8_negativeOf 1 = .ok (.iload_n 1, 1) := by decide +kernel
theorem dX8_negativeOf_2 : decode cX8_negativeOf 2 = .ok (.invokevirtual 125, 3) := by decide +kernel
theorem dX8_negativeOf_5 : decode cX8_negativeOf 5 = .ok (.aload_n 0, 1) := by decide +kernel
theorem dX8_negativeOf_6 : decode cX8_negativeOf 6 = .ok (.getfield 10, 3) := by decide +kernel
theorem dX8_negativeOf_9 : decode cX8_negativeOf 9 = .ok (.getfield 132, 3) := by decide +kernel
theorem dX8_negativeOf_12 : decode cX8_negativeOf 12 = .ok (.iload_n 1, 1) := by decide +kernel
theorem dX8_negativeOf_13 : decode cX8_negativeOf 13 = .ok (.iaload, 1) := by decide +kernel
theorem dX8_negativeOf_14 : decode cX8_negativeOf 14 = .ok (.ireturn, 1) := by decide +kernel
set_option maxRecDepth 20000 in
theorem ggX8_sizeOf_X8_checkClause : GoodIn wsX8_sizeOf wsX8_checkClause := goodIn_ca (goodIn_r _ [6, 7, 8, 1, 9, 10, 11, 12, 13, 14, 28, 29, 30, 31, 32, 33, 34, 35, 36, 37, 38, 39, 40, 41, 42, 43, 44] rfl (by decide +kernel)) (goodIn_sub (fun _ h => List.mem_cons_of_mem _ (List.mem_append_right _ h)) (by decide +kernel))
set_option maxRecDepth 20000 in
theorem gX8_sizeOf_X8_checkClause : GoodIn wsX8_sizeOf (wsV RX8 125 RX8 yX8_checkClause wsX8_checkClause) := goodIn_app (goodIn_r _ [2, 3, 4, 5] rfl (by decide +kernel)) ggX8_sizeOf_X8_checkClause
set_option maxRecDepth 20000 in
theorem ggX8_sizeOf_X0_literalsIn : GoodIn wsX8_sizeOf wsX0_literalsIn := goodIn_r _ [18, 19, 20, 21, 22, 23, 24, 25, 26, 27, 37, 38, 39, 40, 41, 42, 43, 44] rfl (by decide +kernel)
set_option maxRecDepth 20000 in
theorem gX8_sizeOf_X0_literalsIn : GoodIn wsX8_sizeOf (wsV RX8 135 RX0 yX0_literalsIn wsX0_literalsIn) := goodIn_app (goodIn_r _ [15, 16, 17, 12] rfl (by decide +kernel)) ggX8_sizeOf_X0_literalsIn
theorem dX8_sizeOf_0 : decode cX8_sizeOf 0 = .ok (.aload_n 0, 1) := by decide +kernel
theorem dX8_sizeOf_1 : decode cX8_sizeOf 1 = .ok (.iload_n 1, 1) := by decide +kernel
theorem dX8_sizeOf_2 : decode cX8_sizeOf 2 = .ok (.invokevirtual 125, 3) := by decide +kernel
theorem dX8_sizeOf_5 : decode cX8_sizeOf 5 = .ok (.aload_n 0, 1) := by decide +kernel
theorem dX8_sizeOf_6 : decode cX8_sizeOf 6 = .ok (.getfield 10, 3) := by decide +kernel
theorem dX8_sizeOf_9 : decode cX8_sizeOf 9 = .ok (.iload_n 1, 1) := by decide +kernel
theorem dX8_sizeOf_10 : decode cX8_sizeOf 10 = .ok (.invokevirtual 135, 3) := by decide +kernel
theorem dX8_sizeOf_13 : decode cX8_sizeOf 13 = .ok (.ireturn, 1) := by decide +kernel
set_option maxRecDepth 20000 in
theorem ggX8_find_X8_checkLiterals : GoodIn wsX8_find wsX8_checkLiterals := goodIn_ca (goodIn_r _ [6, 7, 8, 9, 10, 11, 5, 12, 1, 13, 14, 15, 16, 17, 18, 19, 20, 21, 22, 30, 31, 32, 33, 34, 35, 36, 37, 38, 39, 40, 41, 42, 43, 44, 45, 46] rfl (by decide +kernel)) (goodIn_sub (fun _ h => List.mem_cons_of_mem _ (List.mem_append_right _ h)) (by decide +kernel))
set_option maxRecDepth 20000 in
theorem gX8_find_X8_checkLiterals : GoodIn wsX8_find (wsV RX8 139 RX8 yX8_checkLiterals wsX8_checkLiterals) := goodIn_app (goodIn_r _ [2, 3, 4, 5] rfl (by decide +kernel)) ggX8_find_X8_checkLiterals
set_option maxRecDepth 20000 in
theorem ggX8_find_X0_indexOf : GoodIn wsX8_find wsX0_indexOf := goodIn_r _ [26, 27, 28, 29, 39, 40, 41, 42, 43, 44, 45, 46] rfl (by decide +kernel)
set_option maxRecDepth 20000 in
theorem gX8_find_X0_indexOf : GoodIn wsX8_find (wsV RX8 143 RX0 yX0_indexOf wsX0_indexOf) := goodIn_app (goodIn_r _ [23, 24, 25, 16] rfl (by decide +kernel)) ggX8_find_X0_indexOf
theorem dX8_find_0 : decode cX8_find 0 = .ok (.aload_n 0, 1) := by decide +kernel
theorem dX8_find_1 : decode cX8_find 1 = .ok (.iload_n 1, 1) := by decide +kernel
theorem dX8_find_2 : decode cX8_find 2 = .ok (.iload_n 2, 1) := by decide +kernel
theorem dX8_find_3 : decode cX8_find 3 = .ok (.invokevirtual 139, 3) := by decide +kernel
theorem dX8_find_6 : decode cX8_find 6 = .ok (.aload_n 0, 1) := by decide +kernel
theorem dX8_find_7 : decode cX8_find 7 = .ok (.getfield 10, 3) := by decide +kernel
theorem dX8_find_10 : decode cX8_find 10 = .ok (.iload_n 1, 1) := by decide +kernel
theorem dX8_find_11 : decode cX8_find 11 = .ok (.iload_n 2, 1) := by decide +kernel
theorem dX8_find_12 : decode cX8_find 12 = .ok (.invokevirtual 143, 3) := by decide +kernel
theorem dX8_find_15 : decode cX8_find 15 = .ok (.ireturn, 1) := by decide +kernel
set_option maxRecDepth 20000 in
theorem ggX8_isGiven_X8_checkClause : GoodIn wsX8_isGiven wsX8_checkClause := goodIn_ca (goodIn_r _ [7, 8, 9, 1, 10, 11, 12, 13, 14, 15, 16, 17, 18, 19, 20, 21, 22, 23, 24, 25, 26, 27, 28, 29, 30, 31, 32] rfl (by decide +kernel)) (goodIn_sub (fun _ h => List.mem_cons_of_mem _ (List.mem_append_right _ h)) (by decide +kernel))
set_option maxRecDepth 20000 in
theorem gX8_isGiven_X8_checkClause : GoodIn wsX8_isGiven (wsV RX8 125 RX8 yX8_checkClause wsX8_checkClause) := goodIn_app (goodIn_r _ [3, 4, 5, 6] rfl (by decide +kernel)) ggX8_isGiven_X8_checkClause
theorem dX8_isGiven_0 : decode cX8_isGiven 0 = .ok (.aload_n 0, 1) := by decide +kernel
theorem dX8_isGiven_1 : decode cX8_isGiven 1 = .ok (.iload_n 1, 1) := by decide +kernel
theorem dX8_isGiven_2 : decode cX8_isGiven 2 = .ok (.invokevirtual 125, 3) := by decide +kernel
theorem dX8_isGiven_5 : decode cX8_isGiven 5 = .ok (.aload_n 0, 1) := by decide +kernel
theorem dX8_isGiven_6 : decode cX8_isGiven 6 = .ok (.getfield 10, 3) := by decide +kernel
theorem dX8_isGiven_9 : decode cX8_isGiven 9 = .ok (.getfield 147, 3) := by decide +kernel
theorem dX8_isGiven_12 : decode cX8_isGiven 12 = .ok (.iload_n 1, 1) := by decide +kernel
theorem dX8_isGiven_13 : decode cX8_isGiven 13 = .ok (.iaload, 1) := by decide +kernel
theorem dX8_isGiven_14 : decode cX8_isGiven 14 = .ok (.iconst (-1), 1) := by decide +kernel
theorem dX8_isGiven_15 : decode cX8_isGiven 15 = .ok (.if_icmp .ne 7, 3) := by decide +kernel
theorem dX8_isGiven_18 : decode cX8_isGiven 18 = .ok (.iconst 1, 1) := by decide +kernel
theorem dX8_isGiven_19 : decode cX8_isGiven 19 = .ok (.goto 4, 3) := by decide +kernel
theorem dX8_isGiven_22 : decode cX8_isGiven 22 = .ok (.iconst 0, 1) := by decide +kernel
theorem dX8_isGiven_23 : decode cX8_isGiven 23 = .ok (.ireturn, 1) := by decide +kernel
set_option maxRecDepth 20000 in
theorem ggX8_positiveParent_X8_checkClause : GoodIn wsX8_positiveParent wsX8_checkClause := goodIn_ca (goodIn_r _ [7, 8, 9, 1, 10, 11, 12, 13, 14, 15, 16, 17, 18, 19, 20, 21, 22, 23, 24, 25, 26, 27, 28, 29, 30, 31, 32] rfl (by decide +kernel)) (goodIn_sub (fun _ h => List.mem_cons_of_mem _ (List.mem_append_right _ h)) (by decide +kernel))
set_option maxRecDepth 20000 in
theorem gX8_positiveParent_X8_checkClause : GoodIn wsX8_positiveParent (wsV RX8 125 RX8 yX8_checkClause wsX8_checkClause) := goodIn_app (goodIn_r _ [3, 4, 5, 6] rfl (by decide +kernel)) ggX8_positiveParent_X8_checkClause
theorem dX8_positiveParent_0 : decode cX8_positiveParent 0 = .ok (.aload_n 0, 1) := by decide +kernel
theorem dX8_positiveParent_1 : decode cX8_positiveParent 1 = .ok (.iload_n 1, 1) := by decide +kernel
theorem dX8_positiveParent_2 : decode cX8_positiveParent 2 = .ok (.invokevirtual 125, 3) := by decide +kernel
theorem dX8_positiveParent_5 : decode cX8_positiveParent 5 = .ok (.aload_n 0, 1) := by decide +kernel
theorem dX8_positiveParent_6 : decode cX8_positiveParent 6 = .ok (.getfield 10, 3) := by decide +kernel
theorem dX8_positiveParent_9 : decode cX8_positiveParent 9 = .ok (.getfield 150, 3) := by decide +kernel
theorem dX8_positiveParent_12 : decode cX8_positiveParent 12 = .ok (.iload_n 1, 1) := by decide +kernel
theorem dX8_positiveParent_13 : decode cX8_positiveParent 13 = .ok (.iaload, 1) := by decide +kernel
theorem dX8_positiveParent_14 : decode cX8_positiveParent 14 = .ok (.ireturn, 1) := by decide +kernel
set_option maxRecDepth 20000 in
theorem ggX8_negativeParent_X8_checkClause : GoodIn wsX8_negativeParent wsX8_checkClause := goodIn_ca (goodIn_r _ [7, 8, 9, 1, 10, 11, 12, 13, 14, 15, 16, 17, 18, 19, 20, 21, 22, 23, 24, 25, 26, 27, 28, 29, 30, 31, 32] rfl (by decide +kernel)) (goodIn_sub (fun _ h => List.mem_cons_of_mem _ (List.mem_append_right _ h)) (by decide +kernel))
set_option maxRecDepth 20000 in
theorem gX8_negativeParent_X8_checkClause : GoodIn wsX8_negativeParent (wsV RX8 125 RX8 yX8_checkClause wsX8_checkClause) := goodIn_app (goodIn_r _ [3, 4, 5, 6] rfl (by decide +kernel)) ggX8_negativeParent_X8_checkClause
theorem dX8_negativeParent_0 : decode cX8_negativeParent 0 = .ok (.aload_n 0, 1) := by decide +kernel
theorem dX8_negativeParent_1 : decode cX8_negativeParent 1 = .ok (.iload_n 1, 1) := by decide +kernel
theorem dX8_negativeParent_2 : decode cX8_negativeParent 2 = .ok (.invokevirtual 125, 3) := by decide +kernel
theorem dX8_negativeParent_5 : decode cX8_negativeParent 5 = .ok (.aload_n 0, 1) := by decide +kernel
theorem dX8_negativeParent_6 : decode cX8_negativeParent 6 = .ok (.getfield 10, 3) := by decide +kernel
theorem dX8_negativeParent_9 : decode cX8_negativeParent 9 = .ok (.getfield 153, 3) := by decide +kernel
theorem dX8_negativeParent_12 : decode cX8_negativeParent 12 = .ok (.iload_n 1, 1) := by decide +kernel
theorem dX8_negativeParent_13 : decode cX8_negativeParent 13 = .ok (.iaload, 1) := by decide +kernel
theorem dX8_negativeParent_14 : decode cX8_negativeParent 14 = .ok (.ireturn, 1) := by decide +kernel
set_option maxRecDepth 20000 in
theorem ggX8_variableOf_X8_checkClause : GoodIn wsX8_variableOf wsX8_checkClause := goodIn_ca (goodIn_r _ [7, 8, 9, 1, 10, 11, 12, 13, 14, 15, 16, 17, 18, 19, 20, 21, 22, 23, 24, 25, 26, 27, 28, 29, 30, 31, 32] rfl (by decide +kernel)) (goodIn_sub (fun _ h => List.mem_cons_of_mem _ (List.mem_append_right _ h)) (by decide +kernel))
set_option maxRecDepth 20000 in
theorem gX8_variableOf_X8_checkClause : GoodIn wsX8_variableOf (wsV RX8 125 RX8 yX8_checkClause wsX8_checkClause) := goodIn_app (goodIn_r _ [3, 4, 5, 6] rfl (by decide +kernel)) ggX8_variableOf_X8_checkClause
theorem dX8_variableOf_0 : decode cX8_variableOf 0 = .ok (.aload_n 0, 1) := by decide +kernel
theorem dX8_variableOf_1 : decode cX8_variableOf 1 = .ok (.iload_n 1, 1) := by decide +kernel
theorem dX8_variableOf_2 : decode cX8_variableOf 2 = .ok (.invokevirtual 125, 3) := by decide +kernel
theorem dX8_variableOf_5 : decode cX8_variableOf 5 = .ok (.aload_n 0, 1) := by decide +kernel
theorem dX8_variableOf_6 : decode cX8_variableOf 6 = .ok (.getfield 10, 3) := by decide +kernel
theorem dX8_variableOf_9 : decode cX8_variableOf 9 = .ok (.getfield 147, 3) := by decide +kernel
theorem dX8_variableOf_12 : decode cX8_variableOf 12 = .ok (.iload_n 1, 1) := by decide +kernel
theorem dX8_variableOf_13 : decode cX8_variableOf 13 = .ok (.iaload, 1) := by decide +kernel
theorem dX8_variableOf_14 : decode cX8_variableOf 14 = .ok (.ireturn, 1) := by decide +kernel
set_option maxRecDepth 20000 in
theorem ggX8_depthOf_X8_checkClause : GoodIn wsX8_depthOf wsX8_checkClause := goodIn_ca (goodIn_r _ [7, 8, 9, 1, 10, 11, 12, 13, 14, 15, 16, 17, 18, 19, 20, 21, 22, 23, 24, 25, 26, 27, 28, 29, 30, 31, 32] rfl (by decide +kernel)) (goodIn_sub (fun _ h => List.mem_cons_of_mem _ (List.mem_append_right _ h)) (by decide +kernel))
set_option maxRecDepth 20000 in
theorem gX8_depthOf_X8_checkClause : GoodIn wsX8_depthOf (wsV RX8 125 RX8 yX8_checkClause wsX8_checkClause) := goodIn_app (goodIn_r _ [3, 4, 5, 6] rfl (by decide +kernel)) ggX8_depthOf_X8_checkClause
theorem dX8_depthOf_0 : decode cX8_depthOf 0 = .ok (.aload_n 0, 1) := by decide +kernel
theorem dX8_depthOf_1 : decode cX8_depthOf 1 = .ok (.iload_n 1, 1) := by decide +kernel
theorem dX8_depthOf_2 : decode cX8_depthOf 2 = .ok (.invokevirtual 125, 3) := by decide +kernel
theorem dX8_depthOf_5 : decode cX8_depthOf 5 = .ok (.aload_n 0, 1) := by decide +kernel
