theorem dX8_depthOf_6 : decode cX8_depthOf 6 = .ok (.getfield 10, 3) := by decide +kernel
theorem dX8_depthOf_9 : decode cX8_depthOf 9 = .ok (.getfield 156, 3) := by decide +kernel
theorem dX8_depthOf_12 : decode cX8_depthOf 12 = .ok (.iload_n 1, 1) := by decide +kernel
theorem dX8_depthOf_13 : decode cX8_depthOf 13 = .ok (.iaload, 1) := by decide +kernel
theorem dX8_depthOf_14 : decode cX8_depthOf 14 = .ok (.ireturn, 1) := by decide +kernel
set_option maxRecDepth 20000 in
theorem ggX8_deepestClause_X0_firstOfGreatestDepth : GoodIn wsX8_deepestClause wsX0_firstOfGreatestDepth := goodIn_r _ [6, 7, 8, 18, 19, 20, 21, 22, 23, 24, 25] rfl (by decide +kernel)
set_option maxRecDepth 20000 in
theorem gX8_deepestClause_X0_firstOfGreatestDepth : GoodIn wsX8_deepestClause (wsV RX8 159 RX0 yX0_firstOfGreatestDepth wsX0_firstOfGreatestDepth) := goodIn_app (goodIn_r _ [2, 3, 4, 5] rfl (by decide +kernel)) ggX8_deepestClause_X0_firstOfGreatestDepth
theorem dX8_deepestClause_0 : decode cX8_deepestClause 0 = .ok (.aload_n 0, 1) := by decide +kernel
theorem dX8_deepestClause_1 : decode cX8_deepestClause 1 = .ok (.getfield 10, 3) := by decide +kernel
theorem dX8_deepestClause_4 : decode cX8_deepestClause 4 = .ok (.invokevirtual 159, 3) := by decide +kernel
theorem dX8_deepestClause_7 : decode cX8_deepestClause 7 = .ok (.ireturn, 1) := by decide +kernel
set_option maxRecDepth 20000 in
theorem ggX8_derivationSize_X8_checkClause : GoodIn wsX8_derivationSize wsX8_checkClause := goodIn_ca (goodIn_r _ [6, 7, 8, 1, 9, 10, 11, 12, 13, 14, 29, 30, 31, 32, 33, 34, 35, 36, 37, 38, 39, 40, 41, 42, 43, 44, 45] rfl (by decide +kernel)) (goodIn_sub (fun _ h => List.mem_cons_of_mem _ (List.mem_append_right _ h)) (by decide +kernel))
set_option maxRecDepth 20000 in
theorem gX8_derivationSize_X8_checkClause : GoodIn wsX8_derivationSize (wsV RX8 125 RX8 yX8_checkClause wsX8_checkClause) := goodIn_app (goodIn_r _ [2, 3, 4, 5] rfl (by decide +kernel)) ggX8_derivationSize_X8_checkClause
set_option maxRecDepth 20000 in
theorem ggX8_derivationSize_X0_derivationMask : GoodIn wsX8_derivationSize wsX0_derivationMask := goodIn_r _ [18, 19, 20, 21, 38, 39, 40, 41, 42, 43, 44, 45] rfl (by decide +kernel)
set_option maxRecDepth 20000 in
theorem gX8_derivationSize_X0_derivationMask : GoodIn wsX8_derivationSize (wsV RX8 163 RX0 yX0_derivationMask wsX0_derivationMask) := goodIn_app (goodIn_r _ [15, 16, 17, 12] rfl (by decide +kernel)) ggX8_derivationSize_X0_derivationMask
set_option maxRecDepth 20000 in
theorem ggX8_derivationSize_J13_bitCount_95d88 : GoodIn wsX8_derivationSize wsJ13_bitCount_95d88 := goodIn_r _ [25, 26, 27, 28] rfl (by decide +kernel)
set_option maxRecDepth 20000 in
theorem gX8_derivationSize_J13_bitCount_95d88 : GoodIn wsX8_derivationSize (va_wsS RX8 167 yJ13_bitCount_95d88 wsJ13_bitCount_95d88) := goodIn_app (goodIn_r _ [22, 23, 24] rfl (by decide +kernel)) ggX8_derivationSize_J13_bitCount_95d88
theorem dX8_derivationSize_0 : decode cX8_derivationSize 0 = .ok (.aload_n 0, 1) := by decide +kernel
theorem dX8_derivationSize_1 : decode cX8_derivationSize 1 = .ok (.iload_n 1, 1) := by decide +kernel
theorem dX8_derivationSize_2 : decode cX8_derivationSize 2 = .ok (.invokevirtual 125, 3) := by decide +kernel
theorem dX8_derivationSize_5 : decode cX8_derivationSize 5 = .ok (.aload_n 0, 1) := by decide +kernel
theorem dX8_derivationSize_6 : decode cX8_derivationSize 6 = .ok (.getfield 10, 3) := by decide +kernel
theorem dX8_derivationSize_9 : decode cX8_derivationSize 9 = .ok (.iload_n 1, 1) := by decide +kernel
theorem dX8_derivationSize_10 : decode cX8_derivationSize 10 = .ok (.invokevirtual 163, 3) := by decide +kernel
theorem dX8_derivationSize_13 : decode cX8_derivationSize 13 = .ok (.invokestatic 167, 3) := by decide +kernel
theorem dX8_derivationSize_16 : decode cX8_derivationSize 16 = .ok (.ireturn, 1) := by decide +kernel
set_option maxRecDepth 20000 in
theorem ggX8_premises_X8_checkClause : GoodIn wsX8_premises wsX8_checkClause := goodIn_ca (goodIn_r _ [6, 7, 8, 1, 9, 10, 11, 12, 13, 14, 26, 27, 28, 29, 30, 31, 32, 33, 34, 35, 36, 37, 38, 39, 40, 41, 42] rfl (by decide +kernel)) (goodIn_sub (fun _ h => List.mem_cons_of_mem _ (List.mem_append_right _ h)) (by decide +kernel))
set_option maxRecDepth 20000 in
theorem gX8_premises_X8_checkClause : GoodIn wsX8_premises (wsV RX8 125 RX8 yX8_checkClause wsX8_checkClause) := goodIn_app (goodIn_r _ [2, 3, 4, 5] rfl (by decide +kernel)) ggX8_premises_X8_checkClause
set_option maxRecDepth 20000 in
theorem ggX8_premises_X0_derivationMask : GoodIn wsX8_premises wsX0_derivationMask := goodIn_r _ [18, 19, 20, 21, 35, 36, 37, 38, 39, 40, 41, 42] rfl (by decide +kernel)
set_option maxRecDepth 20000 in
theorem gX8_premises_X0_derivationMask : GoodIn wsX8_premises (wsV RX8 163 RX0 yX0_derivationMask wsX0_derivationMask) := goodIn_app (goodIn_r _ [15, 16, 17, 12] rfl (by decide +kernel)) ggX8_premises_X0_derivationMask
set_option maxRecDepth 20000 in
theorem ggX8_premises_X0_givenMask : GoodIn wsX8_premises wsX0_givenMask := goodIn_r _ [25, 14, 19, 35, 36, 37, 38, 39, 40, 41, 42] rfl (by decide +kernel)
set_option maxRecDepth 20000 in
theorem gX8_premises_X0_givenMask : GoodIn wsX8_premises (wsV RX8 173 RX0 yX0_givenMask wsX0_givenMask) := goodIn_app (goodIn_r _ [22, 23, 24, 12] rfl (by decide +kernel)) ggX8_premises_X0_givenMask
theorem dX8_premises_0 : decode cX8_premises 0 = .ok (.aload_n 0, 1) := by decide +kernel
theorem dX8_premises_1 : decode cX8_premises 1 = .ok (.iload_n 1, 1) := by decide +kernel
theorem dX8_premises_2 : decode cX8_premises 2 = .ok (.invokevirtual 125, 3) := by decide +kernel
theorem dX8_premises_5 : decode cX8_premises 5 = .ok (.aload_n 0, 1) := by decide +kernel
theorem dX8_premises_6 : decode cX8_premises 6 = .ok (.getfield 10, 3) := by decide +kernel
theorem dX8_premises_9 : decode cX8_premises 9 = .ok (.iload_n 1, 1) := by decide +kernel
theorem dX8_premises_10 : decode cX8_premises 10 = .ok (.invokevirtual 163, 3) := by decide +kernel
theorem dX8_premises_13 : decode cX8_premises 13 = .ok (.aload_n 0, 1) := by decide +kernel
theorem dX8_premises_14 : decode cX8_premises 14 = .ok (.getfield 10, 3) := by decide +kernel
theorem dX8_premises_17 : decode cX8_premises 17 = .ok (.invokevirtual 173, 3) := by decide +kernel
theorem dX8_premises_20 : decode cX8_premises 20 = .ok (.land, 1) := by decide +kernel
theorem dX8_premises_21 : decode cX8_premises 21 = .ok (.lreturn, 1) := by decide +kernel
set_option maxRecDepth 20000 in
theorem ggX8_emptyClause_X0_indexOf : GoodIn wsX8_emptyClause wsX0_indexOf := goodIn_r _ [6, 7, 8, 9, 19, 20, 21, 22, 23, 24, 25, 26] rfl (by decide +kernel)
set_option maxRecDepth 20000 in
theorem gX8_emptyClause_X0_indexOf : GoodIn wsX8_emptyClause (wsV RX8 143 RX0 yX0_indexOf wsX0_indexOf) := goodIn_app (goodIn_r _ [2, 3, 4, 5] rfl (by decide +kernel)) ggX8_emptyClause_X0_indexOf
theorem dX8_emptyClause_0 : decode cX8_emptyClause 0 = .ok (.aload_n 0, 1) := by decide +kernel
theorem dX8_emptyClause_1 : decode cX8_emptyClause 1 = .ok (.getfield 10, 3) := by decide +kernel
theorem dX8_emptyClause_4 : decode cX8_emptyClause 4 = .ok (.iconst 0, 1) := by decide +kernel
theorem dX8_emptyClause_5 : decode cX8_emptyClause 5 = .ok (.iconst 0, 1) := by decide +kernel
theorem dX8_emptyClause_6 : decode cX8_emptyClause 6 = .ok (.invokevirtual 143, 3) := by decide +kernel
theorem dX8_emptyClause_9 : decode cX8_emptyClause 9 = .ok (.ireturn, 1) := by decide +kernel
set_option maxRecDepth 20000 in
theorem ggX8_clausesOfSize_X0_countWithLiterals : GoodIn wsX8_clausesOfSize wsX0_countWithLiterals := goodIn_r _ [6, 7, 8, 9, 10, 5, 11, 12, 13, 14, 15, 16, 17, 18, 19, 20, 30, 31, 32, 33, 34, 35, 36, 37] rfl (by decide +kernel)
set_option maxRecDepth 20000 in
theorem gX8_clausesOfSize_X0_countWithLiterals : GoodIn wsX8_clausesOfSize (wsV RX8 177 RX0 yX0_countWithLiterals wsX0_countWithLiterals) := goodIn_app (goodIn_r _ [2, 3, 4, 5] rfl (by decide +kernel)) ggX8_clausesOfSize_X0_countWithLiterals
theorem dX8_clausesOfSize_0 : decode cX8_clausesOfSize 0 = .ok (.aload_n 0, 1) := by decide +kernel
theorem dX8_clausesOfSize_1 : decode cX8_clausesOfSize 1 = .ok (.getfield 10, 3) := by decide +kernel
theorem dX8_clausesOfSize_4 : decode cX8_clausesOfSize 4 = .ok (.iload_n 1, 1) := by decide +kernel
theorem dX8_clausesOfSize_5 : decode cX8_clausesOfSize 5 = .ok (.invokevirtual 177, 3) := by decide +kernel
theorem dX8_clausesOfSize_8 : decode cX8_clausesOfSize 8 = .ok (.ireturn, 1) := by decide +kernel
set_option maxRecDepth 20000 in
theorem ggX8_hornClauses_X0_countHorn : GoodIn wsX8_hornClauses wsX0_countHorn := goodIn_r _ [6, 7, 8, 9, 10, 11, 12, 13, 14, 15, 25, 26, 27, 28, 29, 30, 31, 32] rfl (by decide +kernel)
set_option maxRecDepth 20000 in
theorem gX8_hornClauses_X0_countHorn : GoodIn wsX8_hornClauses (wsV RX8 180 RX0 yX0_countHorn wsX0_countHorn) := goodIn_app (goodIn_r _ [2, 3, 4, 5] rfl (by decide +kernel)) ggX8_hornClauses_X0_countHorn
theorem dX8_hornClauses_0 : decode cX8_hornClauses 0 = .ok (.aload_n 0, 1) := by decide +kernel
theorem dX8_hornClauses_1 : decode cX8_hornClauses 1 = .ok (.getfield 10, 3) := by decide +kernel
theorem dX8_hornClauses_4 : decode cX8_hornClauses 4 = .ok (.invokevirtual 180, 3) := by decide +kernel
theorem dX8_hornClauses_7 : decode cX8_hornClauses 7 = .ok (.ireturn, 1) := by decide +kernel
set_option maxRecDepth 20000 in
theorem ggX8_occurrences_X8_checkVariable : GoodIn wsX8_occurrences wsX8_checkVariable := goodIn_ca (goodIn_r _ [6, 7, 8, 1, 9, 18, 19, 20, 21, 22, 23, 24, 25, 26, 27, 28, 29, 30, 31, 32, 33, 34] rfl (by decide +kernel)) (goodIn_sub (fun _ h => List.mem_cons_of_mem _ (List.mem_append_right _ h)) (by decide +kernel))
set_option maxRecDepth 20000 in
theorem gX8_occurrences_X8_checkVariable : GoodIn wsX8_occurrences (wsV RX8 183 RX8 yX8_checkVariable wsX8_checkVariable) := goodIn_app (goodIn_r _ [2, 3, 4, 5] rfl (by decide +kernel)) ggX8_occurrences_X8_checkVariable
set_option maxRecDepth 20000 in
theorem ggX8_occurrences_X0_countTouching : GoodIn wsX8_occurrences wsX0_countTouching := goodIn_r _ [14, 15, 16, 17, 27, 28, 29, 30, 31, 32, 33, 34] rfl (by decide +kernel)
set_option maxRecDepth 20000 in
theorem gX8_occurrences_X0_countTouching : GoodIn wsX8_occurrences (wsV RX8 186 RX0 yX0_countTouching wsX0_countTouching) := goodIn_app (goodIn_r _ [10, 11, 12, 13] rfl (by decide +kernel)) ggX8_occurrences_X0_countTouching
theorem dX8_occurrences_0 : decode cX8_occurrences 0 = .ok (.aload_n 0, 1) := by decide +kernel
theorem dX8_occurrences_1 : decode cX8_occurrences 1 = .ok (.iload_n 1, 1) := by decide +kernel
theorem dX8_occurrences_2 : decode cX8_occurrences 2 = .ok (.invokevirtual 183, 3) := by decide +kernel
theorem dX8_occurrences_5 : decode cX8_occurrences 5 = .ok (.iconst 1, 1) := by decide +kernel
theorem dX8_occurrences_6 : decode cX8_occurrences 6 = .ok (.iload_n 1, 1) := by decide +kernel
theorem dX8_occurrences_7 : decode cX8_occurrences 7 = .ok (.ishl, 1) := by decide +kernel
theorem dX8_occurrences_8 : decode cX8_occurrences 8 = .ok (.istore_n 3, 1) := by decide +kernel
theorem dX8_occurrences_9 : decode cX8_occurrences 9 = .ok (.iload_n 2, 1) := by decide +kernel
theorem dX8_occurrences_10 : decode cX8_occurrences 10 = .ok (.ifCond .eq 15, 3) := by decide +kernel
theorem dX8_occurrences_13 : decode cX8_occurrences 13 = .ok (.aload_n 0, 1) := by decide +kernel
theorem dX8_occurrences_14 : decode cX8_occurrences 14 = .ok (.getfield 10, 3) := by decide +kernel
theorem dX8_occurrences_17 : decode cX8_occurrences 17 = .ok (.iload_n 3, 1) := by decide +kernel
theorem dX8_occurrences_18 : decode cX8_occurrences 18 = .ok (.iconst 0, 1) := by decide +kernel
theorem dX8_occurrences_19 : decode cX8_occurrences 19 = .ok (.invokevirtual 186, 3) := by decide +kernel
theorem dX8_occurrences_22 : decode cX8_occurrences 22 = .ok (.goto 12, 3) := by decide +kernel
theorem dX8_occurrences_25 : decode cX8_occurrences 25 = .ok (.aload_n 0, 1) := by decide +kernel
theorem dX8_occurrences_26 : decode cX8_occurrences 26 = .ok (.getfield 10, 3) := by decide +kernel
theorem dX8_occurrences_29 : decode cX8_occurrences 29 = .ok (.iconst 0, 1) := by decide +kernel
theorem dX8_occurrences_30 : decode cX8_occurrences 30 = .ok (.iload_n 3, 1) := by decide +kernel
theorem dX8_occurrences_31 : decode cX8_occurrences 31 = .ok (.invokevirtual 186, 3) := by decide +kernel
theorem dX8_occurrences_34 : decode cX8_occurrences 34 = .ok (.ireturn, 1) := by decide +kernel
set_option maxRecDepth 20000 in
theorem ggX8_mostFrequentVariable_X0_firstOfMostClauses : GoodIn wsX8_mostFrequentVariable wsX0_firstOfMostClauses := goodIn_r _ [6, 7, 8, 9, 10, 5, 11, 12, 13, 14, 24, 25, 26, 27, 28, 29, 30, 31] rfl (by decide +kernel)
set_option maxRecDepth 20000 in
theorem gX8_mostFrequentVariable_X0_firstOfMostClauses : GoodIn wsX8_mostFrequentVariable (wsV RX8 189 RX0 yX0_firstOfMostClauses wsX0_firstOfMostClauses) := goodIn_app (goodIn_r _ [2, 3, 4, 5] rfl (by decide +kernel)) ggX8_mostFrequentVariable_X0_firstOfMostClauses
theorem dX8_mostFrequentVariable_0 : decode cX8_mostFrequentVariable 0 = .ok (.aload_n 0, 1) := by decide +kernel
theorem dX8_mostFrequentVariable_1 : decode cX8_mostFrequentVariable 1 = .ok (.getfield 10, 3) := by decide +kernel
theorem dX8_mostFrequentVariable_4 : decode cX8_mostFrequentVariable 4 = .ok (.invokevirtual 189, 3) := by decide +kernel
theorem dX8_mostFrequentVariable_7 : decode cX8_mostFrequentVariable 7 = .ok (.ireturn, 1) := by decide +kernel
set_option maxRecDepth 20000 in
theorem ggX8_purePositive_X0_allPositive : GoodIn wsX8_purePositive wsX0_allPositive := goodIn_r _ [6, 7, 8, 23, 24, 25, 26, 27, 28, 29, 30] rfl (by decide +kernel)
set_option maxRecDepth 20000 in
theorem gX8_purePositive_X0_allPositive : GoodIn wsX8_purePositive (wsV RX8 192 RX0 yX0_allPositive wsX0_allPositive) := goodIn_app (goodIn_r _ [2, 3, 4, 5] rfl (by decide +kernel)) ggX8_purePositive_X0_allPositive
set_option maxRecDepth 20000 in
theorem ggX8_purePositive_X0_allNegative : GoodIn wsX8_purePositive wsX0_allNegative := goodIn_r _ [12, 7, 13, 23, 24, 25, 26, 27, 28, 29, 30] rfl (by decide +kernel)
set_option maxRecDepth 20000 in
theorem gX8_purePositive_X0_allNegative : GoodIn wsX8_purePositive (wsV RX8 195 RX0 yX0_allNegative wsX0_allNegative) := goodIn_app (goodIn_r _ [9, 10, 11, 5] rfl (by decide +kernel)) ggX8_purePositive_X0_allNegative
theorem dX8_purePositive_0 : decode cX8_purePositive 0 = .ok (.aload_n 0, 1) := by decide +kernel
theorem dX8_purePositive_1 : decode cX8_purePositive 1 = .ok (.getfield 10, 3) := by decide +kernel
theorem dX8_purePositive_4 : decode cX8_purePositive 4 = .ok (.invokevirtual 192, 3) := by decide +kernel
theorem dX8_purePositive_7 : decode cX8_purePositive 7 = .ok (.aload_n 0, 1) := by decide +kernel
theorem dX8_purePositive_8 : decode cX8_purePositive 8 = .ok (.getfield 10, 3) := by decide +kernel
theorem dX8_purePositive_11 : decode cX8_purePositive 11 = .ok (.invokevirtual 195, 3) := by decide +kernel
theorem dX8_purePositive_14 : decode cX8_purePositive 14 = .ok (.iconst (-1), 1) := by decide +kernel
theorem dX8_purePositive_15 : decode cX8_purePositive 15 = .ok (.ixor, 1) := by decide +kernel
theorem dX8_purePositive_16 : decode cX8_purePositive 16 = .ok (.iand, 1) := by decide +kernel
theorem dX8_purePositive_17 : decode cX8_purePositive 17 = .ok (.ireturn, 1) := by decide +kernel
set_option maxRecDepth 20000 in
theorem ggX8_pureNegative_X0_allNegative : GoodIn wsX8_pureNegative wsX0_allNegative := goodIn_r _ [6, 7, 8, 23, 24, 25, 26, 27, 28, 29, 30] rfl (by decide +kernel)
set_option maxRecDepth 20000 in
theorem gX8_pureNegative_X0_allNegative : GoodIn wsX8_pureNegative (wsV RX8 195 RX0 yX0_allNegative wsX0_allNegative) := goodIn_app (goodIn_r _ [2, 3, 4, 5] rfl (by decide +kernel)) ggX8_pureNegative_X0_allNegative
set_option maxRecDepth 20000 in
theorem ggX8_pureNegative_X0_allPositive : GoodIn wsX8_pureNegative wsX0_allPositive := goodIn_r _ [12, 7, 13, 23, 24, 25, 26, 27, 28, 29, 30] rfl (by decide +kernel)
set_option maxRecDepth 20000 in
theorem gX8_pureNegative_X0_allPositive : GoodIn wsX8_pureNegative (wsV RX8 192 RX0 yX0_allPositive wsX0_allPositive) := goodIn_app (goodIn_r _ [9, 10, 11, 5] rfl (by decide +kernel)) ggX8_pureNegative_X0_allPositive
theorem dX8_pureNegative_0 : decode cX8_pureNegative 0 = .ok (.aload_n 0, 1) := by decide +kernel
theorem dX8_pureNegative_1 : decode cX8_pureNegative 1 = .ok (.getfield 10, 3) := by decide +kernel
theorem dX8_pureNegative_4 : decode cX8_pureNegative 4 = .ok (.invokevirtual 195, 3) := by decide +kernel
theorem dX8_pureNegative_7 : decode cX8_pureNegative 7 = .ok (.aload_n 0, 1) := by decide +kernel
theorem dX8_pureNegative_8 : decode cX8_pureNegative 8 = .ok (.getfield 10, 3) := by decide +kernel
theorem dX8_pureNegative_11 : decode cX8_pureNegative 11 = .ok (.invokevirtual 192, 3) := by decide +kernel
theorem dX8_pureNegative_14 : decode cX8_pureNegative 14 = .ok (.iconst (-1), 1) := by decide +kernel
theorem dX8_pureNegative_15 : decode cX8_pureNegative 15 = .ok (.ixor, 1) := by decide +kernel
theorem dX8_pureNegative_16 : decode cX8_pureNegative 16 = .ok (.iand, 1) := by decide +kernel
theorem dX8_pureNegative_17 : decode cX8_pureNegative 17 = .ok (.ireturn, 1) := by decide +kernel
set_option maxRecDepth 20000 in
theorem ggX8_clashes_X8_checkClause : GoodIn wsX8_clashes wsX8_checkClause := goodIn_ca (goodIn_r _ [6, 7, 8, 1, 9, 10, 11, 12, 13, 14, 28, 29, 30, 31, 32, 33, 34, 35, 36, 37, 38, 39, 40, 41, 42, 43, 44] rfl (by decide +kernel)) (goodIn_sub (fun _ h => List.mem_cons_of_mem _ (List.mem_append_right _ h)) (by decide +kernel))
set_option maxRecDepth 20000 in
theorem gX8_clashes_X8_checkClause : GoodIn wsX8_clashes (wsV RX8 125 RX8 yX8_checkClause wsX8_checkClause) := goodIn_app (goodIn_r _ [2, 3, 4, 5] rfl (by decide +kernel)) ggX8_clashes_X8_checkClause
set_option maxRecDepth 20000 in
theorem ggX8_clashes_X0_clashMask : GoodIn wsX8_clashes wsX0_clashMask := goodIn_r _ [18, 19, 20, 37, 38, 39, 40, 41, 42, 43, 44] rfl (by decide +kernel)
set_option maxRecDepth 20000 in
theorem gX8_clashes_X0_clashMask : GoodIn wsX8_clashes (wsV RX8 198 RX0 yX0_clashMask wsX0_clashMask) := goodIn_app (goodIn_r _ [15, 16, 17, 12] rfl (by decide +kernel)) ggX8_clashes_X0_clashMask
set_option maxRecDepth 20000 in
theorem ggX8_clashes_J6_bitCount_0f7a4 : GoodIn wsX8_clashes wsJ6_bitCount_0f7a4 := goodIn_r _ [24, 25, 26, 27] rfl (by decide +kernel)
set_option maxRecDepth 20000 in
theorem gX8_clashes_J6_bitCount_0f7a4 : GoodIn wsX8_clashes (va_wsS RX8 201 yJ6_bitCount_0f7a4 wsJ6_bitCount_0f7a4) := goodIn_app (goodIn_r _ [21, 22, 23] rfl (by decide +kernel)) ggX8_clashes_J6_bitCount_0f7a4
theorem dX8_clashes_0 : decode cX8_clashes 0 = .ok (.aload_n 0, 1) := by decide +kernel
theorem dX8_clashes_1 : decode cX8_clashes 1 = .ok (.iload_n 1, 1) := by decide +kernel
theorem dX8_clashes_2 : decode cX8_clashes 2 = .ok (.invokevirtual 125, 3) := by decide +kernel
theorem dX8_clashes_5 : decode cX8_clashes 5 = .ok (.aload_n 0, 1) := by decide +kernel
theorem dX8_clashes_6 : decode cX8_clashes 6 = .ok (.iload_n 2, 1) := by decide +kernel
theorem dX8_clashes_7 : decode cX8_clashes 7 = .ok (.invokevirtual 125, 3) := by decide +kernel
theorem dX8_clashes_10 : decode cX8_clashes 10 = .ok (.aload_n 0, 1) := by decide +kernel
theorem dX8_clashes_11 : decode cX8_clashes 11 = .ok (.getfield 10, 3) := by decide +kernel
theorem dX8_clashes_14 : decode cX8_clashes 14 = .ok (.iload_n 1, 1) := by decide +kernel
theorem dX8_clashes_15 : decode cX8_clashes 15 = .ok (.iload_n 2, 1) := by decide +kernel
theorem dX8_clashes_16 : decode cX8_clashes 16 = .ok (.invokevirtual 198, 3) := by decide +kernel
theorem dX8_clashes_19 : decode cX8_clashes 19 = .ok (.invokestatic 201, 3) := by decide +kernel
theorem dX8_clashes_22 : decode cX8_clashes 22 = .ok (.ireturn, 1) := by decide +kernel
set_option maxRecDepth 20000 in
theorem ggX8_areResolvable_X8_checkClause : GoodIn wsX8_areResolvable wsX8_checkClause := goodIn_ca (goodIn_r _ [6, 7, 8, 1, 9, 10, 11, 12, 13, 14, 32, 33, 34, 35, 36, 37, 38, 39, 40, 41, 42, 43, 44, 45, 46, 47, 48] rfl (by decide +kernel)) (goodIn_sub (fun _ h => List.mem_cons_of_mem _ (List.mem_append_right _ h)) (by decide +kernel))
set_option maxRecDepth 20000 in
theorem gX8_areResolvable_X8_checkClause : GoodIn wsX8_areResolvable (wsV RX8 125 RX8 yX8_checkClause wsX8_checkClause) := goodIn_app (goodIn_r _ [2, 3, 4, 5] rfl (by decide +kernel)) ggX8_areResolvable_X8_checkClause
set_option maxRecDepth 20000 in
theorem ggX8_areResolvable_X0_clashOnce : GoodIn wsX8_areResolvable wsX0_clashOnce := goodIn_r _ [18, 19, 20, 21, 12, 22, 23, 24, 25, 26, 27, 28, 29, 30, 31, 41, 42, 43, 44, 45, 46, 47, 48] rfl (by decide +kernel)
set_option maxRecDepth 20000 in
theorem gX8_areResolvable_X0_clashOnce : GoodIn wsX8_areResolvable (wsV RX8 205 RX0 yX0_clashOnce wsX0_clashOnce) := goodIn_app (goodIn_r _ [15, 16, 17, 12] rfl (by decide +kernel)) ggX8_areResolvable_X0_clashOnce
theorem dX8_areResolvable_0 : decode cX8_areResolvable 0 = .ok (.aload_n 0, 1) := by decide +kernel
theorem dX8_areResolvable_1 : decode cX8_areResolvable 1 = .ok (.iload_n 1, 1) := by decide +kernel
theorem dX8_areResolvable_2 : decode cX8_areResolvable 2 = .ok (.invokevirtual 125, 3) := by decide +kernel
theorem dX8_areResolvable_5 : decode cX8_areResolvable 5 = .ok (.aload_n 0, 1) := by decide +kernel
theorem dX8_areResolvable_6 : decode cX8_areResolvable 6 = .ok (.iload_n 2, 1) := by decide +kernel
theorem dX8_areResolvable_7 : decode cX8_areResolvable 7 = .ok (.invokevirtual 125, 3) := by decide +kernel
theorem dX8_areResolvable_10 : decode cX8_areResolvable 10 = .ok (.aload_n 0, 1) := by decide +kernel
theorem dX8_areResolvable_11 : decode cX8_areResolvable 11 = .ok (.getfield 10, 3) := by decide +kernel
theorem dX8_areResolvable_14 : decode cX8_areResolvable 14 = .ok (.iload_n 1, 1) := by decide +kernel
theorem dX8_areResolvable_15 : decode cX8_areResolvable 15 = .ok (.iload_n 2, 1) := by decide +kernel
theorem dX8_areResolvable_16 : decode cX8_areResolvable 16 = .ok (.invokevirtual 205, 3) := by decide +kernel
theorem dX8_areResolvable_19 : decode cX8_areResolvable 19 = .ok (.ireturn, 1) := by decide +kernel
set_option maxRecDepth 20000 in
theorem ggX8_resolventPositive_X8_checkClause : GoodIn wsX8_resolventPositive wsX8_checkClause := goodIn_ca (goodIn_r _ [6, 7, 8, 1, 9, 10, 11, 12, 13, 14, 36, 37, 38, 39, 40, 41, 42, 43, 44, 45, 46, 47, 48, 49, 50, 51, 52] rfl (by decide +kernel)) (goodIn_sub (fun _ h => List.mem_cons_of_mem _ (List.mem_append_right _ h)) (by decide +kernel))
set_option maxRecDepth 20000 in
theorem gX8_resolventPositive_X8_checkClause : GoodIn wsX8_resolventPositive (wsV RX8 125 RX8 yX8_checkClause wsX8_checkClause) := goodIn_app (goodIn_r _ [2, 3, 4, 5] rfl (by decide +kernel)) ggX8_resolventPositive_X8_checkClause
set_option maxRecDepth 20000 in
theorem ggX8_resolventPositive_X0_clashOnce : GoodIn wsX8_resolventPositive wsX0_clashOnce := goodIn_r _ [18, 19, 20, 21, 12, 22, 23, 24, 25, 26, 27, 28, 29, 30, 31, 45, 46, 47, 48, 49, 50, 51, 52] rfl (by decide +kernel)
set_option maxRecDepth 20000 in
theorem gX8_resolventPositive_X0_clashOnce : GoodIn wsX8_resolventPositive (wsV RX8 205 RX0 yX0_clashOnce wsX0_clashOnce) := goodIn_app (goodIn_r _ [15, 16, 17, 12] rfl (by decide +kernel)) ggX8_resolventPositive_X0_clashOnce
set_option maxRecDepth 20000 in
theorem ggX8_resolventPositive_X0_mergedPositive : GoodIn wsX8_resolventPositive wsX0_mergedPositive := goodIn_r _ [35, 23, 19, 20, 21, 12, 22, 24, 45, 46, 47, 48, 49, 50, 51, 52] rfl (by decide +kernel)
set_option maxRecDepth 20000 in
theorem gX8_resolventPositive_X0_mergedPositive : GoodIn wsX8_resolventPositive (wsV RX8 209 RX0 yX0_mergedPositive wsX0_mergedPositive) := goodIn_app (goodIn_r _ [32, 33, 34, 12] rfl (by decide +kernel)) ggX8_resolventPositive_X0_mergedPositive
theorem dX8_resolventPositive_0 : decode cX8_resolventPositive 0 = .ok (.aload_n 0, 1) := by decide +kernel
theorem dX8_resolventPositive_1 : decode cX8_resolventPositive 1 = .ok (.iload_n 1, 1) := by decide +kernel
theorem dX8_resolventPositive_2 : decode cX8_resolventPositive 2 = .ok (.invokevirtual 125, 3) := by decide +kernel
theorem dX8_resolventPositive_5 : decode cX8_resolventPositive 5 = .ok (.aload_n 0, 1) := by decide +kernel
theorem dX8_resolventPositive_6 : decode cX8_resolventPositive 6 = .ok (.iload_n 2, 1) := by decide +kernel
theorem dX8_resolventPositive_7 : decode cX8_resolventPositive 7 = .ok (.invokevirtual 125, 3) := by decide +kernel
theorem dX8_resolventPositive_10 : decode cX8_resolventPositive 10 = .ok (.aload_n 0, 1) := by decide +kernel
theorem dX8_resolventPositive_11 : decode cX8_resolventPositive 11 = .ok (.getfield 10, 3) := by decide +kernel
theorem dX8_resolventPositive_14 : decode cX8_resolventPositive 14 = .ok (.iload_n 1, 1) := by decide +kernel
theorem dX8_resolventPositive_15 : decode cX8_resolventPositive 15 = .ok (.iload_n 2, 1) := by decide +kernel
theorem dX8_resolventPositive_16 : decode cX8_resolventPositive 16 = .ok (.invokevirtual 205, 3) := by decide +kernel
theorem dX8_resolventPositive_19 : decode cX8_resolventPositive 19 = .ok (.ifCond .eq 15, 3) := by decide +kernel
theorem dX8_resolventPositive_22 : decode cX8_resolventPositive 22 = .ok (.aload_n 0, 1) := by decide +kernel
theorem dX8_resolventPositive_23 : decode cX8_resolventPositive 23 = .ok (.getfield 10, 3) := by decide +kernel
theorem dX8_resolventPositive_26 : decode cX8_resolventPositive 26 = .ok (.iload_n 1, 1) := by decide +kernel
theorem dX8_resolventPositive_27 : decode cX8_resolventPositive 27 = .ok (.iload_n 2, 1) := by decide +kernel
theorem dX8_resolventPositive_28 : decode cX8_resolventPositive 28 = .ok (.invokevirtual 209, 3) := by decide +kernel
theorem dX8_resolventPositive_31 : decode cX8_resolventPositive 31 = .ok (.goto 4, 3) := by decide +kernel
theorem dX8_resolventPositive_34 : decode cX8_resolventPositive 34 = .ok (.iconst (-1), 1) := by decide +kernel
theorem dX8_resolventPositive_35 : decode cX8_resolventPositive 35 = .ok (.ireturn, 1) := by decide +kernel
set_option maxRecDepth 20000 in
theorem ggX8_resolventNegative_X8_checkClause : GoodIn wsX8_resolventNegative wsX8_checkClause := goodIn_ca (goodIn_r _ [6, 7, 8, 1, 9, 10, 11, 12, 13, 14, 36, 37, 38, 39, 40, 41, 42, 43, 44, 45, 46, 47, 48, 49, 50, 51, 52] rfl (by decide +kernel)) (goodIn_sub (fun _ h => List.mem_cons_of_mem _ (List.mem_append_right _ h)) (by decide +kernel))
set_option maxRecDepth 20000 in
theorem gX8_resolventNegative_X8_checkClause : GoodIn wsX8_resolventNegative (wsV RX8 125 RX8 yX8_checkClause wsX8_checkClause) := goodIn_app (goodIn_r _ [2, 3, 4, 5] rfl (by decide +kernel)) ggX8_resolventNegative_X8_checkClause
set_option maxRecDepth 20000 in
theorem ggX8_resolventNegative_X0_clashOnce : GoodIn wsX8_resolventNegative wsX0_clashOnce := goodIn_r _ [18, 19, 20, 21, 12, 22, 23, 24, 25, 26, 27, 28, 29, 30, 31, 45, 46, 47, 48, 49, 50, 51, 52] rfl (by decide +kernel)
set_option maxRecDepth 20000 in
theorem gX8_resolventNegative_X0_clashOnce : GoodIn wsX8_resolventNegative (wsV RX8 205 RX0 yX0_clashOnce wsX0_clashOnce) := goodIn_app (goodIn_r _ [15, 16, 17, 12] rfl (by decide +kernel)) ggX8_resolventNegative_X0_clashOnce
set_option maxRecDepth 20000 in
theorem ggX8_resolventNegative_X0_mergedNegative : GoodIn wsX8_resolventNegative wsX0_mergedNegative := goodIn_r _ [35, 24, 19, 20, 21, 12, 22, 23, 45, 46, 47, 48, 49, 50, 51, 52] rfl (by decide +kernel)
set_option maxRecDepth 20000 in
theorem gX8_resolventNegative_X0_mergedNegative : GoodIn wsX8_resolventNegative (wsV RX8 212 RX0 yX0_mergedNegative wsX0_mergedNegative) := goodIn_app (goodIn_r _ [32, 33, 34, 12] rfl (by decide +kernel)) ggX8_resolventNegative_X0_mergedNegative
theorem dX8_resolventNegative_0 : decode cX8_resolventNegative 0 = .ok (.aload_n 0, 1) := by decide +kernel
theorem dX8_resolventNegative_1 : decode cX8_resolventNegative 1 = .ok (.iload_n 1, 1) := by decide +kernel
theorem dX8_resolventNegative_2 : decode cX8_resolventNegative 2 = .ok (.invokevirtual 125, 3) := by decide +kernel
theorem dX8_resolventNegative_5 : decode cX8_resolventNegative 5 = .ok (.aload_n 0, 1) := by decide +kernel
theorem dX8_resolventNegative_6 : decode cX8_resolventNegative 6 = .ok (.iload_n 2, 1) := by decide +kernel
theorem dX8_resolventNegative_7 : decode cX8_resolventNegative 7 = .ok (.invokevirtual 125, 3) := by decide +kernel
theorem dX8_resolventNegative_10 : decode cX8_resolventNegative 10 = .ok (.aload_n 0, 1) := by decide +kernel
theorem dX8_resolventNegative_11 : decode cX8_resolventNegative 11 = .ok (.getfield 10, 3) := by decide +kernel
theorem dX8_resolventNegative_14 : decode cX8_resolventNegative 14 = .ok (.iload_n 1, 1) := by decide +kernel
theorem dX8_resolventNegative_15 : decode cX8_resolventNegative 15 = .ok (.iload_n 2, 1) := by decide +kernel
theorem dX8_resolventNegative_16 : decode cX8_resolventNegative 16 = .ok (.invokevirtual 205, 3) := by decide +kernel
theorem dX8_resolventNegative_19 : decode cX8_resolventNegative 19 = .ok (.ifCond .eq 15, 3) := by decide +kernel
theorem dX8_resolventNegative_22 : decode cX8_resolventNegative 22 = .ok (.aload_n 0, 1) := by decide +kernel
theorem dX8_resolventNegative_23 : decode cX8_resolventNegative 23 = .ok (.getfield 10, 3) := by decide +kernel
theorem dX8_resolventNegative_26 : decode cX8_resolventNegative 26 = .ok (.iload_n 1, 1) := by decide +kernel
theorem dX8_resolventNegative_27 : decode cX8_resolventNegative 27 = .ok (.iload_n 2, 1) := by decide +kernel
theorem dX8_resolventNegative_28 : decode cX8_resolventNegative 28 = .ok (.invokevirtual 212, 3) := by decide +kernel
theorem dX8_resolventNegative_31 : decode cX8_resolventNegative 31 = .ok (.goto 4, 3) := by decide +kernel
theorem dX8_resolventNegative_34 : decode cX8_resolventNegative 34 = .ok (.iconst (-1), 1) := by decide +kernel
theorem dX8_resolventNegative_35 : decode cX8_resolventNegative 35 = .ok (.ireturn, 1) := by decide +kernel
set_option maxRecDepth 20000 in
theorem ggX8_resolvablePairs_X0_countPairsThatClashOnce : GoodIn wsX8_resolvablePairs wsX0_countPairsThatClashOnce := goodIn_r _ [6, 7, 8, 9, 10, 5, 11, 12, 13, 14, 15, 16, 17, 18, 19, 20, 21, 22, 23, 24, 34, 35, 36, 37, 38, 39, 40, 41] rfl (by decide +kernel)
set_option maxRecDepth 20000 in
theorem gX8_resolvablePairs_X0_countPairsThatClashOnce : GoodIn wsX8_resolvablePairs (wsV RX8 215 RX0 yX0_countPairsThatClashOnce wsX0_countPairsThatClashOnce) := goodIn_app (goodIn_r _ [2, 3, 4, 5] rfl (by decide +kernel)) ggX8_resolvablePairs_X0_countPairsThatClashOnce
theorem dX8_resolvablePairs_0 : decode cX8_resolvablePairs 0 = .ok (.aload_n 0, 1) := by decide +kernel
theorem dX8_resolvablePairs_1 : decode cX8_resolvablePairs 1 = .ok (.getfield 10, 3) := by decide +kernel
theorem dX8_resolvablePairs_4 : decode cX8_resolvablePairs 4 = .ok (.invokevirtual 215, 3) := by decide +kernel
theorem dX8_resolvablePairs_7 : decode cX8_resolvablePairs 7 = .ok (.ireturn, 1) := by decide +kernel
set_option maxRecDepth 20000 in
theorem ggX8_subsumes_X8_checkClause : GoodIn wsX8_subsumes wsX8_checkClause := goodIn_ca (goodIn_r _ [8, 9, 10, 1, 11, 12, 13, 14, 15, 16, 23, 24, 25, 26, 27, 28, 29, 30, 31, 32, 33, 34, 35, 36, 37, 38, 39] rfl (by decide +kernel)) (goodIn_sub (fun _ h => List.mem_cons_of_mem _ (List.mem_append_right _ h)) (by decide +kernel))
set_option maxRecDepth 20000 in
theorem gX8_subsumes_X8_checkClause : GoodIn wsX8_subsumes (wsV RX8 125 RX8 yX8_checkClause wsX8_checkClause) := goodIn_app (goodIn_r _ [4, 5, 6, 7] rfl (by decide +kernel)) ggX8_subsumes_X8_checkClause
set_option maxRecDepth 20000 in
theorem ggX8_subsumes_X0_isWithin : GoodIn wsX8_subsumes wsX0_isWithin := goodIn_r _ [20, 21, 22, 32, 33, 34, 35, 36, 37, 38, 39] rfl (by decide +kernel)
set_option maxRecDepth 20000 in
theorem gX8_subsumes_X0_isWithin : GoodIn wsX8_subsumes (wsV RX8 218 RX0 yX0_isWithin wsX0_isWithin) := goodIn_app (goodIn_r _ [17, 18, 19, 14] rfl (by decide +kernel)) ggX8_subsumes_X0_isWithin
theorem dX8_subsumes_0 : decode cX8_subsumes 0 = .ok (.aload_n 0, 1) := by decide +kernel
theorem dX8_subsumes_1 : decode cX8_subsumes 1 = .ok (.iload_n 1, 1) := by decide +kernel
theorem dX8_subsumes_2 : decode cX8_subsumes 2 = .ok (.invokevirtual 125, 3) := by decide +kernel
theorem dX8_subsumes_5 : decode cX8_subsumes 5 = .ok (.aload_n 0, 1) := by decide +kernel
theorem dX8_subsumes_6 : decode cX8_subsumes 6 = .ok (.iload_n 2, 1) := by decide +kernel
theorem dX8_subsumes_7 : decode cX8_subsumes 7 = .ok (.invokevirtual 125, 3) := by decide +kernel
theorem dX8_subsumes_10 : decode cX8_subsumes 10 = .ok (.aload_n 0, 1) := by decide +kernel
theorem dX8_subsumes_11 : decode cX8_subsumes 11 = .ok (.getfield 10, 3) := by decide +kernel
theorem dX8_subsumes_14 : decode cX8_subsumes 14 = .ok (.iload_n 1, 1) := by decide +kernel
theorem dX8_subsumes_15 : decode cX8_subsumes 15 = .ok (.aload_n 0, 1) := by decide +kernel
theorem dX8_subsumes_16 : decode cX8_subsumes 16 = .ok (.getfield 10, 3) := by decide +kernel
theorem dX8_subsumes_19 : decode cX8_subsumes 19 = .ok (.getfield 128, 3) := by decide +kernel
theorem dX8_subsumes_22 : decode cX8_subsumes 22 = .ok (.iload_n 2, 1) := by decide +kernel
theorem dX8_subsumes_23 : decode cX8_subsumes 23 = .ok (.iaload, 1) := by decide +kernel
theorem dX8_subsumes_24 : decode cX8_subsumes 24 = .ok (.aload_n 0, 1) := by decide +kernel
theorem dX8_subsumes_25 : decode cX8_subsumes 25 = .ok (.getfield 10, 3) := by decide +kernel
theorem dX8_subsumes_28 : decode cX8_subsumes 28 = .ok (.getfield 132, 3) := by decide +kernel
theorem dX8_subsumes_31 : decode cX8_subsumes 31 = .ok (.iload_n 2, 1) := by decide +kernel
theorem dX8_subsumes_32 : decode cX8_subsumes 32 = .ok (.iaload, 1) := by decide +kernel
theorem dX8_subsumes_33 : decode cX8_subsumes 33 = .ok (.invokevirtual 218, 3) := by decide +kernel
theorem dX8_subsumes_36 : decode cX8_subsumes 36 = .ok (.ireturn, 1) := by decide +kernel
set_option maxRecDepth 20000 in
theorem ggX8_subsumerOf_X8_checkClause : GoodIn wsX8_subsumerOf wsX8_checkClause := goodIn_ca (goodIn_r _ [6, 7, 8, 1, 9, 10, 11, 12, 13, 14, 25, 26, 27, 28, 29, 30, 31, 32, 33, 34, 35, 36, 37, 38, 39, 40, 41] rfl (by decide +kernel)) (goodIn_sub (fun _ h => List.mem_cons_of_mem _ (List.mem_append_right _ h)) (by decide +kernel))
set_option maxRecDepth 20000 in
theorem gX8_subsumerOf_X8_checkClause : GoodIn wsX8_subsumerOf (wsV RX8 125 RX8 yX8_checkClause wsX8_checkClause) := goodIn_app (goodIn_r _ [2, 3, 4, 5] rfl (by decide +kernel)) ggX8_subsumerOf_X8_checkClause
set_option maxRecDepth 20000 in
theorem ggX8_subsumerOf_X0_firstSubsumer : GoodIn wsX8_subsumerOf wsX0_firstSubsumer := goodIn_r _ [18, 14, 19, 20, 21, 22, 23, 12, 24, 34, 35, 36, 37, 38, 39, 40, 41] rfl (by decide +kernel)
set_option maxRecDepth 20000 in
theorem gX8_subsumerOf_X0_firstSubsumer : GoodIn wsX8_subsumerOf (wsV RX8 222 RX0 yX0_firstSubsumer wsX0_firstSubsumer) := goodIn_app (goodIn_r _ [15, 16, 17, 12] rfl (by decide +kernel)) ggX8_subsumerOf_X0_firstSubsumer
theorem dX8_subsumerOf_0 : decode cX8_subsumerOf 0 = .ok (.aload_n 0, 1) := by decide +kernel
theorem dX8_subsumerOf_1 : decode cX8_subsumerOf 1 = .ok (.iload_n 1, 1) := by decide +kernel
theorem dX8_subsumerOf_2 : decode cX8_subsumerOf 2 = .ok (.invokevirtual 125, 3) := by decide +kernel
theorem dX8_subsumerOf_5 : decode cX8_subsumerOf 5 = .ok (.aload_n 0, 1) := by decide +kernel
theorem dX8_subsumerOf_6 : decode cX8_subsumerOf 6 = .ok (.getfield 10, 3) := by decide +kernel
theorem dX8_subsumerOf_9 : decode cX8_subsumerOf 9 = .ok (.iload_n 1, 1) := by decide +kernel
theorem dX8_subsumerOf_10 : decode cX8_subsumerOf 10 = .ok (.invokevirtual 222, 3) := by decide +kernel
theorem dX8_subsumerOf_13 : decode cX8_subsumerOf 13 = .ok (.ireturn, 1) := by decide +kernel
set_option maxRecDepth 20000 in
theorem ggX8_subsumedClauses_X0_countSubsumed : GoodIn wsX8_subsumedClauses wsX0_countSubsumed := goodIn_r _ [6, 7, 8, 9, 10, 5, 11, 12, 13, 14, 15, 16, 17, 27, 28, 29, 30, 31, 32, 33, 34] rfl (by decide +kernel)
set_option maxRecDepth 20000 in
theorem gX8_subsumedClauses_X0_countSubsumed : GoodIn wsX8_subsumedClauses (wsV RX8 225 RX0 yX0_countSubsumed wsX0_countSubsumed) := goodIn_app (goodIn_r _ [2, 3, 4, 5] rfl (by decide +kernel)) ggX8_subsumedClauses_X0_countSubsumed
theorem dX8_subsumedClauses_0 : decode cX8_subsumedClauses 0 = .ok (.aload_n 0, 1) := by decide +kernel
theorem dX8_subsumedClauses_1 : decode cX8_subsumedClauses 1 = .ok (.getfield 10, 3) := by decide +kernel
theorem dX8_subsumedClauses_4 : decode cX8_subsumedClauses 4 = .ok (.invokevirtual 225, 3) := by decide +kernel
theorem dX8_subsumedClauses_7 : decode cX8_subsumedClauses 7 = .ok (.ireturn, 1) := by decide +kernel
set_option maxRecDepth 20000 in
theorem ggX8_nextFirst_X5_begin : GoodIn wsX8_nextFirst wsX5_begin := goodIn_r _ [8, 9, 10, 68, 69] rfl (by decide +kernel)
set_option maxRecDepth 20000 in
theorem gX8_nextFirst_X5_begin : GoodIn wsX8_nextFirst (wsV RX8 228 RX5 yX5_begin wsX5_begin) := goodIn_app (goodIn_r _ [4, 5, 6, 7] rfl (by decide +kernel)) ggX8_nextFirst_X5_begin
set_option maxRecDepth 20000 in
theorem ggX8_nextFirst_X5_findStep : GoodIn wsX8_nextFirst wsX5_findStep := goodIn_r _ [14, 10, 15, 9, 16, 17, 18, 19, 20, 21, 22, 23, 24, 25, 26, 27, 28, 29, 30, 31, 32, 33, 34, 35, 36, 37, 38, 39, 40, 41, 42, 43, 44, 45, 46, 47, 48, 49, 50, 51, 52, 53, 54, 55, 56, 57, 58, 68, 69, 70, 71, 72, 73, 74, 75, 76, 77] rfl (by decide +kernel)
set_option maxRecDepth 20000 in
theorem gX8_nextFirst_X5_findStep : GoodIn wsX8_nextFirst (wsV RX8 229 RX5 yX5_findStep wsX5_findStep) := goodIn_app (goodIn_r _ [11, 12, 13, 7] rfl (by decide +kernel)) ggX8_nextFirst_X5_findStep
theorem dX8_nextFirst_0 : decode cX8_nextFirst 0 = .ok (.aload_n 0, 1) := by decide +kernel
theorem dX8_nextFirst_1 : decode cX8_nextFirst 1 = .ok (.getfield 44, 3) := by decide +kernel
theorem dX8_nextFirst_4 : decode cX8_nextFirst 4 = .ok (.invokevirtual 228, 3) := by decide +kernel
theorem dX8_nextFirst_7 : decode cX8_nextFirst 7 = .ok (.aload_n 0, 1) := by decide +kernel
theorem dX8_nextFirst_8 : decode cX8_nextFirst 8 = .ok (.getfield 44, 3) := by decide +kernel
theorem dX8_nextFirst_11 : decode cX8_nextFirst 11 = .ok (.aload_n 0, 1) := by decide +kernel
theorem dX8_nextFirst_12 : decode cX8_nextFirst 12 = .ok (.getfield 10, 3) := by decide +kernel
theorem dX8_nextFirst_15 : decode cX8_nextFirst 15 = .ok (.invokevirtual 229, 3) := by decide +kernel
theorem dX8_nextFirst_18 : decode cX8_nextFirst 18 = .ok (.ifCond .eq 13, 3) := by decide +kernel
theorem dX8_nextFirst_21 : decode cX8_nextFirst 21 = .ok (.aload_n 0, 1) := by decide +kernel
theorem dX8_nextFirst_22 : decode cX8_nextFirst 22 = .ok (.getfield 44, 3) := by decide +kernel
theorem dX8_nextFirst_25 : decode cX8_nextFirst 25 = .ok (.getfield 233, 3) := by decide +kernel
theorem dX8_nextFirst_28 : decode cX8_nextFirst 28 = .ok (.goto 4, 3) := by decide +kernel
theorem dX8_nextFirst_31 : decode cX8_nextFirst 31 = .ok (.iconst (-1), 1) := by decide +kernel
theorem dX8_nextFirst_32 : decode cX8_nextFirst 32 = .ok (.ireturn, 1) := by decide +kernel
set_option maxRecDepth 20000 in
theorem ggX8_nextSecond_X5_begin : GoodIn wsX8_nextSecond wsX5_begin := goodIn_r _ [8, 9, 10, 68, 69] rfl (by decide +kernel)
set_option maxRecDepth 20000 in
theorem gX8_nextSecond_X5_begin : GoodIn wsX8_nextSecond (wsV RX8 228 RX5 yX5_begin wsX5_begin) := goodIn_app (goodIn_r _ [4, 5, 6, 7] rfl (by decide +kernel)) ggX8_nextSecond_X5_begin
set_option maxRecDepth 20000 in
theorem ggX8_nextSecond_X5_findStep : GoodIn wsX8_nextSecond wsX5_findStep := goodIn_r _ [14, 10, 15, 9, 16, 17, 18, 19, 20, 21, 22, 23, 24, 25, 26, 27, 28, 29, 30, 31, 32, 33, 34, 35, 36, 37, 38, 39, 40, 41, 42, 43, 44, 45, 46, 47, 48, 49, 50, 51, 52, 53, 54, 55, 56, 57, 58, 68, 69, 70, 71, 72, 73, 74, 75, 76, 77] rfl (by decide +kernel)
set_option maxRecDepth 20000 in
theorem gX8_nextSecond_X5_findStep : GoodIn wsX8_nextSecond (wsV RX8 229 RX5 yX5_findStep wsX5_findStep) := goodIn_app (goodIn_r _ [11, 12, 13, 7] rfl (by decide +kernel)) ggX8_nextSecond_X5_findStep
theorem dX8_nextSecond_0 : decode cX8_nextSecond 0 = .ok (.aload_n 0, 1) := by decide +kernel
theorem dX8_nextSecond_1 : decode cX8_nextSecond 1 = .ok (.getfield 44, 3) := by decide +kernel
theorem dX8_nextSecond_4 : decode cX8_nextSecond 4 = .ok (.invokevirtual 228, 3) := by decide +kernel
theorem dX8_nextSecond_7 : decode cX8_nextSecond 7 = .ok (.aload_n 0, 1) := by decide +kernel
theorem dX8_nextSecond_8 : decode cX8_nextSecond 8 = .ok (.getfield 44, 3) := by decide +kernel
theorem dX8_nextSecond_11 : decode cX8_nextSecond 11 = .ok (.aload_n 0, 1) := by decide +kernel
theorem dX8_nextSecond_12 : decode cX8_nextSecond 12 = .ok (.getfield 10, 3) := by decide +kernel
theorem dX8_nextSecond_15 : decode cX8_nextSecond 15 = .ok (.invokevirtual 229, 3) := by decide +kernel
theorem dX8_nextSecond_18 : decode cX8_nextSecond 18 = .ok (.ifCond .eq 13, 3) := by decide +kernel
theorem dX8_nextSecond_21 : decode cX8_nextSecond 21 = .ok (.aload_n 0, 1) := by decide +kernel
theorem dX8_nextSecond_22 : decode cX8_nextSecond 22 = .ok (.getfield 44, 3) := by decide +kernel
theorem dX8_nextSecond_25 : decode cX8_nextSecond 25 = .ok (.getfield 236, 3) := by decide +kernel
theorem dX8_nextSecond_28 : decode cX8_nextSecond 28 = .ok (.goto 4, 3) := by decide +kernel
theorem dX8_nextSecond_31 : decode cX8_nextSecond 31 = .ok (.iconst (-1), 1) := by decide +kernel
theorem dX8_nextSecond_32 : decode cX8_nextSecond 32 = .ok (.ireturn, 1) := by decide +kernel
set_option maxRecDepth 20000 in
theorem ggX8_stepsToEmpty_X0_copyFrom : GoodIn wsX8_stepsToEmpty wsX0_copyFrom := goodIn_r _ [8, 9, 10, 11, 12, 13, 14, 15, 16, 17, 18, 19, 20, 105, 106, 107, 108, 109, 110, 111, 112] rfl (by decide +kernel)
set_option maxRecDepth 20000 in
theorem gX8_stepsToEmpty_X0_copyFrom : GoodIn wsX8_stepsToEmpty (wsV RX8 101 RX0 yX0_copyFrom wsX0_copyFrom) := goodIn_app (goodIn_r _ [4, 5, 6, 7] rfl (by decide +kernel)) ggX8_stepsToEmpty_X0_copyFrom
set_option maxRecDepth 20000 in
theorem ggX8_stepsToEmpty_X5_makeSteps : GoodIn wsX8_stepsToEmpty wsX5_makeSteps := goodIn_r _ [25, 26, 27, 28, 29, 30, 24, 31, 32, 33, 34, 35, 36, 37, 38, 39, 7, 40, 10, 41, 42, 43, 44, 11, 16, 45, 46, 47, 48, 49, 50, 51, 52, 53, 54, 55, 56, 57, 58, 59, 60, 61, 62, 63, 64, 65, 66, 67, 68, 69, 70, 71, 72, 73, 74, 75, 76, 77, 78, 79, 20, 80, 81, 82, 83, 17, 18, 19, 84, 85, 86, 87, 88, 89, 90, 91, 92, 93, 94, 113, 114, 105, 106, 107, 108, 109, 110, 111, 112] rfl (by decide +kernel)
set_option maxRecDepth 20000 in
theorem gX8_stepsToEmpty_X5_makeSteps : GoodIn wsX8_stepsToEmpty (wsV RX8 239 RX5 yX5_makeSteps wsX5_makeSteps) := goodIn_app (goodIn_r _ [21, 22, 23, 24] rfl (by decide +kernel)) ggX8_stepsToEmpty_X5_makeSteps
set_option maxRecDepth 20000 in
theorem ggX8_stepsToEmpty_X0_indexOf : GoodIn wsX8_stepsToEmpty wsX0_indexOf := goodIn_r _ [44, 10, 11, 16, 105, 106, 107, 108, 109, 110, 111, 112] rfl (by decide +kernel)
set_option maxRecDepth 20000 in
theorem gX8_stepsToEmpty_X0_indexOf : GoodIn wsX8_stepsToEmpty (wsV RX8 143 RX0 yX0_indexOf wsX0_indexOf) := goodIn_app (goodIn_r _ [95, 42, 43, 7] rfl (by decide +kernel)) ggX8_stepsToEmpty_X0_indexOf
theorem dX8_stepsToEmpty_0 : decode cX8_stepsToEmpty 0 = .ok (.aload_n 0, 1) := by decide +kernel
theorem dX8_stepsToEmpty_1 : decode cX8_stepsToEmpty 1 = .ok (.getfield 16, 3) := by decide +kernel
theorem dX8_stepsToEmpty_4 : decode cX8_stepsToEmpty 4 = .ok (.aload_n 0, 1) := by decide +kernel
theorem dX8_stepsToEmpty_5 : decode cX8_stepsToEmpty 5 = .ok (.getfield 10, 3) := by decide +kernel
theorem dX8_stepsToEmpty_8 : decode cX8_stepsToEmpty 8 = .ok (.invokevirtual 101, 3) := by decide +kernel
theorem dX8_stepsToEmpty_11 : decode cX8_stepsToEmpty 11 = .ok (.aload_n 0, 1) := by decide +kernel
theorem dX8_stepsToEmpty_12 : decode cX8_stepsToEmpty 12 = .ok (.getfield 44, 3) := by decide +kernel
theorem dX8_stepsToEmpty_15 : decode cX8_stepsToEmpty 15 = .ok (.aload_n 0, 1) := by decide +kernel
theorem dX8_stepsToEmpty_16 : decode cX8_stepsToEmpty 16 = .ok (.getfield 16, 3) := by decide +kernel
theorem dX8_stepsToEmpty_19 : decode cX8_stepsToEmpty 19 = .ok (.bipush 60, 2) := by decide +kernel
theorem dX8_stepsToEmpty_21 : decode cX8_stepsToEmpty 21 = .ok (.invokevirtual 239, 3) := by decide +kernel
theorem dX8_stepsToEmpty_24 : decode cX8_stepsToEmpty 24 = .ok (.istore_n 1, 1) := by decide +kernel
theorem dX8_stepsToEmpty_25 : decode cX8_stepsToEmpty 25 = .ok (.aload_n 0, 1) := by decide +kernel
theorem dX8_stepsToEmpty_26 : decode cX8_stepsToEmpty 26 = .ok (.getfield 16, 3) := by decide +kernel
theorem dX8_stepsToEmpty_29 : decode cX8_stepsToEmpty 29 = .ok (.iconst 0, 1) := by decide +kernel
theorem dX8_stepsToEmpty_30 : decode cX8_stepsToEmpty 30 = .ok (.iconst 0, 1) := by decide +kernel
theorem dX8_stepsToEmpty_31 : decode cX8_stepsToEmpty 31 = .ok (.invokevirtual 143, 3) := by decide +kernel
theorem dX8_stepsToEmpty_34 : decode cX8_stepsToEmpty 34 = .ok (.iconst (-1), 1) := by decide +kernel
theorem dX8_stepsToEmpty_35 : decode cX8_stepsToEmpty 35 = .ok (.if_icmp .ne 7, 3) := by decide +kernel
theorem dX8_stepsToEmpty_38 : decode cX8_stepsToEmpty 38 = .ok (.iconst (-1), 1) := by decide +kernel
theorem dX8_stepsToEmpty_39 : decode cX8_stepsToEmpty 39 = .ok (.goto 4, 3) := by decide +kernel
theorem dX8_stepsToEmpty_42 : decode cX8_stepsToEmpty 42 = .ok (.iload_n 1, 1) := by decide +kernel
theorem dX8_stepsToEmpty_43 : decode cX8_stepsToEmpty 43 = .ok (.ireturn, 1) := by decide +kernel
set_option maxRecDepth 20000 in
theorem ggX8_modelCount_X2_count : GoodIn wsX8_modelCount wsX2_count := goodIn_r _ [5, 6, 7, 8, 9, 10, 11, 12, 13, 4, 14, 15, 16, 17, 18, 19, 20, 21, 31, 32, 33, 34, 35, 36, 37, 38] rfl (by decide +kernel)
set_option maxRecDepth 20000 in
theorem gX8_modelCount_X2_count : GoodIn wsX8_modelCount (va_wsS RX8 243 yX2_count wsX2_count) := goodIn_app (goodIn_r _ [2, 3, 4] rfl (by decide +kernel)) ggX8_modelCount_X2_count
theorem dX8_modelCount_0 : decode cX8_modelCount 0 = .ok (.aload_n 0, 1) := by decide +kernel
theorem dX8_modelCount_1 : decode cX8_modelCount 1 = .ok (.getfield 10, 3) := by decide +kernel
theorem dX8_modelCount_4 : decode cX8_modelCount 4 = .ok (.invokestatic 243, 3) := by decide +kernel
theorem dX8_modelCount_7 : decode cX8_modelCount 7 = .ok (.ireturn, 1) := by decide +kernel
set_option maxRecDepth 20000 in
theorem ggX8_firstModel_X2_at : GoodIn wsX8_firstModel wsX2_at := goodIn_r _ [5, 6, 7, 8, 9, 10, 11, 12, 13, 4, 14, 15, 16, 17, 18, 19, 20, 21, 31, 32, 33, 34, 35, 36, 37, 38] rfl (by decide +kernel)
set_option maxRecDepth 20000 in
theorem gX8_firstModel_X2_at : GoodIn wsX8_firstModel (va_wsS RX8 248 yX2_at wsX2_at) := goodIn_app (goodIn_r _ [2, 3, 4] rfl (by decide +kernel)) ggX8_firstModel_X2_at
theorem dX8_firstModel_0 : decode cX8_firstModel 0 = .ok (.aload_n 0, 1) := by decide +kernel
theorem dX8_firstModel_1 : decode cX8_firstModel 1 = .ok (.getfield 10, 3) := by decide +kernel
theorem dX8_firstModel_4 : decode cX8_firstModel 4 = .ok (.iconst 0, 1) := by decide +kernel
theorem dX8_firstModel_5 : decode cX8_firstModel 5 = .ok (.invokestatic 248, 3) := by decide +kernel
theorem dX8_firstModel_8 : decode cX8_firstModel 8 = .ok (.ireturn, 1) := by decide +kernel
set_option maxRecDepth 20000 in
theorem ggX8_modelAt_X2_at : GoodIn wsX8_modelAt wsX2_at := goodIn_r _ [5, 6, 7, 8, 9, 10, 11, 12, 13, 4, 14, 15, 16, 17, 18, 19, 20, 21, 31, 32, 33, 34, 35, 36, 37, 38] rfl (by decide +kernel)
set_option maxRecDepth 20000 in
theorem gX8_modelAt_X2_at : GoodIn wsX8_modelAt (va_wsS RX8 248 yX2_at wsX2_at) := goodIn_app (goodIn_r _ [2, 3, 4] rfl (by decide +kernel)) ggX8_modelAt_X2_at
theorem dX8_modelAt_0 : decode cX8_modelAt 0 = .ok (.aload_n 0, 1) := by decide +kernel
theorem dX8_modelAt_1 : decode cX8_modelAt 1 = .ok (.getfield 10, 3) := by decide +kernel
theorem dX8_modelAt_4 : decode cX8_modelAt 4 = .ok (.iload_n 1, 1) := by decide +kernel
theorem dX8_modelAt_5 : decode cX8_modelAt 5 = .ok (.invokestatic 248, 3) := by decide +kernel
theorem dX8_modelAt_8 : decode cX8_modelAt 8 = .ok (.ireturn, 1) := by decide +kernel
set_option maxRecDepth 20000 in
theorem ggX8_isTrue_X8_checkClause : GoodIn wsX8_isTrue wsX8_checkClause := goodIn_ca (goodIn_r _ [6, 7, 8, 1, 9, 10, 11, 12, 13, 14, 36, 37, 38, 39, 40, 41, 42, 43, 44, 45, 46, 47, 48, 49, 50, 51, 52] rfl (by decide +kernel)) (goodIn_sub (fun _ h => List.mem_cons_of_mem _ (List.mem_append_left _ (List.mem_append_right _ h))) (by decide +kernel))
set_option maxRecDepth 20000 in
theorem gX8_isTrue_X8_checkClause : GoodIn wsX8_isTrue (wsV RX8 125 RX8 yX8_checkClause wsX8_checkClause) := goodIn_app (goodIn_r _ [2, 3, 4, 5] rfl (by decide +kernel)) ggX8_isTrue_X8_checkClause
set_option maxRecDepth 20000 in
theorem ggX8_isTrue_X8_checkMask : GoodIn wsX8_isTrue wsX8_checkMask := goodIn_ca (goodIn_r _ [18, 19, 20, 1, 21, 22, 23, 12, 24, 25, 26, 27, 28, 29, 36, 37, 38, 39, 40, 41, 42, 43, 44, 45, 46, 47, 48, 49, 50, 51, 52] rfl (by decide +kernel)) (goodIn_sub (fun _ h => List.mem_cons_of_mem _ (List.mem_append_right _ h)) (by decide +kernel))
set_option maxRecDepth 20000 in
theorem gX8_isTrue_X8_checkMask : GoodIn wsX8_isTrue (wsV RX8 251 RX8 yX8_checkMask wsX8_checkMask) := goodIn_app (goodIn_r _ [15, 16, 17, 5] rfl (by decide +kernel)) ggX8_isTrue_X8_checkMask
set_option maxRecDepth 20000 in
theorem ggX8_isTrue_X0_isTrueUnder : GoodIn wsX8_isTrue wsX0_isTrueUnder := goodIn_r _ [33, 34, 35, 45, 46, 47, 48, 49, 50, 51, 52] rfl (by decide +kernel)
set_option maxRecDepth 20000 in
theorem gX8_isTrue_X0_isTrueUnder : GoodIn wsX8_isTrue (wsV RX8 254 RX0 yX0_isTrueUnder wsX0_isTrueUnder) := goodIn_app (goodIn_r _ [30, 31, 32, 12] rfl (by decide +kernel)) ggX8_isTrue_X0_isTrueUnder
theorem dX8_isTrue_0 : decode cX8_isTrue 0 = .ok (.aload_n 0, 1) := by decide +kernel
theorem dX8_isTrue_1 : decode cX8_isTrue 1 = .ok (.iload_n 1, 1) := by decide +kernel
theorem dX8_isTrue_2 : decode cX8_isTrue 2 = .ok (.invokevirtual 125, 3) := by decide +kernel
theorem dX8_isTrue_5 : decode cX8_isTrue 5 = .ok (.aload_n 0, 1) := by decide +kernel
theorem dX8_isTrue_6 : decode cX8_isTrue 6 = .ok (.iload_n 2, 1) := by decide +kernel
theorem dX8_isTrue_7 : decode cX8_isTrue 7 = .ok (.invokevirtual 251, 3) := by decide +kernel
theorem dX8_isTrue_10 : decode cX8_isTrue 10 = .ok (.aload_n 0, 1) := by decide +kernel
theorem dX8_isTrue_11 : decode cX8_isTrue 11 = .ok (.getfield 10, 3) := by decide +kernel
theorem dX8_isTrue_14 : decode cX8_isTrue 14 = .ok (.iload_n 1, 1) := by decide +kernel
theorem dX8_isTrue_15 : decode cX8_isTrue 15 = .ok (.iload_n 2, 1) := by decide +kernel
theorem dX8_isTrue_16 : decode cX8_isTrue 16 = .ok (.invokevirtual 254, 3) := by decide +kernel
theorem dX8_isTrue_19 : decode cX8_isTrue 19 = .ok (.ireturn, 1) := by decide +kernel
set_option maxRecDepth 20000 in
theorem ggX8_falseClauses_X8_checkMask : GoodIn wsX8_falseClauses wsX8_checkMask := goodIn_ca (goodIn_r _ [6, 7, 8, 1, 9, 10, 11, 12, 13, 14, 15, 16, 17, 18, 30, 31, 32, 33, 34, 35, 36, 37, 38, 39, 40, 41, 42, 43, 44, 45, 46] rfl (by decide +kernel)) (goodIn_sub (fun _ h => List.mem_cons_of_mem _ (List.mem_append_right _ h)) (by decide +kernel))
set_option maxRecDepth 20000 in
theorem gX8_falseClauses_X8_checkMask : GoodIn wsX8_falseClauses (wsV RX8 251 RX8 yX8_checkMask wsX8_checkMask) := goodIn_app (goodIn_r _ [2, 3, 4, 5] rfl (by decide +kernel)) ggX8_falseClauses_X8_checkMask
set_option maxRecDepth 20000 in
theorem ggX8_falseClauses_X2_countFalse : GoodIn wsX8_falseClauses wsX2_countFalse := goodIn_r _ [22, 23, 24, 25, 26, 12, 27, 28, 29, 39, 40, 41, 42, 43, 44, 45, 46] rfl (by decide +kernel)
set_option maxRecDepth 20000 in
theorem gX8_falseClauses_X2_countFalse : GoodIn wsX8_falseClauses (va_wsS RX8 257 yX2_countFalse wsX2_countFalse) := goodIn_app (goodIn_r _ [19, 20, 21] rfl (by decide +kernel)) ggX8_falseClauses_X2_countFalse
theorem dX8_falseClauses_0 : decode cX8_falseClauses 0 = .ok (.aload_n 0, 1) := by decide +kernel
theorem dX8_falseClauses_1 : decode cX8_falseClauses 1 = .ok (.iload_n 1, 1) := by decide +kernel
theorem dX8_falseClauses_2 : decode cX8_falseClauses 2 = .ok (.invokevirtual 251, 3) := by decide +kernel
theorem dX8_falseClauses_5 : decode cX8_falseClauses 5 = .ok (.aload_n 0, 1) := by decide +kernel
theorem dX8_falseClauses_6 : decode cX8_falseClauses 6 = .ok (.getfield 10, 3) := by decide +kernel
theorem dX8_falseClauses_9 : decode cX8_falseClauses 9 = .ok (.iload_n 1, 1) := by decide +kernel
theorem dX8_falseClauses_10 : decode cX8_falseClauses 10 = .ok (.invokestatic 257, 3) := by decide +kernel
theorem dX8_falseClauses_13 : decode cX8_falseClauses 13 = .ok (.ireturn, 1) := by decide +kernel
set_option maxRecDepth 20000 in
theorem ggX8_bestFlip_X8_checkMask : GoodIn wsX8_bestFlip wsX8_checkMask := goodIn_ca (goodIn_r _ [6, 7, 8, 1, 9, 10, 11, 12, 13, 14, 15, 16, 17, 18, 34, 35, 36, 37, 38, 39, 40, 41, 42, 43, 44, 45, 46, 47, 48, 49, 50] rfl (by decide +kernel)) (goodIn_sub (fun _ h => List.mem_cons_of_mem _ (List.mem_append_right _ h)) (by decide +kernel))
set_option maxRecDepth 20000 in
theorem gX8_bestFlip_X8_checkMask : GoodIn wsX8_bestFlip (wsV RX8 251 RX8 yX8_checkMask wsX8_checkMask) := goodIn_app (goodIn_r _ [2, 3, 4, 5] rfl (by decide +kernel)) ggX8_bestFlip_X8_checkMask
set_option maxRecDepth 20000 in
theorem ggX8_bestFlip_X2_firstBestFlip : GoodIn wsX8_bestFlip wsX2_firstBestFlip := goodIn_r _ [22, 23, 24, 25, 21, 26, 27, 28, 29, 30, 12, 31, 32, 33, 43, 44, 45, 46, 47, 48, 49, 50] rfl (by decide +kernel)
set_option maxRecDepth 20000 in
theorem gX8_bestFlip_X2_firstBestFlip : GoodIn wsX8_bestFlip (va_wsS RX8 260 yX2_firstBestFlip wsX2_firstBestFlip) := goodIn_app (goodIn_r _ [19, 20, 21] rfl (by decide +kernel)) ggX8_bestFlip_X2_firstBestFlip
theorem dX8_bestFlip_0 : decode cX8_bestFlip 0 = .ok (.aload_n 0, 1) := by decide +kernel
theorem dX8_bestFlip_1 : decode cX8_bestFlip 1 = .ok (.iload_n 1, 1) := by decide +kernel
theorem dX8_bestFlip_2 : decode cX8_bestFlip 2 = .ok (.invokevirtual 251, 3) := by decide +kernel
theorem dX8_bestFlip_5 : decode cX8_bestFlip 5 = .ok (.aload_n 0, 1) := by decide +kernel
theorem dX8_bestFlip_6 : decode cX8_bestFlip 6 = .ok (.getfield 10, 3) := by decide +kernel
theorem dX8_bestFlip_9 : decode cX8_bestFlip 9 = .ok (.iload_n 1, 1) := by decide +kernel
theorem dX8_bestFlip_10 : decode cX8_bestFlip 10 = .ok (.invokestatic 260, 3) := by decide +kernel
theorem dX8_bestFlip_13 : decode cX8_bestFlip 13 = .ok (.ireturn, 1) := by decide +kernel
set_option maxRecDepth 20000 in
theorem ggX8_alwaysTrue_X2_trueInAll : GoodIn wsX8_alwaysTrue wsX2_trueInAll := goodIn_r _ [5, 6, 7, 8, 9, 10, 11, 12, 13, 4, 14, 15, 16, 17, 18, 19, 20, 21, 31, 32, 33, 34, 35, 36, 37, 38] rfl (by decide +kernel)
set_option maxRecDepth 20000 in
theorem gX8_alwaysTrue_X2_trueInAll : GoodIn wsX8_alwaysTrue (va_wsS RX8 263 yX2_trueInAll wsX2_trueInAll) := goodIn_app (goodIn_r _ [2, 3, 4] rfl (by decide +kernel)) ggX8_alwaysTrue_X2_trueInAll
theorem dX8_alwaysTrue_0 : decode cX8_alwaysTrue 0 = .ok (.aload_n 0, 1) := by decide +kernel
theorem dX8_alwaysTrue_1 : decode cX8_alwaysTrue 1 = .ok (.getfield 10, 3) := by decide +kernel
theorem dX8_alwaysTrue_4 : decode cX8_alwaysTrue 4 = .ok (.invokestatic 263, 3) := by decide +kernel
theorem dX8_alwaysTrue_7 : decode cX8_alwaysTrue 7 = .ok (.ireturn, 1) := by decide +kernel
set_option maxRecDepth 20000 in
theorem ggX8_alwaysFalse_X2_falseInAll : GoodIn wsX8_alwaysFalse wsX2_falseInAll := goodIn_r _ [5, 6, 7, 8, 9, 10, 11, 12, 13, 4, 14, 15, 16, 17, 18, 19, 20, 21, 31, 32, 33, 34, 35, 36, 37, 38] rfl (by decide +kernel)
set_option maxRecDepth 20000 in
theorem gX8_alwaysFalse_X2_falseInAll : GoodIn wsX8_alwaysFalse (va_wsS RX8 266 yX2_falseInAll wsX2_falseInAll) := goodIn_app (goodIn_r _ [2, 3, 4] rfl (by decide +kernel)) ggX8_alwaysFalse_X2_falseInAll
theorem dX8_alwaysFalse_0 : decode cX8_alwaysFalse 0 = .ok (.aload_n 0, 1) := by decide +kernel
theorem dX8_alwaysFalse_1 : decode cX8_alwaysFalse 1 = .ok (.getfield 10, 3) := by decide +kernel
theorem dX8_alwaysFalse_4 : decode cX8_alwaysFalse 4 = .ok (.invokestatic 266, 3) := by decide +kernel
theorem dX8_alwaysFalse_7 : decode cX8_alwaysFalse 7 = .ok (.ireturn, 1) := by decide +kernel
set_option maxRecDepth 20000 in
theorem ggX8_isImplied_X8_checkLiterals : GoodIn wsX8_isImplied wsX8_checkLiterals := goodIn_ca (goodIn_r _ [6, 7, 8, 9, 10, 11, 5, 12, 1, 13, 14, 15, 16, 17, 18, 19, 20, 21, 22, 38, 39, 40, 41, 42, 43, 44, 45, 46, 47, 48, 49, 50, 51, 52, 53, 54] rfl (by decide +kernel)) (goodIn_sub (fun _ h => List.mem_cons_of_mem _ (List.mem_append_right _ h)) (by decide +kernel))
set_option maxRecDepth 20000 in
theorem gX8_isImplied_X8_checkLiterals : GoodIn wsX8_isImplied (wsV RX8 139 RX8 yX8_checkLiterals wsX8_checkLiterals) := goodIn_app (goodIn_r _ [2, 3, 4, 5] rfl (by decide +kernel)) ggX8_isImplied_X8_checkLiterals
set_option maxRecDepth 20000 in
theorem ggX8_isImplied_X2_imply : GoodIn wsX8_isImplied wsX2_imply := goodIn_r _ [26, 27, 19, 20, 16, 21, 22, 28, 29, 25, 30, 31, 32, 33, 34, 35, 36, 37, 47, 48, 49, 50, 51, 52, 53, 54] rfl (by decide +kernel)
set_option maxRecDepth 20000 in
theorem gX8_isImplied_X2_imply : GoodIn wsX8_isImplied (va_wsS RX8 269 yX2_imply wsX2_imply) := goodIn_app (goodIn_r _ [23, 24, 25] rfl (by decide +kernel)) ggX8_isImplied_X2_imply
theorem dX8_isImplied_0 : decode cX8_isImplied 0 = .ok (.aload_n 0, 1) := by decide +kernel
theorem dX8_isImplied_1 : decode cX8_isImplied 1 = .ok (.iload_n 1, 1) := by decide +kernel
theorem dX8_isImplied_2 : decode cX8_isImplied 2 = .ok (.iload_n 2, 1) := by decide +kernel
theorem dX8_isImplied_3 : decode cX8_isImplied 3 = .ok (.invokevirtual 139, 3) := by decide +kernel
theorem dX8_isImplied_6 : decode cX8_isImplied 6 = .ok (.aload_n 0, 1) := by decide +kernel
theorem dX8_isImplied_7 : decode cX8_isImplied 7 = .ok (.getfield 10, 3) := by decide +kernel
theorem dX8_isImplied_10 : decode cX8_isImplied 10 = .ok (.iload_n 1, 1) := by decide +kernel
theorem dX8_isImplied_11 : decode cX8_isImplied 11 = .ok (.iload_n 2, 1) := by decide +kernel
theorem dX8_isImplied_12 : decode cX8_isImplied 12 = .ok (.iconst (-1), 1) := by decide +kernel
theorem dX8_isImplied_13 : decode cX8_isImplied 13 = .ok (.invokestatic 269, 3) := by decide +kernel
theorem dX8_isImplied_16 : decode cX8_isImplied 16 = .ok (.ireturn, 1) := by decide +kernel
set_option maxRecDepth 20000 in
theorem ggX8_isRedundant_X8_checkClause : GoodIn wsX8_isRedundant wsX8_checkClause := goodIn_ca (goodIn_r _ [8, 9, 10, 1, 11, 12, 13, 14, 15, 16, 36, 37, 38, 39, 40, 41, 42, 43, 44, 45, 46, 47, 48, 49, 50, 51, 52] rfl (by decide +kernel)) (goodIn_sub (fun _ h => List.mem_cons_of_mem _ (List.mem_append_right _ h)) (by decide +kernel))
set_option maxRecDepth 20000 in
theorem gX8_isRedundant_X8_checkClause : GoodIn wsX8_isRedundant (wsV RX8 125 RX8 yX8_checkClause wsX8_checkClause) := goodIn_app (goodIn_r _ [4, 5, 6, 7] rfl (by decide +kernel)) ggX8_isRedundant_X8_checkClause
set_option maxRecDepth 20000 in
theorem ggX8_isRedundant_X2_imply : GoodIn wsX8_isRedundant wsX2_imply := goodIn_r _ [20, 21, 22, 23, 14, 24, 25, 26, 27, 19, 28, 29, 30, 31, 32, 33, 34, 35, 45, 46, 47, 48, 49, 50, 51, 52] rfl (by decide +kernel)
set_option maxRecDepth 20000 in
theorem gX8_isRedundant_X2_imply : GoodIn wsX8_isRedundant (va_wsS RX8 269 yX2_imply wsX2_imply) := goodIn_app (goodIn_r _ [17, 18, 19] rfl (by decide +kernel)) ggX8_isRedundant_X2_imply
theorem dX8_isRedundant_0 : decode cX8_isRedundant 0 = .ok (.aload_n 0, 1) := by decide +kernel
theorem dX8_isRedundant_1 : decode cX8_isRedundant 1 = .ok (.iload_n 1, 1) := by decide +kernel
theorem dX8_isRedundant_2 : decode cX8_isRedundant 2 = .ok (.invokevirtual 125, 3) := by decide +kernel
theorem dX8_isRedundant_5 : decode cX8_isRedundant 5 = .ok (.aload_n 0, 1) := by decide +kernel
theorem dX8_isRedundant_6 : decode cX8_isRedundant 6 = .ok (.getfield 10, 3) := by decide +kernel
theorem dX8_isRedundant_9 : decode cX8_isRedundant 9 = .ok (.aload_n 0, 1) := by decide +kernel
theorem dX8_isRedundant_10 : decode cX8_isRedundant 10 = .ok (.getfield 10, 3) := by decide +kernel
theorem dX8_isRedundant_13 : decode cX8_isRedundant 13 = .ok (.getfield 128, 3) := by decide +kernel
theorem dX8_isRedundant_16 : decode cX8_isRedundant 16 = .ok (.iload_n 1, 1) := by decide +kernel
theorem dX8_isRedundant_17 : decode cX8_isRedundant 17 = .ok (.iaload, 1) := by decide +kernel
theorem dX8_isRedundant_18 : decode cX8_isRedundant 18 = .ok (.aload_n 0, 1) := by decide +kernel
theorem dX8_isRedundant_19 : decode cX8_isRedundant 19 = .ok (.getfield 10, 3) := by decide +kernel
theorem dX8_isRedundant_22 : decode cX8_isRedundant 22 = .ok (.getfield 132, 3) := by decide +kernel
theorem dX8_isRedundant_25 : decode cX8_isRedundant 25 = .ok (.iload_n 1, 1) := by decide +kernel
theorem dX8_isRedundant_26 : decode cX8_isRedundant 26 = .ok (.iaload, 1) := by decide +kernel
theorem dX8_isRedundant_27 : decode cX8_isRedundant 27 = .ok (.iload_n 1, 1) := by decide +kernel
theorem dX8_isRedundant_28 : decode cX8_isRedundant 28 = .ok (.invokestatic 269, 3) := by decide +kernel
theorem dX8_isRedundant_31 : decode cX8_isRedundant 31 = .ok (.ireturn, 1) := by decide +kernel
set_option maxRecDepth 20000 in
theorem ggX8_modelShare_X2_count : GoodIn wsX8_modelShare wsX2_count := goodIn_r _ [6, 7, 8, 9, 10, 11, 12, 13, 14, 5, 15, 16, 17, 18, 19, 20, 21, 22, 32, 33, 34, 35, 36, 37, 38, 39] rfl (by decide +kernel)
set_option maxRecDepth 20000 in
theorem gX8_modelShare_X2_count : GoodIn wsX8_modelShare (va_wsS RX8 243 yX2_count wsX2_count) := goodIn_app (goodIn_r _ [3, 4, 5] rfl (by decide +kernel)) ggX8_modelShare_X2_count
theorem dX8_modelShare_0 : decode cX8_modelShare 0 = .ok (.aload_n 0, 1) := by decide +kernel
theorem dX8_modelShare_1 : decode cX8_modelShare 1 = .ok (.getfield 10, 3) := by decide +kernel
theorem dX8_modelShare_4 : decode cX8_modelShare 4 = .ok (.invokestatic 243, 3) := by decide +kernel
theorem dX8_modelShare_7 : decode cX8_modelShare 7 = .ok (.i2d, 1) := by decide +kernel
theorem dX8_modelShare_8 : decode cX8_modelShare 8 = .ok (.iconst 1, 1) := by decide +kernel
theorem dX8_modelShare_9 : decode cX8_modelShare 9 = .ok (.aload_n 0, 1) := by decide +kernel
theorem dX8_modelShare_10 : decode cX8_modelShare 10 = .ok (.getfield 10, 3) := by decide +kernel
theorem dX8_modelShare_13 : decode cX8_modelShare 13 = .ok (.getfield 122, 3) := by decide +kernel
theorem dX8_modelShare_16 : decode cX8_modelShare 16 = .ok (.ishl, 1) := by decide +kernel
theorem dX8_modelShare_17 : decode cX8_modelShare 17 = .ok (.i2d, 1) := by decide +kernel
theorem dX8_modelShare_18 : decode cX8_modelShare 18 = .ok (.ddiv, 1) := by decide +kernel
theorem dX8_modelShare_19 : decode cX8_modelShare 19 = .ok (.dreturn, 1) := by decide +kernel
set_option maxRecDepth 20000 in
theorem ggX8_fixedTrue_X4_run : GoodIn wsX8_fixedTrue wsX4_run := goodIn_r _ [8, 9, 10, 11, 12, 13, 7, 14, 15, 16, 17, 18, 19, 20, 21, 22, 23, 24, 25, 26, 27, 28, 29, 30, 31, 32, 42, 43, 44, 45, 46, 47, 48, 49, 50, 51] rfl (by decide +kernel)
set_option maxRecDepth 20000 in
theorem gX8_fixedTrue_X4_run : GoodIn wsX8_fixedTrue (wsV RX8 273 RX4 yX4_run wsX4_run) := goodIn_app (goodIn_r _ [4, 5, 6, 7] rfl (by decide +kernel)) ggX8_fixedTrue_X4_run
theorem dX8_fixedTrue_0 : decode cX8_fixedTrue 0 = .ok (.aload_n 0, 1) := by decide +kernel
theorem dX8_fixedTrue_1 : decode cX8_fixedTrue 1 = .ok (.getfield 51, 3) := by decide +kernel
theorem dX8_fixedTrue_4 : decode cX8_fixedTrue 4 = .ok (.aload_n 0, 1) := by decide +kernel
theorem dX8_fixedTrue_5 : decode cX8_fixedTrue 5 = .ok (.getfield 10, 3) := by decide +kernel
theorem dX8_fixedTrue_8 : decode cX8_fixedTrue 8 = .ok (.invokevirtual 273, 3) := by decide +kernel
theorem dX8_fixedTrue_11 : decode cX8_fixedTrue 11 = .ok (.aload_n 0, 1) := by decide +kernel
theorem dX8_fixedTrue_12 : decode cX8_fixedTrue 12 = .ok (.getfield 51, 3) := by decide +kernel
theorem dX8_fixedTrue_15 : decode cX8_fixedTrue 15 = .ok (.getfield 276, 3) := by decide +kernel
theorem dX8_fixedTrue_18 : decode cX8_fixedTrue 18 = .ok (.ireturn, 1) := by decide +kernel
set_option maxRecDepth 20000 in
theorem ggX8_fixedFalse_X4_run : GoodIn wsX8_fixedFalse wsX4_run := goodIn_r _ [8, 9, 10, 11, 12, 13, 7, 14, 15, 16, 17, 18, 19, 20, 21, 22, 23, 24, 25, 26, 27, 28, 29, 30, 31, 32, 42, 43, 44, 45, 46, 47, 48, 49, 50, 51] rfl (by decide +kernel)
set_option maxRecDepth 20000 in
theorem gX8_fixedFalse_X4_run : GoodIn wsX8_fixedFalse (wsV RX8 273 RX4 yX4_run wsX4_run) := goodIn_app (goodIn_r _ [4, 5, 6, 7] rfl (by decide +kernel)) ggX8_fixedFalse_X4_run
theorem dX8_fixedFalse_0 : decode cX8_fixedFalse 0 = .ok (.aload_n 0, 1) := by decide +kernel
theorem dX8_fixedFalse_1 : decode cX8_fixedFalse 1 = .ok (.getfield 51, 3) := by decide +kernel
theorem dX8_fixedFalse_4 : decode cX8_fixedFalse 4 = .ok (.aload_n 0, 1) := by decide +kernel
theorem dX8_fixedFalse_5 : decode cX8_fixedFalse 5 = .ok (.getfield 10, 3) := by decide +kernel
theorem dX8_fixedFalse_8 : decode cX8_fixedFalse 8 = .ok (.invokevirtual 273, 3) := by decide +kernel
theorem dX8_fixedFalse_11 : decode cX8_fixedFalse 11 = .ok (.aload_n 0, 1) := by decide +kernel
theorem dX8_fixedFalse_12 : decode cX8_fixedFalse 12 = .ok (.getfield 51, 3) := by decide +kernel
theorem dX8_fixedFalse_15 : decode cX8_fixedFalse 15 = .ok (.getfield 279, 3) := by decide +kernel
theorem dX8_fixedFalse_18 : decode cX8_fixedFalse 18 = .ok (.ireturn, 1) := by decide +kernel
set_option maxRecDepth 20000 in
theorem ggX8_hasConflict_X4_run : GoodIn wsX8_hasConflict wsX4_run := goodIn_r _ [7, 8, 9, 10, 11, 12, 6, 13, 14, 15, 16, 17, 18, 19, 20, 21, 22, 23, 24, 25, 26, 27, 28, 29, 30, 31, 54, 55, 56, 57, 58, 59, 60, 61, 62, 63] rfl (by decide +kernel)
set_option maxRecDepth 20000 in
theorem gX8_hasConflict_X4_run : GoodIn wsX8_hasConflict (wsV RX8 273 RX4 yX4_run wsX4_run) := goodIn_app (goodIn_r _ [3, 4, 5, 6] rfl (by decide +kernel)) ggX8_hasConflict_X4_run
set_option maxRecDepth 20000 in
theorem ggX8_hasConflict_X4_isContradictory : GoodIn wsX8_hasConflict wsX4_isContradictory := goodIn_r _ [35, 8, 9, 36, 37, 38, 20, 39, 40, 41, 42, 43, 44, 22, 23, 54, 55, 56, 57, 58, 59, 60, 61, 62, 63] rfl (by decide +kernel)
set_option maxRecDepth 20000 in
theorem gX8_hasConflict_X4_isContradictory : GoodIn wsX8_hasConflict (wsV RX8 282 RX4 yX4_isContradictory wsX4_isContradictory) := goodIn_app (goodIn_r _ [32, 33, 34, 6] rfl (by decide +kernel)) ggX8_hasConflict_X4_isContradictory
theorem dX8_hasConflict_0 : decode cX8_hasConflict 0 = .ok (.aload_n 0, 1) := by decide +kernel
theorem dX8_hasConflict_1 : decode cX8_hasConflict 1 = .ok (.getfield 51, 3) := by decide +kernel
theorem dX8_hasConflict_4 : decode cX8_hasConflict 4 = .ok (.aload_n 0, 1) := by decide +kernel
theorem dX8_hasConflict_5 : decode cX8_hasConflict 5 = .ok (.getfield 10, 3) := by decide +kernel
theorem dX8_hasConflict_8 : decode cX8_hasConflict 8 = .ok (.invokevirtual 273, 3) := by decide +kernel
theorem dX8_hasConflict_11 : decode cX8_hasConflict 11 = .ok (.aload_n 0, 1) := by decide +kernel
theorem dX8_hasConflict_12 : decode cX8_hasConflict 12 = .ok (.getfield 51, 3) := by decide +kernel
theorem dX8_hasConflict_15 : decode cX8_hasConflict 15 = .ok (.aload_n 0, 1) := by decide +kernel
theorem dX8_hasConflict_16 : decode cX8_hasConflict 16 = .ok (.getfield 10, 3) := by decide +kernel
theorem dX8_hasConflict_19 : decode cX8_hasConflict 19 = .ok (.invokevirtual 282, 3) := by decide +kernel
theorem dX8_hasConflict_22 : decode cX8_hasConflict 22 = .ok (.ireturn, 1) := by decide +kernel
set_option maxRecDepth 20000 in
theorem ggX8_addClause_X8_checkLiterals : GoodIn wsX8_addClause wsX8_checkLiterals := goodIn_ca (goodIn_r _ [9, 10, 11, 12, 13, 14, 8, 15, 3, 16, 17, 18, 19, 20, 21, 22, 23, 24, 25, 66, 67, 68, 69, 70, 71, 72, 73, 74, 75, 76, 77, 78, 79, 80, 81, 82] rfl (by decide +kernel)) (goodIn_sub (fun _ h => List.mem_cons_of_mem _ (List.mem_append_right _ h)) (by decide +kernel))
set_option maxRecDepth 20000 in
theorem gX8_addClause_X8_checkLiterals : GoodIn wsX8_addClause (wsV RX8 139 RX8 yX8_checkLiterals wsX8_checkLiterals) := goodIn_app (goodIn_r _ [5, 6, 7, 8] rfl (by decide +kernel)) ggX8_addClause_X8_checkLiterals
set_option maxRecDepth 20000 in
theorem ggX8_addClause_X0_isFull : GoodIn wsX8_addClause wsX0_isFull := goodIn_r _ [29, 30, 75, 76, 77, 78, 79, 80, 81, 82] rfl (by decide +kernel)
set_option maxRecDepth 20000 in
theorem gX8_addClause_X0_isFull : GoodIn wsX8_addClause (wsV RX8 285 RX0 yX0_isFull wsX0_isFull) := goodIn_app (goodIn_r _ [26, 27, 28, 19] rfl (by decide +kernel)) ggX8_addClause_X0_isFull
set_option maxRecDepth 20000 in
theorem ggX8_addClause_X0_indexOf : GoodIn wsX8_addClause wsX0_indexOf := goodIn_r _ [34, 30, 35, 36, 75, 76, 77, 78, 79, 80, 81, 82] rfl (by decide +kernel)
set_option maxRecDepth 20000 in
theorem gX8_addClause_X0_indexOf : GoodIn wsX8_addClause (wsV RX8 143 RX0 yX0_indexOf wsX0_indexOf) := goodIn_app (goodIn_r _ [31, 32, 33, 19] rfl (by decide +kernel)) ggX8_addClause_X0_indexOf
set_option maxRecDepth 20000 in
theorem ggX8_addClause_X1_push : GoodIn wsX8_addClause wsX1_push := goodIn_r _ [41, 42, 43, 44, 45, 46, 47, 48, 49, 50, 51, 19, 52, 25, 30, 35, 53, 54, 55, 56, 36, 57, 58, 59, 60, 83, 84, 85, 75, 76, 77, 78, 79, 80, 81, 82] rfl (by decide +kernel)
set_option maxRecDepth 20000 in
theorem gX8_addClause_X1_push : GoodIn wsX8_addClause (wsV RX8 113 RX1 yX1_push wsX1_push) := goodIn_app (goodIn_r _ [37, 38, 39, 40] rfl (by decide +kernel)) ggX8_addClause_X1_push
set_option maxRecDepth 20000 in
theorem ggX8_addClause_X0_addGiven : GoodIn wsX8_addClause wsX0_addGiven := goodIn_r _ [64, 30, 35, 36, 57, 58, 59, 60, 65, 27, 28, 19, 29, 75, 76, 77, 78, 79, 80, 81, 82] rfl (by decide +kernel)
set_option maxRecDepth 20000 in
theorem gX8_addClause_X0_addGiven : GoodIn wsX8_addClause (wsV RX8 296 RX0 yX0_addGiven wsX0_addGiven) := goodIn_app (goodIn_r _ [61, 62, 63, 19] rfl (by decide +kernel)) ggX8_addClause_X0_addGiven
theorem dX8_addClause_0 : decode cX8_addClause 0 = .ok (.aload_n 0, 1) := by decide +kernel
theorem dX8_addClause_1 : decode cX8_addClause 1 = .ok (.iload_n 1, 1) := by decide +kernel
theorem dX8_addClause_2 : decode cX8_addClause 2 = .ok (.iload_n 2, 1) := by decide +kernel
theorem dX8_addClause_3 : decode cX8_addClause 3 = .ok (.invokevirtual 139, 3) := by decide +kernel
theorem dX8_addClause_6 : decode cX8_addClause 6 = .ok (.aload_n 0, 1) := by decide +kernel
theorem dX8_addClause_7 : decode cX8_addClause 7 = .ok (.getfield 10, 3) := by decide +kernel
theorem dX8_addClause_10 : decode cX8_addClause 10 = .ok (.invokevirtual 285, 3) := by decide +kernel
theorem dX8_addClause_13 : decode cX8_addClause 13 = .ok (.ifCond .eq 14, 3) := by decide +kernel
theorem dX8_addClause_16 : decode cX8_addClause 16 = .ok (.new 289, 3) := by decide +kernel
theorem dX8_addClause_19 : decode cX8_addClause 19 = .ok (.dup, 1) := by decide +kernel
theorem dX8_addClause_20 : decode cX8_addClause 20 = .ok (.ldc_w 291, 3) := by decide +kernel
theorem dX8_addClause_23 : decode cX8_addClause 23 = .ok (.invokespecial 293, 3) := by decide +kernel
theorem dX8_addClause_26 : decode cX8_addClause 26 = .ok (.athrow, 1) := by decide +kernel
theorem dX8_addClause_27 : decode cX8_addClause 27 = .ok (.aload_n 0, 1) := by decide +kernel
theorem dX8_addClause_28 : decode cX8_addClause 28 = .ok (.getfield 10, 3) := by decide +kernel
theorem dX8_addClause_31 : decode cX8_addClause 31 = .ok (.iload_n 1, 1) := by decide +kernel
theorem dX8_addClause_32 : decode cX8_addClause 32 = .ok (.iload_n 2, 1) := by decide +kernel
theorem dX8_addClause_33 : decode cX8_addClause 33 = .ok (.invokevirtual 143, 3) := by decide +kernel
theorem dX8_addClause_36 : decode cX8_addClause 36 = .ok (.iconst (-1), 1) := by decide +kernel
theorem dX8_addClause_37 : decode cX8_addClause 37 = .ok (.if_icmp .eq 14, 3) := by decide +kernel
theorem dX8_addClause_40 : decode cX8_addClause 40 = .ok (.new 289, 3) := by decide +kernel
theorem dX8_addClause_43 : decode cX8_addClause 43 = .ok (.dup, 1) := by decide +kernel
theorem dX8_addClause_44 : decode cX8_addClause 44 = .ok (.ldc_w 294, 3) := by decide +kernel
theorem dX8_addClause_47 : decode cX8_addClause 47 = .ok (.invokespecial 293, 3) := by decide +kernel
theorem dX8_addClause_50 : decode cX8_addClause 50 = .ok (.athrow, 1) := by decide +kernel
theorem dX8_addClause_51 : decode cX8_addClause 51 = .ok (.aload_n 0, 1) := by decide +kernel
theorem dX8_addClause_52 : decode cX8_addClause 52 = .ok (.getfield 29, 3) := by decide +kernel
theorem dX8_addClause_55 : decode cX8_addClause 55 = .ok (.aload_n 0, 1) := by decide +kernel
theorem dX8_addClause_56 : decode cX8_addClause 56 = .ok (.getfield 10, 3) := by decide +kernel
theorem dX8_addClause_59 : decode cX8_addClause 59 = .ok (.invokevirtual 113, 3) := by decide +kernel
theorem dX8_addClause_62 : decode cX8_addClause 62 = .ok (.aload_n 0, 1) := by decide +kernel
theorem dX8_addClause_63 : decode cX8_addClause 63 = .ok (.getfield 10, 3) := by decide +kernel
theorem dX8_addClause_66 : decode cX8_addClause 66 = .ok (.iload_n 1, 1) := by decide +kernel
theorem dX8_addClause_67 : decode cX8_addClause 67 = .ok (.iload_n 2, 1) := by decide +kernel
theorem dX8_addClause_68 : decode cX8_addClause 68 = .ok (.invokevirtual 296, 3) := by decide +kernel
theorem dX8_addClause_71 : decode cX8_addClause 71 = .ok (.ireturn, 1) := by decide +kernel
set_option maxRecDepth 20000 in
theorem ggX8_resolve_X8_checkClause : GoodIn wsX8_resolve wsX8_checkClause := goodIn_ca (goodIn_r _ [11, 12, 13, 5, 14, 15, 16, 17, 18, 19, 97, 98, 99, 100, 101, 102, 103, 104, 105, 106, 107, 108, 109, 110, 111, 112, 113] rfl (by decide +kernel)) (goodIn_sub (fun _ h => List.mem_cons_of_mem _ (List.mem_append_right _ h)) (by decide +kernel))
set_option maxRecDepth 20000 in
theorem gX8_resolve_X8_checkClause : GoodIn wsX8_resolve (wsV RX8 125 RX8 yX8_checkClause wsX8_checkClause) := goodIn_app (goodIn_r _ [7, 8, 9, 10] rfl (by decide +kernel)) ggX8_resolve_X8_checkClause
set_option maxRecDepth 20000 in
theorem ggX8_resolve_X0_clashOnce : GoodIn wsX8_resolve wsX0_clashOnce := goodIn_r _ [23, 24, 25, 26, 17, 27, 28, 29, 30, 31, 32, 33, 34, 35, 36, 106, 107, 108, 109, 110, 111, 112, 113] rfl (by decide +kernel)
set_option maxRecDepth 20000 in
theorem gX8_resolve_X0_clashOnce : GoodIn wsX8_resolve (wsV RX8 205 RX0 yX0_clashOnce wsX0_clashOnce) := goodIn_app (goodIn_r _ [20, 21, 22, 17] rfl (by decide +kernel)) ggX8_resolve_X0_clashOnce
set_option maxRecDepth 20000 in
theorem ggX8_resolve_X0_hasRoomForResolvent : GoodIn wsX8_resolve wsX0_hasRoomForResolvent := goodIn_r _ [40, 41, 42, 43, 17, 44, 28, 24, 25, 26, 27, 29, 45, 46, 47, 48, 49, 50, 51, 52, 19, 53, 54, 55, 56, 106, 107, 108, 109, 110, 111, 112, 113] rfl (by decide +kernel)
set_option maxRecDepth 20000 in
theorem gX8_resolve_X0_hasRoomForResolvent : GoodIn wsX8_resolve (wsV RX8 301 RX0 yX0_hasRoomForResolvent wsX0_hasRoomForResolvent) := goodIn_app (goodIn_r _ [37, 38, 39, 17] rfl (by decide +kernel)) ggX8_resolve_X0_hasRoomForResolvent
set_option maxRecDepth 20000 in
theorem ggX8_resolve_X1_push : GoodIn wsX8_resolve wsX1_push := goodIn_r _ [61, 62, 63, 64, 65, 66, 67, 68, 69, 70, 71, 17, 72, 73, 19, 28, 74, 75, 76, 77, 29, 78, 79, 80, 81, 114, 115, 116, 106, 107, 108, 109, 110, 111, 112, 113] rfl (by decide +kernel)
set_option maxRecDepth 20000 in
theorem gX8_resolve_X1_push : GoodIn wsX8_resolve (wsV RX8 113 RX1 yX1_push wsX1_push) := goodIn_app (goodIn_r _ [57, 58, 59, 60] rfl (by decide +kernel)) ggX8_resolve_X1_push
set_option maxRecDepth 20000 in
theorem ggX8_resolve_X0_addResolvent : GoodIn wsX8_resolve wsX0_addResolvent := goodIn_r _ [85, 28, 81, 86, 87, 67, 88, 78, 79, 80, 24, 25, 26, 17, 27, 29, 41, 42, 43, 44, 45, 46, 47, 48, 89, 90, 91, 92, 19, 49, 50, 51, 52, 93, 94, 32, 95, 96, 106, 107, 108, 109, 110, 111, 112, 113] rfl (by decide +kernel)
set_option maxRecDepth 20000 in
theorem gX8_resolve_X0_addResolvent : GoodIn wsX8_resolve (wsV RX8 306 RX0 yX0_addResolvent wsX0_addResolvent) := goodIn_app (goodIn_r _ [82, 83, 84, 17] rfl (by decide +kernel)) ggX8_resolve_X0_addResolvent
theorem dX8_resolve_0 : decode cX8_resolve 0 = .ok (.aload_n 0, 1) := by decide +kernel
theorem dX8_resolve_1 : decode cX8_resolve 1 = .ok (.iload_n 1, 1) := by decide +kernel
theorem dX8_resolve_2 : decode cX8_resolve 2 = .ok (.invokevirtual 125, 3) := by decide +kernel
theorem dX8_resolve_5 : decode cX8_resolve 5 = .ok (.aload_n 0, 1) := by decide +kernel
theorem dX8_resolve_6 : decode cX8_resolve 6 = .ok (.iload_n 2, 1) := by decide +kernel
theorem dX8_resolve_7 : decode cX8_resolve 7 = .ok (.invokevirtual 125, 3) := by decide +kernel
theorem dX8_resolve_10 : decode cX8_resolve 10 = .ok (.aload_n 0, 1) := by decide +kernel
theorem dX8_resolve_11 : decode cX8_resolve 11 = .ok (.getfield 10, 3) := by decide +kernel
theorem dX8_resolve_14 : decode cX8_resolve 14 = .ok (.iload_n 1, 1) := by decide +kernel
theorem dX8_resolve_15 : decode cX8_resolve 15 = .ok (.iload_n 2, 1) := by decide +kernel
theorem dX8_resolve_16 : decode cX8_resolve 16 = .ok (.invokevirtual 205, 3) := by decide +kernel
theorem dX8_resolve_19 : decode cX8_resolve 19 = .ok (.ifCond .ne 14, 3) := by decide +kernel
theorem dX8_resolve_22 : decode cX8_resolve 22 = .ok (.new 91, 3) := by decide +kernel
theorem dX8_resolve_25 : decode cX8_resolve 25 = .ok (.dup, 1) := by decide +kernel
theorem dX8_resolve_26 : decode cX8_resolve 26 = .ok (.ldc_w 299, 3) := by decide +kernel
theorem dX8_resolve_29 : decode cX8_resolve 29 = .ok (.invokespecial 95, 3) := by decide +kernel
theorem dX8_resolve_32 : decode cX8_resolve 32 = .ok (.athrow, 1) := by decide +kernel
theorem dX8_resolve_33 : decode cX8_resolve 33 = .ok (.aload_n 0, 1) := by decide +kernel
theorem dX8_resolve_34 : decode cX8_resolve 34 = .ok (.getfield 10, 3) := by decide +kernel
theorem dX8_resolve_37 : decode cX8_resolve 37 = .ok (.iload_n 1, 1) := by decide +kernel
theorem dX8_resolve_38 : decode cX8_resolve 38 = .ok (.iload_n 2, 1) := by decide +kernel
theorem dX8_resolve_39 : decode cX8_resolve 39 = .ok (.invokevirtual 301, 3) := by decide +kernel
theorem dX8_resolve_42 : decode cX8_resolve 42 = .ok (.ifCond .ne 14, 3) := by decide +kernel
theorem dX8_resolve_45 : decode cX8_resolve 45 = .ok (.new 289, 3) := by decide +kernel
theorem dX8_resolve_48 : decode cX8_resolve 48 = .ok (.dup, 1) := by decide +kernel
theorem dX8_resolve_49 : decode cX8_resolve 49 = .ok (.ldc_w 304, 3) := by decide +kernel
theorem dX8_resolve_52 : decode cX8_resolve 52 = .ok (.invokespecial 293, 3) := by decide +kernel
theorem dX8_resolve_55 : decode cX8_resolve 55 = .ok (.athrow, 1) := by decide +kernel
theorem dX8_resolve_56 : decode cX8_resolve 56 = .ok (.aload_n 0, 1) := by decide +kernel
theorem dX8_resolve_57 : decode cX8_resolve 57 = .ok (.getfield 29, 3) := by decide +kernel
theorem dX8_resolve_60 : decode cX8_resolve 60 = .ok (.aload_n 0, 1) := by decide +kernel
theorem dX8_resolve_61 : decode cX8_resolve 61 = .ok (.getfield 10, 3) := by decide +kernel
theorem dX8_resolve_64 : decode cX8_resolve 64 = .ok (.invokevirtual 113, 3) := by decide +kernel
theorem dX8_resolve_67 : decode cX8_resolve 67 = .ok (.aload_n 0, 1) := by decide +kernel
theorem dX8_resolve_68 : decode cX8_resolve 68 = .ok (.getfield 10, 3) := by decide +kernel
theorem dX8_resolve_71 : decode cX8_resolve 71 = .ok (.iload_n 1, 1) := by decide +kernel
theorem dX8_resolve_72 : decode cX8_resolve 72 = .ok (.iload_n 2, 1) := by decide +kernel
theorem dX8_resolve_73 : decode cX8_resolve 73 = .ok (.invokevirtual 306, 3) := by decide +kernel
theorem dX8_resolve_76 : decode cX8_resolve 76 = .ok (.ireturn, 1) := by decide +kernel
set_option maxRecDepth 20000 in
theorem ggX8_saturate_X5_begin : GoodIn wsX8_saturate wsX5_begin := goodIn_r _ [12, 13, 14, 121, 122] rfl (by decide +kernel)
set_option maxRecDepth 20000 in
theorem gX8_saturate_X5_begin : GoodIn wsX8_saturate (wsV RX8 228 RX5 yX5_begin wsX5_begin) := goodIn_app (goodIn_r _ [8, 9, 10, 11] rfl (by decide +kernel)) ggX8_saturate_X5_begin
set_option maxRecDepth 20000 in
theorem ggX8_saturate_X5_findStep : GoodIn wsX8_saturate wsX5_findStep := goodIn_r _ [18, 14, 19, 13, 20, 21, 22, 23, 24, 25, 26, 27, 28, 29, 30, 31, 32, 33, 34, 35, 36, 37, 38, 39, 40, 41, 42, 43, 44, 45, 46, 47, 48, 49, 50, 51, 52, 53, 54, 55, 56, 57, 58, 59, 60, 61, 62, 121, 122, 123, 124, 125, 126, 127, 128, 129, 130] rfl (by decide +kernel)
set_option maxRecDepth 20000 in
theorem gX8_saturate_X5_findStep : GoodIn wsX8_saturate (wsV RX8 229 RX5 yX5_findStep wsX5_findStep) := goodIn_app (goodIn_r _ [15, 16, 17, 11] rfl (by decide +kernel)) ggX8_saturate_X5_findStep
set_option maxRecDepth 20000 in
theorem ggX8_saturate_X1_push : GoodIn wsX8_saturate wsX1_push := goodIn_r _ [67, 68, 69, 70, 71, 72, 73, 74, 75, 76, 77, 23, 78, 79, 25, 30, 80, 81, 82, 83, 31, 84, 85, 86, 87, 131, 132, 133, 123, 124, 125, 126, 127, 128, 129, 130] rfl (by decide +kernel)
set_option maxRecDepth 20000 in
theorem gX8_saturate_X1_push : GoodIn wsX8_saturate (wsV RX8 113 RX1 yX1_push wsX1_push) := goodIn_app (goodIn_r _ [63, 64, 65, 66] rfl (by decide +kernel)) ggX8_saturate_X1_push
set_option maxRecDepth 20000 in
theorem ggX8_saturate_X5_makeSteps : GoodIn wsX8_saturate wsX5_makeSteps := goodIn_r _ [91, 13, 14, 92, 9, 10, 11, 12, 93, 16, 17, 18, 19, 20, 21, 22, 23, 24, 25, 26, 27, 28, 29, 30, 31, 32, 33, 34, 35, 36, 37, 38, 39, 40, 41, 42, 43, 44, 45, 46, 47, 48, 49, 50, 51, 52, 53, 54, 55, 56, 57, 58, 59, 60, 61, 62, 94, 95, 96, 97, 87, 98, 99, 73, 100, 84, 85, 86, 101, 102, 103, 104, 105, 106, 107, 108, 109, 110, 111, 121, 122, 123, 124, 125, 126, 127, 128, 129, 130] rfl (by decide +kernel)
set_option maxRecDepth 20000 in
theorem gX8_saturate_X5_makeSteps : GoodIn wsX8_saturate (wsV RX8 239 RX5 yX5_makeSteps wsX5_makeSteps) := goodIn_app (goodIn_r _ [88, 89, 90, 11] rfl (by decide +kernel)) ggX8_saturate_X5_makeSteps
theorem dX8_saturate_0 : decode cX8_saturate 0 = .ok (.iload_n 1, 1) := by decide +kernel
theorem dX8_saturate_1 : decode cX8_saturate 1 = .ok (.iconst 1, 1) := by decide +kernel
theorem dX8_saturate_2 : decode cX8_saturate 2 = .ok (.if_icmp .lt 9, 3) := by decide +kernel
theorem dX8_saturate_5 : decode cX8_saturate 5 = .ok (.iload_n 1, 1) := by decide +kernel
theorem dX8_saturate_6 : decode cX8_saturate 6 = .ok (.bipush 99, 2) := by decide +kernel
theorem dX8_saturate_8 : decode cX8_saturate 8 = .ok (.if_icmp .le 14, 3) := by decide +kernel
theorem dX8_saturate_11 : decode cX8_saturate 11 = .ok (.new 91, 3) := by decide +kernel
theorem dX8_saturate_14 : decode cX8_saturate 14 = .ok (.dup, 1) := by decide +kernel
theorem dX8_saturate_15 : decode cX8_saturate 15 = .ok (.ldc_w 309, 3) := by decide +kernel
theorem dX8_saturate_18 : decode cX8_saturate 18 = .ok (.invokespecial 95, 3) := by decide +kernel
theorem dX8_saturate_21 : decode cX8_saturate 21 = .ok (.athrow, 1) := by decide +kernel
theorem dX8_saturate_22 : decode cX8_saturate 22 = .ok (.aload_n 0, 1) := by decide +kernel
theorem dX8_saturate_23 : decode cX8_saturate 23 = .ok (.getfield 44, 3) := by decide +kernel
theorem dX8_saturate_26 : decode cX8_saturate 26 = .ok (.invokevirtual 228, 3) := by decide +kernel
theorem dX8_saturate_29 : decode cX8_saturate 29 = .ok (.aload_n 0, 1) := by decide +kernel
theorem dX8_saturate_30 : decode cX8_saturate 30 = .ok (.getfield 44, 3) := by decide +kernel
theorem dX8_saturate_33 : decode cX8_saturate 33 = .ok (.aload_n 0, 1) := by decide +kernel
theorem dX8_saturate_34 : decode cX8_saturate 34 = .ok (.getfield 10, 3) := by decide +kernel
theorem dX8_saturate_37 : decode cX8_saturate 37 = .ok (.invokevirtual 229, 3) := by decide +kernel
theorem dX8_saturate_40 : decode cX8_saturate 40 = .ok (.ifCond .ne 14, 3) := by decide +kernel
theorem dX8_saturate_43 : decode cX8_saturate 43 = .ok (.new 289, 3) := by decide +kernel
theorem dX8_saturate_46 : decode cX8_saturate 46 = .ok (.dup, 1) := by decide +kernel
theorem dX8_saturate_47 : decode cX8_saturate 47 = .ok (.ldc_w 311, 3) := by decide +kernel
theorem dX8_saturate_50 : decode cX8_saturate 50 = .ok (.invokespecial 293, 3) := by decide +kernel
theorem dX8_saturate_53 : decode cX8_saturate 53 = .ok (.athrow, 1) := by decide +kernel
theorem dX8_saturate_54 : decode cX8_saturate 54 = .ok (.aload_n 0, 1) := by decide +kernel
theorem dX8_saturate_55 : decode cX8_saturate 55 = .ok (.getfield 29, 3) := by decide +kernel
theorem dX8_saturate_58 : decode cX8_saturate 58 = .ok (.aload_n 0, 1) := by decide +kernel
theorem dX8_saturate_59 : decode cX8_saturate 59 = .ok (.getfield 10, 3) := by decide +kernel
theorem dX8_saturate_62 : decode cX8_saturate 62 = .ok (.invokevirtual 113, 3) := by decide +kernel
theorem dX8_saturate_65 : decode cX8_saturate 65 = .ok (.aload_n 0, 1) := by decide +kernel
theorem dX8_saturate_66 : decode cX8_saturate 66 = .ok (.getfield 44, 3) := by decide +kernel
theorem dX8_saturate_69 : decode cX8_saturate 69 = .ok (.aload_n 0, 1) := by decide +kernel
theorem dX8_saturate_70 : decode cX8_saturate 70 = .ok (.getfield 10, 3) := by decide +kernel
theorem dX8_saturate_73 : decode cX8_saturate 73 = .ok (.iload_n 1, 1) := by decide +kernel
theorem dX8_saturate_74 : decode cX8_saturate 74 = .ok (.invokevirtual 239, 3) := by decide +kernel
theorem dX8_saturate_77 : decode cX8_saturate 77 = .ok (.ireturn, 1) := by decide +kernel
set_option maxRecDepth 20000 in
theorem ggX8_dropClause_X8_checkClause : GoodIn wsX8_dropClause wsX8_checkClause := goodIn_ca (goodIn_r _ [9, 10, 11, 3, 12, 13, 14, 15, 16, 17, 69, 70, 71, 72, 73, 74, 75, 76, 77, 78, 79, 80, 81, 82, 83, 84, 85] rfl (by decide +kernel)) (goodIn_sub (fun _ h => List.mem_cons_of_mem _ (List.mem_append_right _ h)) (by decide +kernel))
set_option maxRecDepth 20000 in
theorem gX8_dropClause_X8_checkClause : GoodIn wsX8_dropClause (wsV RX8 125 RX8 yX8_checkClause wsX8_checkClause) := goodIn_app (goodIn_r _ [5, 6, 7, 8] rfl (by decide +kernel)) ggX8_dropClause_X8_checkClause
set_option maxRecDepth 20000 in
theorem ggX8_dropClause_X0_isParent : GoodIn wsX8_dropClause wsX0_isParent := goodIn_r _ [21, 17, 22, 23, 78, 79, 80, 81, 82, 83, 84, 85] rfl (by decide +kernel)
set_option maxRecDepth 20000 in
theorem gX8_dropClause_X0_isParent : GoodIn wsX8_dropClause (wsV RX8 313 RX0 yX0_isParent wsX0_isParent) := goodIn_app (goodIn_r _ [18, 19, 20, 15] rfl (by decide +kernel)) ggX8_dropClause_X0_isParent
set_option maxRecDepth 20000 in
theorem ggX8_dropClause_X1_push : GoodIn wsX8_dropClause wsX1_push := goodIn_r _ [28, 29, 30, 31, 32, 33, 34, 35, 36, 37, 38, 15, 39, 40, 17, 41, 42, 43, 44, 45, 46, 22, 23, 47, 48, 86, 87, 88, 78, 79, 80, 81, 82, 83, 84, 85] rfl (by decide +kernel)
set_option maxRecDepth 20000 in
theorem gX8_dropClause_X1_push : GoodIn wsX8_dropClause (wsV RX8 113 RX1 yX1_push wsX1_push) := goodIn_app (goodIn_r _ [24, 25, 26, 27] rfl (by decide +kernel)) ggX8_dropClause_X1_push
set_option maxRecDepth 20000 in
theorem ggX8_dropClause_X0_remove : GoodIn wsX8_dropClause wsX0_remove := goodIn_r _ [52, 17, 41, 46, 22, 23, 47, 48, 78, 79, 80, 81, 82, 83, 84, 85] rfl (by decide +kernel)
set_option maxRecDepth 20000 in
theorem gX8_dropClause_X0_remove : GoodIn wsX8_dropClause (wsV RX8 319 RX0 yX0_remove wsX0_remove) := goodIn_app (goodIn_r _ [49, 50, 51, 15] rfl (by decide +kernel)) ggX8_dropClause_X0_remove
set_option maxRecDepth 20000 in
theorem ggX8_dropClause_X2_count : GoodIn wsX8_dropClause wsX2_count := goodIn_r _ [56, 57, 58, 59, 15, 60, 40, 61, 62, 55, 63, 64, 65, 66, 67, 68, 41, 46, 78, 79, 80, 81, 82, 83, 84, 85] rfl (by decide +kernel)
set_option maxRecDepth 20000 in
theorem gX8_dropClause_X2_count : GoodIn wsX8_dropClause (va_wsS RX8 243 yX2_count wsX2_count) := goodIn_app (goodIn_r _ [53, 54, 55] rfl (by decide +kernel)) ggX8_dropClause_X2_count
theorem dX8_dropClause_0 : decode cX8_dropClause 0 = .ok (.aload_n 0, 1) := by decide +kernel
theorem dX8_dropClause_1 : decode cX8_dropClause 1 = .ok (.iload_n 1, 1) := by decide +kernel
theorem dX8_dropClause_2 : decode cX8_dropClause 2 = .ok (.invokevirtual 125, 3) := by decide +kernel
theorem dX8_dropClause_5 : decode cX8_dropClause 5 = .ok (.aload_n 0, 1) := by decide +kernel
theorem dX8_dropClause_6 : decode cX8_dropClause 6 = .ok (.getfield 10, 3) := by decide +kernel
theorem dX8_dropClause_9 : decode cX8_dropClause 9 = .ok (.iload_n 1, 1) := by decide +kernel
theorem dX8_dropClause_10 : decode cX8_dropClause 10 = .ok (.invokevirtual 313, 3) := by decide +kernel
theorem dX8_dropClause_13 : decode cX8_dropClause 13 = .ok (.ifCond .eq 14, 3) := by decide +kernel
theorem dX8_dropClause_16 : decode cX8_dropClause 16 = .ok (.new 289, 3) := by decide +kernel
theorem dX8_dropClause_19 : decode cX8_dropClause 19 = .ok (.dup, 1) := by decide +kernel
theorem dX8_dropClause_20 : decode cX8_dropClause 20 = .ok (.ldc_w 317, 3) := by decide +kernel
theorem dX8_dropClause_23 : decode cX8_dropClause 23 = .ok (.invokespecial 293, 3) := by decide +kernel
theorem dX8_dropClause_26 : decode cX8_dropClause 26 = .ok (.athrow, 1) := by decide +kernel
theorem dX8_dropClause_27 : decode cX8_dropClause 27 = .ok (.aload_n 0, 1) := by decide +kernel
theorem dX8_dropClause_28 : decode cX8_dropClause 28 = .ok (.getfield 29, 3) := by decide +kernel
theorem dX8_dropClause_31 : decode cX8_dropClause 31 = .ok (.aload_n 0, 1) := by decide +kernel
theorem dX8_dropClause_32 : decode cX8_dropClause 32 = .ok (.getfield 10, 3) := by decide +kernel
theorem dX8_dropClause_35 : decode cX8_dropClause 35 = .ok (.invokevirtual 113, 3) := by decide +kernel
theorem dX8_dropClause_38 : decode cX8_dropClause 38 = .ok (.aload_n 0, 1) := by decide +kernel
theorem dX8_dropClause_39 : decode cX8_dropClause 39 = .ok (.getfield 10, 3) := by decide +kernel
theorem dX8_dropClause_42 : decode cX8_dropClause 42 = .ok (.iload_n 1, 1) := by decide +kernel
theorem dX8_dropClause_43 : decode cX8_dropClause 43 = .ok (.invokevirtual 319, 3) := by decide +kernel
theorem dX8_dropClause_46 : decode cX8_dropClause 46 = .ok (.aload_n 0, 1) := by decide +kernel
theorem dX8_dropClause_47 : decode cX8_dropClause 47 = .ok (.getfield 10, 3) := by decide +kernel
theorem dX8_dropClause_50 : decode cX8_dropClause 50 = .ok (.invokestatic 243, 3) := by decide +kernel
theorem dX8_dropClause_53 : decode cX8_dropClause 53 = .ok (.ireturn, 1) := by decide +kernel
set_option maxRecDepth 20000 in
theorem ggX8_negateVariable_X8_checkVariable : GoodIn wsX8_negateVariable wsX8_checkVariable := goodIn_ca (goodIn_r _ [7, 8, 9, 2, 10, 48, 49, 50, 51, 52, 53, 54, 55, 56, 57, 58, 59, 60, 61, 62, 63, 64] rfl (by decide +kernel)) (goodIn_sub (fun _ h => List.mem_cons_of_mem _ (List.mem_append_right _ h)) (by decide +kernel))
set_option maxRecDepth 20000 in
theorem gX8_negateVariable_X8_checkVariable : GoodIn wsX8_negateVariable (wsV RX8 183 RX8 yX8_checkVariable wsX8_checkVariable) := goodIn_app (goodIn_r _ [3, 4, 5, 6] rfl (by decide +kernel)) ggX8_negateVariable_X8_checkVariable
set_option maxRecDepth 20000 in
theorem ggX8_negateVariable_X1_push : GoodIn wsX8_negateVariable wsX1_push := goodIn_r _ [15, 16, 17, 18, 19, 20, 21, 22, 23, 24, 25, 26, 27, 28, 29, 30, 31, 32, 33, 34, 35, 36, 37, 38, 39, 65, 66, 67, 57, 58, 59, 60, 61, 62, 63, 64] rfl (by decide +kernel)
set_option maxRecDepth 20000 in
theorem gX8_negateVariable_X1_push : GoodIn wsX8_negateVariable (wsV RX8 113 RX1 yX1_push wsX1_push) := goodIn_app (goodIn_r _ [11, 12, 13, 14] rfl (by decide +kernel)) ggX8_negateVariable_X1_push
set_option maxRecDepth 20000 in
theorem ggX8_negateVariable_X0_negate : GoodIn wsX8_negateVariable wsX0_negate := goodIn_r _ [43, 29, 30, 35, 38, 36, 37, 57, 58, 59, 60, 61, 62, 63, 64] rfl (by decide +kernel)
set_option maxRecDepth 20000 in
theorem gX8_negateVariable_X0_negate : GoodIn wsX8_negateVariable (wsV RX8 322 RX0 yX0_negate wsX0_negate) := goodIn_app (goodIn_r _ [40, 41, 42, 26] rfl (by decide +kernel)) ggX8_negateVariable_X0_negate
set_option maxRecDepth 20000 in
theorem ggX8_negateVariable_X0_countTouching : GoodIn wsX8_negateVariable wsX0_countTouching := goodIn_r _ [47, 29, 30, 35, 57, 58, 59, 60, 61, 62, 63, 64] rfl (by decide +kernel)
set_option maxRecDepth 20000 in
theorem gX8_negateVariable_X0_countTouching : GoodIn wsX8_negateVariable (wsV RX8 186 RX0 yX0_countTouching wsX0_countTouching) := goodIn_app (goodIn_r _ [44, 45, 46, 26] rfl (by decide +kernel)) ggX8_negateVariable_X0_countTouching
theorem dX8_negateVariable_0 : decode cX8_negateVariable 0 = .ok (.aload_n 0, 1) := by decide +kernel
theorem dX8_negateVariable_1 : decode cX8_negateVariable 1 = .ok (.iload_n 1, 1) := by decide +kernel
theorem dX8_negateVariable_2 : decode cX8_negateVariable 2 = .ok (.invokevirtual 183, 3) := by decide +kernel
theorem dX8_negateVariable_5 : decode cX8_negateVariable 5 = .ok (.aload_n 0, 1) := by decide +kernel
theorem dX8_negateVariable_6 : decode cX8_negateVariable 6 = .ok (.getfield 29, 3) := by decide +kernel
theorem dX8_negateVariable_9 : decode cX8_negateVariable 9 = .ok (.aload_n 0, 1) := by decide +kernel
theorem dX8_negateVariable_10 : decode cX8_negateVariable 10 = .ok (.getfield 10, 3) := by decide +kernel
theorem dX8_negateVariable_13 : decode cX8_negateVariable 13 = .ok (.invokevirtual 113, 3) := by decide +kernel
theorem dX8_negateVariable_16 : decode cX8_negateVariable 16 = .ok (.aload_n 0, 1) := by decide +kernel
theorem dX8_negateVariable_17 : decode cX8_negateVariable 17 = .ok (.getfield 10, 3) := by decide +kernel
theorem dX8_negateVariable_20 : decode cX8_negateVariable 20 = .ok (.iload_n 1, 1) := by decide +kernel
theorem dX8_negateVariable_21 : decode cX8_negateVariable 21 = .ok (.invokevirtual 322, 3) := by decide +kernel
theorem dX8_negateVariable_24 : decode cX8_negateVariable 24 = .ok (.iconst 1, 1) := by decide +kernel
theorem dX8_negateVariable_25 : decode cX8_negateVariable 25 = .ok (.iload_n 1, 1) := by decide +kernel
theorem dX8_negateVariable_26 : decode cX8_negateVariable 26 = .ok (.ishl, 1) := by decide +kernel
theorem dX8_negateVariable_27 : decode cX8_negateVariable 27 = .ok (.istore_n 2, 1) := by decide +kernel
theorem dX8_negateVariable_28 : decode cX8_negateVariable 28 = .ok (.aload_n 0, 1) := by decide +kernel
theorem dX8_negateVariable_29 : decode cX8_negateVariable 29 = .ok (.getfield 10, 3) := by decide +kernel
theorem dX8_negateVariable_32 : decode cX8_negateVariable 32 = .ok (.iload_n 2, 1) := by decide +kernel
theorem dX8_negateVariable_33 : decode cX8_negateVariable 33 = .ok (.iload_n 2, 1) := by decide +kernel
theorem dX8_negateVariable_34 : decode cX8_negateVariable 34 = .ok (.invokevirtual 186, 3) := by decide +kernel
theorem dX8_negateVariable_37 : decode cX8_negateVariable 37 = .ok (.ireturn, 1) := by decide +kernel
set_option maxRecDepth 20000 in
theorem ggX8_reduce_X1_push : GoodIn wsX8_reduce wsX1_push := goodIn_r _ [7, 8, 9, 10, 11, 12, 13, 14, 15, 16, 17, 18, 19, 20, 21, 22, 23, 24, 25, 26, 27, 28, 29, 30, 31, 65, 66, 67, 68, 69, 70, 71, 72, 73, 74, 75] rfl (by decide +kernel)
set_option maxRecDepth 20000 in
theorem gX8_reduce_X1_push : GoodIn wsX8_reduce (wsV RX8 113 RX1 yX1_push wsX1_push) := goodIn_app (goodIn_r _ [3, 4, 5, 6] rfl (by decide +kernel)) ggX8_reduce_X1_push
set_option maxRecDepth 20000 in
theorem ggX8_reduce_X0_removeSubsumed : GoodIn wsX8_reduce wsX0_removeSubsumed := goodIn_r _ [35, 36, 37, 38, 18, 39, 21, 40, 41, 42, 43, 28, 29, 44, 45, 46, 47, 22, 27, 48, 49, 50, 51, 52, 53, 54, 55, 30, 31, 68, 69, 70, 71, 72, 73, 74, 75] rfl (by decide +kernel)
set_option maxRecDepth 20000 in
theorem gX8_reduce_X0_removeSubsumed : GoodIn wsX8_reduce (wsV RX8 325 RX0 yX0_removeSubsumed wsX0_removeSubsumed) := goodIn_app (goodIn_r _ [32, 33, 34, 18] rfl (by decide +kernel)) ggX8_reduce_X0_removeSubsumed
theorem dX8_reduce_0 : decode cX8_reduce 0 = .ok (.aload_n 0, 1) := by decide +kernel
theorem dX8_reduce_1 : decode cX8_reduce 1 = .ok (.getfield 29, 3) := by decide +kernel
theorem dX8_reduce_4 : decode cX8_reduce 4 = .ok (.aload_n 0, 1) := by decide +kernel
theorem dX8_reduce_5 : decode cX8_reduce 5 = .ok (.getfield 10, 3) := by decide +kernel
theorem dX8_reduce_8 : decode cX8_reduce 8 = .ok (.invokevirtual 113, 3) := by decide +kernel
theorem dX8_reduce_11 : decode cX8_reduce 11 = .ok (.aload_n 0, 1) := by decide +kernel
theorem dX8_reduce_12 : decode cX8_reduce 12 = .ok (.getfield 10, 3) := by decide +kernel
theorem dX8_reduce_15 : decode cX8_reduce 15 = .ok (.invokevirtual 325, 3) := by decide +kernel
theorem dX8_reduce_18 : decode cX8_reduce 18 = .ok (.ireturn, 1) := by decide +kernel
set_option maxRecDepth 20000 in
theorem ggX8_undo_X1_pop : GoodIn wsX8_undo wsX1_pop := goodIn_r _ [10, 11, 12, 13, 14, 15, 16, 17, 18, 19, 20, 21, 22, 23, 24, 25, 26, 27, 28, 29, 30, 40, 41, 42, 43, 44, 45, 46, 47, 48, 49, 50] rfl (by decide +kernel)
set_option maxRecDepth 20000 in
theorem gX8_undo_X1_pop : GoodIn wsX8_undo (wsV RX8 331 RX1 yX1_pop wsX1_pop) := goodIn_app (goodIn_r _ [6, 7, 8, 9] rfl (by decide +kernel)) ggX8_undo_X1_pop
theorem dX8_undo_0 : decode cX8_undo 0 = .ok (.aload_n 0, 1) := by decide +kernel
theorem dX8_undo_1 : decode cX8_undo 1 = .ok (.getfield 29, 3) := by decide +kernel
theorem dX8_undo_4 : decode cX8_undo 4 = .ok (.getfield 328, 3) := by decide +kernel
theorem dX8_undo_7 : decode cX8_undo 7 = .ok (.ifCond .ne 14, 3) := by decide +kernel
theorem dX8_undo_10 : decode cX8_undo 10 = .ok (.new 289, 3) := by decide +kernel
theorem dX8_undo_13 : decode cX8_undo 13 = .ok (.dup, 1) := by decide +kernel
theorem dX8_undo_14 : decode cX8_undo 14 = .ok (.ldc_w 329, 3) := by decide +kernel
theorem dX8_undo_17 : decode cX8_undo 17 = .ok (.invokespecial 293, 3) := by decide +kernel
theorem dX8_undo_20 : decode cX8_undo 20 = .ok (.athrow, 1) := by decide +kernel
theorem dX8_undo_21 : decode cX8_undo 21 = .ok (.aload_n 0, 1) := by decide +kernel
theorem dX8_undo_22 : decode cX8_undo 22 = .ok (.getfield 29, 3) := by decide +kernel
theorem dX8_undo_25 : decode cX8_undo 25 = .ok (.aload_n 0, 1) := by decide +kernel
theorem dX8_undo_26 : decode cX8_undo 26 = .ok (.getfield 10, 3) := by decide +kernel
theorem dX8_undo_29 : decode cX8_undo 29 = .ok (.invokevirtual 331, 3) := by decide +kernel
theorem dX8_undo_32 : decode cX8_undo 32 = .ok (.aload_n 0, 1) := by decide +kernel
theorem dX8_undo_33 : decode cX8_undo 33 = .ok (.getfield 29, 3) := by decide +kernel
theorem dX8_undo_36 : decode cX8_undo 36 = .ok (.getfield 328, 3) := by decide +kernel
theorem dX8_undo_39 : decode cX8_undo 39 = .ok (.ireturn, 1) := by decide +kernel
theorem dX8_undoDepth_0 : decode cX8_undoDepth 0 = .ok (.aload_n 0, 1) := by decide +kernel
theorem dX8_undoDepth_1 : decode cX8_undoDepth 1 = .ok (.getfield 29, 3) := by decide +kernel
theorem dX8_undoDepth_4 : decode cX8_undoDepth 4 = .ok (.getfield 328, 3) := by decide +kernel
theorem dX8_undoDepth_7 : decode cX8_undoDepth 7 = .ok (.ireturn, 1) := by decide +kernel
set_option maxRecDepth 20000 in
theorem ggX8_save_X8_checkSlot : GoodIn wsX8_save wsX8_checkSlot := goodIn_ca (goodIn_r _ [8, 9, 10] rfl (by decide +kernel)) (goodIn_sub (fun _ h => List.mem_cons_of_mem _ (List.mem_append_right _ h)) (by decide +kernel))
set_option maxRecDepth 20000 in
theorem gX8_save_X8_checkSlot : GoodIn wsX8_save (wsV RX8 334 RX8 yX8_checkSlot wsX8_checkSlot) := goodIn_app (goodIn_r _ [4, 5, 6, 7] rfl (by decide +kernel)) ggX8_save_X8_checkSlot
set_option maxRecDepth 20000 in
theorem ggX8_save_X0_copyFrom : GoodIn wsX8_save wsX0_copyFrom := goodIn_r _ [15, 16, 17, 18, 19, 20, 21, 22, 23, 24, 25, 26, 27, 37, 38, 39, 40, 41, 42, 43, 44] rfl (by decide +kernel)
set_option maxRecDepth 20000 in
theorem gX8_save_X0_copyFrom : GoodIn wsX8_save (wsV RX8 101 RX0 yX0_copyFrom wsX0_copyFrom) := goodIn_app (goodIn_r _ [11, 12, 13, 14] rfl (by decide +kernel)) ggX8_save_X0_copyFrom
theorem dX8_save_0 : decode cX8_save 0 = .ok (.aload_n 0, 1) := by decide +kernel
theorem dX8_save_1 : decode cX8_save 1 = .ok (.iload_n 1, 1) := by decide +kernel
theorem dX8_save_2 : decode cX8_save 2 = .ok (.invokevirtual 334, 3) := by decide +kernel
theorem dX8_save_5 : decode cX8_save 5 = .ok (.aload_n 0, 1) := by decide +kernel
theorem dX8_save_6 : decode cX8_save 6 = .ok (.getfield 37, 3) := by decide +kernel
theorem dX8_save_9 : decode cX8_save 9 = .ok (.iload_n 1, 1) := by decide +kernel
theorem dX8_save_10 : decode cX8_save 10 = .ok (.baload, 1) := by decide +kernel
theorem dX8_save_11 : decode cX8_save 11 = .ok (.ifCond .ne 7, 3) := by decide +kernel
theorem dX8_save_14 : decode cX8_save 14 = .ok (.iconst 1, 1) := by decide +kernel
theorem dX8_save_15 : decode cX8_save 15 = .ok (.goto 4, 3) := by decide +kernel
theorem dX8_save_18 : decode cX8_save 18 = .ok (.iconst 0, 1) := by decide +kernel
theorem dX8_save_19 : decode cX8_save 19 = .ok (.istore_n 2, 1) := by decide +kernel
theorem dX8_save_20 : decode cX8_save 20 = .ok (.aload_n 0, 1) := by decide +kernel
theorem dX8_save_21 : decode cX8_save 21 = .ok (.getfield 33, 3) := by decide +kernel
theorem dX8_save_24 : decode cX8_save 24 = .ok (.iload_n 1, 1) := by decide +kernel
theorem dX8_save_25 : decode cX8_save 25 = .ok (.aaload, 1) := by decide +kernel
theorem dX8_save_26 : decode cX8_save 26 = .ok (.aload_n 0, 1) := by decide +kernel
theorem dX8_save_27 : decode cX8_save 27 = .ok (.getfield 10, 3) := by decide +kernel
theorem dX8_save_30 : decode cX8_save 30 = .ok (.invokevirtual 101, 3) := by decide +kernel
theorem dX8_save_33 : decode cX8_save 33 = .ok (.aload_n 0, 1) := by decide +kernel
theorem dX8_save_34 : decode cX8_save 34 = .ok (.getfield 37, 3) := by decide +kernel
theorem dX8_save_37 : decode cX8_save 37 = .ok (.iload_n 1, 1) := by decide +kernel
theorem dX8_save_38 : decode cX8_save 38 = .ok (.iconst 1, 1) := by decide +kernel
theorem dX8_save_39 : decode cX8_save 39 = .ok (.bastore, 1) := by decide +kernel
theorem dX8_save_40 : decode cX8_save 40 = .ok (.iload_n 2, 1) := by decide +kernel
theorem dX8_save_41 : decode cX8_save 41 = .ok (.ireturn, 1) := by decide +kernel
set_option maxRecDepth 20000 in
theorem ggX8_restore_X8_checkSlot : GoodIn wsX8_restore wsX8_checkSlot := goodIn_ca (goodIn_r _ [12, 13, 14] rfl (by decide +kernel)) (goodIn_sub (fun _ h => List.mem_cons_of_mem _ (List.mem_append_right _ h)) (by decide +kernel))
set_option maxRecDepth 20000 in
theorem gX8_restore_X8_checkSlot : GoodIn wsX8_restore (wsV RX8 334 RX8 yX8_checkSlot wsX8_checkSlot) := goodIn_app (goodIn_r _ [8, 9, 10, 11] rfl (by decide +kernel)) ggX8_restore_X8_checkSlot
set_option maxRecDepth 20000 in
theorem ggX8_restore_X0_copyFrom : GoodIn wsX8_restore wsX0_copyFrom := goodIn_r _ [19, 20, 21, 22, 23, 24, 25, 26, 27, 28, 29, 30, 31, 47, 48, 49, 50, 51, 52, 53, 54] rfl (by decide +kernel)
set_option maxRecDepth 20000 in
theorem gX8_restore_X0_copyFrom : GoodIn wsX8_restore (wsV RX8 101 RX0 yX0_copyFrom wsX0_copyFrom) := goodIn_app (goodIn_r _ [15, 16, 17, 18] rfl (by decide +kernel)) ggX8_restore_X0_copyFrom
set_option maxRecDepth 20000 in
theorem ggX8_restore_X1_clear : GoodIn wsX8_restore wsX1_clear := goodIn_r _ [36, 37, 55, 56, 57] rfl (by decide +kernel)
set_option maxRecDepth 20000 in
theorem gX8_restore_X1_clear : GoodIn wsX8_restore (wsV RX8 105 RX1 yX1_clear wsX1_clear) := goodIn_app (goodIn_r _ [32, 33, 34, 35] rfl (by decide +kernel)) ggX8_restore_X1_clear
theorem dX8_restore_0 : decode cX8_restore 0 = .ok (.aload_n 0, 1) := by decide +kernel
theorem dX8_restore_1 : decode cX8_restore 1 = .ok (.iload_n 1, 1) := by decide +kernel
theorem dX8_restore_2 : decode cX8_restore 2 = .ok (.invokevirtual 334, 3) := by decide +kernel
theorem dX8_restore_5 : decode cX8_restore 5 = .ok (.aload_n 0, 1) := by decide +kernel
theorem dX8_restore_6 : decode cX8_restore 6 = .ok (.getfield 37, 3) := by decide +kernel
theorem dX8_restore_9 : decode cX8_restore 9 = .ok (.iload_n 1, 1) := by decide +kernel
theorem dX8_restore_10 : decode cX8_restore 10 = .ok (.baload, 1) := by decide +kernel
theorem dX8_restore_11 : decode cX8_restore 11 = .ok (.ifCond .ne 14, 3) := by decide +kernel
theorem dX8_restore_14 : decode cX8_restore 14 = .ok (.new 289, 3) := by decide +kernel
theorem dX8_restore_17 : decode cX8_restore 17 = .ok (.dup, 1) := by decide +kernel
theorem dX8_restore_18 : decode cX8_restore 18 = .ok (.ldc_w 337, 3) := by decide +kernel
theorem dX8_restore_21 : decode cX8_restore 21 = .ok (.invokespecial 293, 3) := by decide +kernel
theorem dX8_restore_24 : decode cX8_restore 24 = .ok (.athrow, 1) := by decide +kernel
theorem dX8_restore_25 : decode cX8_restore 25 = .ok (.aload_n 0, 1) := by decide +kernel
theorem dX8_restore_26 : decode cX8_restore 26 = .ok (.getfield 10, 3) := by decide +kernel
theorem dX8_restore_29 : decode cX8_restore 29 = .ok (.aload_n 0, 1) := by decide +kernel
theorem dX8_restore_30 : decode cX8_restore 30 = .ok (.getfield 33, 3) := by decide +kernel
theorem dX8_restore_33 : decode cX8_restore 33 = .ok (.iload_n 1, 1) := by decide +kernel
theorem dX8_restore_34 : decode cX8_restore 34 = .ok (.aaload, 1) := by decide +kernel
theorem dX8_restore_35 : decode cX8_restore 35 = .ok (.invokevirtual 101, 3) := by decide +kernel
theorem dX8_restore_38 : decode cX8_restore 38 = .ok (.aload_n 0, 1) := by decide +kernel
theorem dX8_restore_39 : decode cX8_restore 39 = .ok (.getfield 29, 3) := by decide +kernel
theorem dX8_restore_42 : decode cX8_restore 42 = .ok (.invokevirtual 105, 3) := by decide +kernel
theorem dX8_restore_45 : decode cX8_restore 45 = .ok (.aload_n 0, 1) := by decide +kernel
theorem dX8_restore_46 : decode cX8_restore 46 = .ok (.getfield 10, 3) := by decide +kernel
theorem dX8_restore_49 : decode cX8_restore 49 = .ok (.getfield 108, 3) := by decide +kernel
theorem dX8_restore_52 : decode cX8_restore 52 = .ok (.ireturn, 1) := by decide +kernel
set_option maxRecDepth 20000 in
theorem ggX8_writeClause_X8_checkClause : GoodIn wsX8_writeClause wsX8_checkClause := goodIn_ca (goodIn_r _ [10, 11, 12, 2, 13, 14, 15, 16, 17, 18, 30, 31, 32, 33, 34, 35, 36, 37, 38, 39, 40, 41, 42, 43, 44, 45, 46] rfl (by decide +kernel)) (goodIn_sub (fun _ h => List.mem_cons_of_mem _ (List.mem_append_right _ h)) (by decide +kernel))
set_option maxRecDepth 20000 in
theorem gX8_writeClause_X8_checkClause : GoodIn wsX8_writeClause (wsV RX8 125 RX8 yX8_checkClause wsX8_checkClause) := goodIn_app (goodIn_r _ [6, 7, 8, 9] rfl (by decide +kernel)) ggX8_writeClause_X8_checkClause
set_option maxRecDepth 20000 in
theorem ggX8_writeClause_X3_write : GoodIn wsX8_writeClause wsX3_write := goodIn_r _ [23, 24, 25, 26, 27, 22, 28, 29, 47, 48] rfl (by decide +kernel)
set_option maxRecDepth 20000 in
theorem gX8_writeClause_X3_write : GoodIn wsX8_writeClause (wsV RX8 339 RX3 yX3_write wsX3_write) := goodIn_app (goodIn_r _ [19, 20, 21, 22] rfl (by decide +kernel)) ggX8_writeClause_X3_write
theorem dX8_writeClause_0 : decode cX8_writeClause 0 = .ok (.aload_n 0, 1) := by decide +kernel
theorem dX8_writeClause_1 : decode cX8_writeClause 1 = .ok (.iload_n 1, 1) := by decide +kernel
theorem dX8_writeClause_2 : decode cX8_writeClause 2 = .ok (.invokevirtual 125, 3) := by decide +kernel
theorem dX8_writeClause_5 : decode cX8_writeClause 5 = .ok (.aload_n 0, 1) := by decide +kernel
theorem dX8_writeClause_6 : decode cX8_writeClause 6 = .ok (.getfield 58, 3) := by decide +kernel
theorem dX8_writeClause_9 : decode cX8_writeClause 9 = .ok (.aload_n 0, 1) := by decide +kernel
theorem dX8_writeClause_10 : decode cX8_writeClause 10 = .ok (.getfield 10, 3) := by decide +kernel
theorem dX8_writeClause_13 : decode cX8_writeClause 13 = .ok (.getfield 128, 3) := by decide +kernel
theorem dX8_writeClause_16 : decode cX8_writeClause 16 = .ok (.iload_n 1, 1) := by decide +kernel
theorem dX8_writeClause_17 : decode cX8_writeClause 17 = .ok (.iaload, 1) := by decide +kernel
theorem dX8_writeClause_18 : decode cX8_writeClause 18 = .ok (.aload_n 0, 1) := by decide +kernel
theorem dX8_writeClause_19 : decode cX8_writeClause 19 = .ok (.getfield 10, 3) := by decide +kernel
theorem dX8_writeClause_22 : decode cX8_writeClause 22 = .ok (.getfield 132, 3) := by decide +kernel
theorem dX8_writeClause_25 : decode cX8_writeClause 25 = .ok (.iload_n 1, 1) := by decide +kernel
theorem dX8_writeClause_26 : decode cX8_writeClause 26 = .ok (.iaload, 1) := by decide +kernel
theorem dX8_writeClause_27 : decode cX8_writeClause 27 = .ok (.invokevirtual 339, 3) := by decide +kernel
theorem dX8_writeClause_30 : decode cX8_writeClause 30 = .ok (.aload_n 0, 1) := by decide +kernel
theorem dX8_writeClause_31 : decode cX8_writeClause 31 = .ok (.getfield 58, 3) := by decide +kernel
theorem dX8_writeClause_34 : decode cX8_writeClause 34 = .ok (.getfield 342, 3) := by decide +kernel
theorem dX8_writeClause_37 : decode cX8_writeClause 37 = .ok (.ireturn, 1) := by decide +kernel
theorem dX8_outputByte_0 : decode cX8_outputByte 0 = .ok (.iload_n 1, 1) := by decide +kernel
theorem dX8_outputByte_1 : decode cX8_outputByte 1 = .ok (.ifCond .lt 14, 3) := by decide +kernel
theorem dX8_outputByte_4 : decode cX8_outputByte 4 = .ok (.iload_n 1, 1) := by decide +kernel
theorem dX8_outputByte_5 : decode cX8_outputByte 5 = .ok (.aload_n 0, 1) := by decide +kernel
theorem dX8_outputByte_6 : decode cX8_outputByte 6 = .ok (.getfield 58, 3) := by decide +kernel
theorem dX8_outputByte_9 : decode cX8_outputByte 9 = .ok (.getfield 342, 3) := by decide +kernel
theorem dX8_outputByte_12 : decode cX8_outputByte 12 = .ok (.if_icmp .lt 5, 3) := by decide +kernel
theorem dX8_outputByte_15 : decode cX8_outputByte 15 = .ok (.iconst (-1), 1) := by decide +kernel
theorem dX8_outputByte_16 : decode cX8_outputByte 16 = .ok (.ireturn, 1) := by decide +kernel
theorem dX8_outputByte_17 : decode cX8_outputByte 17 = .ok (.aload_n 0, 1) := by decide +kernel
theorem dX8_outputByte_18 : decode cX8_outputByte 18 = .ok (.getfield 58, 3) := by decide +kernel
theorem dX8_outputByte_21 : decode cX8_outputByte 21 = .ok (.getfield 343, 3) := by decide +kernel
theorem dX8_outputByte_24 : decode cX8_outputByte 24 = .ok (.iload_n 1, 1) := by decide +kernel
theorem dX8_outputByte_25 : decode cX8_outputByte 25 = .ok (.baload, 1) := by decide +kernel
theorem dX8_outputByte_26 : decode cX8_outputByte 26 = .ok (.ireturn, 1) := by decide +kernel
set_option maxRecDepth 20000 in
theorem ggX8_checkClause_X0_hasClause : GoodIn wsX8_checkClause wsX0_hasClause := goodIn_r _ [8, 9, 19, 20, 21, 22, 23, 24, 25, 26] rfl (by decide +kernel)
set_option maxRecDepth 20000 in
theorem gX8_checkClause_X0_hasClause : GoodIn wsX8_checkClause (wsV RX8 347 RX0 yX0_hasClause wsX0_hasClause) := goodIn_app (goodIn_r _ [4, 5, 6, 7] rfl (by decide +kernel)) ggX8_checkClause_X0_hasClause
theorem dX8_checkClause_0 : decode cX8_checkClause 0 = .ok (.aload_n 0, 1) := by decide +kernel
theorem dX8_checkClause_1 : decode cX8_checkClause 1 = .ok (.getfield 10, 3) := by decide +kernel
theorem dX8_checkClause_4 : decode cX8_checkClause 4 = .ok (.iload_n 1, 1) := by decide +kernel
theorem dX8_checkClause_5 : decode cX8_checkClause 5 = .ok (.invokevirtual 347, 3) := by decide +kernel
theorem dX8_checkClause_8 : decode cX8_checkClause 8 = .ok (.ifCond .ne 14, 3) := by decide +kernel
theorem dX8_checkClause_11 : decode cX8_checkClause 11 = .ok (.new 350, 3) := by decide +kernel
theorem dX8_checkClause_14 : decode cX8_checkClause 14 = .ok (.dup, 1) := by decide +kernel
theorem dX8_checkClause_15 : decode cX8_checkClause 15 = .ok (.ldc_w 352, 3) := by decide +kernel
theorem dX8_checkClause_18 : decode cX8_checkClause 18 = .ok (.invokespecial 354, 3) := by decide +kernel
theorem dX8_checkClause_21 : decode cX8_checkClause 21 = .ok (.athrow, 1) := by decide +kernel
theorem dX8_checkClause_22 : decode cX8_checkClause 22 = .ok (.return_, 1) := by decide +kernel
theorem dX8_checkVariable_0 : decode cX8_checkVariable 0 = .ok (.iload_n 1, 1) := by decide +kernel
theorem dX8_checkVariable_1 : decode cX8_checkVariable 1 = .ok (.ifCond .lt 14, 3) := by decide +kernel
theorem dX8_checkVariable_4 : decode cX8_checkVariable 4 = .ok (.iload_n 1, 1) := by decide +kernel
theorem dX8_checkVariable_5 : decode cX8_checkVariable 5 = .ok (.aload_n 0, 1) := by decide +kernel
theorem dX8_checkVariable_6 : decode cX8_checkVariable 6 = .ok (.getfield 10, 3) := by decide +kernel
theorem dX8_checkVariable_9 : decode cX8_checkVariable 9 = .ok (.getfield 122, 3) := by decide +kernel
theorem dX8_checkVariable_12 : decode cX8_checkVariable 12 = .ok (.if_icmp .lt 14, 3) := by decide +kernel
theorem dX8_checkVariable_15 : decode cX8_checkVariable 15 = .ok (.new 350, 3) := by decide +kernel
theorem dX8_checkVariable_18 : decode cX8_checkVariable 18 = .ok (.dup, 1) := by decide +kernel
theorem dX8_checkVariable_19 : decode cX8_checkVariable 19 = .ok (.ldc_w 355, 3) := by decide +kernel
theorem dX8_checkVariable_22 : decode cX8_checkVariable 22 = .ok (.invokespecial 354, 3) := by decide +kernel
theorem dX8_checkVariable_25 : decode cX8_checkVariable 25 = .ok (.athrow, 1) := by decide +kernel
theorem dX8_checkVariable_26 : decode cX8_checkVariable 26 = .ok (.return_, 1) := by decide +kernel
theorem dX8_checkSlot_0 : decode cX8_checkSlot 0 = .ok (.iload_n 1, 1) := by decide +kernel
theorem dX8_checkSlot_1 : decode cX8_checkSlot 1 = .ok (.ifCond .lt 8, 3) := by decide +kernel
theorem dX8_checkSlot_4 : decode cX8_checkSlot 4 = .ok (.iload_n 1, 1) := by decide +kernel
theorem dX8_checkSlot_5 : decode cX8_checkSlot 5 = .ok (.iconst 2, 1) := by decide +kernel
theorem dX8_checkSlot_6 : decode cX8_checkSlot 6 = .ok (.if_icmp .lt 14, 3) := by decide +kernel
theorem dX8_checkSlot_9 : decode cX8_checkSlot 9 = .ok (.new 350, 3) := by decide +kernel
theorem dX8_checkSlot_12 : decode cX8_checkSlot 12 = .ok (.dup, 1) := by decide +kernel
theorem dX8_checkSlot_13 : decode cX8_checkSlot 13 = .ok (.ldc_w 357, 3) := by decide +kernel
theorem dX8_checkSlot_16 : decode cX8_checkSlot 16 = .ok (.invokespecial 354, 3) := by decide +kernel
theorem dX8_checkSlot_19 : decode cX8_checkSlot 19 = .ok (.athrow, 1) := by decide +kernel
theorem dX8_checkSlot_20 : decode cX8_checkSlot 20 = .ok (.return_, 1) := by decide +kernel
set_option maxRecDepth 20000 in
theorem ggX8_checkMask_X0_isMask : GoodIn wsX8_checkMask wsX0_isMask := goodIn_r _ [8, 9, 10, 11, 7, 12, 13, 23, 24, 25, 26, 27, 28, 29, 30] rfl (by decide +kernel)
set_option maxRecDepth 20000 in
theorem gX8_checkMask_X0_isMask : GoodIn wsX8_checkMask (wsV RX8 359 RX0 yX0_isMask wsX0_isMask) := goodIn_app (goodIn_r _ [4, 5, 6, 7] rfl (by decide +kernel)) ggX8_checkMask_X0_isMask
theorem dX8_checkMask_0 : decode cX8_checkMask 0 = .ok (.aload_n 0, 1) := by decide +kernel
theorem dX8_checkMask_1 : decode cX8_checkMask 1 = .ok (.getfield 10, 3) := by decide +kernel
theorem dX8_checkMask_4 : decode cX8_checkMask 4 = .ok (.iload_n 1, 1) := by decide +kernel
theorem dX8_checkMask_5 : decode cX8_checkMask 5 = .ok (.invokevirtual 359, 3) := by decide +kernel
theorem dX8_checkMask_8 : decode cX8_checkMask 8 = .ok (.ifCond .ne 14, 3) := by decide +kernel
theorem dX8_checkMask_11 : decode cX8_checkMask 11 = .ok (.new 91, 3) := by decide +kernel
theorem dX8_checkMask_14 : decode cX8_checkMask 14 = .ok (.dup, 1) := by decide +kernel
theorem dX8_checkMask_15 : decode cX8_checkMask 15 = .ok (.ldc_w 362, 3) := by decide +kernel
theorem dX8_checkMask_18 : decode cX8_checkMask 18 = .ok (.invokespecial 95, 3) := by decide +kernel
theorem dX8_checkMask_21 : decode cX8_checkMask 21 = .ok (.athrow, 1) := by decide +kernel
theorem dX8_checkMask_22 : decode cX8_checkMask 22 = .ok (.return_, 1) := by decide +kernel
set_option maxRecDepth 20000 in
theorem ggX8_checkLiterals_X8_checkMask : GoodIn wsX8_checkLiterals wsX8_checkMask := goodIn_ca (goodIn_r _ [7, 1, 2, 8, 9, 10, 11, 12, 13, 14, 15, 16, 17, 18, 19, 20, 21, 22, 23, 24, 25, 26, 27, 28, 29, 30, 31, 32, 33, 34, 35] rfl (by decide +kernel)) (goodIn_sub (fun _ h => List.mem_cons_of_mem _ (List.mem_append_right _ h)) (by decide +kernel))
set_option maxRecDepth 20000 in
theorem gX8_checkLiterals_X8_checkMask : GoodIn wsX8_checkLiterals (wsV RX8 251 RX8 yX8_checkMask wsX8_checkMask) := goodIn_app (goodIn_r _ [3, 4, 5, 6] rfl (by decide +kernel)) ggX8_checkLiterals_X8_checkMask
theorem dX8_checkLiterals_0 : decode cX8_checkLiterals 0 = .ok (.aload_n 0, 1) := by decide +kernel
theorem dX8_checkLiterals_1 : decode cX8_checkLiterals 1 = .ok (.iload_n 1, 1) := by decide +kernel
theorem dX8_checkLiterals_2 : decode cX8_checkLiterals 2 = .ok (.invokevirtual 251, 3) := by decide +kernel
theorem dX8_checkLiterals_5 : decode cX8_checkLiterals 5 = .ok (.aload_n 0, 1) := by decide +kernel
theorem dX8_checkLiterals_6 : decode cX8_checkLiterals 6 = .ok (.iload_n 2, 1) := by decide +kernel
theorem dX8_checkLiterals_7 : decode cX8_checkLiterals 7 = .ok (.invokevirtual 251, 3) := by decide +kernel
theorem dX8_checkLiterals_10 : decode cX8_checkLiterals 10 = .ok (.iload_n 1, 1) := by decide +kernel
theorem dX8_checkLiterals_11 : decode cX8_checkLiterals 11 = .ok (.iload_n 2, 1) := by decide +kernel
theorem dX8_checkLiterals_12 : decode cX8_checkLiterals 12 = .ok (.iand, 1) := by decide +kernel
theorem dX8_checkLiterals_13 : decode cX8_checkLiterals 13 = .ok (.ifCond .eq 14, 3) := by decide +kernel
theorem dX8_checkLiterals_16 : decode cX8_checkLiterals 16 = .ok (.new 91, 3) := by decide +kernel
theorem dX8_checkLiterals_19 : decode cX8_checkLiterals 19 = .ok (.dup, 1) := by decide +kernel
theorem dX8_checkLiterals_20 : decode cX8_checkLiterals 20 = .ok (.ldc_w 364, 3) := by decide +kernel
theorem dX8_checkLiterals_23 : decode cX8_checkLiterals 23 = .ok (.invokespecial 95, 3) := by decide +kernel
theorem dX8_checkLiterals_26 : decode cX8_checkLiterals 26 = .ok (.athrow, 1) := by decide +kernel
theorem dX8_checkLiterals_27 : decode cX8_checkLiterals 27 = .ok (.return_, 1) := by decide +kernel
theorem dX9_init_0 : decode cX9_init 0 = .ok (.aload_n 0, 1) := by decide +kernel
theorem dX9_init_1 : decode cX9_init 1 = .ok (.invokespecial 3, 3) := by decide +kernel
theorem dX9_init_4 : decode cX9_init 4 = .ok (.aload_n 0, 1) := by decide +kernel
theorem dX9_init_5 : decode cX9_init 5 = .ok (.sipush 917, 3) := by decide +kernel
theorem dX9_init_8 : decode cX9_init 8 = .ok (.newarray .int, 2) := by decide +kernel
theorem dX9_init_10 : decode cX9_init 10 = .ok (.putfield 9, 3) := by decide +kernel
theorem dX9_init_13 : decode cX9_init 13 = .ok (.aload_n 0, 1) := by decide +kernel
theorem dX9_init_14 : decode cX9_init 14 = .ok (.sipush 917, 3) := by decide +kernel
theorem dX9_init_17 : decode cX9_init 17 = .ok (.newarray .int, 2) := by decide +kernel
theorem dX9_init_19 : decode cX9_init 19 = .ok (.putfield 13, 3) := by decide +kernel
theorem dX9_init_22 : decode cX9_init 22 = .ok (.aload_n 0, 1) := by decide +kernel
theorem dX9_init_23 : decode cX9_init 23 = .ok (.sipush 917, 3) := by decide +kernel
theorem dX9_init_26 : decode cX9_init 26 = .ok (.newarray .int, 2) := by decide +kernel
theorem dX9_init_28 : decode cX9_init 28 = .ok (.putfield 16, 3) := by decide +kernel
theorem dX9_init_31 : decode cX9_init 31 = .ok (.aload_n 0, 1) := by decide +kernel
theorem dX9_init_32 : decode cX9_init 32 = .ok (.sipush 7336, 3) := by decide +kernel
theorem dX9_init_35 : decode cX9_init 35 = .ok (.newarray .int, 2) := by decide +kernel
theorem dX9_init_37 : decode cX9_init 37 = .ok (.putfield 19, 3) := by decide +kernel
theorem dX9_init_40 : decode cX9_init 40 = .ok (.aload_n 0, 1) := by decide +kernel
theorem dX9_init_41 : decode cX9_init 41 = .ok (.sipush 1834, 3) := by decide +kernel
theorem dX9_init_44 : decode cX9_init 44 = .ok (.newarray .int, 2) := by decide +kernel
theorem dX9_init_46 : decode cX9_init 46 = .ok (.putfield 22, 3) := by decide +kernel
theorem dX9_init_49 : decode cX9_init 49 = .ok (.aload_n 0, 1) := by decide +kernel
theorem dX9_init_50 : decode cX9_init 50 = .ok (.iconst 2, 1) := by decide +kernel
theorem dX9_init_51 : decode cX9_init 51 = .ok (.newarray .boolean, 2) := by decide +kernel
theorem dX9_init_53 : decode cX9_init 53 = .ok (.putfield 25, 3) := by decide +kernel
theorem dX9_init_56 : decode cX9_init 56 = .ok (.aload_n 0, 1) := by decide +kernel
theorem dX9_init_57 : decode cX9_init 57 = .ok (.getfield 9, 3) := by decide +kernel
theorem dX9_init_60 : decode cX9_init 60 = .ok (.iconst 0, 1) := by decide +kernel
theorem dX9_init_61 : decode cX9_init 61 = .ok (.iconst 4, 1) := by decide +kernel
theorem dX9_init_62 : decode cX9_init 62 = .ok (.iastore, 1) := by decide +kernel
theorem dX9_init_63 : decode cX9_init 63 = .ok (.aload_n 0, 1) := by decide +kernel
theorem dX9_init_64 : decode cX9_init 64 = .ok (.bipush 60, 2) := by decide +kernel
theorem dX9_init_66 : decode cX9_init 66 = .ok (.newarray .int, 2) := by decide +kernel
theorem dX9_init_68 : decode cX9_init 68 = .ok (.putfield 29, 3) := by decide +kernel
theorem dX9_init_71 : decode cX9_init 71 = .ok (.aload_n 0, 1) := by decide +kernel
theorem dX9_init_72 : decode cX9_init 72 = .ok (.bipush 60, 2) := by decide +kernel
theorem dX9_init_74 : decode cX9_init 74 = .ok (.newarray .boolean, 2) := by decide +kernel
theorem dX9_init_76 : decode cX9_init 76 = .ok (.putfield 32, 3) := by decide +kernel
theorem dX9_init_79 : decode cX9_init 79 = .ok (.aload_n 0, 1) := by decide +kernel
theorem dX9_init_80 : decode cX9_init 80 = .ok (.sipush 500, 3) := by decide +kernel
theorem dX9_init_83 : decode cX9_init 83 = .ok (.newarray .byte, 2) := by decide +kernel
theorem dX9_init_85 : decode cX9_init 85 = .ok (.putfield 35, 3) := by decide +kernel
theorem dX9_init_88 : decode cX9_init 88 = .ok (.aload_n 0, 1) := by decide +kernel
theorem dX9_init_89 : decode cX9_init 89 = .ok (.iconst (-1), 1) := by decide +kernel
theorem dX9_init_90 : decode cX9_init 90 = .ok (.putfield 39, 3) := by decide +kernel
theorem dX9_init_93 : decode cX9_init 93 = .ok (.aload_n 0, 1) := by decide +kernel
theorem dX9_init_94 : decode cX9_init 94 = .ok (.bipush 64, 2) := by decide +kernel
theorem dX9_init_96 : decode cX9_init 96 = .ok (.newarray .byte, 2) := by decide +kernel
theorem dX9_init_98 : decode cX9_init 98 = .ok (.putfield 43, 3) := by decide +kernel
theorem dX9_init_101 : decode cX9_init 101 = .ok (.return_, 1) := by decide +kernel
theorem dX9_thrown_0 : decode cX9_thrown 0 = .ok (.aload_n 0, 1) := by decide +kernel
theorem dX9_thrown_1 : decode cX9_thrown 1 = .ok (.getfield 46, 3) := by decide +kernel
theorem dX9_thrown_4 : decode cX9_thrown 4 = .ok (.ireturn, 1) := by decide +kernel
theorem dX9_throwsIf_0 : decode cX9_throwsIf 0 = .ok (.iload_n 1, 1) := by decide +kernel
theorem dX9_throwsIf_1 : decode cX9_throwsIf 1 = .ok (.ifCond .eq 15, 3) := by decide +kernel
theorem dX9_throwsIf_4 : decode cX9_throwsIf 4 = .ok (.aload_n 0, 1) := by decide +kernel
theorem dX9_throwsIf_5 : decode cX9_throwsIf 5 = .ok (.getfield 46, 3) := by decide +kernel
theorem dX9_throwsIf_8 : decode cX9_throwsIf 8 = .ok (.ifCond .ne 8, 3) := by decide +kernel
theorem dX9_throwsIf_11 : decode cX9_throwsIf 11 = .ok (.aload_n 0, 1) := by decide +kernel
theorem dX9_throwsIf_12 : decode cX9_throwsIf 12 = .ok (.iload_n 2, 1) := by decide +kernel
theorem dX9_throwsIf_13 : decode cX9_throwsIf 13 = .ok (.putfield 46, 3) := by decide +kernel
theorem dX9_throwsIf_16 : decode cX9_throwsIf 16 = .ok (.aload_n 0, 1) := by decide +kernel
theorem dX9_throwsIf_17 : decode cX9_throwsIf 17 = .ok (.getfield 46, 3) := by decide +kernel
theorem dX9_throwsIf_20 : decode cX9_throwsIf 20 = .ok (.ifCond .eq 7, 3) := by decide +kernel
theorem dX9_throwsIf_23 : decode cX9_throwsIf 23 = .ok (.iconst 1, 1) := by decide +kernel
theorem dX9_throwsIf_24 : decode cX9_throwsIf 24 = .ok (.goto 4, 3) := by decide +kernel
theorem dX9_throwsIf_27 : decode cX9_throwsIf 27 = .ok (.iconst 0, 1) := by decide +kernel
theorem dX9_throwsIf_28 : decode cX9_throwsIf 28 = .ok (.ireturn, 1) := by decide +kernel
theorem dX9_in_0 : decode cX9_in 0 = .ok (.lload_n 0, 1) := by decide +kernel
theorem dX9_in_1 : decode cX9_in 1 = .ok (.lload_n 2, 1) := by decide +kernel
theorem dX9_in_2 : decode cX9_in 2 = .ok (.lcmp, 1) := by decide +kernel
theorem dX9_in_3 : decode cX9_in 3 = .ok (.ifCond .lt 14, 3) := by decide +kernel
theorem dX9_in_6 : decode cX9_in 6 = .ok (.lload_n 0, 1) := by decide +kernel
theorem dX9_in_7 : decode cX9_in 7 = .ok (.lload 4, 2) := by decide +kernel
theorem dX9_in_9 : decode cX9_in 9 = .ok (.lcmp, 1) := by decide +kernel
theorem dX9_in_10 : decode cX9_in 10 = .ok (.ifCond .gt 7, 3) := by decide +kernel
theorem dX9_in_13 : decode cX9_in 13 = .ok (.iconst 1, 1) := by decide +kernel
theorem dX9_in_14 : decode cX9_in 14 = .ok (.goto 4, 3) := by decide +kernel
theorem dX9_in_17 : decode cX9_in 17 = .ok (.iconst 0, 1) := by decide +kernel
theorem dX9_in_18 : decode cX9_in 18 = .ok (.ireturn, 1) := by decide +kernel
theorem dX9_wide_0 : decode cX9_wide 0 = .ok (.aload_n 0, 1) := by decide +kernel
theorem dX9_wide_1 : decode cX9_wide 1 = .ok (.getfield 9, 3) := by decide +kernel
theorem dX9_wide_4 : decode cX9_wide 4 = .ok (.iconst 0, 1) := by decide +kernel
theorem dX9_wide_5 : decode cX9_wide 5 = .ok (.iaload, 1) := by decide +kernel
theorem dX9_wide_6 : decode cX9_wide 6 = .ok (.ireturn, 1) := by decide +kernel
theorem dX9_many_0 : decode cX9_many 0 = .ok (.aload_n 0, 1) := by decide +kernel
theorem dX9_many_1 : decode cX9_many 1 = .ok (.getfield 9, 3) := by decide +kernel
theorem dX9_many_4 : decode cX9_many 4 = .ok (.iconst 1, 1) := by decide +kernel
theorem dX9_many_5 : decode cX9_many 5 = .ok (.iaload, 1) := by decide +kernel
theorem dX9_many_6 : decode cX9_many 6 = .ok (.ireturn, 1) := by decide +kernel
theorem dX9_sign_0 : decode cX9_sign 0 = .ok (.aload_n 0, 1) := by decide +kernel
theorem dX9_sign_1 : decode cX9_sign 1 = .ok (.getfield 9, 3) := by decide +kernel
theorem dX9_sign_4 : decode cX9_sign 4 = .ok (.iconst 2, 1) := by decide +kernel
theorem dX9_sign_5 : decode cX9_sign 5 = .ok (.iload_n 1, 1) := by decide +kernel
theorem dX9_sign_6 : decode cX9_sign 6 = .ok (.bipush 12, 2) := by decide +kernel
theorem dX9_sign_8 : decode cX9_sign 8 = .ok (.imul, 1) := by decide +kernel
theorem dX9_sign_9 : decode cX9_sign 9 = .ok (.iadd, 1) := by decide +kernel
theorem dX9_sign_10 : decode cX9_sign 10 = .ok (.iload_n 2, 1) := by decide +kernel
theorem dX9_sign_11 : decode cX9_sign 11 = .ok (.iadd, 1) := by decide +kernel
theorem dX9_sign_12 : decode cX9_sign 12 = .ok (.iaload, 1) := by decide +kernel
theorem dX9_sign_13 : decode cX9_sign 13 = .ok (.ireturn, 1) := by decide +kernel
theorem dX9_puts_0 : decode cX9_puts 0 = .ok (.aload_n 0, 1) := by decide +kernel
theorem dX9_puts_1 : decode cX9_puts 1 = .ok (.getfield 9, 3) := by decide +kernel
theorem dX9_puts_4 : decode cX9_puts 4 = .ok (.iconst 2, 1) := by decide +kernel
theorem dX9_puts_5 : decode cX9_puts 5 = .ok (.iload_n 1, 1) := by decide +kernel
theorem dX9_puts_6 : decode cX9_puts 6 = .ok (.bipush 12, 2) := by decide +kernel
theorem dX9_puts_8 : decode cX9_puts 8 = .ok (.imul, 1) := by decide +kernel
theorem dX9_puts_9 : decode cX9_puts 9 = .ok (.iadd, 1) := by decide +kernel
theorem dX9_puts_10 : decode cX9_puts 10 = .ok (.iload_n 2, 1) := by decide +kernel
theorem dX9_puts_11 : decode cX9_puts 11 = .ok (.iadd, 1) := by decide +kernel
theorem dX9_puts_12 : decode cX9_puts 12 = .ok (.iload_n 3, 1) := by decide +kernel
theorem dX9_puts_13 : decode cX9_puts 13 = .ok (.iastore, 1) := by decide +kernel
theorem dX9_puts_14 : decode cX9_puts 14 = .ok (.return_, 1) := by decide +kernel
theorem dX9_copies_0 : decode cX9_copies 0 = .ok (.iconst 0, 1) := by decide +kernel
theorem dX9_copies_1 : decode cX9_copies 1 = .ok (.istore 4, 2) := by decide +kernel
theorem dX9_copies_3 : decode cX9_copies 3 = .ok (.iload 4, 2) := by decide +kernel
theorem dX9_copies_5 : decode cX9_copies 5 = .ok (.sipush 917, 3) := by decide +kernel
theorem dX9_copies_8 : decode cX9_copies 8 = .ok (.if_icmp .ge 29, 3) := by decide +kernel
theorem dX9_copies_11 : decode cX9_copies 11 = .ok (.aload_n 2, 1) := by decide +kernel
theorem dX9_copies_12 : decode cX9_copies 12 = .ok (.iload_n 3, 1) := by decide +kernel
theorem dX9_copies_13 : decode cX9_copies 13 = .ok (.sipush 917, 3) := by decide +kernel
theorem dX9_copies_16 : decode cX9_copies 16 = .ok (.imul, 1) := by decide +kernel
theorem dX9_copies_17 : decode cX9_copies 17 = .ok (.iload 4, 2) := by decide +kernel
theorem dX9_copies_19 : decode cX9_copies 19 = .ok (.iadd, 1) := by decide +kernel
theorem dX9_copies_20 : decode cX9_copies 20 = .ok (.aload_n 0, 1) := by decide +kernel
theorem dX9_copies_21 : decode cX9_copies 21 = .ok (.iload_n 1, 1) := by decide +kernel
theorem dX9_copies_22 : decode cX9_copies 22 = .ok (.sipush 917, 3) := by decide +kernel
theorem dX9_copies_25 : decode cX9_copies 25 = .ok (.imul, 1) := by decide +kernel
theorem dX9_copies_26 : decode cX9_copies 26 = .ok (.iload 4, 2) := by decide +kernel
theorem dX9_copies_28 : decode cX9_copies 28 = .ok (.iadd, 1) := by decide +kernel
theorem dX9_copies_29 : decode cX9_copies 29 = .ok (.iaload, 1) := by decide +kernel
theorem dX9_copies_30 : decode cX9_copies 30 = .ok (.iastore, 1) := by decide +kernel
theorem dX9_copies_31 : decode cX9_copies 31 = .ok (.iinc 4 1, 3) := by decide +kernel
theorem dX9_copies_34 : decode cX9_copies 34 = .ok (.goto (-31), 3) := by decide +kernel
theorem dX9_copies_37 : decode cX9_copies 37 = .ok (.return_, 1) := by decide +kernel
set_option maxRecDepth 20000 in
theorem ggX9_keeps_X9_copies : GoodIn wsX9_keeps wsX9_copies := goodIn_r _ [6] rfl (by decide +kernel)
set_option maxRecDepth 20000 in
theorem gX9_keeps_X9_copies : GoodIn wsX9_keeps (va_wsS RX9 49 yX9_copies wsX9_copies) := goodIn_app (goodIn_r _ [3, 4, 5] rfl (by decide +kernel)) ggX9_keeps_X9_copies
theorem dX9_keeps_0 : decode cX9_keeps 0 = .ok (.aload_n 0, 1) := by decide +kernel
theorem dX9_keeps_1 : decode cX9_keeps 1 = .ok (.getfield 9, 3) := by decide +kernel
theorem dX9_keeps_4 : decode cX9_keeps 4 = .ok (.iconst 0, 1) := by decide +kernel
theorem dX9_keeps_5 : decode cX9_keeps 5 = .ok (.aload_n 0, 1) := by decide +kernel
theorem dX9_keeps_6 : decode cX9_keeps 6 = .ok (.getfield 13, 3) := by decide +kernel
theorem dX9_keeps_9 : decode cX9_keeps 9 = .ok (.iconst 0, 1) := by decide +kernel
theorem dX9_keeps_10 : decode cX9_keeps 10 = .ok (.invokestatic 49, 3) := by decide +kernel
theorem dX9_keeps_13 : decode cX9_keeps 13 = .ok (.return_, 1) := by decide +kernel
set_option maxRecDepth 20000 in
theorem ggX9_records_X9_copies : GoodIn wsX9_records wsX9_copies := goodIn_r _ [7] rfl (by decide +kernel)
set_option maxRecDepth 20000 in
theorem gX9_records_X9_copies : GoodIn wsX9_records (va_wsS RX9 49 yX9_copies wsX9_copies) := goodIn_app (goodIn_r _ [4, 5, 6] rfl (by decide +kernel)) ggX9_records_X9_copies
theorem dX9_records_0 : decode cX9_records 0 = .ok (.aload_n 0, 1) := by decide +kernel
theorem dX9_records_1 : decode cX9_records 1 = .ok (.getfield 53, 3) := by decide +kernel
theorem dX9_records_4 : decode cX9_records 4 = .ok (.bipush 8, 2) := by decide +kernel
theorem dX9_records_6 : decode cX9_records 6 = .ok (.if_icmp .ne 42, 3) := by decide +kernel
theorem dX9_records_9 : decode cX9_records 9 = .ok (.iconst 1, 1) := by decide +kernel
theorem dX9_records_10 : decode cX9_records 10 = .ok (.istore_n 2, 1) := by decide +kernel
theorem dX9_records_11 : decode cX9_records 11 = .ok (.iload_n 2, 1) := by decide +kernel
theorem dX9_records_12 : decode cX9_records 12 = .ok (.bipush 8, 2) := by decide +kernel
theorem dX9_records_14 : decode cX9_records 14 = .ok (.if_icmp .ge 24, 3) := by decide +kernel
theorem dX9_records_17 : decode cX9_records 17 = .ok (.aload_n 0, 1) := by decide +kernel
theorem dX9_records_18 : decode cX9_records 18 = .ok (.getfield 19, 3) := by decide +kernel
theorem dX9_records_21 : decode cX9_records 21 = .ok (.iload_n 2, 1) := by decide +kernel
theorem dX9_records_22 : decode cX9_records 22 = .ok (.aload_n 0, 1) := by decide +kernel
theorem dX9_records_23 : decode cX9_records 23 = .ok (.getfield 19, 3) := by decide +kernel
theorem dX9_records_26 : decode cX9_records 26 = .ok (.iload_n 2, 1) := by decide +kernel
theorem dX9_records_27 : decode cX9_records 27 = .ok (.iconst 1, 1) := by decide +kernel
theorem dX9_records_28 : decode cX9_records 28 = .ok (.isub, 1) := by decide +kernel
theorem dX9_records_29 : decode cX9_records 29 = .ok (.invokestatic 49, 3) := by decide +kernel
theorem dX9_records_32 : decode cX9_records 32 = .ok (.iinc 2 1, 3) := by decide +kernel
theorem dX9_records_35 : decode cX9_records 35 = .ok (.goto (-24), 3) := by decide +kernel
theorem dX9_records_38 : decode cX9_records 38 = .ok (.aload_n 0, 1) := by decide +kernel
theorem dX9_records_39 : decode cX9_records 39 = .ok (.dup, 1) := by decide +kernel
theorem dX9_records_40 : decode cX9_records 40 = .ok (.getfield 53, 3) := by decide +kernel
theorem dX9_records_43 : decode cX9_records 43 = .ok (.iconst 1, 1) := by decide +kernel
theorem dX9_records_44 : decode cX9_records 44 = .ok (.isub, 1) := by decide +kernel
theorem dX9_records_45 : decode cX9_records 45 = .ok (.putfield 53, 3) := by decide +kernel
theorem dX9_records_48 : decode cX9_records 48 = .ok (.aload_n 0, 1) := by decide +kernel
theorem dX9_records_49 : decode cX9_records 49 = .ok (.getfield 13, 3) := by decide +kernel
theorem dX9_records_52 : decode cX9_records 52 = .ok (.iconst 0, 1) := by decide +kernel
theorem dX9_records_53 : decode cX9_records 53 = .ok (.aload_n 0, 1) := by decide +kernel
theorem dX9_records_54 : decode cX9_records 54 = .ok (.getfield 19, 3) := by decide +kernel
theorem dX9_records_57 : decode cX9_records 57 = .ok (.aload_n 0, 1) := by decide +kernel
theorem dX9_records_58 : decode cX9_records 58 = .ok (.getfield 53, 3) := by decide +kernel
theorem dX9_records_61 : decode cX9_records 61 = .ok (.invokestatic 49, 3) := by decide +kernel
theorem dX9_records_64 : decode cX9_records 64 = .ok (.aload_n 0, 1) := by decide +kernel
theorem dX9_records_65 : decode cX9_records 65 = .ok (.dup, 1) := by decide +kernel
theorem dX9_records_66 : decode cX9_records 66 = .ok (.getfield 53, 3) := by decide +kernel
theorem dX9_records_69 : decode cX9_records 69 = .ok (.iconst 1, 1) := by decide +kernel
theorem dX9_records_70 : decode cX9_records 70 = .ok (.iadd, 1) := by decide +kernel
theorem dX9_records_71 : decode cX9_records 71 = .ok (.putfield 53, 3) := by decide +kernel
theorem dX9_records_74 : decode cX9_records 74 = .ok (.iload_n 1, 1) := by decide +kernel
theorem dX9_records_75 : decode cX9_records 75 = .ok (.ireturn, 1) := by decide +kernel
set_option maxRecDepth 20000 in
theorem ggX9_lays_X9_many : GoodIn wsX9_lays wsX9_many := goodIn_r _ [5, 6, 11, 12, 13, 14, 15, 16, 17, 18, 19, 20, 21, 22, 23, 24, 25, 26, 27, 28, 29, 30, 31, 32, 33, 34, 35, 36, 37] rfl (by decide +kernel)
set_option maxRecDepth 20000 in
theorem gX9_lays_X9_many : GoodIn wsX9_lays (wsV RX9 56 RX9 yX9_many wsX9_many) := goodIn_app (goodIn_r _ [1, 2, 3, 4] rfl (by decide +kernel)) ggX9_lays_X9_many
set_option maxRecDepth 20000 in
theorem ggX9_lays_X9_puts : GoodIn wsX9_lays wsX9_puts := goodIn_r _ [10, 6, 11, 12, 13, 14, 15, 16, 17, 18, 19, 20, 21, 22, 23, 24, 25, 26, 27, 28, 29, 30, 31, 32, 33, 34, 35, 36, 37] rfl (by decide +kernel)
set_option maxRecDepth 20000 in
theorem gX9_lays_X9_puts : GoodIn wsX9_lays (wsV RX9 60 RX9 yX9_puts wsX9_puts) := goodIn_app (goodIn_r _ [7, 8, 9, 4] rfl (by decide +kernel)) ggX9_lays_X9_puts
theorem dX9_lays_0 : decode cX9_lays 0 = .ok (.iconst 0, 1) := by decide +kernel
theorem dX9_lays_1 : decode cX9_lays 1 = .ok (.istore_n 3, 1) := by decide +kernel
theorem dX9_lays_2 : decode cX9_lays 2 = .ok (.iload_n 3, 1) := by decide +kernel
theorem dX9_lays_3 : decode cX9_lays 3 = .ok (.bipush 12, 2) := by decide +kernel
theorem dX9_lays_5 : decode cX9_lays 5 = .ok (.if_icmp .ge 49, 3) := by decide +kernel
theorem dX9_lays_8 : decode cX9_lays 8 = .ok (.iload_n 1, 1) := by decide +kernel
theorem dX9_lays_9 : decode cX9_lays 9 = .ok (.iload_n 3, 1) := by decide +kernel
theorem dX9_lays_10 : decode cX9_lays 10 = .ok (.ishr, 1) := by decide +kernel
theorem dX9_lays_11 : decode cX9_lays 11 = .ok (.iconst 1, 1) := by decide +kernel
theorem dX9_lays_12 : decode cX9_lays 12 = .ok (.iand, 1) := by decide +kernel
theorem dX9_lays_13 : decode cX9_lays 13 = .ok (.iconst 1, 1) := by decide +kernel
theorem dX9_lays_14 : decode cX9_lays 14 = .ok (.if_icmp .ne 7, 3) := by decide +kernel
theorem dX9_lays_17 : decode cX9_lays 17 = .ok (.iconst 1, 1) := by decide +kernel
theorem dX9_lays_18 : decode cX9_lays 18 = .ok (.goto 17, 3) := by decide +kernel
theorem dX9_lays_21 : decode cX9_lays 21 = .ok (.iload_n 2, 1) := by decide +kernel
theorem dX9_lays_22 : decode cX9_lays 22 = .ok (.iload_n 3, 1) := by decide +kernel
theorem dX9_lays_23 : decode cX9_lays 23 = .ok (.ishr, 1) := by decide +kernel
theorem dX9_lays_24 : decode cX9_lays 24 = .ok (.iconst 1, 1) := by decide +kernel
theorem dX9_lays_25 : decode cX9_lays 25 = .ok (.iand, 1) := by decide +kernel
theorem dX9_lays_26 : decode cX9_lays 26 = .ok (.iconst 1, 1) := by decide +kernel
theorem dX9_lays_27 : decode cX9_lays 27 = .ok (.if_icmp .ne 7, 3) := by decide +kernel
theorem dX9_lays_30 : decode cX9_lays 30 = .ok (.iconst 2, 1) := by decide +kernel
theorem dX9_lays_31 : decode cX9_lays 31 = .ok (.goto 4, 3) := by decide +kernel
theorem dX9_lays_34 : decode cX9_lays 34 = .ok (.iconst 0, 1) := by decide +kernel
theorem dX9_lays_35 : decode cX9_lays 35 = .ok (.istore 4, 2) := by decide +kernel
theorem dX9_lays_37 : decode cX9_lays 37 = .ok (.aload_n 0, 1) := by decide +kernel
theorem dX9_lays_38 : decode cX9_lays 38 = .ok (.aload_n 0, 1) := by decide +kernel
theorem dX9_lays_39 : decode cX9_lays 39 = .ok (.invokevirtual 56, 3) := by decide +kernel
theorem dX9_lays_42 : decode cX9_lays 42 = .ok (.iload_n 3, 1) := by decide +kernel
theorem dX9_lays_43 : decode cX9_lays 43 = .ok (.iload 4, 2) := by decide +kernel
theorem dX9_lays_45 : decode cX9_lays 45 = .ok (.invokevirtual 60, 3) := by decide +kernel
theorem dX9_lays_48 : decode cX9_lays 48 = .ok (.iinc 3 1, 3) := by decide +kernel
theorem dX9_lays_51 : decode cX9_lays 51 = .ok (.goto (-49), 3) := by decide +kernel
theorem dX9_lays_54 : decode cX9_lays 54 = .ok (.return_, 1) := by decide +kernel
set_option maxRecDepth 20000 in
theorem ggX9_adds_X9_many : GoodIn wsX9_adds wsX9_many := goodIn_r _ [6, 1, 7, 8, 9, 10, 11, 12, 13, 14, 15, 16, 17, 18, 19, 20, 21, 22, 23, 24, 25, 26, 27, 28, 29, 30, 31, 32, 33] rfl (by decide +kernel)
set_option maxRecDepth 20000 in
theorem gX9_adds_X9_many : GoodIn wsX9_adds (wsV RX9 56 RX9 yX9_many wsX9_many) := goodIn_app (goodIn_r _ [2, 3, 4, 5] rfl (by decide +kernel)) ggX9_adds_X9_many
theorem dX9_adds_0 : decode cX9_adds 0 = .ok (.aload_n 0, 1) := by decide +kernel
theorem dX9_adds_1 : decode cX9_adds 1 = .ok (.getfield 9, 3) := by decide +kernel
theorem dX9_adds_4 : decode cX9_adds 4 = .ok (.sipush 734, 3) := by decide +kernel
theorem dX9_adds_7 : decode cX9_adds 7 = .ok (.aload_n 0, 1) := by decide +kernel
theorem dX9_adds_8 : decode cX9_adds 8 = .ok (.invokevirtual 56, 3) := by decide +kernel
theorem dX9_adds_11 : decode cX9_adds 11 = .ok (.iadd, 1) := by decide +kernel
theorem dX9_adds_12 : decode cX9_adds 12 = .ok (.iload_n 1, 1) := by decide +kernel
theorem dX9_adds_13 : decode cX9_adds 13 = .ok (.iastore, 1) := by decide +kernel
theorem dX9_adds_14 : decode cX9_adds 14 = .ok (.aload_n 0, 1) := by decide +kernel
theorem dX9_adds_15 : decode cX9_adds 15 = .ok (.getfield 9, 3) := by decide +kernel
theorem dX9_adds_18 : decode cX9_adds 18 = .ok (.sipush 795, 3) := by decide +kernel
theorem dX9_adds_21 : decode cX9_adds 21 = .ok (.aload_n 0, 1) := by decide +kernel
theorem dX9_adds_22 : decode cX9_adds 22 = .ok (.invokevirtual 56, 3) := by decide +kernel
theorem dX9_adds_25 : decode cX9_adds 25 = .ok (.iadd, 1) := by decide +kernel
theorem dX9_adds_26 : decode cX9_adds 26 = .ok (.iload_n 2, 1) := by decide +kernel
theorem dX9_adds_27 : decode cX9_adds 27 = .ok (.iastore, 1) := by decide +kernel
theorem dX9_adds_28 : decode cX9_adds 28 = .ok (.aload_n 0, 1) := by decide +kernel
theorem dX9_adds_29 : decode cX9_adds 29 = .ok (.getfield 9, 3) := by decide +kernel
theorem dX9_adds_32 : decode cX9_adds 32 = .ok (.sipush 856, 3) := by decide +kernel
theorem dX9_adds_35 : decode cX9_adds 35 = .ok (.aload_n 0, 1) := by decide +kernel
theorem dX9_adds_36 : decode cX9_adds 36 = .ok (.invokevirtual 56, 3) := by decide +kernel
theorem dX9_adds_39 : decode cX9_adds 39 = .ok (.iadd, 1) := by decide +kernel
theorem dX9_adds_40 : decode cX9_adds 40 = .ok (.iload_n 3, 1) := by decide +kernel
theorem dX9_adds_41 : decode cX9_adds 41 = .ok (.iastore, 1) := by decide +kernel
theorem dX9_adds_42 : decode cX9_adds 42 = .ok (.aload_n 0, 1) := by decide +kernel
theorem dX9_adds_43 : decode cX9_adds 43 = .ok (.getfield 9, 3) := by decide +kernel
theorem dX9_adds_46 : decode cX9_adds 46 = .ok (.iconst 1, 1) := by decide +kernel
theorem dX9_adds_47 : decode cX9_adds 47 = .ok (.dup2, 1) := by decide +kernel
theorem dX9_adds_48 : decode cX9_adds 48 = .ok (.iaload, 1) := by decide +kernel
theorem dX9_adds_49 : decode cX9_adds 49 = .ok (.iconst 1, 1) := by decide +kernel
theorem dX9_adds_50 : decode cX9_adds 50 = .ok (.iadd, 1) := by decide +kernel
theorem dX9_adds_51 : decode cX9_adds 51 = .ok (.iastore, 1) := by decide +kernel
theorem dX9_adds_52 : decode cX9_adds 52 = .ok (.aload_n 0, 1) := by decide +kernel
theorem dX9_adds_53 : decode cX9_adds 53 = .ok (.invokevirtual 56, 3) := by decide +kernel
theorem dX9_adds_56 : decode cX9_adds 56 = .ok (.iconst 1, 1) := by decide +kernel
theorem dX9_adds_57 : decode cX9_adds 57 = .ok (.isub, 1) := by decide +kernel
theorem dX9_adds_58 : decode cX9_adds 58 = .ok (.ireturn, 1) := by decide +kernel
set_option maxRecDepth 20000 in
theorem ggX9_mask_X9_wide : GoodIn wsX9_mask wsX9_wide := goodIn_r _ [5, 6, 11, 12, 13, 14, 15, 16, 17, 18, 19, 20, 21, 22, 23, 24, 25, 26, 27, 28, 29, 30, 31, 32, 33, 34, 35, 36, 37] rfl (by decide +kernel)
set_option maxRecDepth 20000 in
theorem gX9_mask_X9_wide : GoodIn wsX9_mask (wsV RX9 64 RX9 yX9_wide wsX9_wide) := goodIn_app (goodIn_r _ [1, 2, 3, 4] rfl (by decide +kernel)) ggX9_mask_X9_wide
set_option maxRecDepth 20000 in
theorem ggX9_mask_X9_sign : GoodIn wsX9_mask wsX9_sign := goodIn_r _ [10, 6, 11, 12, 13, 14, 15, 16, 17, 18, 19, 20, 21, 22, 23, 24, 25, 26, 27, 28, 29, 30, 31, 32, 33, 34, 35, 36, 37] rfl (by decide +kernel)
set_option maxRecDepth 20000 in
theorem gX9_mask_X9_sign : GoodIn wsX9_mask (wsV RX9 67 RX9 yX9_sign wsX9_sign) := goodIn_app (goodIn_r _ [7, 8, 9, 4] rfl (by decide +kernel)) ggX9_mask_X9_sign
theorem dX9_mask_0 : decode cX9_mask 0 = .ok (.iconst 0, 1) := by decide +kernel
theorem dX9_mask_1 : decode cX9_mask 1 = .ok (.istore_n 3, 1) := by decide +kernel
theorem dX9_mask_2 : decode cX9_mask 2 = .ok (.iconst 0, 1) := by decide +kernel
theorem dX9_mask_3 : decode cX9_mask 3 = .ok (.istore 4, 2) := by decide +kernel
theorem dX9_mask_5 : decode cX9_mask 5 = .ok (.iload 4, 2) := by decide +kernel
theorem dX9_mask_7 : decode cX9_mask 7 = .ok (.aload_n 0, 1) := by decide +kernel
theorem dX9_mask_8 : decode cX9_mask 8 = .ok (.invokevirtual 64, 3) := by decide +kernel
theorem dX9_mask_11 : decode cX9_mask 11 = .ok (.if_icmp .ge 31, 3) := by decide +kernel
theorem dX9_mask_14 : decode cX9_mask 14 = .ok (.iload_n 3, 1) := by decide +kernel
theorem dX9_mask_15 : decode cX9_mask 15 = .ok (.aload_n 0, 1) := by decide +kernel
theorem dX9_mask_16 : decode cX9_mask 16 = .ok (.iload_n 1, 1) := by decide +kernel
theorem dX9_mask_17 : decode cX9_mask 17 = .ok (.iload 4, 2) := by decide +kernel
theorem dX9_mask_19 : decode cX9_mask 19 = .ok (.invokevirtual 67, 3) := by decide +kernel
theorem dX9_mask_22 : decode cX9_mask 22 = .ok (.iload_n 2, 1) := by decide +kernel
theorem dX9_mask_23 : decode cX9_mask 23 = .ok (.if_icmp .ne 10, 3) := by decide +kernel
theorem dX9_mask_26 : decode cX9_mask 26 = .ok (.iconst 1, 1) := by decide +kernel
theorem dX9_mask_27 : decode cX9_mask 27 = .ok (.iload 4, 2) := by decide +kernel
theorem dX9_mask_29 : decode cX9_mask 29 = .ok (.ishl, 1) := by decide +kernel
theorem dX9_mask_30 : decode cX9_mask 30 = .ok (.goto 4, 3) := by decide +kernel
theorem dX9_mask_33 : decode cX9_mask 33 = .ok (.iconst 0, 1) := by decide +kernel
theorem dX9_mask_34 : decode cX9_mask 34 = .ok (.ior, 1) := by decide +kernel
theorem dX9_mask_35 : decode cX9_mask 35 = .ok (.istore_n 3, 1) := by decide +kernel
theorem dX9_mask_36 : decode cX9_mask 36 = .ok (.iinc 4 1, 3) := by decide +kernel
theorem dX9_mask_39 : decode cX9_mask 39 = .ok (.goto (-34), 3) := by decide +kernel
theorem dX9_mask_42 : decode cX9_mask 42 = .ok (.iload_n 3, 1) := by decide +kernel
theorem dX9_mask_43 : decode cX9_mask 43 = .ok (.ireturn, 1) := by decide +kernel
set_option maxRecDepth 20000 in
theorem ggX9_literals_X9_wide : GoodIn wsX9_literals wsX9_wide := goodIn_r _ [5, 6, 11, 12, 13, 14, 15, 16, 17, 18, 19, 20, 21, 22, 23, 24, 25, 26, 27, 28, 29, 30, 31, 32, 33, 34, 35, 36, 37] rfl (by decide +kernel)
set_option maxRecDepth 20000 in
theorem gX9_literals_X9_wide : GoodIn wsX9_literals (wsV RX9 64 RX9 yX9_wide wsX9_wide) := goodIn_app (goodIn_r _ [1, 2, 3, 4] rfl (by decide +kernel)) ggX9_literals_X9_wide
set_option maxRecDepth 20000 in
theorem ggX9_literals_X9_sign : GoodIn wsX9_literals wsX9_sign := goodIn_r _ [10, 6, 11, 12, 13, 14, 15, 16, 17, 18, 19, 20, 21, 22, 23, 24, 25, 26, 27, 28, 29, 30, 31, 32, 33, 34, 35, 36, 37] rfl (by decide +kernel)
set_option maxRecDepth 20000 in
theorem gX9_literals_X9_sign : GoodIn wsX9_literals (wsV RX9 67 RX9 yX9_sign wsX9_sign) := goodIn_app (goodIn_r _ [7, 8, 9, 4] rfl (by decide +kernel)) ggX9_literals_X9_sign
theorem dX9_literals_0 : decode cX9_literals 0 = .ok (.iconst 0, 1) := by decide +kernel
theorem dX9_literals_1 : decode cX9_literals 1 = .ok (.istore_n 2, 1) := by decide +kernel
theorem dX9_literals_2 : decode cX9_literals 2 = .ok (.iconst 0, 1) := by decide +kernel
theorem dX9_literals_3 : decode cX9_literals 3 = .ok (.istore_n 3, 1) := by decide +kernel
theorem dX9_literals_4 : decode cX9_literals 4 = .ok (.iload_n 3, 1) := by decide +kernel
theorem dX9_literals_5 : decode cX9_literals 5 = .ok (.aload_n 0, 1) := by decide +kernel
theorem dX9_literals_6 : decode cX9_literals 6 = .ok (.invokevirtual 64, 3) := by decide +kernel
theorem dX9_literals_9 : decode cX9_literals 9 = .ok (.if_icmp .ge 26, 3) := by decide +kernel
theorem dX9_literals_12 : decode cX9_literals 12 = .ok (.iload_n 2, 1) := by decide +kernel
theorem dX9_literals_13 : decode cX9_literals 13 = .ok (.aload_n 0, 1) := by decide +kernel
theorem dX9_literals_14 : decode cX9_literals 14 = .ok (.iload_n 1, 1) := by decide +kernel
theorem dX9_literals_15 : decode cX9_literals 15 = .ok (.iload_n 3, 1) := by decide +kernel
theorem dX9_literals_16 : decode cX9_literals 16 = .ok (.invokevirtual 67, 3) := by decide +kernel
theorem dX9_literals_19 : decode cX9_literals 19 = .ok (.ifCond .ne 7, 3) := by decide +kernel
theorem dX9_literals_22 : decode cX9_literals 22 = .ok (.iconst 0, 1) := by decide +kernel
theorem dX9_literals_23 : decode cX9_literals 23 = .ok (.goto 4, 3) := by decide +kernel
theorem dX9_literals_26 : decode cX9_literals 26 = .ok (.iconst 1, 1) := by decide +kernel
theorem dX9_literals_27 : decode cX9_literals 27 = .ok (.iadd, 1) := by decide +kernel
theorem dX9_literals_28 : decode cX9_literals 28 = .ok (.istore_n 2, 1) := by decide +kernel
theorem dX9_literals_29 : decode cX9_literals 29 = .ok (.iinc 3 1, 3) := by decide +kernel
theorem dX9_literals_32 : decode cX9_literals 32 = .ok (.goto (-28), 3) := by decide +kernel
theorem dX9_literals_35 : decode cX9_literals 35 = .ok (.iload_n 2, 1) := by decide +kernel
theorem dX9_literals_36 : decode cX9_literals 36 = .ok (.ireturn, 1) := by decide +kernel
set_option maxRecDepth 20000 in
theorem ggX9_isWithin_X9_wide : GoodIn wsX9_isWithin wsX9_wide := goodIn_r _ [5, 6, 11, 12, 13, 14, 15, 16, 17, 18, 19, 20, 21, 22, 23, 24, 25, 26, 27, 28, 29, 30, 31, 32, 33, 34, 35, 36, 37] rfl (by decide +kernel)
set_option maxRecDepth 20000 in
theorem gX9_isWithin_X9_wide : GoodIn wsX9_isWithin (wsV RX9 64 RX9 yX9_wide wsX9_wide) := goodIn_app (goodIn_r _ [1, 2, 3, 4] rfl (by decide +kernel)) ggX9_isWithin_X9_wide
set_option maxRecDepth 20000 in
theorem ggX9_isWithin_X9_sign : GoodIn wsX9_isWithin wsX9_sign := goodIn_r _ [10, 6, 11, 12, 13, 14, 15, 16, 17, 18, 19, 20, 21, 22, 23, 24, 25, 26, 27, 28, 29, 30, 31, 32, 33, 34, 35, 36, 37] rfl (by decide +kernel)
set_option maxRecDepth 20000 in
theorem gX9_isWithin_X9_sign : GoodIn wsX9_isWithin (wsV RX9 67 RX9 yX9_sign wsX9_sign) := goodIn_app (goodIn_r _ [7, 8, 9, 4] rfl (by decide +kernel)) ggX9_isWithin_X9_sign
theorem dX9_isWithin_0 : decode cX9_isWithin 0 = .ok (.iconst 0, 1) := by decide +kernel
theorem dX9_isWithin_1 : decode cX9_isWithin 1 = .ok (.istore_n 3, 1) := by decide +kernel
theorem dX9_isWithin_2 : decode cX9_isWithin 2 = .ok (.iload_n 3, 1) := by decide +kernel
theorem dX9_isWithin_3 : decode cX9_isWithin 3 = .ok (.aload_n 0, 1) := by decide +kernel
theorem dX9_isWithin_4 : decode cX9_isWithin 4 = .ok (.invokevirtual 64, 3) := by decide +kernel
theorem dX9_isWithin_7 : decode cX9_isWithin 7 = .ok (.if_icmp .ge 35, 3) := by decide +kernel
theorem dX9_isWithin_10 : decode cX9_isWithin 10 = .ok (.aload_n 0, 1) := by decide +kernel
theorem dX9_isWithin_11 : decode cX9_isWithin 11 = .ok (.iload_n 1, 1) := by decide +kernel
theorem dX9_isWithin_12 : decode cX9_isWithin 12 = .ok (.iload_n 3, 1) := by decide +kernel
theorem dX9_isWithin_13 : decode cX9_isWithin 13 = .ok (.invokevirtual 67, 3) := by decide +kernel
theorem dX9_isWithin_16 : decode cX9_isWithin 16 = .ok (.ifCond .eq 20, 3) := by decide +kernel
theorem dX9_isWithin_19 : decode cX9_isWithin 19 = .ok (.aload_n 0, 1) := by decide +kernel
theorem dX9_isWithin_20 : decode cX9_isWithin 20 = .ok (.iload_n 1, 1) := by decide +kernel
theorem dX9_isWithin_21 : decode cX9_isWithin 21 = .ok (.iload_n 3, 1) := by decide +kernel
theorem dX9_isWithin_22 : decode cX9_isWithin 22 = .ok (.invokevirtual 67, 3) := by decide +kernel
theorem dX9_isWithin_25 : decode cX9_isWithin 25 = .ok (.aload_n 0, 1) := by decide +kernel
theorem dX9_isWithin_26 : decode cX9_isWithin 26 = .ok (.iload_n 2, 1) := by decide +kernel
theorem dX9_isWithin_27 : decode cX9_isWithin 27 = .ok (.iload_n 3, 1) := by decide +kernel
theorem dX9_isWithin_28 : decode cX9_isWithin 28 = .ok (.invokevirtual 67, 3) := by decide +kernel
theorem dX9_isWithin_31 : decode cX9_isWithin 31 = .ok (.if_icmp .eq 5, 3) := by decide +kernel
theorem dX9_isWithin_34 : decode cX9_isWithin 34 = .ok (.iconst 0, 1) := by decide +kernel
theorem dX9_isWithin_35 : decode cX9_isWithin 35 = .ok (.ireturn, 1) := by decide +kernel
theorem dX9_isWithin_36 : decode cX9_isWithin 36 = .ok (.iinc 3 1, 3) := by decide +kernel
theorem dX9_isWithin_39 : decode cX9_isWithin 39 = .ok (.goto (-37), 3) := by decide +kernel
theorem dX9_isWithin_42 : decode cX9_isWithin 42 = .ok (.iconst 1, 1) := by decide +kernel
theorem dX9_isWithin_43 : decode cX9_isWithin 43 = .ok (.ireturn, 1) := by decide +kernel
set_option maxRecDepth 20000 in
theorem ggX9_same_X9_many : GoodIn wsX9_same wsX9_many := goodIn_r _ [5, 6, 19, 20, 21, 22, 23, 24, 25, 26, 27, 28, 29, 30, 31, 32, 33, 34, 35, 36, 37, 38, 39, 40, 41, 42, 43, 44, 45] rfl (by decide +kernel)
set_option maxRecDepth 20000 in
theorem gX9_same_X9_many : GoodIn wsX9_same (wsV RX9 56 RX9 yX9_many wsX9_many) := goodIn_app (goodIn_r _ [1, 2, 3, 4] rfl (by decide +kernel)) ggX9_same_X9_many
set_option maxRecDepth 20000 in
theorem ggX9_same_X9_isWithin : GoodIn wsX9_same wsX9_isWithin := goodIn_r _ [10, 11, 12, 13, 4, 14, 6, 15, 16, 17, 18, 19, 20, 21, 22, 23, 24, 25, 26, 27, 28, 29, 30, 31, 32, 33, 34, 35, 36, 37, 38, 39, 40, 41, 42, 43, 44, 45] rfl (by decide +kernel)
set_option maxRecDepth 20000 in
theorem gX9_same_X9_isWithin : GoodIn wsX9_same (wsV RX9 71 RX9 yX9_isWithin wsX9_isWithin) := goodIn_app (goodIn_r _ [7, 8, 9, 4] rfl (by decide +kernel)) ggX9_same_X9_isWithin
theorem dX9_same_0 : decode cX9_same 0 = .ok (.iconst 0, 1) := by decide +kernel
theorem dX9_same_1 : decode cX9_same 1 = .ok (.istore_n 1, 1) := by decide +kernel
theorem dX9_same_2 : decode cX9_same 2 = .ok (.iload_n 1, 1) := by decide +kernel
theorem dX9_same_3 : decode cX9_same 3 = .ok (.aload_n 0, 1) := by decide +kernel
theorem dX9_same_4 : decode cX9_same 4 = .ok (.invokevirtual 56, 3) := by decide +kernel
theorem dX9_same_7 : decode cX9_same 7 = .ok (.if_icmp .ge 35, 3) := by decide +kernel
theorem dX9_same_10 : decode cX9_same 10 = .ok (.aload_n 0, 1) := by decide +kernel
theorem dX9_same_11 : decode cX9_same 11 = .ok (.iload_n 1, 1) := by decide +kernel
theorem dX9_same_12 : decode cX9_same 12 = .ok (.aload_n 0, 1) := by decide +kernel
theorem dX9_same_13 : decode cX9_same 13 = .ok (.invokevirtual 56, 3) := by decide +kernel
theorem dX9_same_16 : decode cX9_same 16 = .ok (.invokevirtual 71, 3) := by decide +kernel
theorem dX9_same_19 : decode cX9_same 19 = .ok (.ifCond .eq 17, 3) := by decide +kernel
theorem dX9_same_22 : decode cX9_same 22 = .ok (.aload_n 0, 1) := by decide +kernel
theorem dX9_same_23 : decode cX9_same 23 = .ok (.aload_n 0, 1) := by decide +kernel
theorem dX9_same_24 : decode cX9_same 24 = .ok (.invokevirtual 56, 3) := by decide +kernel
theorem dX9_same_27 : decode cX9_same 27 = .ok (.iload_n 1, 1) := by decide +kernel
theorem dX9_same_28 : decode cX9_same 28 = .ok (.invokevirtual 71, 3) := by decide +kernel
theorem dX9_same_31 : decode cX9_same 31 = .ok (.ifCond .eq 5, 3) := by decide +kernel
theorem dX9_same_34 : decode cX9_same 34 = .ok (.iload_n 1, 1) := by decide +kernel
theorem dX9_same_35 : decode cX9_same 35 = .ok (.ireturn, 1) := by decide +kernel
theorem dX9_same_36 : decode cX9_same 36 = .ok (.iinc 1 1, 3) := by decide +kernel
theorem dX9_same_39 : decode cX9_same 39 = .ok (.goto (-37), 3) := by decide +kernel
theorem dX9_same_42 : decode cX9_same 42 = .ok (.iconst (-1), 1) := by decide +kernel
theorem dX9_same_43 : decode cX9_same 43 = .ok (.ireturn, 1) := by decide +kernel
set_option maxRecDepth 20000 in
theorem ggX9_isAnyWithinTried_X9_many : GoodIn wsX9_isAnyWithinTried wsX9_many := goodIn_r _ [5, 6, 19, 20, 21, 22, 23, 24, 25, 26, 27, 28, 29, 30, 31, 32, 33, 34, 35, 36, 37, 38, 39, 40, 41, 42, 43, 44, 45] rfl (by decide +kernel)
set_option maxRecDepth 20000 in
theorem gX9_isAnyWithinTried_X9_many : GoodIn wsX9_isAnyWithinTried (wsV RX9 56 RX9 yX9_many wsX9_many) := goodIn_app (goodIn_r _ [1, 2, 3, 4] rfl (by decide +kernel)) ggX9_isAnyWithinTried_X9_many
set_option maxRecDepth 20000 in
theorem ggX9_isAnyWithinTried_X9_isWithin : GoodIn wsX9_isAnyWithinTried wsX9_isWithin := goodIn_r _ [10, 11, 12, 13, 4, 14, 6, 15, 16, 17, 18, 19, 20, 21, 22, 23, 24, 25, 26, 27, 28, 29, 30, 31, 32, 33, 34, 35, 36, 37, 38, 39, 40, 41, 42, 43, 44, 45] rfl (by decide +kernel)
set_option maxRecDepth 20000 in
theorem gX9_isAnyWithinTried_X9_isWithin : GoodIn wsX9_isAnyWithinTried (wsV RX9 71 RX9 yX9_isWithin wsX9_isWithin) := goodIn_app (goodIn_r _ [7, 8, 9, 4] rfl (by decide +kernel)) ggX9_isAnyWithinTried_X9_isWithin
theorem dX9_isAnyWithinTried_0 : decode cX9_isAnyWithinTried 0 = .ok (.iconst 0, 1) := by decide +kernel
theorem dX9_isAnyWithinTried_1 : decode cX9_isAnyWithinTried 1 = .ok (.istore_n 1, 1) := by decide +kernel
theorem dX9_isAnyWithinTried_2 : decode cX9_isAnyWithinTried 2 = .ok (.iload_n 1, 1) := by decide +kernel
theorem dX9_isAnyWithinTried_3 : decode cX9_isAnyWithinTried 3 = .ok (.aload_n 0, 1) := by decide +kernel
theorem dX9_isAnyWithinTried_4 : decode cX9_isAnyWithinTried 4 = .ok (.invokevirtual 56, 3) := by decide +kernel
theorem dX9_isAnyWithinTried_7 : decode cX9_isAnyWithinTried 7 = .ok (.if_icmp .ge 23, 3) := by decide +kernel
theorem dX9_isAnyWithinTried_10 : decode cX9_isAnyWithinTried 10 = .ok (.aload_n 0, 1) := by decide +kernel
theorem dX9_isAnyWithinTried_11 : decode cX9_isAnyWithinTried 11 = .ok (.iload_n 1, 1) := by decide +kernel
theorem dX9_isAnyWithinTried_12 : decode cX9_isAnyWithinTried 12 = .ok (.aload_n 0, 1) := by decide +kernel
theorem dX9_isAnyWithinTried_13 : decode cX9_isAnyWithinTried 13 = .ok (.invokevirtual 56, 3) := by decide +kernel
theorem dX9_isAnyWithinTried_16 : decode cX9_isAnyWithinTried 16 = .ok (.invokevirtual 71, 3) := by decide +kernel
theorem dX9_isAnyWithinTried_19 : decode cX9_isAnyWithinTried 19 = .ok (.ifCond .eq 5, 3) := by decide +kernel
theorem dX9_isAnyWithinTried_22 : decode cX9_isAnyWithinTried 22 = .ok (.iconst 1, 1) := by decide +kernel
theorem dX9_isAnyWithinTried_23 : decode cX9_isAnyWithinTried 23 = .ok (.ireturn, 1) := by decide +kernel
theorem dX9_isAnyWithinTried_24 : decode cX9_isAnyWithinTried 24 = .ok (.iinc 1 1, 3) := by decide +kernel
theorem dX9_isAnyWithinTried_27 : decode cX9_isAnyWithinTried 27 = .ok (.goto (-25), 3) := by decide +kernel
theorem dX9_isAnyWithinTried_30 : decode cX9_isAnyWithinTried 30 = .ok (.iconst 0, 1) := by decide +kernel
theorem dX9_isAnyWithinTried_31 : decode cX9_isAnyWithinTried 31 = .ok (.ireturn, 1) := by decide +kernel
set_option maxRecDepth 20000 in
theorem ggX9_clashing_X9_wide : GoodIn wsX9_clashing wsX9_wide := goodIn_r _ [5, 6, 11, 12, 13, 14, 15, 16, 17, 18, 19, 20, 21, 22, 23, 24, 25, 26, 27, 28, 29, 30, 31, 32, 33, 34, 35, 36, 37] rfl (by decide +kernel)
set_option maxRecDepth 20000 in
theorem gX9_clashing_X9_wide : GoodIn wsX9_clashing (wsV RX9 64 RX9 yX9_wide wsX9_wide) := goodIn_app (goodIn_r _ [1, 2, 3, 4] rfl (by decide +kernel)) ggX9_clashing_X9_wide
set_option maxRecDepth 20000 in
theorem ggX9_clashing_X9_sign : GoodIn wsX9_clashing wsX9_sign := goodIn_r _ [10, 6, 11, 12, 13, 14, 15, 16, 17, 18, 19, 20, 21, 22, 23, 24, 25, 26, 27, 28, 29, 30, 31, 32, 33, 34, 35, 36, 37] rfl (by decide +kernel)
set_option maxRecDepth 20000 in
theorem gX9_clashing_X9_sign : GoodIn wsX9_clashing (wsV RX9 67 RX9 yX9_sign wsX9_sign) := goodIn_app (goodIn_r _ [7, 8, 9, 4] rfl (by decide +kernel)) ggX9_clashing_X9_sign
theorem dX9_clashing_0 : decode cX9_clashing 0 = .ok (.iconst 0, 1) := by decide +kernel
theorem dX9_clashing_1 : decode cX9_clashing 1 = .ok (.istore_n 3, 1) := by decide +kernel
theorem dX9_clashing_2 : decode cX9_clashing 2 = .ok (.iconst 0, 1) := by decide +kernel
theorem dX9_clashing_3 : decode cX9_clashing 3 = .ok (.istore 4, 2) := by decide +kernel
theorem dX9_clashing_5 : decode cX9_clashing 5 = .ok (.iload 4, 2) := by decide +kernel
theorem dX9_clashing_7 : decode cX9_clashing 7 = .ok (.aload_n 0, 1) := by decide +kernel
theorem dX9_clashing_8 : decode cX9_clashing 8 = .ok (.invokevirtual 64, 3) := by decide +kernel
theorem dX9_clashing_11 : decode cX9_clashing 11 = .ok (.if_icmp .ge 56, 3) := by decide +kernel
theorem dX9_clashing_14 : decode cX9_clashing 14 = .ok (.iload_n 3, 1) := by decide +kernel
theorem dX9_clashing_15 : decode cX9_clashing 15 = .ok (.aload_n 0, 1) := by decide +kernel
theorem dX9_clashing_16 : decode cX9_clashing 16 = .ok (.iload_n 1, 1) := by decide +kernel
theorem dX9_clashing_17 : decode cX9_clashing 17 = .ok (.iload 4, 2) := by decide +kernel
theorem dX9_clashing_19 : decode cX9_clashing 19 = .ok (.invokevirtual 67, 3) := by decide +kernel
theorem dX9_clashing_22 : decode cX9_clashing 22 = .ok (.aload_n 0, 1) := by decide +kernel
theorem dX9_clashing_23 : decode cX9_clashing 23 = .ok (.iload_n 2, 1) := by decide +kernel
theorem dX9_clashing_24 : decode cX9_clashing 24 = .ok (.iload 4, 2) := by decide +kernel
theorem dX9_clashing_26 : decode cX9_clashing 26 = .ok (.invokevirtual 67, 3) := by decide +kernel
theorem dX9_clashing_29 : decode cX9_clashing 29 = .ok (.iadd, 1) := by decide +kernel
theorem dX9_clashing_30 : decode cX9_clashing 30 = .ok (.iconst 3, 1) := by decide +kernel
theorem dX9_clashing_31 : decode cX9_clashing 31 = .ok (.if_icmp .ne 27, 3) := by decide +kernel
theorem dX9_clashing_34 : decode cX9_clashing 34 = .ok (.aload_n 0, 1) := by decide +kernel
theorem dX9_clashing_35 : decode cX9_clashing 35 = .ok (.iload_n 1, 1) := by decide +kernel
theorem dX9_clashing_36 : decode cX9_clashing 36 = .ok (.iload 4, 2) := by decide +kernel
theorem dX9_clashing_38 : decode cX9_clashing 38 = .ok (.invokevirtual 67, 3) := by decide +kernel
theorem dX9_clashing_41 : decode cX9_clashing 41 = .ok (.ifCond .eq 17, 3) := by decide +kernel
theorem dX9_clashing_44 : decode cX9_clashing 44 = .ok (.aload_n 0, 1) := by decide +kernel
theorem dX9_clashing_45 : decode cX9_clashing 45 = .ok (.iload_n 2, 1) := by decide +kernel
theorem dX9_clashing_46 : decode cX9_clashing 46 = .ok (.iload 4, 2) := by decide +kernel
theorem dX9_clashing_48 : decode cX9_clashing 48 = .ok (.invokevirtual 67, 3) := by decide +kernel
theorem dX9_clashing_51 : decode cX9_clashing 51 = .ok (.ifCond .eq 7, 3) := by decide +kernel
theorem dX9_clashing_54 : decode cX9_clashing 54 = .ok (.iconst 1, 1) := by decide +kernel
theorem dX9_clashing_55 : decode cX9_clashing 55 = .ok (.goto 4, 3) := by decide +kernel
theorem dX9_clashing_58 : decode cX9_clashing 58 = .ok (.iconst 0, 1) := by decide +kernel
theorem dX9_clashing_59 : decode cX9_clashing 59 = .ok (.iadd, 1) := by decide +kernel
theorem dX9_clashing_60 : decode cX9_clashing 60 = .ok (.istore_n 3, 1) := by decide +kernel
theorem dX9_clashing_61 : decode cX9_clashing 61 = .ok (.iinc 4 1, 3) := by decide +kernel
theorem dX9_clashing_64 : decode cX9_clashing 64 = .ok (.goto (-59), 3) := by decide +kernel
theorem dX9_clashing_67 : decode cX9_clashing 67 = .ok (.iload_n 3, 1) := by decide +kernel
theorem dX9_clashing_68 : decode cX9_clashing 68 = .ok (.ireturn, 1) := by decide +kernel
set_option maxRecDepth 20000 in
theorem ggX9_clashOf_X9_sign : GoodIn wsX9_clashOf wsX9_sign := goodIn_r _ [5, 6, 7, 8, 9, 10, 11, 12, 13, 14, 15, 16, 17, 18, 19, 20, 21, 22, 23, 24, 25, 26, 27, 28, 29, 30, 31, 32, 33] rfl (by decide +kernel)
set_option maxRecDepth 20000 in
theorem gX9_clashOf_X9_sign : GoodIn wsX9_clashOf (wsV RX9 67 RX9 yX9_sign wsX9_sign) := goodIn_app (goodIn_r _ [1, 2, 3, 4] rfl (by decide +kernel)) ggX9_clashOf_X9_sign
theorem dX9_clashOf_0 : decode cX9_clashOf 0 = .ok (.iconst 0, 1) := by decide +kernel
theorem dX9_clashOf_1 : decode cX9_clashOf 1 = .ok (.istore_n 3, 1) := by decide +kernel
theorem dX9_clashOf_2 : decode cX9_clashOf 2 = .ok (.aload_n 0, 1) := by decide +kernel
theorem dX9_clashOf_3 : decode cX9_clashOf 3 = .ok (.iload_n 1, 1) := by decide +kernel
theorem dX9_clashOf_4 : decode cX9_clashOf 4 = .ok (.iload_n 3, 1) := by decide +kernel
theorem dX9_clashOf_5 : decode cX9_clashOf 5 = .ok (.invokevirtual 67, 3) := by decide +kernel
theorem dX9_clashOf_8 : decode cX9_clashOf 8 = .ok (.aload_n 0, 1) := by decide +kernel
theorem dX9_clashOf_9 : decode cX9_clashOf 9 = .ok (.iload_n 2, 1) := by decide +kernel
theorem dX9_clashOf_10 : decode cX9_clashOf 10 = .ok (.iload_n 3, 1) := by decide +kernel
theorem dX9_clashOf_11 : decode cX9_clashOf 11 = .ok (.invokevirtual 67, 3) := by decide +kernel
theorem dX9_clashOf_14 : decode cX9_clashOf 14 = .ok (.iadd, 1) := by decide +kernel
theorem dX9_clashOf_15 : decode cX9_clashOf 15 = .ok (.iconst 3, 1) := by decide +kernel
theorem dX9_clashOf_16 : decode cX9_clashOf 16 = .ok (.if_icmp .ne 21, 3) := by decide +kernel
theorem dX9_clashOf_19 : decode cX9_clashOf 19 = .ok (.aload_n 0, 1) := by decide +kernel
theorem dX9_clashOf_20 : decode cX9_clashOf 20 = .ok (.iload_n 1, 1) := by decide +kernel
theorem dX9_clashOf_21 : decode cX9_clashOf 21 = .ok (.iload_n 3, 1) := by decide +kernel
theorem dX9_clashOf_22 : decode cX9_clashOf 22 = .ok (.invokevirtual 67, 3) := by decide +kernel
theorem dX9_clashOf_25 : decode cX9_clashOf 25 = .ok (.ifCond .eq 12, 3) := by decide +kernel
theorem dX9_clashOf_28 : decode cX9_clashOf 28 = .ok (.aload_n 0, 1) := by decide +kernel
theorem dX9_clashOf_29 : decode cX9_clashOf 29 = .ok (.iload_n 2, 1) := by decide +kernel
theorem dX9_clashOf_30 : decode cX9_clashOf 30 = .ok (.iload_n 3, 1) := by decide +kernel
theorem dX9_clashOf_31 : decode cX9_clashOf 31 = .ok (.invokevirtual 67, 3) := by decide +kernel
theorem dX9_clashOf_34 : decode cX9_clashOf 34 = .ok (.ifCond .ne 9, 3) := by decide +kernel
theorem dX9_clashOf_37 : decode cX9_clashOf 37 = .ok (.iinc 3 1, 3) := by decide +kernel
theorem dX9_clashOf_40 : decode cX9_clashOf 40 = .ok (.goto (-38), 3) := by decide +kernel
theorem dX9_clashOf_43 : decode cX9_clashOf 43 = .ok (.iload_n 3, 1) := by decide +kernel
theorem dX9_clashOf_44 : decode cX9_clashOf 44 = .ok (.ireturn, 1) := by decide +kernel
set_option maxRecDepth 20000 in
theorem ggX9_resolves_X9_clashOf : GoodIn wsX9_resolves wsX9_clashOf := goodIn_r _ [5, 6, 7, 8, 4, 9, 10, 23, 24, 25, 26, 27, 28, 29, 30, 31, 32, 33, 34, 35, 36, 37, 38, 39, 40, 41, 42, 43, 44, 45, 46, 47, 48, 49] rfl (by decide +kernel)
set_option maxRecDepth 20000 in
theorem gX9_resolves_X9_clashOf : GoodIn wsX9_resolves (wsV RX9 75 RX9 yX9_clashOf wsX9_clashOf) := goodIn_app (goodIn_r _ [1, 2, 3, 4] rfl (by decide +kernel)) ggX9_resolves_X9_clashOf
set_option maxRecDepth 20000 in
theorem ggX9_resolves_X9_wide : GoodIn wsX9_resolves wsX9_wide := goodIn_r _ [14, 10, 23, 24, 25, 26, 27, 28, 29, 30, 31, 32, 33, 34, 35, 36, 37, 38, 39, 40, 41, 42, 43, 44, 45, 46, 47, 48, 49] rfl (by decide +kernel)
set_option maxRecDepth 20000 in
theorem gX9_resolves_X9_wide : GoodIn wsX9_resolves (wsV RX9 64 RX9 yX9_wide wsX9_wide) := goodIn_app (goodIn_r _ [11, 12, 13, 4] rfl (by decide +kernel)) ggX9_resolves_X9_wide
set_option maxRecDepth 20000 in
theorem ggX9_resolves_X9_sign : GoodIn wsX9_resolves wsX9_sign := goodIn_r _ [9, 10, 23, 24, 25, 26, 27, 28, 29, 30, 31, 32, 33, 34, 35, 36, 37, 38, 39, 40, 41, 42, 43, 44, 45, 46, 47, 48, 49] rfl (by decide +kernel)
set_option maxRecDepth 20000 in
theorem gX9_resolves_X9_sign : GoodIn wsX9_resolves (wsV RX9 67 RX9 yX9_sign wsX9_sign) := goodIn_app (goodIn_r _ [6, 7, 8, 4] rfl (by decide +kernel)) ggX9_resolves_X9_sign
set_option maxRecDepth 20000 in
theorem ggX9_resolves_X9_many : GoodIn wsX9_resolves wsX9_many := goodIn_r _ [18, 10, 23, 24, 25, 26, 27, 28, 29, 30, 31, 32, 33, 34, 35, 36, 37, 38, 39, 40, 41, 42, 43, 44, 45, 46, 47, 48, 49] rfl (by decide +kernel)
set_option maxRecDepth 20000 in
theorem gX9_resolves_X9_many : GoodIn wsX9_resolves (wsV RX9 56 RX9 yX9_many wsX9_many) := goodIn_app (goodIn_r _ [15, 16, 17, 4] rfl (by decide +kernel)) ggX9_resolves_X9_many
set_option maxRecDepth 20000 in
theorem ggX9_resolves_X9_puts : GoodIn wsX9_resolves wsX9_puts := goodIn_r _ [22, 10, 23, 24, 25, 26, 27, 28, 29, 30, 31, 32, 33, 34, 35, 36, 37, 38, 39, 40, 41, 42, 43, 44, 45, 46, 47, 48, 49] rfl (by decide +kernel)
set_option maxRecDepth 20000 in
theorem gX9_resolves_X9_puts : GoodIn wsX9_resolves (wsV RX9 60 RX9 yX9_puts wsX9_puts) := goodIn_app (goodIn_r _ [19, 20, 21, 4] rfl (by decide +kernel)) ggX9_resolves_X9_puts
theorem dX9_resolves_0 : decode cX9_resolves 0 = .ok (.aload_n 0, 1) := by decide +kernel
theorem dX9_resolves_1 : decode cX9_resolves 1 = .ok (.iload_n 1, 1) := by decide +kernel
theorem dX9_resolves_2 : decode cX9_resolves 2 = .ok (.iload_n 2, 1) := by decide +kernel
theorem dX9_resolves_3 : decode cX9_resolves 3 = .ok (.invokevirtual 75, 3) := by decide +kernel
theorem dX9_resolves_6 : decode cX9_resolves 6 = .ok (.istore_n 3, 1) := by decide +kernel
theorem dX9_resolves_7 : decode cX9_resolves 7 = .ok (.iconst 0, 1) := by decide +kernel
theorem dX9_resolves_8 : decode cX9_resolves 8 = .ok (.istore 4, 2) := by decide +kernel
theorem dX9_resolves_10 : decode cX9_resolves 10 = .ok (.iload 4, 2) := by decide +kernel
theorem dX9_resolves_12 : decode cX9_resolves 12 = .ok (.bipush 12, 2) := by decide +kernel
theorem dX9_resolves_14 : decode cX9_resolves 14 = .ok (.if_icmp .ge 57, 3) := by decide +kernel
theorem dX9_resolves_17 : decode cX9_resolves 17 = .ok (.iload 4, 2) := by decide +kernel
theorem dX9_resolves_19 : decode cX9_resolves 19 = .ok (.aload_n 0, 1) := by decide +kernel
theorem dX9_resolves_20 : decode cX9_resolves 20 = .ok (.invokevirtual 64, 3) := by decide +kernel
theorem dX9_resolves_23 : decode cX9_resolves 23 = .ok (.if_icmp .ge 9, 3) := by decide +kernel
theorem dX9_resolves_26 : decode cX9_resolves 26 = .ok (.iload 4, 2) := by decide +kernel
theorem dX9_resolves_28 : decode cX9_resolves 28 = .ok (.iload_n 3, 1) := by decide +kernel
theorem dX9_resolves_29 : decode cX9_resolves 29 = .ok (.if_icmp .ne 7, 3) := by decide +kernel
theorem dX9_resolves_32 : decode cX9_resolves 32 = .ok (.iconst 0, 1) := by decide +kernel
theorem dX9_resolves_33 : decode cX9_resolves 33 = .ok (.goto 18, 3) := by decide +kernel
theorem dX9_resolves_36 : decode cX9_resolves 36 = .ok (.aload_n 0, 1) := by decide +kernel
theorem dX9_resolves_37 : decode cX9_resolves 37 = .ok (.iload_n 1, 1) := by decide +kernel
theorem dX9_resolves_38 : decode cX9_resolves 38 = .ok (.iload 4, 2) := by decide +kernel
theorem dX9_resolves_40 : decode cX9_resolves 40 = .ok (.invokevirtual 67, 3) := by decide +kernel
theorem dX9_resolves_43 : decode cX9_resolves 43 = .ok (.aload_n 0, 1) := by decide +kernel
theorem dX9_resolves_44 : decode cX9_resolves 44 = .ok (.iload_n 2, 1) := by decide +kernel
theorem dX9_resolves_45 : decode cX9_resolves 45 = .ok (.iload 4, 2) := by decide +kernel
theorem dX9_resolves_47 : decode cX9_resolves 47 = .ok (.invokevirtual 67, 3) := by decide +kernel
theorem dX9_resolves_50 : decode cX9_resolves 50 = .ok (.ior, 1) := by decide +kernel
theorem dX9_resolves_51 : decode cX9_resolves 51 = .ok (.istore 5, 2) := by decide +kernel
theorem dX9_resolves_53 : decode cX9_resolves 53 = .ok (.aload_n 0, 1) := by decide +kernel
theorem dX9_resolves_54 : decode cX9_resolves 54 = .ok (.aload_n 0, 1) := by decide +kernel
theorem dX9_resolves_55 : decode cX9_resolves 55 = .ok (.invokevirtual 56, 3) := by decide +kernel
theorem dX9_resolves_58 : decode cX9_resolves 58 = .ok (.iload 4, 2) := by decide +kernel
theorem dX9_resolves_60 : decode cX9_resolves 60 = .ok (.iload 5, 2) := by decide +kernel
theorem dX9_resolves_62 : decode cX9_resolves 62 = .ok (.invokevirtual 60, 3) := by decide +kernel
theorem dX9_resolves_65 : decode cX9_resolves 65 = .ok (.iinc 4 1, 3) := by decide +kernel
theorem dX9_resolves_68 : decode cX9_resolves 68 = .ok (.goto (-58), 3) := by decide +kernel
theorem dX9_resolves_71 : decode cX9_resolves 71 = .ok (.return_, 1) := by decide +kernel
set_option maxRecDepth 20000 in
theorem ggX9_addsResolvent_X9_clashOf : GoodIn wsX9_addsResolvent wsX9_clashOf := goodIn_r _ [5, 6, 7, 8, 4, 9, 10, 31, 32, 33, 34, 35, 36, 37, 38, 39, 40, 41, 42, 43, 44, 45, 46, 47, 48, 49, 50, 51, 52, 53, 54, 55, 56, 57] rfl (by decide +kernel)
set_option maxRecDepth 20000 in
theorem gX9_addsResolvent_X9_clashOf : GoodIn wsX9_addsResolvent (wsV RX9 75 RX9 yX9_clashOf wsX9_clashOf) := goodIn_app (goodIn_r _ [1, 2, 3, 4] rfl (by decide +kernel)) ggX9_addsResolvent_X9_clashOf
set_option maxRecDepth 20000 in
theorem ggX9_addsResolvent_X9_sign : GoodIn wsX9_addsResolvent wsX9_sign := goodIn_r _ [9, 10, 31, 32, 33, 34, 35, 36, 37, 38, 39, 40, 41, 42, 43, 44, 45, 46, 47, 48, 49, 50, 51, 52, 53, 54, 55, 56, 57] rfl (by decide +kernel)
set_option maxRecDepth 20000 in
theorem gX9_addsResolvent_X9_sign : GoodIn wsX9_addsResolvent (wsV RX9 67 RX9 yX9_sign wsX9_sign) := goodIn_app (goodIn_r _ [6, 7, 8, 4] rfl (by decide +kernel)) ggX9_addsResolvent_X9_sign
set_option maxRecDepth 20000 in
theorem ggX9_addsResolvent_X9_resolves : GoodIn wsX9_addsResolvent wsX9_resolves := goodIn_r _ [14, 1, 2, 3, 4, 5, 6, 7, 8, 9, 10, 15, 16, 17, 18, 19, 20, 21, 22, 23, 24, 25, 26, 31, 32, 33, 34, 35, 36, 37, 38, 39, 40, 41, 42, 43, 44, 45, 46, 47, 48, 49, 50, 51, 52, 53, 54, 55, 56, 57] rfl (by decide +kernel)
set_option maxRecDepth 20000 in
theorem gX9_addsResolvent_X9_resolves : GoodIn wsX9_addsResolvent (wsV RX9 78 RX9 yX9_resolves wsX9_resolves) := goodIn_app (goodIn_r _ [11, 12, 13, 4] rfl (by decide +kernel)) ggX9_addsResolvent_X9_resolves
set_option maxRecDepth 20000 in
theorem ggX9_addsResolvent_X9_adds : GoodIn wsX9_addsResolvent wsX9_adds := goodIn_r _ [30, 10, 19, 20, 21, 4, 22, 31, 32, 33, 34, 35, 36, 37, 38, 39, 40, 41, 42, 43, 44, 45, 46, 47, 48, 49, 50, 51, 52, 53, 54, 55, 56, 57] rfl (by decide +kernel)
set_option maxRecDepth 20000 in
theorem gX9_addsResolvent_X9_adds : GoodIn wsX9_addsResolvent (wsV RX9 82 RX9 yX9_adds wsX9_adds) := goodIn_app (goodIn_r _ [27, 28, 29, 4] rfl (by decide +kernel)) ggX9_addsResolvent_X9_adds
theorem dX9_addsResolvent_0 : decode cX9_addsResolvent 0 = .ok (.aload_n 0, 1) := by decide +kernel
theorem dX9_addsResolvent_1 : decode cX9_addsResolvent 1 = .ok (.iload_n 1, 1) := by decide +kernel
theorem dX9_addsResolvent_2 : decode cX9_addsResolvent 2 = .ok (.iload_n 2, 1) := by decide +kernel
theorem dX9_addsResolvent_3 : decode cX9_addsResolvent 3 = .ok (.invokevirtual 75, 3) := by decide +kernel
theorem dX9_addsResolvent_6 : decode cX9_addsResolvent 6 = .ok (.istore_n 3, 1) := by decide +kernel
theorem dX9_addsResolvent_7 : decode cX9_addsResolvent 7 = .ok (.aload_n 0, 1) := by decide +kernel
theorem dX9_addsResolvent_8 : decode cX9_addsResolvent 8 = .ok (.iload_n 1, 1) := by decide +kernel
theorem dX9_addsResolvent_9 : decode cX9_addsResolvent 9 = .ok (.iload_n 3, 1) := by decide +kernel
theorem dX9_addsResolvent_10 : decode cX9_addsResolvent 10 = .ok (.invokevirtual 67, 3) := by decide +kernel
theorem dX9_addsResolvent_13 : decode cX9_addsResolvent 13 = .ok (.iconst 1, 1) := by decide +kernel
theorem dX9_addsResolvent_14 : decode cX9_addsResolvent 14 = .ok (.if_icmp .ne 7, 3) := by decide +kernel
theorem dX9_addsResolvent_17 : decode cX9_addsResolvent 17 = .ok (.iconst 1, 1) := by decide +kernel
theorem dX9_addsResolvent_18 : decode cX9_addsResolvent 18 = .ok (.goto 4, 3) := by decide +kernel
theorem dX9_addsResolvent_21 : decode cX9_addsResolvent 21 = .ok (.iconst 0, 1) := by decide +kernel
theorem dX9_addsResolvent_22 : decode cX9_addsResolvent 22 = .ok (.istore 4, 2) := by decide +kernel
theorem dX9_addsResolvent_24 : decode cX9_addsResolvent 24 = .ok (.aload_n 0, 1) := by decide +kernel
theorem dX9_addsResolvent_25 : decode cX9_addsResolvent 25 = .ok (.iload_n 1, 1) := by decide +kernel
theorem dX9_addsResolvent_26 : decode cX9_addsResolvent 26 = .ok (.iload_n 2, 1) := by decide +kernel
theorem dX9_addsResolvent_27 : decode cX9_addsResolvent 27 = .ok (.invokevirtual 78, 3) := by decide +kernel
theorem dX9_addsResolvent_30 : decode cX9_addsResolvent 30 = .ok (.aload_n 0, 1) := by decide +kernel
theorem dX9_addsResolvent_31 : decode cX9_addsResolvent 31 = .ok (.iload 4, 2) := by decide +kernel
theorem dX9_addsResolvent_33 : decode cX9_addsResolvent 33 = .ok (.ifCond .eq 7, 3) := by decide +kernel
theorem dX9_addsResolvent_36 : decode cX9_addsResolvent 36 = .ok (.iload_n 1, 1) := by decide +kernel
theorem dX9_addsResolvent_37 : decode cX9_addsResolvent 37 = .ok (.goto 4, 3) := by decide +kernel
theorem dX9_addsResolvent_40 : decode cX9_addsResolvent 40 = .ok (.iload_n 2, 1) := by decide +kernel
theorem dX9_addsResolvent_41 : decode cX9_addsResolvent 41 = .ok (.iload 4, 2) := by decide +kernel
theorem dX9_addsResolvent_43 : decode cX9_addsResolvent 43 = .ok (.ifCond .eq 7, 3) := by decide +kernel
theorem dX9_addsResolvent_46 : decode cX9_addsResolvent 46 = .ok (.iload_n 2, 1) := by decide +kernel
theorem dX9_addsResolvent_47 : decode cX9_addsResolvent 47 = .ok (.goto 4, 3) := by decide +kernel
theorem dX9_addsResolvent_50 : decode cX9_addsResolvent 50 = .ok (.iload_n 1, 1) := by decide +kernel
theorem dX9_addsResolvent_51 : decode cX9_addsResolvent 51 = .ok (.iload_n 3, 1) := by decide +kernel
theorem dX9_addsResolvent_52 : decode cX9_addsResolvent 52 = .ok (.invokevirtual 82, 3) := by decide +kernel
theorem dX9_addsResolvent_55 : decode cX9_addsResolvent 55 = .ok (.ireturn, 1) := by decide +kernel
set_option maxRecDepth 20000 in
theorem ggX9_empty_X9_many : GoodIn wsX9_empty wsX9_many := goodIn_r _ [5, 6, 19, 20, 21, 22, 23, 24, 25, 26, 27, 28, 29, 30, 31, 32, 33, 34, 35, 36, 37, 38, 39, 40, 41, 42, 43, 44, 45] rfl (by decide +kernel)
set_option maxRecDepth 20000 in
theorem gX9_empty_X9_many : GoodIn wsX9_empty (wsV RX9 56 RX9 yX9_many wsX9_many) := goodIn_app (goodIn_r _ [1, 2, 3, 4] rfl (by decide +kernel)) ggX9_empty_X9_many
set_option maxRecDepth 20000 in
theorem ggX9_empty_X9_literals : GoodIn wsX9_empty wsX9_literals := goodIn_r _ [10, 11, 12, 13, 4, 14, 6, 15, 16, 17, 18, 19, 20, 21, 22, 23, 24, 25, 26, 27, 28, 29, 30, 31, 32, 33, 34, 35, 36, 37, 38, 39, 40, 41, 42, 43, 44, 45] rfl (by decide +kernel)
set_option maxRecDepth 20000 in
theorem gX9_empty_X9_literals : GoodIn wsX9_empty (wsV RX9 86 RX9 yX9_literals wsX9_literals) := goodIn_app (goodIn_r _ [7, 8, 9, 4] rfl (by decide +kernel)) ggX9_empty_X9_literals
theorem dX9_empty_0 : decode cX9_empty 0 = .ok (.iconst 0, 1) := by decide +kernel
theorem dX9_empty_1 : decode cX9_empty 1 = .ok (.istore_n 1, 1) := by decide +kernel
theorem dX9_empty_2 : decode cX9_empty 2 = .ok (.iload_n 1, 1) := by decide +kernel
theorem dX9_empty_3 : decode cX9_empty 3 = .ok (.aload_n 0, 1) := by decide +kernel
theorem dX9_empty_4 : decode cX9_empty 4 = .ok (.invokevirtual 56, 3) := by decide +kernel
theorem dX9_empty_7 : decode cX9_empty 7 = .ok (.if_icmp .ge 19, 3) := by decide +kernel
theorem dX9_empty_10 : decode cX9_empty 10 = .ok (.aload_n 0, 1) := by decide +kernel
theorem dX9_empty_11 : decode cX9_empty 11 = .ok (.iload_n 1, 1) := by decide +kernel
theorem dX9_empty_12 : decode cX9_empty 12 = .ok (.invokevirtual 86, 3) := by decide +kernel
theorem dX9_empty_15 : decode cX9_empty 15 = .ok (.ifCond .ne 5, 3) := by decide +kernel
theorem dX9_empty_18 : decode cX9_empty 18 = .ok (.iload_n 1, 1) := by decide +kernel
theorem dX9_empty_19 : decode cX9_empty 19 = .ok (.ireturn, 1) := by decide +kernel
theorem dX9_empty_20 : decode cX9_empty 20 = .ok (.iinc 1 1, 3) := by decide +kernel
theorem dX9_empty_23 : decode cX9_empty 23 = .ok (.goto (-21), 3) := by decide +kernel
theorem dX9_empty_26 : decode cX9_empty 26 = .ok (.iconst (-1), 1) := by decide +kernel
theorem dX9_empty_27 : decode cX9_empty 27 = .ok (.ireturn, 1) := by decide +kernel
set_option maxRecDepth 20000 in
theorem ggX9_hasStep_X9_empty : GoodIn wsX9_hasStep wsX9_empty := goodIn_r _ [7, 8, 9, 10, 6, 11, 12, 13, 14, 15, 16, 17, 18, 19, 20, 21, 22, 23, 24, 49, 50, 51, 52, 53, 54, 55, 56, 57, 58, 59, 60, 61, 62, 63, 64, 65, 66, 67, 68, 69, 70, 71, 72, 73, 74, 75] rfl (by decide +kernel)
set_option maxRecDepth 20000 in
theorem gX9_hasStep_X9_empty : GoodIn wsX9_hasStep (wsV RX9 96 RX9 yX9_empty wsX9_empty) := goodIn_app (goodIn_r _ [3, 4, 5, 6] rfl (by decide +kernel)) ggX9_hasStep_X9_empty
set_option maxRecDepth 20000 in
theorem ggX9_hasStep_X9_many : GoodIn wsX9_hasStep wsX9_many := goodIn_r _ [11, 12, 49, 50, 51, 52, 53, 54, 55, 56, 57, 58, 59, 60, 61, 62, 63, 64, 65, 66, 67, 68, 69, 70, 71, 72, 73, 74, 75] rfl (by decide +kernel)
set_option maxRecDepth 20000 in
theorem gX9_hasStep_X9_many : GoodIn wsX9_hasStep (wsV RX9 56 RX9 yX9_many wsX9_many) := goodIn_app (goodIn_r _ [8, 9, 10, 6] rfl (by decide +kernel)) ggX9_hasStep_X9_many
set_option maxRecDepth 20000 in
theorem ggX9_hasStep_X9_clashing : GoodIn wsX9_hasStep wsX9_clashing := goodIn_r _ [28, 17, 18, 19, 6, 20, 12, 21, 22, 23, 24, 49, 50, 51, 52, 53, 54, 55, 56, 57, 58, 59, 60, 61, 62, 63, 64, 65, 66, 67, 68, 69, 70, 71, 72, 73, 74, 75] rfl (by decide +kernel)
set_option maxRecDepth 20000 in
theorem gX9_hasStep_X9_clashing : GoodIn wsX9_hasStep (wsV RX9 99 RX9 yX9_clashing wsX9_clashing) := goodIn_app (goodIn_r _ [25, 26, 27, 6] rfl (by decide +kernel)) ggX9_hasStep_X9_clashing
set_option maxRecDepth 20000 in
theorem ggX9_hasStep_X9_resolves : GoodIn wsX9_hasStep wsX9_resolves := goodIn_r _ [32, 33, 34, 35, 6, 36, 21, 22, 23, 24, 12, 17, 18, 19, 20, 8, 9, 10, 11, 37, 38, 39, 40, 49, 50, 51, 52, 53, 54, 55, 56, 57, 58, 59, 60, 61, 62, 63, 64, 65, 66, 67, 68, 69, 70, 71, 72, 73, 74, 75] rfl (by decide +kernel)
set_option maxRecDepth 20000 in
theorem gX9_hasStep_X9_resolves : GoodIn wsX9_hasStep (wsV RX9 78 RX9 yX9_resolves wsX9_resolves) := goodIn_app (goodIn_r _ [29, 30, 31, 6] rfl (by decide +kernel)) ggX9_hasStep_X9_resolves
set_option maxRecDepth 20000 in
theorem ggX9_hasStep_X9_isAnyWithinTried : GoodIn wsX9_hasStep wsX9_isAnyWithinTried := goodIn_r _ [44, 8, 9, 10, 6, 11, 12, 45, 46, 47, 48, 17, 18, 19, 20, 21, 22, 23, 24, 49, 50, 51, 52, 53, 54, 55, 56, 57, 58, 59, 60, 61, 62, 63, 64, 65, 66, 67, 68, 69, 70, 71, 72, 73, 74, 75] rfl (by decide +kernel)
set_option maxRecDepth 20000 in
theorem gX9_hasStep_X9_isAnyWithinTried : GoodIn wsX9_hasStep (wsV RX9 102 RX9 yX9_isAnyWithinTried wsX9_isAnyWithinTried) := goodIn_app (goodIn_r _ [41, 42, 43, 6] rfl (by decide +kernel)) ggX9_hasStep_X9_isAnyWithinTried
theorem dX9_hasStep_0 : decode cX9_hasStep 0 = .ok (.aload_n 0, 1) := by decide +kernel
theorem dX9_hasStep_1 : decode cX9_hasStep 1 = .ok (.iconst (-1), 1) := by decide +kernel
theorem dX9_hasStep_2 : decode cX9_hasStep 2 = .ok (.putfield 90, 3) := by decide +kernel
theorem dX9_hasStep_5 : decode cX9_hasStep 5 = .ok (.aload_n 0, 1) := by decide +kernel
theorem dX9_hasStep_6 : decode cX9_hasStep 6 = .ok (.iconst (-1), 1) := by decide +kernel
theorem dX9_hasStep_7 : decode cX9_hasStep 7 = .ok (.putfield 93, 3) := by decide +kernel
theorem dX9_hasStep_10 : decode cX9_hasStep 10 = .ok (.aload_n 0, 1) := by decide +kernel
theorem dX9_hasStep_11 : decode cX9_hasStep 11 = .ok (.invokevirtual 96, 3) := by decide +kernel
theorem dX9_hasStep_14 : decode cX9_hasStep 14 = .ok (.iconst (-1), 1) := by decide +kernel
theorem dX9_hasStep_15 : decode cX9_hasStep 15 = .ok (.if_icmp .ne 12, 3) := by decide +kernel
theorem dX9_hasStep_18 : decode cX9_hasStep 18 = .ok (.aload_n 0, 1) := by decide +kernel
theorem dX9_hasStep_19 : decode cX9_hasStep 19 = .ok (.invokevirtual 56, 3) := by decide +kernel
theorem dX9_hasStep_22 : decode cX9_hasStep 22 = .ok (.bipush 60, 2) := by decide +kernel
theorem dX9_hasStep_24 : decode cX9_hasStep 24 = .ok (.if_icmp .ne 5, 3) := by decide +kernel
theorem dX9_hasStep_27 : decode cX9_hasStep 27 = .ok (.iconst 0, 1) := by decide +kernel
theorem dX9_hasStep_28 : decode cX9_hasStep 28 = .ok (.ireturn, 1) := by decide +kernel
theorem dX9_hasStep_29 : decode cX9_hasStep 29 = .ok (.iconst 1, 1) := by decide +kernel
theorem dX9_hasStep_30 : decode cX9_hasStep 30 = .ok (.istore_n 1, 1) := by decide +kernel
theorem dX9_hasStep_31 : decode cX9_hasStep 31 = .ok (.iload_n 1, 1) := by decide +kernel
theorem dX9_hasStep_32 : decode cX9_hasStep 32 = .ok (.aload_n 0, 1) := by decide +kernel
theorem dX9_hasStep_33 : decode cX9_hasStep 33 = .ok (.invokevirtual 56, 3) := by decide +kernel
theorem dX9_hasStep_36 : decode cX9_hasStep 36 = .ok (.if_icmp .ge 60, 3) := by decide +kernel
theorem dX9_hasStep_39 : decode cX9_hasStep 39 = .ok (.iconst 0, 1) := by decide +kernel
theorem dX9_hasStep_40 : decode cX9_hasStep 40 = .ok (.istore_n 2, 1) := by decide +kernel
theorem dX9_hasStep_41 : decode cX9_hasStep 41 = .ok (.iload_n 2, 1) := by decide +kernel
theorem dX9_hasStep_42 : decode cX9_hasStep 42 = .ok (.iload_n 1, 1) := by decide +kernel
theorem dX9_hasStep_43 : decode cX9_hasStep 43 = .ok (.if_icmp .ge 47, 3) := by decide +kernel
theorem dX9_hasStep_46 : decode cX9_hasStep 46 = .ok (.aload_n 0, 1) := by decide +kernel
theorem dX9_hasStep_47 : decode cX9_hasStep 47 = .ok (.iload_n 2, 1) := by decide +kernel
theorem dX9_hasStep_48 : decode cX9_hasStep 48 = .ok (.iload_n 1, 1) := by decide +kernel
theorem dX9_hasStep_49 : decode cX9_hasStep 49 = .ok (.invokevirtual 99, 3) := by decide +kernel
theorem dX9_hasStep_52 : decode cX9_hasStep 52 = .ok (.iconst 1, 1) := by decide +kernel
theorem dX9_hasStep_53 : decode cX9_hasStep 53 = .ok (.if_icmp .eq 6, 3) := by decide +kernel
theorem dX9_hasStep_56 : decode cX9_hasStep 56 = .ok (.goto 28, 3) := by decide +kernel
theorem dX9_hasStep_59 : decode cX9_hasStep 59 = .ok (.aload_n 0, 1) := by decide +kernel
theorem dX9_hasStep_60 : decode cX9_hasStep 60 = .ok (.iload_n 2, 1) := by decide +kernel
theorem dX9_hasStep_61 : decode cX9_hasStep 61 = .ok (.iload_n 1, 1) := by decide +kernel
theorem dX9_hasStep_62 : decode cX9_hasStep 62 = .ok (.invokevirtual 78, 3) := by decide +kernel
theorem dX9_hasStep_65 : decode cX9_hasStep 65 = .ok (.aload_n 0, 1) := by decide +kernel
theorem dX9_hasStep_66 : decode cX9_hasStep 66 = .ok (.invokevirtual 102, 3) := by decide +kernel
theorem dX9_hasStep_69 : decode cX9_hasStep 69 = .ok (.ifCond .ne 15, 3) := by decide +kernel
theorem dX9_hasStep_72 : decode cX9_hasStep 72 = .ok (.aload_n 0, 1) := by decide +kernel
theorem dX9_hasStep_73 : decode cX9_hasStep 73 = .ok (.iload_n 2, 1) := by decide +kernel
theorem dX9_hasStep_74 : decode cX9_hasStep 74 = .ok (.putfield 90, 3) := by decide +kernel
theorem dX9_hasStep_77 : decode cX9_hasStep 77 = .ok (.aload_n 0, 1) := by decide +kernel
theorem dX9_hasStep_78 : decode cX9_hasStep 78 = .ok (.iload_n 1, 1) := by decide +kernel
theorem dX9_hasStep_79 : decode cX9_hasStep 79 = .ok (.putfield 93, 3) := by decide +kernel
theorem dX9_hasStep_82 : decode cX9_hasStep 82 = .ok (.iconst 1, 1) := by decide +kernel
theorem dX9_hasStep_83 : decode cX9_hasStep 83 = .ok (.ireturn, 1) := by decide +kernel
theorem dX9_hasStep_84 : decode cX9_hasStep 84 = .ok (.iinc 2 1, 3) := by decide +kernel
theorem dX9_hasStep_87 : decode cX9_hasStep 87 = .ok (.goto (-46), 3) := by decide +kernel
theorem dX9_hasStep_90 : decode cX9_hasStep 90 = .ok (.iinc 1 1, 3) := by decide +kernel
theorem dX9_hasStep_93 : decode cX9_hasStep 93 = .ok (.goto (-62), 3) := by decide +kernel
theorem dX9_hasStep_96 : decode cX9_hasStep 96 = .ok (.iconst 0, 1) := by decide +kernel
theorem dX9_hasStep_97 : decode cX9_hasStep 97 = .ok (.ireturn, 1) := by decide +kernel
set_option maxRecDepth 20000 in
theorem ggX9_steps_X9_hasStep : GoodIn wsX9_steps wsX9_hasStep := goodIn_r _ [7, 1, 2, 8, 9, 10, 6, 11, 12, 13, 14, 15, 16, 17, 18, 19, 20, 21, 22, 23, 24, 25, 26, 27, 28, 29, 30, 31, 32, 33, 34, 35, 36, 37, 38, 39, 40, 41, 42, 43, 44, 45, 46, 47, 48, 49, 50, 51, 52, 61, 62, 63, 64, 65, 66, 67, 68, 69, 70, 71, 72, 73, 74, 75, 76, 77, 78, 79, 80, 81, 82, 83, 84, 85, 86, 87] rfl (by decide +kernel)
set_option maxRecDepth 20000 in
theorem gX9_steps_X9_hasStep : GoodIn wsX9_steps (wsV RX9 106 RX9 yX9_hasStep wsX9_hasStep) := goodIn_app (goodIn_r _ [3, 4, 5, 6] rfl (by decide +kernel)) ggX9_steps_X9_hasStep
set_option maxRecDepth 20000 in
theorem ggX9_steps_X9_addsResolvent : GoodIn wsX9_steps wsX9_addsResolvent := goodIn_r _ [56, 37, 38, 39, 6, 40, 25, 26, 27, 28, 16, 33, 34, 35, 36, 21, 22, 23, 24, 12, 13, 14, 15, 41, 42, 43, 44, 57, 58, 59, 60, 61, 62, 63, 64, 65, 66, 67, 68, 69, 70, 71, 72, 73, 74, 75, 76, 77, 78, 79, 80, 81, 82, 83, 84, 85, 86, 87] rfl (by decide +kernel)
set_option maxRecDepth 20000 in
theorem gX9_steps_X9_addsResolvent : GoodIn wsX9_steps (wsV RX9 109 RX9 yX9_addsResolvent wsX9_addsResolvent) := goodIn_app (goodIn_r _ [53, 54, 55, 6] rfl (by decide +kernel)) ggX9_steps_X9_addsResolvent
theorem dX9_steps_0 : decode cX9_steps 0 = .ok (.iconst 0, 1) := by decide +kernel
theorem dX9_steps_1 : decode cX9_steps 1 = .ok (.istore_n 2, 1) := by decide +kernel
theorem dX9_steps_2 : decode cX9_steps 2 = .ok (.iload_n 2, 1) := by decide +kernel
theorem dX9_steps_3 : decode cX9_steps 3 = .ok (.iload_n 1, 1) := by decide +kernel
theorem dX9_steps_4 : decode cX9_steps 4 = .ok (.if_icmp .ge 29, 3) := by decide +kernel
theorem dX9_steps_7 : decode cX9_steps 7 = .ok (.aload_n 0, 1) := by decide +kernel
theorem dX9_steps_8 : decode cX9_steps 8 = .ok (.invokevirtual 106, 3) := by decide +kernel
theorem dX9_steps_11 : decode cX9_steps 11 = .ok (.ifCond .eq 22, 3) := by decide +kernel
theorem dX9_steps_14 : decode cX9_steps 14 = .ok (.aload_n 0, 1) := by decide +kernel
theorem dX9_steps_15 : decode cX9_steps 15 = .ok (.aload_n 0, 1) := by decide +kernel
theorem dX9_steps_16 : decode cX9_steps 16 = .ok (.getfield 90, 3) := by decide +kernel
theorem dX9_steps_19 : decode cX9_steps 19 = .ok (.aload_n 0, 1) := by decide +kernel
theorem dX9_steps_20 : decode cX9_steps 20 = .ok (.getfield 93, 3) := by decide +kernel
theorem dX9_steps_23 : decode cX9_steps 23 = .ok (.invokevirtual 109, 3) := by decide +kernel
theorem dX9_steps_26 : decode cX9_steps 26 = .ok (.istore_n 3, 1) := by decide +kernel
theorem dX9_steps_27 : decode cX9_steps 27 = .ok (.iinc 2 1, 3) := by decide +kernel
theorem dX9_steps_30 : decode cX9_steps 30 = .ok (.goto (-28), 3) := by decide +kernel
theorem dX9_steps_33 : decode cX9_steps 33 = .ok (.iload_n 2, 1) := by decide +kernel
theorem dX9_steps_34 : decode cX9_steps 34 = .ok (.ireturn, 1) := by decide +kernel
set_option maxRecDepth 20000 in
theorem ggX9_isParent_X9_many : GoodIn wsX9_isParent wsX9_many := goodIn_r _ [6, 1, 7, 8, 9, 10, 11, 12, 13, 14, 15, 16, 17, 18, 19, 20, 21, 22, 23, 24, 25, 26, 27, 28, 29, 30, 31, 32, 33] rfl (by decide +kernel)
set_option maxRecDepth 20000 in
theorem gX9_isParent_X9_many : GoodIn wsX9_isParent (wsV RX9 56 RX9 yX9_many wsX9_many) := goodIn_app (goodIn_r _ [2, 3, 4, 5] rfl (by decide +kernel)) ggX9_isParent_X9_many
theorem dX9_isParent_0 : decode cX9_isParent 0 = .ok (.iconst 0, 1) := by decide +kernel
theorem dX9_isParent_1 : decode cX9_isParent 1 = .ok (.istore_n 2, 1) := by decide +kernel
theorem dX9_isParent_2 : decode cX9_isParent 2 = .ok (.iload_n 2, 1) := by decide +kernel
theorem dX9_isParent_3 : decode cX9_isParent 3 = .ok (.aload_n 0, 1) := by decide +kernel
theorem dX9_isParent_4 : decode cX9_isParent 4 = .ok (.invokevirtual 56, 3) := by decide +kernel
theorem dX9_isParent_7 : decode cX9_isParent 7 = .ok (.if_icmp .ge 53, 3) := by decide +kernel
theorem dX9_isParent_10 : decode cX9_isParent 10 = .ok (.aload_n 0, 1) := by decide +kernel
theorem dX9_isParent_11 : decode cX9_isParent 11 = .ok (.getfield 9, 3) := by decide +kernel
theorem dX9_isParent_14 : decode cX9_isParent 14 = .ok (.sipush 856, 3) := by decide +kernel
theorem dX9_isParent_17 : decode cX9_isParent 17 = .ok (.iload_n 2, 1) := by decide +kernel
theorem dX9_isParent_18 : decode cX9_isParent 18 = .ok (.iadd, 1) := by decide +kernel
theorem dX9_isParent_19 : decode cX9_isParent 19 = .ok (.iaload, 1) := by decide +kernel
theorem dX9_isParent_20 : decode cX9_isParent 20 = .ok (.iconst (-1), 1) := by decide +kernel
theorem dX9_isParent_21 : decode cX9_isParent 21 = .ok (.if_icmp .eq 33, 3) := by decide +kernel
theorem dX9_isParent_24 : decode cX9_isParent 24 = .ok (.aload_n 0, 1) := by decide +kernel
theorem dX9_isParent_25 : decode cX9_isParent 25 = .ok (.getfield 9, 3) := by decide +kernel
theorem dX9_isParent_28 : decode cX9_isParent 28 = .ok (.sipush 734, 3) := by decide +kernel
theorem dX9_isParent_31 : decode cX9_isParent 31 = .ok (.iload_n 2, 1) := by decide +kernel
theorem dX9_isParent_32 : decode cX9_isParent 32 = .ok (.iadd, 1) := by decide +kernel
theorem dX9_isParent_33 : decode cX9_isParent 33 = .ok (.iaload, 1) := by decide +kernel
theorem dX9_isParent_34 : decode cX9_isParent 34 = .ok (.iload_n 1, 1) := by decide +kernel
theorem dX9_isParent_35 : decode cX9_isParent 35 = .ok (.if_icmp .eq 17, 3) := by decide +kernel
theorem dX9_isParent_38 : decode cX9_isParent 38 = .ok (.aload_n 0, 1) := by decide +kernel
theorem dX9_isParent_39 : decode cX9_isParent 39 = .ok (.getfield 9, 3) := by decide +kernel
theorem dX9_isParent_42 : decode cX9_isParent 42 = .ok (.sipush 795, 3) := by decide +kernel
theorem dX9_isParent_45 : decode cX9_isParent 45 = .ok (.iload_n 2, 1) := by decide +kernel
theorem dX9_isParent_46 : decode cX9_isParent 46 = .ok (.iadd, 1) := by decide +kernel
theorem dX9_isParent_47 : decode cX9_isParent 47 = .ok (.iaload, 1) := by decide +kernel
theorem dX9_isParent_48 : decode cX9_isParent 48 = .ok (.iload_n 1, 1) := by decide +kernel
theorem dX9_isParent_49 : decode cX9_isParent 49 = .ok (.if_icmp .ne 5, 3) := by decide +kernel
theorem dX9_isParent_52 : decode cX9_isParent 52 = .ok (.iconst 1, 1) := by decide +kernel
theorem dX9_isParent_53 : decode cX9_isParent 53 = .ok (.ireturn, 1) := by decide +kernel
theorem dX9_isParent_54 : decode cX9_isParent 54 = .ok (.iinc 2 1, 3) := by decide +kernel
theorem dX9_isParent_57 : decode cX9_isParent 57 = .ok (.goto (-55), 3) := by decide +kernel
theorem dX9_isParent_60 : decode cX9_isParent 60 = .ok (.iconst 0, 1) := by decide +kernel
theorem dX9_isParent_61 : decode cX9_isParent 61 = .ok (.ireturn, 1) := by decide +kernel
set_option maxRecDepth 20000 in
theorem ggX9_drops_X9_many : GoodIn wsX9_drops wsX9_many := goodIn_r _ [6, 1, 15, 16, 17, 18, 19, 20, 21, 22, 23, 24, 25, 26, 27, 28, 29, 30, 31, 32, 33, 34, 35, 36, 37, 38, 39, 40, 41] rfl (by decide +kernel)
set_option maxRecDepth 20000 in
theorem gX9_drops_X9_many : GoodIn wsX9_drops (wsV RX9 56 RX9 yX9_many wsX9_many) := goodIn_app (goodIn_r _ [2, 3, 4, 5] rfl (by decide +kernel)) ggX9_drops_X9_many
set_option maxRecDepth 20000 in
theorem ggX9_drops_X9_sign : GoodIn wsX9_drops wsX9_sign := goodIn_r _ [10, 1, 15, 16, 17, 18, 19, 20, 21, 22, 23, 24, 25, 26, 27, 28, 29, 30, 31, 32, 33, 34, 35, 36, 37, 38, 39, 40, 41] rfl (by decide +kernel)
set_option maxRecDepth 20000 in
theorem gX9_drops_X9_sign : GoodIn wsX9_drops (wsV RX9 67 RX9 yX9_sign wsX9_sign) := goodIn_app (goodIn_r _ [7, 8, 9, 5] rfl (by decide +kernel)) ggX9_drops_X9_sign
set_option maxRecDepth 20000 in
theorem ggX9_drops_X9_puts : GoodIn wsX9_drops wsX9_puts := goodIn_r _ [14, 1, 15, 16, 17, 18, 19, 20, 21, 22, 23, 24, 25, 26, 27, 28, 29, 30, 31, 32, 33, 34, 35, 36, 37, 38, 39, 40, 41] rfl (by decide +kernel)
set_option maxRecDepth 20000 in
theorem gX9_drops_X9_puts : GoodIn wsX9_drops (wsV RX9 60 RX9 yX9_puts wsX9_puts) := goodIn_app (goodIn_r _ [11, 12, 13, 5] rfl (by decide +kernel)) ggX9_drops_X9_puts
theorem dX9_drops_0 : decode cX9_drops 0 = .ok (.iload_n 1, 1) := by decide +kernel
theorem dX9_drops_1 : decode cX9_drops 1 = .ok (.istore_n 2, 1) := by decide +kernel
theorem dX9_drops_2 : decode cX9_drops 2 = .ok (.iload_n 2, 1) := by decide +kernel
theorem dX9_drops_3 : decode cX9_drops 3 = .ok (.iconst 1, 1) := by decide +kernel
theorem dX9_drops_4 : decode cX9_drops 4 = .ok (.iadd, 1) := by decide +kernel
theorem dX9_drops_5 : decode cX9_drops 5 = .ok (.aload_n 0, 1) := by decide +kernel
theorem dX9_drops_6 : decode cX9_drops 6 = .ok (.invokevirtual 56, 3) := by decide +kernel
theorem dX9_drops_9 : decode cX9_drops 9 = .ok (.if_icmp .ge 103, 3) := by decide +kernel
theorem dX9_drops_12 : decode cX9_drops 12 = .ok (.iconst 0, 1) := by decide +kernel
theorem dX9_drops_13 : decode cX9_drops 13 = .ok (.istore_n 3, 1) := by decide +kernel
theorem dX9_drops_14 : decode cX9_drops 14 = .ok (.iload_n 3, 1) := by decide +kernel
theorem dX9_drops_15 : decode cX9_drops 15 = .ok (.bipush 12, 2) := by decide +kernel
theorem dX9_drops_17 : decode cX9_drops 17 = .ok (.if_icmp .ge 23, 3) := by decide +kernel
theorem dX9_drops_20 : decode cX9_drops 20 = .ok (.aload_n 0, 1) := by decide +kernel
theorem dX9_drops_21 : decode cX9_drops 21 = .ok (.iload_n 2, 1) := by decide +kernel
theorem dX9_drops_22 : decode cX9_drops 22 = .ok (.iload_n 3, 1) := by decide +kernel
theorem dX9_drops_23 : decode cX9_drops 23 = .ok (.aload_n 0, 1) := by decide +kernel
theorem dX9_drops_24 : decode cX9_drops 24 = .ok (.iload_n 2, 1) := by decide +kernel
theorem dX9_drops_25 : decode cX9_drops 25 = .ok (.iconst 1, 1) := by decide +kernel
theorem dX9_drops_26 : decode cX9_drops 26 = .ok (.iadd, 1) := by decide +kernel
theorem dX9_drops_27 : decode cX9_drops 27 = .ok (.iload_n 3, 1) := by decide +kernel
theorem dX9_drops_28 : decode cX9_drops 28 = .ok (.invokevirtual 67, 3) := by decide +kernel
theorem dX9_drops_31 : decode cX9_drops 31 = .ok (.invokevirtual 60, 3) := by decide +kernel
theorem dX9_drops_34 : decode cX9_drops 34 = .ok (.iinc 3 1, 3) := by decide +kernel
theorem dX9_drops_37 : decode cX9_drops 37 = .ok (.goto (-23), 3) := by decide +kernel
theorem dX9_drops_40 : decode cX9_drops 40 = .ok (.aload_n 0, 1) := by decide +kernel
theorem dX9_drops_41 : decode cX9_drops 41 = .ok (.getfield 9, 3) := by decide +kernel
theorem dX9_drops_44 : decode cX9_drops 44 = .ok (.sipush 734, 3) := by decide +kernel
theorem dX9_drops_47 : decode cX9_drops 47 = .ok (.iload_n 2, 1) := by decide +kernel
theorem dX9_drops_48 : decode cX9_drops 48 = .ok (.iadd, 1) := by decide +kernel
theorem dX9_drops_49 : decode cX9_drops 49 = .ok (.aload_n 0, 1) := by decide +kernel
theorem dX9_drops_50 : decode cX9_drops 50 = .ok (.getfield 9, 3) := by decide +kernel
theorem dX9_drops_53 : decode cX9_drops 53 = .ok (.sipush 734, 3) := by decide +kernel
theorem dX9_drops_56 : decode cX9_drops 56 = .ok (.iload_n 2, 1) := by decide +kernel
theorem dX9_drops_57 : decode cX9_drops 57 = .ok (.iadd, 1) := by decide +kernel
theorem dX9_drops_58 : decode cX9_drops 58 = .ok (.iconst 1, 1) := by decide +kernel
theorem dX9_drops_59 : decode cX9_drops 59 = .ok (.iadd, 1) := by decide +kernel
theorem dX9_drops_60 : decode cX9_drops 60 = .ok (.iaload, 1) := by decide +kernel
theorem dX9_drops_61 : decode cX9_drops 61 = .ok (.iastore, 1) := by decide +kernel
theorem dX9_drops_62 : decode cX9_drops 62 = .ok (.aload_n 0, 1) := by decide +kernel
theorem dX9_drops_63 : decode cX9_drops 63 = .ok (.getfield 9, 3) := by decide +kernel
theorem dX9_drops_66 : decode cX9_drops 66 = .ok (.sipush 795, 3) := by decide +kernel
theorem dX9_drops_69 : decode cX9_drops 69 = .ok (.iload_n 2, 1) := by decide +kernel
theorem dX9_drops_70 : decode cX9_drops 70 = .ok (.iadd, 1) := by decide +kernel
theorem dX9_drops_71 : decode cX9_drops 71 = .ok (.aload_n 0, 1) := by decide +kernel
theorem dX9_drops_72 : decode cX9_drops 72 = .ok (.getfield 9, 3) := by decide +kernel
theorem dX9_drops_75 : decode cX9_drops 75 = .ok (.sipush 795, 3) := by decide +kernel
theorem dX9_drops_78 : decode cX9_drops 78 = .ok (.iload_n 2, 1) := by decide +kernel
theorem dX9_drops_79 : decode cX9_drops 79 = .ok (.iadd, 1) := by decide +kernel
theorem dX9_drops_80 : decode cX9_drops 80 = .ok (.iconst 1, 1) := by decide +kernel
theorem dX9_drops_81 : decode cX9_drops 81 = .ok (.iadd, 1) := by decide +kernel
theorem dX9_drops_82 : decode cX9_drops 82 = .ok (.iaload, 1) := by decide +kernel
theorem dX9_drops_83 : decode cX9_drops 83 = .ok (.iastore, 1) := by decide +kernel
theorem dX9_drops_84 : decode cX9_drops 84 = .ok (.aload_n 0, 1) := by decide +kernel
theorem dX9_drops_85 : decode cX9_drops 85 = .ok (.getfield 9, 3) := by decide +kernel
theorem dX9_drops_88 : decode cX9_drops 88 = .ok (.sipush 856, 3) := by decide +kernel
theorem dX9_drops_91 : decode cX9_drops 91 = .ok (.iload_n 2, 1) := by decide +kernel
theorem dX9_drops_92 : decode cX9_drops 92 = .ok (.iadd, 1) := by decide +kernel
theorem dX9_drops_93 : decode cX9_drops 93 = .ok (.aload_n 0, 1) := by decide +kernel
theorem dX9_drops_94 : decode cX9_drops 94 = .ok (.getfield 9, 3) := by decide +kernel
theorem dX9_drops_97 : decode cX9_drops 97 = .ok (.sipush 856, 3) := by decide +kernel
theorem dX9_drops_100 : decode cX9_drops 100 = .ok (.iload_n 2, 1) := by decide +kernel
theorem dX9_drops_101 : decode cX9_drops 101 = .ok (.iadd, 1) := by decide +kernel
theorem dX9_drops_102 : decode cX9_drops 102 = .ok (.iconst 1, 1) := by decide +kernel
theorem dX9_drops_103 : decode cX9_drops 103 = .ok (.iadd, 1) := by decide +kernel
theorem dX9_drops_104 : decode cX9_drops 104 = .ok (.iaload, 1) := by decide +kernel
theorem dX9_drops_105 : decode cX9_drops 105 = .ok (.iastore, 1) := by decide +kernel
theorem dX9_drops_106 : decode cX9_drops 106 = .ok (.iinc 2 1, 3) := by decide +kernel
theorem dX9_drops_109 : decode cX9_drops 109 = .ok (.goto (-107), 3) := by decide +kernel
theorem dX9_drops_112 : decode cX9_drops 112 = .ok (.aload_n 0, 1) := by decide +kernel
theorem dX9_drops_113 : decode cX9_drops 113 = .ok (.getfield 9, 3) := by decide +kernel
theorem dX9_drops_116 : decode cX9_drops 116 = .ok (.iconst 1, 1) := by decide +kernel
theorem dX9_drops_117 : decode cX9_drops 117 = .ok (.dup2, 1) := by decide +kernel
theorem dX9_drops_118 : decode cX9_drops 118 = .ok (.iaload, 1) := by decide +kernel
theorem dX9_drops_119 : decode cX9_drops 119 = .ok (.iconst 1, 1) := by decide +kernel
theorem dX9_drops_120 : decode cX9_drops 120 = .ok (.isub, 1) := by decide +kernel
theorem dX9_drops_121 : decode cX9_drops 121 = .ok (.iastore, 1) := by decide +kernel
theorem dX9_drops_122 : decode cX9_drops 122 = .ok (.iconst 0, 1) := by decide +kernel
theorem dX9_drops_123 : decode cX9_drops 123 = .ok (.istore_n 2, 1) := by decide +kernel
theorem dX9_drops_124 : decode cX9_drops 124 = .ok (.iload_n 2, 1) := by decide +kernel
theorem dX9_drops_125 : decode cX9_drops 125 = .ok (.aload_n 0, 1) := by decide +kernel
theorem dX9_drops_126 : decode cX9_drops 126 = .ok (.invokevirtual 56, 3) := by decide +kernel
theorem dX9_drops_129 : decode cX9_drops 129 = .ok (.if_icmp .ge 73, 3) := by decide +kernel
theorem dX9_drops_132 : decode cX9_drops 132 = .ok (.aload_n 0, 1) := by decide +kernel
theorem dX9_drops_133 : decode cX9_drops 133 = .ok (.getfield 9, 3) := by decide +kernel
theorem dX9_drops_136 : decode cX9_drops 136 = .ok (.sipush 734, 3) := by decide +kernel
theorem dX9_drops_139 : decode cX9_drops 139 = .ok (.iload_n 2, 1) := by decide +kernel
theorem dX9_drops_140 : decode cX9_drops 140 = .ok (.iadd, 1) := by decide +kernel
theorem dX9_drops_141 : decode cX9_drops 141 = .ok (.dup2, 1) := by decide +kernel
theorem dX9_drops_142 : decode cX9_drops 142 = .ok (.iaload, 1) := by decide +kernel
theorem dX9_drops_143 : decode cX9_drops 143 = .ok (.aload_n 0, 1) := by decide +kernel
theorem dX9_drops_144 : decode cX9_drops 144 = .ok (.getfield 9, 3) := by decide +kernel
theorem dX9_drops_147 : decode cX9_drops 147 = .ok (.sipush 734, 3) := by decide +kernel
theorem dX9_drops_150 : decode cX9_drops 150 = .ok (.iload_n 2, 1) := by decide +kernel
theorem dX9_drops_151 : decode cX9_drops 151 = .ok (.iadd, 1) := by decide +kernel
theorem dX9_drops_152 : decode cX9_drops 152 = .ok (.iaload, 1) := by decide +kernel
theorem dX9_drops_153 : decode cX9_drops 153 = .ok (.iload_n 1, 1) := by decide +kernel
theorem dX9_drops_154 : decode cX9_drops 154 = .ok (.if_icmp .le 7, 3) := by decide +kernel
theorem dX9_drops_157 : decode cX9_drops 157 = .ok (.iconst 1, 1) := by decide +kernel
theorem dX9_drops_158 : decode cX9_drops 158 = .ok (.goto 4, 3) := by decide +kernel
theorem dX9_drops_161 : decode cX9_drops 161 = .ok (.iconst 0, 1) := by decide +kernel
theorem dX9_drops_162 : decode cX9_drops 162 = .ok (.isub, 1) := by decide +kernel
theorem dX9_drops_163 : decode cX9_drops 163 = .ok (.iastore, 1) := by decide +kernel
theorem dX9_drops_164 : decode cX9_drops 164 = .ok (.aload_n 0, 1) := by decide +kernel
theorem dX9_drops_165 : decode cX9_drops 165 = .ok (.getfield 9, 3) := by decide +kernel
theorem dX9_drops_168 : decode cX9_drops 168 = .ok (.sipush 795, 3) := by decide +kernel
theorem dX9_drops_171 : decode cX9_drops 171 = .ok (.iload_n 2, 1) := by decide +kernel
theorem dX9_drops_172 : decode cX9_drops 172 = .ok (.iadd, 1) := by decide +kernel
theorem dX9_drops_173 : decode cX9_drops 173 = .ok (.dup2, 1) := by decide +kernel
theorem dX9_drops_174 : decode cX9_drops 174 = .ok (.iaload, 1) := by decide +kernel
theorem dX9_drops_175 : decode cX9_drops 175 = .ok (.aload_n 0, 1) := by decide +kernel
theorem dX9_drops_176 : decode cX9_drops 176 = .ok (.getfield 9, 3) := by decide +kernel
theorem dX9_drops_179 : decode cX9_drops 179 = .ok (.sipush 795, 3) := by decide +kernel
theorem dX9_drops_182 : decode cX9_drops 182 = .ok (.iload_n 2, 1) := by decide +kernel
theorem dX9_drops_183 : decode cX9_drops 183 = .ok (.iadd, 1) := by decide +kernel
theorem dX9_drops_184 : decode cX9_drops 184 = .ok (.iaload, 1) := by decide +kernel
theorem dX9_drops_185 : decode cX9_drops 185 = .ok (.iload_n 1, 1) := by decide +kernel
theorem dX9_drops_186 : decode cX9_drops 186 = .ok (.if_icmp .le 7, 3) := by decide +kernel
theorem dX9_drops_189 : decode cX9_drops 189 = .ok (.iconst 1, 1) := by decide +kernel
theorem dX9_drops_190 : decode cX9_drops 190 = .ok (.goto 4, 3) := by decide +kernel
theorem dX9_drops_193 : decode cX9_drops 193 = .ok (.iconst 0, 1) := by decide +kernel
theorem dX9_drops_194 : decode cX9_drops 194 = .ok (.isub, 1) := by decide +kernel
theorem dX9_drops_195 : decode cX9_drops 195 = .ok (.iastore, 1) := by decide +kernel
theorem dX9_drops_196 : decode cX9_drops 196 = .ok (.iinc 2 1, 3) := by decide +kernel
theorem dX9_drops_199 : decode cX9_drops 199 = .ok (.goto (-75), 3) := by decide +kernel
theorem dX9_drops_202 : decode cX9_drops 202 = .ok (.return_, 1) := by decide +kernel
set_option maxRecDepth 20000 in
theorem ggX9_subsumer_X9_many : GoodIn wsX9_subsumer wsX9_many := goodIn_r _ [5, 6, 19, 20, 21, 22, 23, 24, 25, 26, 27, 28, 29, 30, 31, 32, 33, 34, 35, 36, 37, 38, 39, 40, 41, 42, 43, 44, 45] rfl (by decide +kernel)
set_option maxRecDepth 20000 in
theorem gX9_subsumer_X9_many : GoodIn wsX9_subsumer (wsV RX9 56 RX9 yX9_many wsX9_many) := goodIn_app (goodIn_r _ [1, 2, 3, 4] rfl (by decide +kernel)) ggX9_subsumer_X9_many
set_option maxRecDepth 20000 in
theorem ggX9_subsumer_X9_isWithin : GoodIn wsX9_subsumer wsX9_isWithin := goodIn_r _ [10, 11, 12, 13, 4, 14, 6, 15, 16, 17, 18, 19, 20, 21, 22, 23, 24, 25, 26, 27, 28, 29, 30, 31, 32, 33, 34, 35, 36, 37, 38, 39, 40, 41, 42, 43, 44, 45] rfl (by decide +kernel)
set_option maxRecDepth 20000 in
theorem gX9_subsumer_X9_isWithin : GoodIn wsX9_subsumer (wsV RX9 71 RX9 yX9_isWithin wsX9_isWithin) := goodIn_app (goodIn_r _ [7, 8, 9, 4] rfl (by decide +kernel)) ggX9_subsumer_X9_isWithin
theorem dX9_subsumer_0 : decode cX9_subsumer 0 = .ok (.iconst 0, 1) := by decide +kernel
theorem dX9_subsumer_1 : decode cX9_subsumer 1 = .ok (.istore_n 2, 1) := by decide +kernel
theorem dX9_subsumer_2 : decode cX9_subsumer 2 = .ok (.iload_n 2, 1) := by decide +kernel
theorem dX9_subsumer_3 : decode cX9_subsumer 3 = .ok (.aload_n 0, 1) := by decide +kernel
theorem dX9_subsumer_4 : decode cX9_subsumer 4 = .ok (.invokevirtual 56, 3) := by decide +kernel
theorem dX9_subsumer_7 : decode cX9_subsumer 7 = .ok (.if_icmp .ge 25, 3) := by decide +kernel
theorem dX9_subsumer_10 : decode cX9_subsumer 10 = .ok (.iload_n 2, 1) := by decide +kernel
theorem dX9_subsumer_11 : decode cX9_subsumer 11 = .ok (.iload_n 1, 1) := by decide +kernel
theorem dX9_subsumer_12 : decode cX9_subsumer 12 = .ok (.if_icmp .eq 14, 3) := by decide +kernel
theorem dX9_subsumer_15 : decode cX9_subsumer 15 = .ok (.aload_n 0, 1) := by decide +kernel
theorem dX9_subsumer_16 : decode cX9_subsumer 16 = .ok (.iload_n 2, 1) := by decide +kernel
theorem dX9_subsumer_17 : decode cX9_subsumer 17 = .ok (.iload_n 1, 1) := by decide +kernel
theorem dX9_subsumer_18 : decode cX9_subsumer 18 = .ok (.invokevirtual 71, 3) := by decide +kernel
theorem dX9_subsumer_21 : decode cX9_subsumer 21 = .ok (.ifCond .eq 5, 3) := by decide +kernel
theorem dX9_subsumer_24 : decode cX9_subsumer 24 = .ok (.iload_n 2, 1) := by decide +kernel
theorem dX9_subsumer_25 : decode cX9_subsumer 25 = .ok (.ireturn, 1) := by decide +kernel
theorem dX9_subsumer_26 : decode cX9_subsumer 26 = .ok (.iinc 2 1, 3) := by decide +kernel
theorem dX9_subsumer_29 : decode cX9_subsumer 29 = .ok (.goto (-27), 3) := by decide +kernel
theorem dX9_subsumer_32 : decode cX9_subsumer 32 = .ok (.iconst (-1), 1) := by decide +kernel
theorem dX9_subsumer_33 : decode cX9_subsumer 33 = .ok (.ireturn, 1) := by decide +kernel
set_option maxRecDepth 20000 in
theorem ggX9_isSubsumed_X9_subsumer : GoodIn wsX9_isSubsumed wsX9_subsumer := goodIn_r _ [5, 6, 7, 8, 4, 9, 10, 11, 12, 13, 14, 15, 16, 17, 18, 19, 20, 21, 22, 23, 24, 25, 26, 27, 28, 29, 30, 31, 32, 33, 34, 35, 36, 37, 38, 39, 40, 41, 42, 43, 44, 45, 46, 47, 48, 49] rfl (by decide +kernel)
set_option maxRecDepth 20000 in
theorem gX9_isSubsumed_X9_subsumer : GoodIn wsX9_isSubsumed (wsV RX9 112 RX9 yX9_subsumer wsX9_subsumer) := goodIn_app (goodIn_r _ [1, 2, 3, 4] rfl (by decide +kernel)) ggX9_isSubsumed_X9_subsumer
theorem dX9_isSubsumed_0 : decode cX9_isSubsumed 0 = .ok (.aload_n 0, 1) := by decide +kernel
theorem dX9_isSubsumed_1 : decode cX9_isSubsumed 1 = .ok (.iload_n 1, 1) := by decide +kernel
theorem dX9_isSubsumed_2 : decode cX9_isSubsumed 2 = .ok (.invokevirtual 112, 3) := by decide +kernel
theorem dX9_isSubsumed_5 : decode cX9_isSubsumed 5 = .ok (.iconst (-1), 1) := by decide +kernel
theorem dX9_isSubsumed_6 : decode cX9_isSubsumed 6 = .ok (.if_icmp .eq 7, 3) := by decide +kernel
theorem dX9_isSubsumed_9 : decode cX9_isSubsumed 9 = .ok (.iconst 1, 1) := by decide +kernel
theorem dX9_isSubsumed_10 : decode cX9_isSubsumed 10 = .ok (.goto 4, 3) := by decide +kernel
theorem dX9_isSubsumed_13 : decode cX9_isSubsumed 13 = .ok (.iconst 0, 1) := by decide +kernel
theorem dX9_isSubsumed_14 : decode cX9_isSubsumed 14 = .ok (.ireturn, 1) := by decide +kernel
set_option maxRecDepth 20000 in
theorem ggX9_subsumed_X9_many : GoodIn wsX9_subsumed wsX9_many := goodIn_r _ [5, 6, 27, 28, 29, 30, 31, 32, 33, 34, 35, 36, 37, 38, 39, 40, 41, 42, 43, 44, 45, 46, 47, 48, 49, 50, 51, 52, 53] rfl (by decide +kernel)
set_option maxRecDepth 20000 in
theorem gX9_subsumed_X9_many : GoodIn wsX9_subsumed (wsV RX9 56 RX9 yX9_many wsX9_many) := goodIn_app (goodIn_r _ [1, 2, 3, 4] rfl (by decide +kernel)) ggX9_subsumed_X9_many
set_option maxRecDepth 20000 in
theorem ggX9_subsumed_X9_isSubsumed : GoodIn wsX9_subsumed wsX9_isSubsumed := goodIn_r _ [10, 11, 12, 13, 4, 14, 1, 2, 3, 5, 6, 15, 16, 17, 18, 19, 20, 21, 22, 23, 24, 25, 26, 27, 28, 29, 30, 31, 32, 33, 34, 35, 36, 37, 38, 39, 40, 41, 42, 43, 44, 45, 46, 47, 48, 49, 50, 51, 52, 53] rfl (by decide +kernel)
set_option maxRecDepth 20000 in
theorem gX9_subsumed_X9_isSubsumed : GoodIn wsX9_subsumed (wsV RX9 115 RX9 yX9_isSubsumed wsX9_isSubsumed) := goodIn_app (goodIn_r _ [7, 8, 9, 4] rfl (by decide +kernel)) ggX9_subsumed_X9_isSubsumed
theorem dX9_subsumed_0 : decode cX9_subsumed 0 = .ok (.iconst 0, 1) := by decide +kernel
theorem dX9_subsumed_1 : decode cX9_subsumed 1 = .ok (.istore_n 1, 1) := by decide +kernel
theorem dX9_subsumed_2 : decode cX9_subsumed 2 = .ok (.iconst 0, 1) := by decide +kernel
theorem dX9_subsumed_3 : decode cX9_subsumed 3 = .ok (.istore_n 2, 1) := by decide +kernel
theorem dX9_subsumed_4 : decode cX9_subsumed 4 = .ok (.iload_n 2, 1) := by decide +kernel
theorem dX9_subsumed_5 : decode cX9_subsumed 5 = .ok (.aload_n 0, 1) := by decide +kernel
theorem dX9_subsumed_6 : decode cX9_subsumed 6 = .ok (.invokevirtual 56, 3) := by decide +kernel
theorem dX9_subsumed_9 : decode cX9_subsumed 9 = .ok (.if_icmp .ge 25, 3) := by decide +kernel
theorem dX9_subsumed_12 : decode cX9_subsumed 12 = .ok (.iload_n 1, 1) := by decide +kernel
theorem dX9_subsumed_13 : decode cX9_subsumed 13 = .ok (.aload_n 0, 1) := by decide +kernel
theorem dX9_subsumed_14 : decode cX9_subsumed 14 = .ok (.iload_n 2, 1) := by decide +kernel
theorem dX9_subsumed_15 : decode cX9_subsumed 15 = .ok (.invokevirtual 115, 3) := by decide +kernel
theorem dX9_subsumed_18 : decode cX9_subsumed 18 = .ok (.ifCond .eq 7, 3) := by decide +kernel
theorem dX9_subsumed_21 : decode cX9_subsumed 21 = .ok (.iconst 1, 1) := by decide +kernel
theorem dX9_subsumed_22 : decode cX9_subsumed 22 = .ok (.goto 4, 3) := by decide +kernel
theorem dX9_subsumed_25 : decode cX9_subsumed 25 = .ok (.iconst 0, 1) := by decide +kernel
theorem dX9_subsumed_26 : decode cX9_subsumed 26 = .ok (.iadd, 1) := by decide +kernel
theorem dX9_subsumed_27 : decode cX9_subsumed 27 = .ok (.istore_n 1, 1) := by decide +kernel
theorem dX9_subsumed_28 : decode cX9_subsumed 28 = .ok (.iinc 2 1, 3) := by decide +kernel
theorem dX9_subsumed_31 : decode cX9_subsumed 31 = .ok (.goto (-27), 3) := by decide +kernel
theorem dX9_subsumed_34 : decode cX9_subsumed 34 = .ok (.iload_n 1, 1) := by decide +kernel
theorem dX9_subsumed_35 : decode cX9_subsumed 35 = .ok (.ireturn, 1) := by decide +kernel
set_option maxRecDepth 20000 in
theorem ggX9_reduces_X9_many : GoodIn wsX9_reduces wsX9_many := goodIn_r _ [5, 6, 39, 40, 41, 42, 43, 44, 45, 46, 47, 48, 49, 50, 51, 52, 53, 54, 55, 56, 57, 58, 59, 60, 61, 62, 63, 64, 65] rfl (by decide +kernel)
set_option maxRecDepth 20000 in
theorem gX9_reduces_X9_many : GoodIn wsX9_reduces (wsV RX9 56 RX9 yX9_many wsX9_many) := goodIn_app (goodIn_r _ [1, 2, 3, 4] rfl (by decide +kernel)) ggX9_reduces_X9_many
set_option maxRecDepth 20000 in
theorem ggX9_reduces_X9_isParent : GoodIn wsX9_reduces wsX9_isParent := goodIn_r _ [10, 6, 1, 2, 3, 4, 5, 39, 40, 41, 42, 43, 44, 45, 46, 47, 48, 49, 50, 51, 52, 53, 54, 55, 56, 57, 58, 59, 60, 61, 62, 63, 64, 65] rfl (by decide +kernel)
set_option maxRecDepth 20000 in
theorem gX9_reduces_X9_isParent : GoodIn wsX9_reduces (wsV RX9 119 RX9 yX9_isParent wsX9_isParent) := goodIn_app (goodIn_r _ [7, 8, 9, 4] rfl (by decide +kernel)) ggX9_reduces_X9_isParent
set_option maxRecDepth 20000 in
theorem ggX9_reduces_X9_isSubsumed : GoodIn wsX9_reduces wsX9_isSubsumed := goodIn_r _ [14, 15, 16, 17, 4, 18, 1, 2, 3, 5, 6, 19, 20, 21, 22, 23, 24, 25, 26, 27, 28, 29, 30, 39, 40, 41, 42, 43, 44, 45, 46, 47, 48, 49, 50, 51, 52, 53, 54, 55, 56, 57, 58, 59, 60, 61, 62, 63, 64, 65] rfl (by decide +kernel)
set_option maxRecDepth 20000 in
theorem gX9_reduces_X9_isSubsumed : GoodIn wsX9_reduces (wsV RX9 115 RX9 yX9_isSubsumed wsX9_isSubsumed) := goodIn_app (goodIn_r _ [11, 12, 13, 4] rfl (by decide +kernel)) ggX9_reduces_X9_isSubsumed
set_option maxRecDepth 20000 in
theorem ggX9_reduces_X9_drops : GoodIn wsX9_reduces wsX9_drops := goodIn_r _ [34, 6, 1, 2, 3, 4, 5, 27, 28, 29, 30, 35, 36, 37, 38, 39, 40, 41, 42, 43, 44, 45, 46, 47, 48, 49, 50, 51, 52, 53, 54, 55, 56, 57, 58, 59, 60, 61, 62, 63, 64, 65] rfl (by decide +kernel)
set_option maxRecDepth 20000 in
theorem gX9_reduces_X9_drops : GoodIn wsX9_reduces (wsV RX9 122 RX9 yX9_drops wsX9_drops) := goodIn_app (goodIn_r _ [31, 32, 33, 4] rfl (by decide +kernel)) ggX9_reduces_X9_drops
theorem dX9_reduces_0 : decode cX9_reduces 0 = .ok (.iconst 0, 1) := by decide +kernel
theorem dX9_reduces_1 : decode cX9_reduces 1 = .ok (.istore_n 1, 1) := by decide +kernel
theorem dX9_reduces_2 : decode cX9_reduces 2 = .ok (.aload_n 0, 1) := by decide +kernel
theorem dX9_reduces_3 : decode cX9_reduces 3 = .ok (.invokevirtual 56, 3) := by decide +kernel
theorem dX9_reduces_6 : decode cX9_reduces 6 = .ok (.iconst 1, 1) := by decide +kernel
theorem dX9_reduces_7 : decode cX9_reduces 7 = .ok (.isub, 1) := by decide +kernel
theorem dX9_reduces_8 : decode cX9_reduces 8 = .ok (.istore_n 2, 1) := by decide +kernel
theorem dX9_reduces_9 : decode cX9_reduces 9 = .ok (.iload_n 2, 1) := by decide +kernel
theorem dX9_reduces_10 : decode cX9_reduces 10 = .ok (.ifCond .lt 38, 3) := by decide +kernel
theorem dX9_reduces_13 : decode cX9_reduces 13 = .ok (.aload_n 0, 1) := by decide +kernel
theorem dX9_reduces_14 : decode cX9_reduces 14 = .ok (.iload_n 2, 1) := by decide +kernel
theorem dX9_reduces_15 : decode cX9_reduces 15 = .ok (.invokevirtual 119, 3) := by decide +kernel
theorem dX9_reduces_18 : decode cX9_reduces 18 = .ok (.ifCond .ne 24, 3) := by decide +kernel
theorem dX9_reduces_21 : decode cX9_reduces 21 = .ok (.aload_n 0, 1) := by decide +kernel
theorem dX9_reduces_22 : decode cX9_reduces 22 = .ok (.iload_n 2, 1) := by decide +kernel
theorem dX9_reduces_23 : decode cX9_reduces 23 = .ok (.invokevirtual 115, 3) := by decide +kernel
theorem dX9_reduces_26 : decode cX9_reduces 26 = .ok (.ifCond .eq 16, 3) := by decide +kernel
theorem dX9_reduces_29 : decode cX9_reduces 29 = .ok (.aload_n 0, 1) := by decide +kernel
theorem dX9_reduces_30 : decode cX9_reduces 30 = .ok (.iload_n 2, 1) := by decide +kernel
theorem dX9_reduces_31 : decode cX9_reduces 31 = .ok (.invokevirtual 122, 3) := by decide +kernel
theorem dX9_reduces_34 : decode cX9_reduces 34 = .ok (.iinc 1 1, 3) := by decide +kernel
theorem dX9_reduces_37 : decode cX9_reduces 37 = .ok (.aload_n 0, 1) := by decide +kernel
theorem dX9_reduces_38 : decode cX9_reduces 38 = .ok (.invokevirtual 56, 3) := by decide +kernel
theorem dX9_reduces_41 : decode cX9_reduces 41 = .ok (.istore_n 2, 1) := by decide +kernel
theorem dX9_reduces_42 : decode cX9_reduces 42 = .ok (.iinc 2 (-1), 3) := by decide +kernel
theorem dX9_reduces_45 : decode cX9_reduces 45 = .ok (.goto (-36), 3) := by decide +kernel
theorem dX9_reduces_48 : decode cX9_reduces 48 = .ok (.iload_n 1, 1) := by decide +kernel
theorem dX9_reduces_49 : decode cX9_reduces 49 = .ok (.ireturn, 1) := by decide +kernel
set_option maxRecDepth 20000 in
theorem ggX9_negates_X9_many : GoodIn wsX9_negates wsX9_many := goodIn_r _ [6, 1, 15, 16, 17, 18, 19, 20, 21, 22, 23, 24, 25, 26, 27, 28, 29, 30, 31, 32, 33, 34, 35, 36, 37, 38, 39, 40, 41] rfl (by decide +kernel)
set_option maxRecDepth 20000 in
theorem gX9_negates_X9_many : GoodIn wsX9_negates (wsV RX9 56 RX9 yX9_many wsX9_many) := goodIn_app (goodIn_r _ [2, 3, 4, 5] rfl (by decide +kernel)) ggX9_negates_X9_many
set_option maxRecDepth 20000 in
theorem ggX9_negates_X9_sign : GoodIn wsX9_negates wsX9_sign := goodIn_r _ [10, 1, 15, 16, 17, 18, 19, 20, 21, 22, 23, 24, 25, 26, 27, 28, 29, 30, 31, 32, 33, 34, 35, 36, 37, 38, 39, 40, 41] rfl (by decide +kernel)
set_option maxRecDepth 20000 in
theorem gX9_negates_X9_sign : GoodIn wsX9_negates (wsV RX9 67 RX9 yX9_sign wsX9_sign) := goodIn_app (goodIn_r _ [7, 8, 9, 5] rfl (by decide +kernel)) ggX9_negates_X9_sign
set_option maxRecDepth 20000 in
theorem ggX9_negates_X9_puts : GoodIn wsX9_negates wsX9_puts := goodIn_r _ [14, 1, 15, 16, 17, 18, 19, 20, 21, 22, 23, 24, 25, 26, 27, 28, 29, 30, 31, 32, 33, 34, 35, 36, 37, 38, 39, 40, 41] rfl (by decide +kernel)
set_option maxRecDepth 20000 in
theorem gX9_negates_X9_puts : GoodIn wsX9_negates (wsV RX9 60 RX9 yX9_puts wsX9_puts) := goodIn_app (goodIn_r _ [11, 12, 13, 5] rfl (by decide +kernel)) ggX9_negates_X9_puts
theorem dX9_negates_0 : decode cX9_negates 0 = .ok (.iconst 0, 1) := by decide +kernel
theorem dX9_negates_1 : decode cX9_negates 1 = .ok (.istore_n 2, 1) := by decide +kernel
theorem dX9_negates_2 : decode cX9_negates 2 = .ok (.iconst 0, 1) := by decide +kernel
theorem dX9_negates_3 : decode cX9_negates 3 = .ok (.istore_n 3, 1) := by decide +kernel
theorem dX9_negates_4 : decode cX9_negates 4 = .ok (.iload_n 3, 1) := by decide +kernel
theorem dX9_negates_5 : decode cX9_negates 5 = .ok (.aload_n 0, 1) := by decide +kernel
theorem dX9_negates_6 : decode cX9_negates 6 = .ok (.invokevirtual 56, 3) := by decide +kernel
theorem dX9_negates_9 : decode cX9_negates 9 = .ok (.if_icmp .ge 107, 3) := by decide +kernel
theorem dX9_negates_12 : decode cX9_negates 12 = .ok (.aload_n 0, 1) := by decide +kernel
theorem dX9_negates_13 : decode cX9_negates 13 = .ok (.iload_n 3, 1) := by decide +kernel
theorem dX9_negates_14 : decode cX9_negates 14 = .ok (.iload_n 1, 1) := by decide +kernel
theorem dX9_negates_15 : decode cX9_negates 15 = .ok (.invokevirtual 67, 3) := by decide +kernel
theorem dX9_negates_18 : decode cX9_negates 18 = .ok (.istore 4, 2) := by decide +kernel
theorem dX9_negates_20 : decode cX9_negates 20 = .ok (.iload_n 2, 1) := by decide +kernel
theorem dX9_negates_21 : decode cX9_negates 21 = .ok (.iload 4, 2) := by decide +kernel
theorem dX9_negates_23 : decode cX9_negates 23 = .ok (.ifCond .ne 7, 3) := by decide +kernel
theorem dX9_negates_26 : decode cX9_negates 26 = .ok (.iconst 0, 1) := by decide +kernel
theorem dX9_negates_27 : decode cX9_negates 27 = .ok (.goto 4, 3) := by decide +kernel
theorem dX9_negates_30 : decode cX9_negates 30 = .ok (.iconst 1, 1) := by decide +kernel
theorem dX9_negates_31 : decode cX9_negates 31 = .ok (.iadd, 1) := by decide +kernel
theorem dX9_negates_32 : decode cX9_negates 32 = .ok (.istore_n 2, 1) := by decide +kernel
theorem dX9_negates_33 : decode cX9_negates 33 = .ok (.aload_n 0, 1) := by decide +kernel
theorem dX9_negates_34 : decode cX9_negates 34 = .ok (.iload_n 3, 1) := by decide +kernel
theorem dX9_negates_35 : decode cX9_negates 35 = .ok (.iload_n 1, 1) := by decide +kernel
theorem dX9_negates_36 : decode cX9_negates 36 = .ok (.iload 4, 2) := by decide +kernel
theorem dX9_negates_38 : decode cX9_negates 38 = .ok (.ifCond .ne 7, 3) := by decide +kernel
theorem dX9_negates_41 : decode cX9_negates 41 = .ok (.iconst 0, 1) := by decide +kernel
theorem dX9_negates_42 : decode cX9_negates 42 = .ok (.goto 7, 3) := by decide +kernel
theorem dX9_negates_45 : decode cX9_negates 45 = .ok (.iconst 3, 1) := by decide +kernel
theorem dX9_negates_46 : decode cX9_negates 46 = .ok (.iload 4, 2) := by decide +kernel
theorem dX9_negates_48 : decode cX9_negates 48 = .ok (.isub, 1) := by decide +kernel
theorem dX9_negates_49 : decode cX9_negates 49 = .ok (.invokevirtual 60, 3) := by decide +kernel
theorem dX9_negates_52 : decode cX9_negates 52 = .ok (.aload_n 0, 1) := by decide +kernel
theorem dX9_negates_53 : decode cX9_negates 53 = .ok (.getfield 9, 3) := by decide +kernel
theorem dX9_negates_56 : decode cX9_negates 56 = .ok (.sipush 856, 3) := by decide +kernel
theorem dX9_negates_59 : decode cX9_negates 59 = .ok (.iload_n 3, 1) := by decide +kernel
theorem dX9_negates_60 : decode cX9_negates 60 = .ok (.iadd, 1) := by decide +kernel
theorem dX9_negates_61 : decode cX9_negates 61 = .ok (.iaload, 1) := by decide +kernel
theorem dX9_negates_62 : decode cX9_negates 62 = .ok (.iload_n 1, 1) := by decide +kernel
theorem dX9_negates_63 : decode cX9_negates 63 = .ok (.if_icmp .ne 47, 3) := by decide +kernel
theorem dX9_negates_66 : decode cX9_negates 66 = .ok (.aload_n 0, 1) := by decide +kernel
theorem dX9_negates_67 : decode cX9_negates 67 = .ok (.getfield 9, 3) := by decide +kernel
theorem dX9_negates_70 : decode cX9_negates 70 = .ok (.sipush 734, 3) := by decide +kernel
theorem dX9_negates_73 : decode cX9_negates 73 = .ok (.iload_n 3, 1) := by decide +kernel
theorem dX9_negates_74 : decode cX9_negates 74 = .ok (.iadd, 1) := by decide +kernel
theorem dX9_negates_75 : decode cX9_negates 75 = .ok (.iaload, 1) := by decide +kernel
theorem dX9_negates_76 : decode cX9_negates 76 = .ok (.istore 5, 2) := by decide +kernel
theorem dX9_negates_78 : decode cX9_negates 78 = .ok (.aload_n 0, 1) := by decide +kernel
theorem dX9_negates_79 : decode cX9_negates 79 = .ok (.getfield 9, 3) := by decide +kernel
theorem dX9_negates_82 : decode cX9_negates 82 = .ok (.sipush 734, 3) := by decide +kernel
theorem dX9_negates_85 : decode cX9_negates 85 = .ok (.iload_n 3, 1) := by decide +kernel
theorem dX9_negates_86 : decode cX9_negates 86 = .ok (.iadd, 1) := by decide +kernel
theorem dX9_negates_87 : decode cX9_negates 87 = .ok (.aload_n 0, 1) := by decide +kernel
theorem dX9_negates_88 : decode cX9_negates 88 = .ok (.getfield 9, 3) := by decide +kernel
theorem dX9_negates_91 : decode cX9_negates 91 = .ok (.sipush 795, 3) := by decide +kernel
theorem dX9_negates_94 : decode cX9_negates 94 = .ok (.iload_n 3, 1) := by decide +kernel
theorem dX9_negates_95 : decode cX9_negates 95 = .ok (.iadd, 1) := by decide +kernel
theorem dX9_negates_96 : decode cX9_negates 96 = .ok (.iaload, 1) := by decide +kernel
theorem dX9_negates_97 : decode cX9_negates 97 = .ok (.iastore, 1) := by decide +kernel
theorem dX9_negates_98 : decode cX9_negates 98 = .ok (.aload_n 0, 1) := by decide +kernel
theorem dX9_negates_99 : decode cX9_negates 99 = .ok (.getfield 9, 3) := by decide +kernel
theorem dX9_negates_102 : decode cX9_negates 102 = .ok (.sipush 795, 3) := by decide +kernel
theorem dX9_negates_105 : decode cX9_negates 105 = .ok (.iload_n 3, 1) := by decide +kernel
theorem dX9_negates_106 : decode cX9_negates 106 = .ok (.iadd, 1) := by decide +kernel
theorem dX9_negates_107 : decode cX9_negates 107 = .ok (.iload 5, 2) := by decide +kernel
theorem dX9_negates_109 : decode cX9_negates 109 = .ok (.iastore, 1) := by decide +kernel
theorem dX9_negates_110 : decode cX9_negates 110 = .ok (.iinc 3 1, 3) := by decide +kernel
theorem dX9_negates_113 : decode cX9_negates 113 = .ok (.goto (-109), 3) := by decide +kernel
theorem dX9_negates_116 : decode cX9_negates 116 = .ok (.iload_n 2, 1) := by decide +kernel
theorem dX9_negates_117 : decode cX9_negates 117 = .ok (.ireturn, 1) := by decide +kernel
theorem dX9_deep_0 : decode cX9_deep 0 = .ok (.aload_n 0, 1) := by decide +kernel
theorem dX9_deep_1 : decode cX9_deep 1 = .ok (.getfield 9, 3) := by decide +kernel
theorem dX9_deep_4 : decode cX9_deep 4 = .ok (.sipush 856, 3) := by decide +kernel
theorem dX9_deep_7 : decode cX9_deep 7 = .ok (.iload_n 1, 1) := by decide +kernel
theorem dX9_deep_8 : decode cX9_deep 8 = .ok (.iadd, 1) := by decide +kernel
theorem dX9_deep_9 : decode cX9_deep 9 = .ok (.iaload, 1) := by decide +kernel
theorem dX9_deep_10 : decode cX9_deep 10 = .ok (.iconst (-1), 1) := by decide +kernel
theorem dX9_deep_11 : decode cX9_deep 11 = .ok (.if_icmp .ne 5, 3) := by decide +kernel
theorem dX9_deep_14 : decode cX9_deep 14 = .ok (.iconst 0, 1) := by decide +kernel
theorem dX9_deep_15 : decode cX9_deep 15 = .ok (.ireturn, 1) := by decide +kernel
theorem dX9_deep_16 : decode cX9_deep 16 = .ok (.iconst 1, 1) := by decide +kernel
theorem dX9_deep_17 : decode cX9_deep 17 = .ok (.aload_n 0, 1) := by decide +kernel
theorem dX9_deep_18 : decode cX9_deep 18 = .ok (.getfield 29, 3) := by decide +kernel
theorem dX9_deep_21 : decode cX9_deep 21 = .ok (.aload_n 0, 1) := by decide +kernel
theorem dX9_deep_22 : decode cX9_deep 22 = .ok (.getfield 9, 3) := by decide +kernel
theorem dX9_deep_25 : decode cX9_deep 25 = .ok (.sipush 734, 3) := by decide +kernel
theorem dX9_deep_28 : decode cX9_deep 28 = .ok (.iload_n 1, 1) := by decide +kernel
theorem dX9_deep_29 : decode cX9_deep 29 = .ok (.iadd, 1) := by decide +kernel
theorem dX9_deep_30 : decode cX9_deep 30 = .ok (.iaload, 1) := by decide +kernel
theorem dX9_deep_31 : decode cX9_deep 31 = .ok (.iaload, 1) := by decide +kernel
theorem dX9_deep_32 : decode cX9_deep 32 = .ok (.aload_n 0, 1) := by decide +kernel
theorem dX9_deep_33 : decode cX9_deep 33 = .ok (.getfield 29, 3) := by decide +kernel
theorem dX9_deep_36 : decode cX9_deep 36 = .ok (.aload_n 0, 1) := by decide +kernel
theorem dX9_deep_37 : decode cX9_deep 37 = .ok (.getfield 9, 3) := by decide +kernel
theorem dX9_deep_40 : decode cX9_deep 40 = .ok (.sipush 795, 3) := by decide +kernel
theorem dX9_deep_43 : decode cX9_deep 43 = .ok (.iload_n 1, 1) := by decide +kernel
theorem dX9_deep_44 : decode cX9_deep 44 = .ok (.iadd, 1) := by decide +kernel
theorem dX9_deep_45 : decode cX9_deep 45 = .ok (.iaload, 1) := by decide +kernel
theorem dX9_deep_46 : decode cX9_deep 46 = .ok (.iaload, 1) := by decide +kernel
theorem dX9_deep_47 : decode cX9_deep 47 = .ok (.invokestatic 126, 3) := by decide +kernel
theorem dX9_deep_50 : decode cX9_deep 50 = .ok (.iadd, 1) := by decide +kernel
theorem dX9_deep_51 : decode cX9_deep 51 = .ok (.ireturn, 1) := by decide +kernel
set_option maxRecDepth 20000 in
theorem ggX9_depthAt_X9_deep : GoodIn wsX9_depthAt wsX9_deep := goodIn_r _ [6, 7, 1, 8, 9, 10, 11, 12, 13, 14, 15, 16, 17, 18, 19, 20, 21, 22, 23, 24, 25, 26, 27, 28, 29, 30, 31, 32, 33, 34, 35, 36, 37, 38] rfl (by decide +kernel)
set_option maxRecDepth 20000 in
theorem gX9_depthAt_X9_deep : GoodIn wsX9_depthAt (wsV RX9 131 RX9 yX9_deep wsX9_deep) := goodIn_app (goodIn_r _ [2, 3, 4, 5] rfl (by decide +kernel)) ggX9_depthAt_X9_deep
theorem dX9_depthAt_0 : decode cX9_depthAt 0 = .ok (.iconst 0, 1) := by decide +kernel
theorem dX9_depthAt_1 : decode cX9_depthAt 1 = .ok (.istore_n 2, 1) := by decide +kernel
theorem dX9_depthAt_2 : decode cX9_depthAt 2 = .ok (.iload_n 2, 1) := by decide +kernel
theorem dX9_depthAt_3 : decode cX9_depthAt 3 = .ok (.iload_n 1, 1) := by decide +kernel
theorem dX9_depthAt_4 : decode cX9_depthAt 4 = .ok (.if_icmp .gt 20, 3) := by decide +kernel
theorem dX9_depthAt_7 : decode cX9_depthAt 7 = .ok (.aload_n 0, 1) := by decide +kernel
theorem dX9_depthAt_8 : decode cX9_depthAt 8 = .ok (.getfield 29, 3) := by decide +kernel
theorem dX9_depthAt_11 : decode cX9_depthAt 11 = .ok (.iload_n 2, 1) := by decide +kernel
theorem dX9_depthAt_12 : decode cX9_depthAt 12 = .ok (.aload_n 0, 1) := by decide +kernel
theorem dX9_depthAt_13 : decode cX9_depthAt 13 = .ok (.iload_n 2, 1) := by decide +kernel
theorem dX9_depthAt_14 : decode cX9_depthAt 14 = .ok (.invokevirtual 131, 3) := by decide +kernel
theorem dX9_depthAt_17 : decode cX9_depthAt 17 = .ok (.iastore, 1) := by decide +kernel
theorem dX9_depthAt_18 : decode cX9_depthAt 18 = .ok (.iinc 2 1, 3) := by decide +kernel
theorem dX9_depthAt_21 : decode cX9_depthAt 21 = .ok (.goto (-19), 3) := by decide +kernel
theorem dX9_depthAt_24 : decode cX9_depthAt 24 = .ok (.aload_n 0, 1) := by decide +kernel
theorem dX9_depthAt_25 : decode cX9_depthAt 25 = .ok (.getfield 29, 3) := by decide +kernel
theorem dX9_depthAt_28 : decode cX9_depthAt 28 = .ok (.iload_n 1, 1) := by decide +kernel
theorem dX9_depthAt_29 : decode cX9_depthAt 29 = .ok (.iaload, 1) := by decide +kernel
theorem dX9_depthAt_30 : decode cX9_depthAt 30 = .ok (.ireturn, 1) := by decide +kernel
theorem dX9_derives_0 : decode cX9_derives 0 = .ok (.iconst 0, 1) := by decide +kernel
theorem dX9_derives_1 : decode cX9_derives 1 = .ok (.istore_n 2, 1) := by decide +kernel
theorem dX9_derives_2 : decode cX9_derives 2 = .ok (.iload_n 2, 1) := by decide +kernel
theorem dX9_derives_3 : decode cX9_derives 3 = .ok (.bipush 60, 2) := by decide +kernel
theorem dX9_derives_5 : decode cX9_derives 5 = .ok (.if_icmp .ge 25, 3) := by decide +kernel
theorem dX9_derives_8 : decode cX9_derives 8 = .ok (.aload_n 0, 1) := by decide +kernel
theorem dX9_derives_9 : decode cX9_derives 9 = .ok (.getfield 32, 3) := by decide +kernel
theorem dX9_derives_12 : decode cX9_derives 12 = .ok (.iload_n 2, 1) := by decide +kernel
theorem dX9_derives_13 : decode cX9_derives 13 = .ok (.iload_n 2, 1) := by decide +kernel
theorem dX9_derives_14 : decode cX9_derives 14 = .ok (.iload_n 1, 1) := by decide +kernel
theorem dX9_derives_15 : decode cX9_derives 15 = .ok (.if_icmp .ne 7, 3) := by decide +kernel
theorem dX9_derives_18 : decode cX9_derives 18 = .ok (.iconst 1, 1) := by decide +kernel
theorem dX9_derives_19 : decode cX9_derives 19 = .ok (.goto 4, 3) := by decide +kernel
theorem dX9_derives_22 : decode cX9_derives 22 = .ok (.iconst 0, 1) := by decide +kernel
theorem dX9_derives_23 : decode cX9_derives 23 = .ok (.bastore, 1) := by decide +kernel
theorem dX9_derives_24 : decode cX9_derives 24 = .ok (.iinc 2 1, 3) := by decide +kernel
theorem dX9_derives_27 : decode cX9_derives 27 = .ok (.goto (-25), 3) := by decide +kernel
theorem dX9_derives_30 : decode cX9_derives 30 = .ok (.iload_n 1, 1) := by decide +kernel
theorem dX9_derives_31 : decode cX9_derives 31 = .ok (.istore_n 2, 1) := by decide +kernel
theorem dX9_derives_32 : decode cX9_derives 32 = .ok (.iload_n 2, 1) := by decide +kernel
theorem dX9_derives_33 : decode cX9_derives 33 = .ok (.ifCond .lt 64, 3) := by decide +kernel
theorem dX9_derives_36 : decode cX9_derives 36 = .ok (.aload_n 0, 1) := by decide +kernel
theorem dX9_derives_37 : decode cX9_derives 37 = .ok (.getfield 32, 3) := by decide +kernel
theorem dX9_derives_40 : decode cX9_derives 40 = .ok (.iload_n 2, 1) := by decide +kernel
theorem dX9_derives_41 : decode cX9_derives 41 = .ok (.baload, 1) := by decide +kernel
theorem dX9_derives_42 : decode cX9_derives 42 = .ok (.ifCond .eq 49, 3) := by decide +kernel
theorem dX9_derives_45 : decode cX9_derives 45 = .ok (.aload_n 0, 1) := by decide +kernel
theorem dX9_derives_46 : decode cX9_derives 46 = .ok (.getfield 9, 3) := by decide +kernel
theorem dX9_derives_49 : decode cX9_derives 49 = .ok (.sipush 856, 3) := by decide +kernel
theorem dX9_derives_52 : decode cX9_derives 52 = .ok (.iload_n 2, 1) := by decide +kernel
theorem dX9_derives_53 : decode cX9_derives 53 = .ok (.iadd, 1) := by decide +kernel
theorem dX9_derives_54 : decode cX9_derives 54 = .ok (.iaload, 1) := by decide +kernel
theorem dX9_derives_55 : decode cX9_derives 55 = .ok (.iconst (-1), 1) := by decide +kernel
theorem dX9_derives_56 : decode cX9_derives 56 = .ok (.if_icmp .eq 35, 3) := by decide +kernel
theorem dX9_derives_59 : decode cX9_derives 59 = .ok (.aload_n 0, 1) := by decide +kernel
theorem dX9_derives_60 : decode cX9_derives 60 = .ok (.getfield 32, 3) := by decide +kernel
theorem dX9_derives_63 : decode cX9_derives 63 = .ok (.aload_n 0, 1) := by decide +kernel
theorem dX9_derives_64 : decode cX9_derives 64 = .ok (.getfield 9, 3) := by decide +kernel
theorem dX9_derives_67 : decode cX9_derives 67 = .ok (.sipush 734, 3) := by decide +kernel
theorem dX9_derives_70 : decode cX9_derives 70 = .ok (.iload_n 2, 1) := by decide +kernel
theorem dX9_derives_71 : decode cX9_derives 71 = .ok (.iadd, 1) := by decide +kernel
theorem dX9_derives_72 : decode cX9_derives 72 = .ok (.iaload, 1) := by decide +kernel
theorem dX9_derives_73 : decode cX9_derives 73 = .ok (.iconst 1, 1) := by decide +kernel
theorem dX9_derives_74 : decode cX9_derives 74 = .ok (.bastore, 1) := by decide +kernel
theorem dX9_derives_75 : decode cX9_derives 75 = .ok (.aload_n 0, 1) := by decide +kernel
theorem dX9_derives_76 : decode cX9_derives 76 = .ok (.getfield 32, 3) := by decide +kernel
theorem dX9_derives_79 : decode cX9_derives 79 = .ok (.aload_n 0, 1) := by decide +kernel
theorem dX9_derives_80 : decode cX9_derives 80 = .ok (.getfield 9, 3) := by decide +kernel
theorem dX9_derives_83 : decode cX9_derives 83 = .ok (.sipush 795, 3) := by decide +kernel
theorem dX9_derives_86 : decode cX9_derives 86 = .ok (.iload_n 2, 1) := by decide +kernel
theorem dX9_derives_87 : decode cX9_derives 87 = .ok (.iadd, 1) := by decide +kernel
theorem dX9_derives_88 : decode cX9_derives 88 = .ok (.iaload, 1) := by decide +kernel
theorem dX9_derives_89 : decode cX9_derives 89 = .ok (.iconst 1, 1) := by decide +kernel
theorem dX9_derives_90 : decode cX9_derives 90 = .ok (.bastore, 1) := by decide +kernel
theorem dX9_derives_91 : decode cX9_derives 91 = .ok (.iinc 2 (-1), 3) := by decide +kernel
theorem dX9_derives_94 : decode cX9_derives 94 = .ok (.goto (-62), 3) := by decide +kernel
theorem dX9_derives_97 : decode cX9_derives 97 = .ok (.return_, 1) := by decide +kernel
set_option maxRecDepth 20000 in
theorem ggX9_holds_X9_wide : GoodIn wsX9_holds wsX9_wide := goodIn_r _ [5, 6, 11, 12, 13, 14, 15, 16, 17, 18, 19, 20, 21, 22, 23, 24, 25, 26, 27, 28, 29, 30, 31, 32, 33, 34, 35, 36, 37] rfl (by decide +kernel)
set_option maxRecDepth 20000 in
theorem gX9_holds_X9_wide : GoodIn wsX9_holds (wsV RX9 64 RX9 yX9_wide wsX9_wide) := goodIn_app (goodIn_r _ [1, 2, 3, 4] rfl (by decide +kernel)) ggX9_holds_X9_wide
set_option maxRecDepth 20000 in
theorem ggX9_holds_X9_sign : GoodIn wsX9_holds wsX9_sign := goodIn_r _ [10, 6, 11, 12, 13, 14, 15, 16, 17, 18, 19, 20, 21, 22, 23, 24, 25, 26, 27, 28, 29, 30, 31, 32, 33, 34, 35, 36, 37] rfl (by decide +kernel)
set_option maxRecDepth 20000 in
theorem gX9_holds_X9_sign : GoodIn wsX9_holds (wsV RX9 67 RX9 yX9_sign wsX9_sign) := goodIn_app (goodIn_r _ [7, 8, 9, 4] rfl (by decide +kernel)) ggX9_holds_X9_sign
theorem dX9_holds_0 : decode cX9_holds 0 = .ok (.iconst 0, 1) := by decide +kernel
theorem dX9_holds_1 : decode cX9_holds 1 = .ok (.istore_n 3, 1) := by decide +kernel
theorem dX9_holds_2 : decode cX9_holds 2 = .ok (.iload_n 3, 1) := by decide +kernel
theorem dX9_holds_3 : decode cX9_holds 3 = .ok (.aload_n 0, 1) := by decide +kernel
theorem dX9_holds_4 : decode cX9_holds 4 = .ok (.invokevirtual 64, 3) := by decide +kernel
theorem dX9_holds_7 : decode cX9_holds 7 = .ok (.if_icmp .ge 43, 3) := by decide +kernel
theorem dX9_holds_10 : decode cX9_holds 10 = .ok (.aload_n 0, 1) := by decide +kernel
theorem dX9_holds_11 : decode cX9_holds 11 = .ok (.iload_n 1, 1) := by decide +kernel
theorem dX9_holds_12 : decode cX9_holds 12 = .ok (.iload_n 3, 1) := by decide +kernel
theorem dX9_holds_13 : decode cX9_holds 13 = .ok (.invokevirtual 67, 3) := by decide +kernel
theorem dX9_holds_16 : decode cX9_holds 16 = .ok (.istore 4, 2) := by decide +kernel
theorem dX9_holds_18 : decode cX9_holds 18 = .ok (.iload 4, 2) := by decide +kernel
theorem dX9_holds_20 : decode cX9_holds 20 = .ok (.ifCond .eq 24, 3) := by decide +kernel
theorem dX9_holds_23 : decode cX9_holds 23 = .ok (.iload_n 2, 1) := by decide +kernel
theorem dX9_holds_24 : decode cX9_holds 24 = .ok (.iload_n 3, 1) := by decide +kernel
theorem dX9_holds_25 : decode cX9_holds 25 = .ok (.ishr, 1) := by decide +kernel
theorem dX9_holds_26 : decode cX9_holds 26 = .ok (.iconst 1, 1) := by decide +kernel
theorem dX9_holds_27 : decode cX9_holds 27 = .ok (.iand, 1) := by decide +kernel
theorem dX9_holds_28 : decode cX9_holds 28 = .ok (.iload 4, 2) := by decide +kernel
theorem dX9_holds_30 : decode cX9_holds 30 = .ok (.iconst 1, 1) := by decide +kernel
theorem dX9_holds_31 : decode cX9_holds 31 = .ok (.if_icmp .ne 7, 3) := by decide +kernel
theorem dX9_holds_34 : decode cX9_holds 34 = .ok (.iconst 1, 1) := by decide +kernel
theorem dX9_holds_35 : decode cX9_holds 35 = .ok (.goto 4, 3) := by decide +kernel
theorem dX9_holds_38 : decode cX9_holds 38 = .ok (.iconst 0, 1) := by decide +kernel
theorem dX9_holds_39 : decode cX9_holds 39 = .ok (.if_icmp .ne 5, 3) := by decide +kernel
theorem dX9_holds_42 : decode cX9_holds 42 = .ok (.iconst 1, 1) := by decide +kernel
theorem dX9_holds_43 : decode cX9_holds 43 = .ok (.ireturn, 1) := by decide +kernel
theorem dX9_holds_44 : decode cX9_holds 44 = .ok (.iinc 3 1, 3) := by decide +kernel
theorem dX9_holds_47 : decode cX9_holds 47 = .ok (.goto (-45), 3) := by decide +kernel
theorem dX9_holds_50 : decode cX9_holds 50 = .ok (.iconst 0, 1) := by decide +kernel
theorem dX9_holds_51 : decode cX9_holds 51 = .ok (.ireturn, 1) := by decide +kernel
set_option maxRecDepth 20000 in
theorem ggX9_isModel_X9_many : GoodIn wsX9_isModel wsX9_many := goodIn_r _ [5, 6, 19, 20, 21, 22, 23, 24, 25, 26, 27, 28, 29, 30, 31, 32, 33, 34, 35, 36, 37, 38, 39, 40, 41, 42, 43, 44, 45] rfl (by decide +kernel)
set_option maxRecDepth 20000 in
theorem gX9_isModel_X9_many : GoodIn wsX9_isModel (wsV RX9 56 RX9 yX9_many wsX9_many) := goodIn_app (goodIn_r _ [1, 2, 3, 4] rfl (by decide +kernel)) ggX9_isModel_X9_many
set_option maxRecDepth 20000 in
theorem ggX9_isModel_X9_holds : GoodIn wsX9_isModel wsX9_holds := goodIn_r _ [10, 11, 12, 13, 4, 14, 6, 15, 16, 17, 18, 19, 20, 21, 22, 23, 24, 25, 26, 27, 28, 29, 30, 31, 32, 33, 34, 35, 36, 37, 38, 39, 40, 41, 42, 43, 44, 45] rfl (by decide +kernel)
set_option maxRecDepth 20000 in
theorem gX9_isModel_X9_holds : GoodIn wsX9_isModel (wsV RX9 134 RX9 yX9_holds wsX9_holds) := goodIn_app (goodIn_r _ [7, 8, 9, 4] rfl (by decide +kernel)) ggX9_isModel_X9_holds
theorem dX9_isModel_0 : decode cX9_isModel 0 = .ok (.iconst 0, 1) := by decide +kernel
theorem dX9_isModel_1 : decode cX9_isModel 1 = .ok (.istore_n 3, 1) := by decide +kernel
theorem dX9_isModel_2 : decode cX9_isModel 2 = .ok (.iload_n 3, 1) := by decide +kernel
theorem dX9_isModel_3 : decode cX9_isModel 3 = .ok (.aload_n 0, 1) := by decide +kernel
theorem dX9_isModel_4 : decode cX9_isModel 4 = .ok (.invokevirtual 56, 3) := by decide +kernel
theorem dX9_isModel_7 : decode cX9_isModel 7 = .ok (.if_icmp .ge 25, 3) := by decide +kernel
theorem dX9_isModel_10 : decode cX9_isModel 10 = .ok (.iload_n 3, 1) := by decide +kernel
theorem dX9_isModel_11 : decode cX9_isModel 11 = .ok (.iload_n 2, 1) := by decide +kernel
theorem dX9_isModel_12 : decode cX9_isModel 12 = .ok (.if_icmp .eq 14, 3) := by decide +kernel
theorem dX9_isModel_15 : decode cX9_isModel 15 = .ok (.aload_n 0, 1) := by decide +kernel
theorem dX9_isModel_16 : decode cX9_isModel 16 = .ok (.iload_n 3, 1) := by decide +kernel
theorem dX9_isModel_17 : decode cX9_isModel 17 = .ok (.iload_n 1, 1) := by decide +kernel
theorem dX9_isModel_18 : decode cX9_isModel 18 = .ok (.invokevirtual 134, 3) := by decide +kernel
theorem dX9_isModel_21 : decode cX9_isModel 21 = .ok (.ifCond .ne 5, 3) := by decide +kernel
theorem dX9_isModel_24 : decode cX9_isModel 24 = .ok (.iconst 0, 1) := by decide +kernel
theorem dX9_isModel_25 : decode cX9_isModel 25 = .ok (.ireturn, 1) := by decide +kernel
theorem dX9_isModel_26 : decode cX9_isModel 26 = .ok (.iinc 3 1, 3) := by decide +kernel
theorem dX9_isModel_29 : decode cX9_isModel 29 = .ok (.goto (-27), 3) := by decide +kernel
theorem dX9_isModel_32 : decode cX9_isModel 32 = .ok (.iconst 1, 1) := by decide +kernel
theorem dX9_isModel_33 : decode cX9_isModel 33 = .ok (.ireturn, 1) := by decide +kernel
set_option maxRecDepth 20000 in
theorem ggX9_assignments_X9_wide : GoodIn wsX9_assignments wsX9_wide := goodIn_r _ [5, 6, 7, 8, 9, 10, 11, 12, 13, 14, 15, 16, 17, 18, 19, 20, 21, 22, 23, 24, 25, 26, 27, 28, 29, 30, 31, 32, 33] rfl (by decide +kernel)
set_option maxRecDepth 20000 in
theorem gX9_assignments_X9_wide : GoodIn wsX9_assignments (wsV RX9 64 RX9 yX9_wide wsX9_wide) := goodIn_app (goodIn_r _ [1, 2, 3, 4] rfl (by decide +kernel)) ggX9_assignments_X9_wide
theorem dX9_assignments_0 : decode cX9_assignments 0 = .ok (.iconst 1, 1) := by decide +kernel
theorem dX9_assignments_1 : decode cX9_assignments 1 = .ok (.aload_n 0, 1) := by decide +kernel
theorem dX9_assignments_2 : decode cX9_assignments 2 = .ok (.invokevirtual 64, 3) := by decide +kernel
theorem dX9_assignments_5 : decode cX9_assignments 5 = .ok (.ishl, 1) := by decide +kernel
theorem dX9_assignments_6 : decode cX9_assignments 6 = .ok (.ireturn, 1) := by decide +kernel
set_option maxRecDepth 20000 in
theorem ggX9_models_X9_assignments : GoodIn wsX9_models wsX9_assignments := goodIn_r _ [5, 6, 7, 8, 4, 9, 10, 27, 28, 29, 30, 31, 32, 33, 34, 35, 36, 37, 38, 39, 40, 41, 42, 43, 44, 45, 46, 47, 48, 49, 50, 51, 52, 53] rfl (by decide +kernel)
set_option maxRecDepth 20000 in
theorem gX9_models_X9_assignments : GoodIn wsX9_models (wsV RX9 137 RX9 yX9_assignments wsX9_assignments) := goodIn_app (goodIn_r _ [1, 2, 3, 4] rfl (by decide +kernel)) ggX9_models_X9_assignments
set_option maxRecDepth 20000 in
theorem ggX9_models_X9_isModel : GoodIn wsX9_models wsX9_isModel := goodIn_r _ [14, 15, 16, 17, 4, 18, 10, 19, 20, 21, 22, 6, 7, 8, 9, 23, 24, 25, 26, 27, 28, 29, 30, 31, 32, 33, 34, 35, 36, 37, 38, 39, 40, 41, 42, 43, 44, 45, 46, 47, 48, 49, 50, 51, 52, 53] rfl (by decide +kernel)
set_option maxRecDepth 20000 in
theorem gX9_models_X9_isModel : GoodIn wsX9_models (wsV RX9 140 RX9 yX9_isModel wsX9_isModel) := goodIn_app (goodIn_r _ [11, 12, 13, 4] rfl (by decide +kernel)) ggX9_models_X9_isModel
theorem dX9_models_0 : decode cX9_models 0 = .ok (.iconst 0, 1) := by decide +kernel
theorem dX9_models_1 : decode cX9_models 1 = .ok (.istore_n 1, 1) := by decide +kernel
theorem dX9_models_2 : decode cX9_models 2 = .ok (.iconst 0, 1) := by decide +kernel
theorem dX9_models_3 : decode cX9_models 3 = .ok (.istore_n 2, 1) := by decide +kernel
theorem dX9_models_4 : decode cX9_models 4 = .ok (.iload_n 2, 1) := by decide +kernel
theorem dX9_models_5 : decode cX9_models 5 = .ok (.aload_n 0, 1) := by decide +kernel
theorem dX9_models_6 : decode cX9_models 6 = .ok (.invokevirtual 137, 3) := by decide +kernel
theorem dX9_models_9 : decode cX9_models 9 = .ok (.if_icmp .ge 26, 3) := by decide +kernel
theorem dX9_models_12 : decode cX9_models 12 = .ok (.iload_n 1, 1) := by decide +kernel
theorem dX9_models_13 : decode cX9_models 13 = .ok (.aload_n 0, 1) := by decide +kernel
theorem dX9_models_14 : decode cX9_models 14 = .ok (.iload_n 2, 1) := by decide +kernel
theorem dX9_models_15 : decode cX9_models 15 = .ok (.iconst (-1), 1) := by decide +kernel
theorem dX9_models_16 : decode cX9_models 16 = .ok (.invokevirtual 140, 3) := by decide +kernel
theorem dX9_models_19 : decode cX9_models 19 = .ok (.ifCond .eq 7, 3) := by decide +kernel
theorem dX9_models_22 : decode cX9_models 22 = .ok (.iconst 1, 1) := by decide +kernel
theorem dX9_models_23 : decode cX9_models 23 = .ok (.goto 4, 3) := by decide +kernel
theorem dX9_models_26 : decode cX9_models 26 = .ok (.iconst 0, 1) := by decide +kernel
theorem dX9_models_27 : decode cX9_models 27 = .ok (.iadd, 1) := by decide +kernel
theorem dX9_models_28 : decode cX9_models 28 = .ok (.istore_n 1, 1) := by decide +kernel
theorem dX9_models_29 : decode cX9_models 29 = .ok (.iinc 2 1, 3) := by decide +kernel
theorem dX9_models_32 : decode cX9_models 32 = .ok (.goto (-28), 3) := by decide +kernel
theorem dX9_models_35 : decode cX9_models 35 = .ok (.iload_n 1, 1) := by decide +kernel
theorem dX9_models_36 : decode cX9_models 36 = .ok (.ireturn, 1) := by decide +kernel
set_option maxRecDepth 20000 in
theorem ggX9_follows_X9_assignments : GoodIn wsX9_follows wsX9_assignments := goodIn_r _ [5, 6, 7, 8, 4, 9, 10, 27, 28, 29, 30, 31, 32, 33, 34, 35, 36, 37, 38, 39, 40, 41, 42, 43, 44, 45, 46, 47, 48, 49, 50, 51, 52, 53] rfl (by decide +kernel)
set_option maxRecDepth 20000 in
theorem gX9_follows_X9_assignments : GoodIn wsX9_follows (wsV RX9 137 RX9 yX9_assignments wsX9_assignments) := goodIn_app (goodIn_r _ [1, 2, 3, 4] rfl (by decide +kernel)) ggX9_follows_X9_assignments
set_option maxRecDepth 20000 in
theorem ggX9_follows_X9_isModel : GoodIn wsX9_follows wsX9_isModel := goodIn_r _ [14, 15, 16, 17, 4, 18, 10, 19, 20, 21, 22, 6, 7, 8, 9, 23, 24, 25, 26, 27, 28, 29, 30, 31, 32, 33, 34, 35, 36, 37, 38, 39, 40, 41, 42, 43, 44, 45, 46, 47, 48, 49, 50, 51, 52, 53] rfl (by decide +kernel)
set_option maxRecDepth 20000 in
theorem gX9_follows_X9_isModel : GoodIn wsX9_follows (wsV RX9 140 RX9 yX9_isModel wsX9_isModel) := goodIn_app (goodIn_r _ [11, 12, 13, 4] rfl (by decide +kernel)) ggX9_follows_X9_isModel
set_option maxRecDepth 20000 in
theorem ggX9_follows_X9_holds : GoodIn wsX9_follows wsX9_holds := goodIn_r _ [22, 6, 7, 8, 4, 9, 10, 23, 24, 25, 26, 27, 28, 29, 30, 31, 32, 33, 34, 35, 36, 37, 38, 39, 40, 41, 42, 43, 44, 45, 46, 47, 48, 49, 50, 51, 52, 53] rfl (by decide +kernel)
set_option maxRecDepth 20000 in
theorem gX9_follows_X9_holds : GoodIn wsX9_follows (wsV RX9 134 RX9 yX9_holds wsX9_holds) := goodIn_app (goodIn_r _ [19, 20, 21, 4] rfl (by decide +kernel)) ggX9_follows_X9_holds
theorem dX9_follows_0 : decode cX9_follows 0 = .ok (.iconst 0, 1) := by decide +kernel
theorem dX9_follows_1 : decode cX9_follows 1 = .ok (.istore_n 3, 1) := by decide +kernel
theorem dX9_follows_2 : decode cX9_follows 2 = .ok (.iload_n 3, 1) := by decide +kernel
theorem dX9_follows_3 : decode cX9_follows 3 = .ok (.aload_n 0, 1) := by decide +kernel
theorem dX9_follows_4 : decode cX9_follows 4 = .ok (.invokevirtual 137, 3) := by decide +kernel
theorem dX9_follows_7 : decode cX9_follows 7 = .ok (.if_icmp .ge 29, 3) := by decide +kernel
theorem dX9_follows_10 : decode cX9_follows 10 = .ok (.aload_n 0, 1) := by decide +kernel
theorem dX9_follows_11 : decode cX9_follows 11 = .ok (.iload_n 3, 1) := by decide +kernel
theorem dX9_follows_12 : decode cX9_follows 12 = .ok (.iload_n 2, 1) := by decide +kernel
theorem dX9_follows_13 : decode cX9_follows 13 = .ok (.invokevirtual 140, 3) := by decide +kernel
theorem dX9_follows_16 : decode cX9_follows 16 = .ok (.ifCond .eq 14, 3) := by decide +kernel
theorem dX9_follows_19 : decode cX9_follows 19 = .ok (.aload_n 0, 1) := by decide +kernel
theorem dX9_follows_20 : decode cX9_follows 20 = .ok (.iload_n 1, 1) := by decide +kernel
theorem dX9_follows_21 : decode cX9_follows 21 = .ok (.iload_n 3, 1) := by decide +kernel
theorem dX9_follows_22 : decode cX9_follows 22 = .ok (.invokevirtual 134, 3) := by decide +kernel
theorem dX9_follows_25 : decode cX9_follows 25 = .ok (.ifCond .ne 5, 3) := by decide +kernel
theorem dX9_follows_28 : decode cX9_follows 28 = .ok (.iconst 0, 1) := by decide +kernel
theorem dX9_follows_29 : decode cX9_follows 29 = .ok (.ireturn, 1) := by decide +kernel
theorem dX9_follows_30 : decode cX9_follows 30 = .ok (.iinc 3 1, 3) := by decide +kernel
theorem dX9_follows_33 : decode cX9_follows 33 = .ok (.goto (-31), 3) := by decide +kernel
theorem dX9_follows_36 : decode cX9_follows 36 = .ok (.iconst 1, 1) := by decide +kernel
theorem dX9_follows_37 : decode cX9_follows 37 = .ok (.ireturn, 1) := by decide +kernel
set_option maxRecDepth 20000 in
theorem ggX9_falseUnder_X9_many : GoodIn wsX9_falseUnder wsX9_many := goodIn_r _ [5, 6, 19, 20, 21, 22, 23, 24, 25, 26, 27, 28, 29, 30, 31, 32, 33, 34, 35, 36, 37, 38, 39, 40, 41, 42, 43, 44, 45] rfl (by decide +kernel)
set_option maxRecDepth 20000 in
theorem gX9_falseUnder_X9_many : GoodIn wsX9_falseUnder (wsV RX9 56 RX9 yX9_many wsX9_many) := goodIn_app (goodIn_r _ [1, 2, 3, 4] rfl (by decide +kernel)) ggX9_falseUnder_X9_many
set_option maxRecDepth 20000 in
theorem ggX9_falseUnder_X9_holds : GoodIn wsX9_falseUnder wsX9_holds := goodIn_r _ [10, 11, 12, 13, 4, 14, 6, 15, 16, 17, 18, 19, 20, 21, 22, 23, 24, 25, 26, 27, 28, 29, 30, 31, 32, 33, 34, 35, 36, 37, 38, 39, 40, 41, 42, 43, 44, 45] rfl (by decide +kernel)
set_option maxRecDepth 20000 in
theorem gX9_falseUnder_X9_holds : GoodIn wsX9_falseUnder (wsV RX9 134 RX9 yX9_holds wsX9_holds) := goodIn_app (goodIn_r _ [7, 8, 9, 4] rfl (by decide +kernel)) ggX9_falseUnder_X9_holds
theorem dX9_falseUnder_0 : decode cX9_falseUnder 0 = .ok (.iconst 0, 1) := by decide +kernel
theorem dX9_falseUnder_1 : decode cX9_falseUnder 1 = .ok (.istore_n 2, 1) := by decide +kernel
theorem dX9_falseUnder_2 : decode cX9_falseUnder 2 = .ok (.iconst 0, 1) := by decide +kernel
theorem dX9_falseUnder_3 : decode cX9_falseUnder 3 = .ok (.istore_n 3, 1) := by decide +kernel
theorem dX9_falseUnder_4 : decode cX9_falseUnder 4 = .ok (.iload_n 3, 1) := by decide +kernel
theorem dX9_falseUnder_5 : decode cX9_falseUnder 5 = .ok (.aload_n 0, 1) := by decide +kernel
theorem dX9_falseUnder_6 : decode cX9_falseUnder 6 = .ok (.invokevirtual 56, 3) := by decide +kernel
theorem dX9_falseUnder_9 : decode cX9_falseUnder 9 = .ok (.if_icmp .ge 26, 3) := by decide +kernel
theorem dX9_falseUnder_12 : decode cX9_falseUnder 12 = .ok (.iload_n 2, 1) := by decide +kernel
theorem dX9_falseUnder_13 : decode cX9_falseUnder 13 = .ok (.aload_n 0, 1) := by decide +kernel
theorem dX9_falseUnder_14 : decode cX9_falseUnder 14 = .ok (.iload_n 3, 1) := by decide +kernel
theorem dX9_falseUnder_15 : decode cX9_falseUnder 15 = .ok (.iload_n 1, 1) := by decide +kernel
theorem dX9_falseUnder_16 : decode cX9_falseUnder 16 = .ok (.invokevirtual 134, 3) := by decide +kernel
theorem dX9_falseUnder_19 : decode cX9_falseUnder 19 = .ok (.ifCond .eq 7, 3) := by decide +kernel
theorem dX9_falseUnder_22 : decode cX9_falseUnder 22 = .ok (.iconst 0, 1) := by decide +kernel
theorem dX9_falseUnder_23 : decode cX9_falseUnder 23 = .ok (.goto 4, 3) := by decide +kernel
theorem dX9_falseUnder_26 : decode cX9_falseUnder 26 = .ok (.iconst 1, 1) := by decide +kernel
theorem dX9_falseUnder_27 : decode cX9_falseUnder 27 = .ok (.iadd, 1) := by decide +kernel
theorem dX9_falseUnder_28 : decode cX9_falseUnder 28 = .ok (.istore_n 2, 1) := by decide +kernel
theorem dX9_falseUnder_29 : decode cX9_falseUnder 29 = .ok (.iinc 3 1, 3) := by decide +kernel
theorem dX9_falseUnder_32 : decode cX9_falseUnder 32 = .ok (.goto (-28), 3) := by decide +kernel
theorem dX9_falseUnder_35 : decode cX9_falseUnder 35 = .ok (.iload_n 2, 1) := by decide +kernel
theorem dX9_falseUnder_36 : decode cX9_falseUnder 36 = .ok (.ireturn, 1) := by decide +kernel
set_option maxRecDepth 20000 in
theorem ggX9_always_X9_assignments : GoodIn wsX9_always wsX9_assignments := goodIn_r _ [5, 6, 7, 8, 4, 9, 10, 27, 28, 29, 30, 31, 32, 33, 34, 35, 36, 37, 38, 39, 40, 41, 42, 43, 44, 45, 46, 47, 48, 49, 50, 51, 52, 53] rfl (by decide +kernel)
set_option maxRecDepth 20000 in
theorem gX9_always_X9_assignments : GoodIn wsX9_always (wsV RX9 137 RX9 yX9_assignments wsX9_assignments) := goodIn_app (goodIn_r _ [1, 2, 3, 4] rfl (by decide +kernel)) ggX9_always_X9_assignments
set_option maxRecDepth 20000 in
theorem ggX9_always_X9_isModel : GoodIn wsX9_always wsX9_isModel := goodIn_r _ [14, 15, 16, 17, 4, 18, 10, 19, 20, 21, 22, 6, 7, 8, 9, 23, 24, 25, 26, 27, 28, 29, 30, 31, 32, 33, 34, 35, 36, 37, 38, 39, 40, 41, 42, 43, 44, 45, 46, 47, 48, 49, 50, 51, 52, 53] rfl (by decide +kernel)
set_option maxRecDepth 20000 in
theorem gX9_always_X9_isModel : GoodIn wsX9_always (wsV RX9 140 RX9 yX9_isModel wsX9_isModel) := goodIn_app (goodIn_r _ [11, 12, 13, 4] rfl (by decide +kernel)) ggX9_always_X9_isModel
theorem dX9_always_0 : decode cX9_always 0 = .ok (.aload_n 0, 1) := by decide +kernel
theorem dX9_always_1 : decode cX9_always 1 = .ok (.invokevirtual 137, 3) := by decide +kernel
theorem dX9_always_4 : decode cX9_always 4 = .ok (.iconst 1, 1) := by decide +kernel
theorem dX9_always_5 : decode cX9_always 5 = .ok (.isub, 1) := by decide +kernel
theorem dX9_always_6 : decode cX9_always 6 = .ok (.istore_n 2, 1) := by decide +kernel
theorem dX9_always_7 : decode cX9_always 7 = .ok (.iconst 0, 1) := by decide +kernel
theorem dX9_always_8 : decode cX9_always 8 = .ok (.istore_n 3, 1) := by decide +kernel
theorem dX9_always_9 : decode cX9_always 9 = .ok (.iload_n 3, 1) := by decide +kernel
theorem dX9_always_10 : decode cX9_always 10 = .ok (.aload_n 0, 1) := by decide +kernel
theorem dX9_always_11 : decode cX9_always 11 = .ok (.invokevirtual 137, 3) := by decide +kernel
theorem dX9_always_14 : decode cX9_always 14 = .ok (.if_icmp .ge 33, 3) := by decide +kernel
theorem dX9_always_17 : decode cX9_always 17 = .ok (.aload_n 0, 1) := by decide +kernel
theorem dX9_always_18 : decode cX9_always 18 = .ok (.iload_n 3, 1) := by decide +kernel
theorem dX9_always_19 : decode cX9_always 19 = .ok (.iconst (-1), 1) := by decide +kernel
theorem dX9_always_20 : decode cX9_always 20 = .ok (.invokevirtual 140, 3) := by decide +kernel
theorem dX9_always_23 : decode cX9_always 23 = .ok (.ifCond .eq 18, 3) := by decide +kernel
theorem dX9_always_26 : decode cX9_always 26 = .ok (.iload_n 2, 1) := by decide +kernel
theorem dX9_always_27 : decode cX9_always 27 = .ok (.iload_n 1, 1) := by decide +kernel
theorem dX9_always_28 : decode cX9_always 28 = .ok (.iconst 1, 1) := by decide +kernel
theorem dX9_always_29 : decode cX9_always 29 = .ok (.if_icmp .ne 7, 3) := by decide +kernel
theorem dX9_always_32 : decode cX9_always 32 = .ok (.iload_n 3, 1) := by decide +kernel
theorem dX9_always_33 : decode cX9_always 33 = .ok (.goto 6, 3) := by decide +kernel
theorem dX9_always_36 : decode cX9_always 36 = .ok (.iload_n 3, 1) := by decide +kernel
theorem dX9_always_37 : decode cX9_always 37 = .ok (.iconst (-1), 1) := by decide +kernel
theorem dX9_always_38 : decode cX9_always 38 = .ok (.ixor, 1) := by decide +kernel
theorem dX9_always_39 : decode cX9_always 39 = .ok (.iand, 1) := by decide +kernel
theorem dX9_always_40 : decode cX9_always 40 = .ok (.istore_n 2, 1) := by decide +kernel
theorem dX9_always_41 : decode cX9_always 41 = .ok (.iinc 3 1, 3) := by decide +kernel
theorem dX9_always_44 : decode cX9_always 44 = .ok (.goto (-35), 3) := by decide +kernel
theorem dX9_always_47 : decode cX9_always 47 = .ok (.iload_n 2, 1) := by decide +kernel
theorem dX9_always_48 : decode cX9_always 48 = .ok (.ireturn, 1) := by decide +kernel
theorem dX9_isFixed_0 : decode cX9_isFixed 0 = .ok (.iload_n 2, 1) := by decide +kernel
theorem dX9_isFixed_1 : decode cX9_isFixed 1 = .ok (.iconst 1, 1) := by decide +kernel
theorem dX9_isFixed_2 : decode cX9_isFixed 2 = .ok (.if_icmp .ne 10, 3) := by decide +kernel
theorem dX9_isFixed_5 : decode cX9_isFixed 5 = .ok (.aload_n 0, 1) := by decide +kernel
theorem dX9_isFixed_6 : decode cX9_isFixed 6 = .ok (.getfield 143, 3) := by decide +kernel
theorem dX9_isFixed_9 : decode cX9_isFixed 9 = .ok (.goto 7, 3) := by decide +kernel
theorem dX9_isFixed_12 : decode cX9_isFixed 12 = .ok (.aload_n 0, 1) := by decide +kernel
theorem dX9_isFixed_13 : decode cX9_isFixed 13 = .ok (.getfield 146, 3) := by decide +kernel
theorem dX9_isFixed_16 : decode cX9_isFixed 16 = .ok (.iload_n 1, 1) := by decide +kernel
theorem dX9_isFixed_17 : decode cX9_isFixed 17 = .ok (.ishr, 1) := by decide +kernel
theorem dX9_isFixed_18 : decode cX9_isFixed 18 = .ok (.iconst 1, 1) := by decide +kernel
theorem dX9_isFixed_19 : decode cX9_isFixed 19 = .ok (.iand, 1) := by decide +kernel
theorem dX9_isFixed_20 : decode cX9_isFixed 20 = .ok (.iconst 1, 1) := by decide +kernel
theorem dX9_isFixed_21 : decode cX9_isFixed 21 = .ok (.if_icmp .ne 7, 3) := by decide +kernel
theorem dX9_isFixed_24 : decode cX9_isFixed 24 = .ok (.iconst 1, 1) := by decide +kernel
theorem dX9_isFixed_25 : decode cX9_isFixed 25 = .ok (.goto 4, 3) := by decide +kernel
theorem dX9_isFixed_28 : decode cX9_isFixed 28 = .ok (.iconst 0, 1) := by decide +kernel
theorem dX9_isFixed_29 : decode cX9_isFixed 29 = .ok (.ireturn, 1) := by decide +kernel
set_option maxRecDepth 20000 in
theorem ggX9_propagates_X9_many : GoodIn wsX9_propagates wsX9_many := goodIn_r _ [8, 9, 34, 35, 36, 37, 38, 39, 40, 41, 42, 43, 44, 45, 46, 47, 48, 49, 50, 51, 52, 53, 54, 55, 56, 57, 58, 59, 60] rfl (by decide +kernel)
set_option maxRecDepth 20000 in
theorem gX9_propagates_X9_many : GoodIn wsX9_propagates (wsV RX9 56 RX9 yX9_many wsX9_many) := goodIn_app (goodIn_r _ [4, 5, 6, 7] rfl (by decide +kernel)) ggX9_propagates_X9_many
set_option maxRecDepth 20000 in
theorem ggX9_propagates_X9_fixes : GoodIn wsX9_propagates wsX9_fixes := goodIn_r _ [13, 3, 1, 2, 14, 15, 16, 7, 17, 9, 18, 19, 20, 21, 22, 23, 24, 25, 26, 27, 28, 29, 30, 31, 32, 33, 34, 35, 36, 37, 38, 39, 40, 41, 42, 43, 44, 45, 46, 47, 48, 49, 50, 51, 52, 53, 54, 55, 56, 57, 58, 59, 60] rfl (by decide +kernel)
set_option maxRecDepth 20000 in
theorem gX9_propagates_X9_fixes : GoodIn wsX9_propagates (wsV RX9 153 RX9 yX9_fixes wsX9_fixes) := goodIn_app (goodIn_r _ [10, 11, 12, 7] rfl (by decide +kernel)) ggX9_propagates_X9_fixes
theorem dX9_propagates_0 : decode cX9_propagates 0 = .ok (.aload_n 0, 1) := by decide +kernel
theorem dX9_propagates_1 : decode cX9_propagates 1 = .ok (.iconst 0, 1) := by decide +kernel
theorem dX9_propagates_2 : decode cX9_propagates 2 = .ok (.putfield 143, 3) := by decide +kernel
theorem dX9_propagates_5 : decode cX9_propagates 5 = .ok (.aload_n 0, 1) := by decide +kernel
theorem dX9_propagates_6 : decode cX9_propagates 6 = .ok (.iconst 0, 1) := by decide +kernel
theorem dX9_propagates_7 : decode cX9_propagates 7 = .ok (.putfield 146, 3) := by decide +kernel
theorem dX9_propagates_10 : decode cX9_propagates 10 = .ok (.aload_n 0, 1) := by decide +kernel
theorem dX9_propagates_11 : decode cX9_propagates 11 = .ok (.iconst 0, 1) := by decide +kernel
theorem dX9_propagates_12 : decode cX9_propagates 12 = .ok (.putfield 149, 3) := by decide +kernel
theorem dX9_propagates_15 : decode cX9_propagates 15 = .ok (.iconst 1, 1) := by decide +kernel
theorem dX9_propagates_16 : decode cX9_propagates 16 = .ok (.istore_n 1, 1) := by decide +kernel
theorem dX9_propagates_17 : decode cX9_propagates 17 = .ok (.iload_n 1, 1) := by decide +kernel
theorem dX9_propagates_18 : decode cX9_propagates 18 = .ok (.ifCond .eq 32, 3) := by decide +kernel
theorem dX9_propagates_21 : decode cX9_propagates 21 = .ok (.iconst 0, 1) := by decide +kernel
theorem dX9_propagates_22 : decode cX9_propagates 22 = .ok (.istore_n 1, 1) := by decide +kernel
theorem dX9_propagates_23 : decode cX9_propagates 23 = .ok (.iconst 0, 1) := by decide +kernel
theorem dX9_propagates_24 : decode cX9_propagates 24 = .ok (.istore_n 2, 1) := by decide +kernel
theorem dX9_propagates_25 : decode cX9_propagates 25 = .ok (.iload_n 2, 1) := by decide +kernel
theorem dX9_propagates_26 : decode cX9_propagates 26 = .ok (.aload_n 0, 1) := by decide +kernel
theorem dX9_propagates_27 : decode cX9_propagates 27 = .ok (.invokevirtual 56, 3) := by decide +kernel
theorem dX9_propagates_30 : decode cX9_propagates 30 = .ok (.if_icmp .ge 17, 3) := by decide +kernel
theorem dX9_propagates_33 : decode cX9_propagates 33 = .ok (.iload_n 1, 1) := by decide +kernel
theorem dX9_propagates_34 : decode cX9_propagates 34 = .ok (.aload_n 0, 1) := by decide +kernel
theorem dX9_propagates_35 : decode cX9_propagates 35 = .ok (.iload_n 2, 1) := by decide +kernel
theorem dX9_propagates_36 : decode cX9_propagates 36 = .ok (.invokevirtual 153, 3) := by decide +kernel
theorem dX9_propagates_39 : decode cX9_propagates 39 = .ok (.ior, 1) := by decide +kernel
theorem dX9_propagates_40 : decode cX9_propagates 40 = .ok (.istore_n 1, 1) := by decide +kernel
theorem dX9_propagates_41 : decode cX9_propagates 41 = .ok (.iinc 2 1, 3) := by decide +kernel
theorem dX9_propagates_44 : decode cX9_propagates 44 = .ok (.goto (-19), 3) := by decide +kernel
theorem dX9_propagates_47 : decode cX9_propagates 47 = .ok (.goto (-30), 3) := by decide +kernel
theorem dX9_propagates_50 : decode cX9_propagates 50 = .ok (.aload_n 0, 1) := by decide +kernel
theorem dX9_propagates_51 : decode cX9_propagates 51 = .ok (.dup, 1) := by decide +kernel
theorem dX9_propagates_52 : decode cX9_propagates 52 = .ok (.getfield 149, 3) := by decide +kernel
theorem dX9_propagates_55 : decode cX9_propagates 55 = .ok (.aload_n 0, 1) := by decide +kernel
theorem dX9_propagates_56 : decode cX9_propagates 56 = .ok (.getfield 143, 3) := by decide +kernel
theorem dX9_propagates_59 : decode cX9_propagates 59 = .ok (.aload_n 0, 1) := by decide +kernel
theorem dX9_propagates_60 : decode cX9_propagates 60 = .ok (.getfield 146, 3) := by decide +kernel
theorem dX9_propagates_63 : decode cX9_propagates 63 = .ok (.iand, 1) := by decide +kernel
theorem dX9_propagates_64 : decode cX9_propagates 64 = .ok (.ifCond .eq 7, 3) := by decide +kernel
theorem dX9_propagates_67 : decode cX9_propagates 67 = .ok (.iconst 1, 1) := by decide +kernel
theorem dX9_propagates_68 : decode cX9_propagates 68 = .ok (.goto 4, 3) := by decide +kernel
theorem dX9_propagates_71 : decode cX9_propagates 71 = .ok (.iconst 0, 1) := by decide +kernel
theorem dX9_propagates_72 : decode cX9_propagates 72 = .ok (.ior, 1) := by decide +kernel
theorem dX9_propagates_73 : decode cX9_propagates 73 = .ok (.putfield 149, 3) := by decide +kernel
theorem dX9_propagates_76 : decode cX9_propagates 76 = .ok (.return_, 1) := by decide +kernel
set_option maxRecDepth 20000 in
theorem ggX9_fixes_X9_wide : GoodIn wsX9_fixes wsX9_wide := goodIn_r _ [8, 9, 26, 27, 28, 29, 30, 31, 32, 33, 34, 35, 36, 37, 38, 39, 40, 41, 42, 43, 44, 45, 46, 47, 48, 49, 50, 51, 52] rfl (by decide +kernel)
set_option maxRecDepth 20000 in
theorem gX9_fixes_X9_wide : GoodIn wsX9_fixes (wsV RX9 64 RX9 yX9_wide wsX9_wide) := goodIn_app (goodIn_r _ [4, 5, 6, 7] rfl (by decide +kernel)) ggX9_fixes_X9_wide
set_option maxRecDepth 20000 in
theorem ggX9_fixes_X9_sign : GoodIn wsX9_fixes wsX9_sign := goodIn_r _ [13, 9, 26, 27, 28, 29, 30, 31, 32, 33, 34, 35, 36, 37, 38, 39, 40, 41, 42, 43, 44, 45, 46, 47, 48, 49, 50, 51, 52] rfl (by decide +kernel)
set_option maxRecDepth 20000 in
theorem gX9_fixes_X9_sign : GoodIn wsX9_fixes (wsV RX9 67 RX9 yX9_sign wsX9_sign) := goodIn_app (goodIn_r _ [10, 11, 12, 7] rfl (by decide +kernel)) ggX9_fixes_X9_sign
set_option maxRecDepth 20000 in
theorem ggX9_fixes_X9_isFixed : GoodIn wsX9_fixes wsX9_isFixed := goodIn_r _ [17, 2, 3, 26, 27, 28, 29, 30, 31, 32, 33, 34, 35, 36, 37, 38, 39, 40, 41, 42, 43, 44, 45, 46, 47, 48, 49, 50, 51, 52] rfl (by decide +kernel)
set_option maxRecDepth 20000 in
theorem gX9_fixes_X9_isFixed : GoodIn wsX9_fixes (wsV RX9 156 RX9 yX9_isFixed wsX9_isFixed) := goodIn_app (goodIn_r _ [14, 15, 16, 7] rfl (by decide +kernel)) ggX9_fixes_X9_isFixed
set_option maxRecDepth 20000 in
theorem ggX9_fixes_X9_literals : GoodIn wsX9_fixes wsX9_literals := goodIn_r _ [21, 4, 5, 6, 7, 8, 9, 10, 11, 12, 13, 26, 27, 28, 29, 30, 31, 32, 33, 34, 35, 36, 37, 38, 39, 40, 41, 42, 43, 44, 45, 46, 47, 48, 49, 50, 51, 52] rfl (by decide +kernel)
set_option maxRecDepth 20000 in
theorem gX9_fixes_X9_literals : GoodIn wsX9_fixes (wsV RX9 86 RX9 yX9_literals wsX9_literals) := goodIn_app (goodIn_r _ [18, 19, 20, 7] rfl (by decide +kernel)) ggX9_fixes_X9_literals
set_option maxRecDepth 20000 in
theorem ggX9_fixes_X9_onlyVariable : GoodIn wsX9_fixes wsX9_onlyVariable := goodIn_r _ [25, 10, 11, 12, 7, 13, 9, 26, 27, 28, 29, 30, 31, 32, 33, 34, 35, 36, 37, 38, 39, 40, 41, 42, 43, 44, 45, 46, 47, 48, 49, 50, 51, 52] rfl (by decide +kernel)
set_option maxRecDepth 20000 in
theorem gX9_fixes_X9_onlyVariable : GoodIn wsX9_fixes (wsV RX9 159 RX9 yX9_onlyVariable wsX9_onlyVariable) := goodIn_app (goodIn_r _ [22, 23, 24, 7] rfl (by decide +kernel)) ggX9_fixes_X9_onlyVariable
theorem dX9_fixes_0 : decode cX9_fixes 0 = .ok (.iconst 0, 1) := by decide +kernel
theorem dX9_fixes_1 : decode cX9_fixes 1 = .ok (.istore_n 2, 1) := by decide +kernel
theorem dX9_fixes_2 : decode cX9_fixes 2 = .ok (.iconst (-1), 1) := by decide +kernel
theorem dX9_fixes_3 : decode cX9_fixes 3 = .ok (.istore_n 3, 1) := by decide +kernel
theorem dX9_fixes_4 : decode cX9_fixes 4 = .ok (.iconst 0, 1) := by decide +kernel
theorem dX9_fixes_5 : decode cX9_fixes 5 = .ok (.istore 4, 2) := by decide +kernel
theorem dX9_fixes_7 : decode cX9_fixes 7 = .ok (.iload 4, 2) := by decide +kernel
theorem dX9_fixes_9 : decode cX9_fixes 9 = .ok (.aload_n 0, 1) := by decide +kernel
theorem dX9_fixes_10 : decode cX9_fixes 10 = .ok (.invokevirtual 64, 3) := by decide +kernel
theorem dX9_fixes_13 : decode cX9_fixes 13 = .ok (.if_icmp .ge 42, 3) := by decide +kernel
theorem dX9_fixes_16 : decode cX9_fixes 16 = .ok (.aload_n 0, 1) := by decide +kernel
theorem dX9_fixes_17 : decode cX9_fixes 17 = .ok (.iload_n 1, 1) := by decide +kernel
theorem dX9_fixes_18 : decode cX9_fixes 18 = .ok (.iload 4, 2) := by decide +kernel
theorem dX9_fixes_20 : decode cX9_fixes 20 = .ok (.invokevirtual 67, 3) := by decide +kernel
theorem dX9_fixes_23 : decode cX9_fixes 23 = .ok (.istore 5, 2) := by decide +kernel
theorem dX9_fixes_25 : decode cX9_fixes 25 = .ok (.iload 5, 2) := by decide +kernel
theorem dX9_fixes_27 : decode cX9_fixes 27 = .ok (.ifCond .eq 22, 3) := by decide +kernel
theorem dX9_fixes_30 : decode cX9_fixes 30 = .ok (.aload_n 0, 1) := by decide +kernel
theorem dX9_fixes_31 : decode cX9_fixes 31 = .ok (.iload 4, 2) := by decide +kernel
theorem dX9_fixes_33 : decode cX9_fixes 33 = .ok (.iconst 3, 1) := by decide +kernel
theorem dX9_fixes_34 : decode cX9_fixes 34 = .ok (.iload 5, 2) := by decide +kernel
theorem dX9_fixes_36 : decode cX9_fixes 36 = .ok (.isub, 1) := by decide +kernel
theorem dX9_fixes_37 : decode cX9_fixes 37 = .ok (.invokevirtual 156, 3) := by decide +kernel
theorem dX9_fixes_40 : decode cX9_fixes 40 = .ok (.ifCond .ne 9, 3) := by decide +kernel
theorem dX9_fixes_43 : decode cX9_fixes 43 = .ok (.iinc 2 1, 3) := by decide +kernel
theorem dX9_fixes_46 : decode cX9_fixes 46 = .ok (.iload 4, 2) := by decide +kernel
theorem dX9_fixes_48 : decode cX9_fixes 48 = .ok (.istore_n 3, 1) := by decide +kernel
theorem dX9_fixes_49 : decode cX9_fixes 49 = .ok (.iinc 4 1, 3) := by decide +kernel
theorem dX9_fixes_52 : decode cX9_fixes 52 = .ok (.goto (-45), 3) := by decide +kernel
theorem dX9_fixes_55 : decode cX9_fixes 55 = .ok (.aload_n 0, 1) := by decide +kernel
theorem dX9_fixes_56 : decode cX9_fixes 56 = .ok (.dup, 1) := by decide +kernel
theorem dX9_fixes_57 : decode cX9_fixes 57 = .ok (.getfield 149, 3) := by decide +kernel
theorem dX9_fixes_60 : decode cX9_fixes 60 = .ok (.iload_n 2, 1) := by decide +kernel
theorem dX9_fixes_61 : decode cX9_fixes 61 = .ok (.ifCond .ne 7, 3) := by decide +kernel
theorem dX9_fixes_64 : decode cX9_fixes 64 = .ok (.iconst 1, 1) := by decide +kernel
theorem dX9_fixes_65 : decode cX9_fixes 65 = .ok (.goto 4, 3) := by decide +kernel
theorem dX9_fixes_68 : decode cX9_fixes 68 = .ok (.iconst 0, 1) := by decide +kernel
theorem dX9_fixes_69 : decode cX9_fixes 69 = .ok (.ior, 1) := by decide +kernel
theorem dX9_fixes_70 : decode cX9_fixes 70 = .ok (.putfield 149, 3) := by decide +kernel
theorem dX9_fixes_73 : decode cX9_fixes 73 = .ok (.aload_n 0, 1) := by decide +kernel
theorem dX9_fixes_74 : decode cX9_fixes 74 = .ok (.iload_n 1, 1) := by decide +kernel
theorem dX9_fixes_75 : decode cX9_fixes 75 = .ok (.invokevirtual 86, 3) := by decide +kernel
theorem dX9_fixes_78 : decode cX9_fixes 78 = .ok (.iconst 1, 1) := by decide +kernel
theorem dX9_fixes_79 : decode cX9_fixes 79 = .ok (.if_icmp .ne 11, 3) := by decide +kernel
theorem dX9_fixes_82 : decode cX9_fixes 82 = .ok (.iconst 1, 1) := by decide +kernel
theorem dX9_fixes_83 : decode cX9_fixes 83 = .ok (.istore_n 2, 1) := by decide +kernel
theorem dX9_fixes_84 : decode cX9_fixes 84 = .ok (.aload_n 0, 1) := by decide +kernel
theorem dX9_fixes_85 : decode cX9_fixes 85 = .ok (.iload_n 1, 1) := by decide +kernel
theorem dX9_fixes_86 : decode cX9_fixes 86 = .ok (.invokevirtual 159, 3) := by decide +kernel
theorem dX9_fixes_89 : decode cX9_fixes 89 = .ok (.istore_n 3, 1) := by decide +kernel
theorem dX9_fixes_90 : decode cX9_fixes 90 = .ok (.iload_n 2, 1) := by decide +kernel
theorem dX9_fixes_91 : decode cX9_fixes 91 = .ok (.iconst 1, 1) := by decide +kernel
theorem dX9_fixes_92 : decode cX9_fixes 92 = .ok (.if_icmp .ne 17, 3) := by decide +kernel
theorem dX9_fixes_95 : decode cX9_fixes 95 = .ok (.aload_n 0, 1) := by decide +kernel
theorem dX9_fixes_96 : decode cX9_fixes 96 = .ok (.iload_n 3, 1) := by decide +kernel
theorem dX9_fixes_97 : decode cX9_fixes 97 = .ok (.aload_n 0, 1) := by decide +kernel
theorem dX9_fixes_98 : decode cX9_fixes 98 = .ok (.iload_n 1, 1) := by decide +kernel
theorem dX9_fixes_99 : decode cX9_fixes 99 = .ok (.iload_n 3, 1) := by decide +kernel
theorem dX9_fixes_100 : decode cX9_fixes 100 = .ok (.invokevirtual 67, 3) := by decide +kernel
theorem dX9_fixes_103 : decode cX9_fixes 103 = .ok (.invokevirtual 156, 3) := by decide +kernel
theorem dX9_fixes_106 : decode cX9_fixes 106 = .ok (.ifCond .eq 5, 3) := by decide +kernel
theorem dX9_fixes_109 : decode cX9_fixes 109 = .ok (.iconst 0, 1) := by decide +kernel
theorem dX9_fixes_110 : decode cX9_fixes 110 = .ok (.ireturn, 1) := by decide +kernel
theorem dX9_fixes_111 : decode cX9_fixes 111 = .ok (.aload_n 0, 1) := by decide +kernel
theorem dX9_fixes_112 : decode cX9_fixes 112 = .ok (.iload_n 1, 1) := by decide +kernel
theorem dX9_fixes_113 : decode cX9_fixes 113 = .ok (.iload_n 3, 1) := by decide +kernel
theorem dX9_fixes_114 : decode cX9_fixes 114 = .ok (.invokevirtual 67, 3) := by decide +kernel
theorem dX9_fixes_117 : decode cX9_fixes 117 = .ok (.iconst 1, 1) := by decide +kernel
theorem dX9_fixes_118 : decode cX9_fixes 118 = .ok (.if_icmp .ne 18, 3) := by decide +kernel
theorem dX9_fixes_121 : decode cX9_fixes 121 = .ok (.aload_n 0, 1) := by decide +kernel
theorem dX9_fixes_122 : decode cX9_fixes 122 = .ok (.dup, 1) := by decide +kernel
theorem dX9_fixes_123 : decode cX9_fixes 123 = .ok (.getfield 143, 3) := by decide +kernel
theorem dX9_fixes_126 : decode cX9_fixes 126 = .ok (.iconst 1, 1) := by decide +kernel
theorem dX9_fixes_127 : decode cX9_fixes 127 = .ok (.iload_n 3, 1) := by decide +kernel
theorem dX9_fixes_128 : decode cX9_fixes 128 = .ok (.ishl, 1) := by decide +kernel
theorem dX9_fixes_129 : decode cX9_fixes 129 = .ok (.ior, 1) := by decide +kernel
theorem dX9_fixes_130 : decode cX9_fixes 130 = .ok (.putfield 143, 3) := by decide +kernel
theorem dX9_fixes_133 : decode cX9_fixes 133 = .ok (.goto 15, 3) := by decide +kernel
theorem dX9_fixes_136 : decode cX9_fixes 136 = .ok (.aload_n 0, 1) := by decide +kernel
theorem dX9_fixes_137 : decode cX9_fixes 137 = .ok (.dup, 1) := by decide +kernel
theorem dX9_fixes_138 : decode cX9_fixes 138 = .ok (.getfield 146, 3) := by decide +kernel
theorem dX9_fixes_141 : decode cX9_fixes 141 = .ok (.iconst 1, 1) := by decide +kernel
theorem dX9_fixes_142 : decode cX9_fixes 142 = .ok (.iload_n 3, 1) := by decide +kernel
theorem dX9_fixes_143 : decode cX9_fixes 143 = .ok (.ishl, 1) := by decide +kernel
theorem dX9_fixes_144 : decode cX9_fixes 144 = .ok (.ior, 1) := by decide +kernel
theorem dX9_fixes_145 : decode cX9_fixes 145 = .ok (.putfield 146, 3) := by decide +kernel
theorem dX9_fixes_148 : decode cX9_fixes 148 = .ok (.iconst 1, 1) := by decide +kernel
theorem dX9_fixes_149 : decode cX9_fixes 149 = .ok (.ireturn, 1) := by decide +kernel
set_option maxRecDepth 20000 in
theorem ggX9_onlyVariable_X9_sign : GoodIn wsX9_onlyVariable wsX9_sign := goodIn_r _ [5, 6, 7, 8, 9, 10, 11, 12, 13, 14, 15, 16, 17, 18, 19, 20, 21, 22, 23, 24, 25, 26, 27, 28, 29, 30, 31, 32, 33] rfl (by decide +kernel)
set_option maxRecDepth 20000 in
theorem gX9_onlyVariable_X9_sign : GoodIn wsX9_onlyVariable (wsV RX9 67 RX9 yX9_sign wsX9_sign) := goodIn_app (goodIn_r _ [1, 2, 3, 4] rfl (by decide +kernel)) ggX9_onlyVariable_X9_sign
theorem dX9_onlyVariable_0 : decode cX9_onlyVariable 0 = .ok (.iconst 0, 1) := by decide +kernel
theorem dX9_onlyVariable_1 : decode cX9_onlyVariable 1 = .ok (.istore_n 2, 1) := by decide +kernel
theorem dX9_onlyVariable_2 : decode cX9_onlyVariable 2 = .ok (.aload_n 0, 1) := by decide +kernel
theorem dX9_onlyVariable_3 : decode cX9_onlyVariable 3 = .ok (.iload_n 1, 1) := by decide +kernel
theorem dX9_onlyVariable_4 : decode cX9_onlyVariable 4 = .ok (.iload_n 2, 1) := by decide +kernel
theorem dX9_onlyVariable_5 : decode cX9_onlyVariable 5 = .ok (.invokevirtual 67, 3) := by decide +kernel
theorem dX9_onlyVariable_8 : decode cX9_onlyVariable 8 = .ok (.ifCond .ne 9, 3) := by decide +kernel
theorem dX9_onlyVariable_11 : decode cX9_onlyVariable 11 = .ok (.iinc 2 1, 3) := by decide +kernel
theorem dX9_onlyVariable_14 : decode cX9_onlyVariable 14 = .ok (.goto (-12), 3) := by decide +kernel
theorem dX9_onlyVariable_17 : decode cX9_onlyVariable 17 = .ok (.iload_n 2, 1) := by decide +kernel
theorem dX9_onlyVariable_18 : decode cX9_onlyVariable 18 = .ok (.ireturn, 1) := by decide +kernel
theorem dX9_append_0 : decode cX9_append 0 = .ok (.aload_n 0, 1) := by decide +kernel
theorem dX9_append_1 : decode cX9_append 1 = .ok (.iconst 0, 1) := by decide +kernel
theorem dX9_append_2 : decode cX9_append 2 = .ok (.putfield 46, 3) := by decide +kernel
theorem dX9_append_5 : decode cX9_append 5 = .ok (.aload_n 0, 1) := by decide +kernel
theorem dX9_append_6 : decode cX9_append 6 = .ok (.getfield 162, 3) := by decide +kernel
theorem dX9_append_9 : decode cX9_append 9 = .ok (.bipush 20, 2) := by decide +kernel
theorem dX9_append_11 : decode cX9_append 11 = .ok (.iadd, 1) := by decide +kernel
theorem dX9_append_12 : decode cX9_append 12 = .ok (.sipush 500, 3) := by decide +kernel
theorem dX9_append_15 : decode cX9_append 15 = .ok (.if_icmp .le 5, 3) := by decide +kernel
theorem dX9_append_18 : decode cX9_append 18 = .ok (.iconst (-1), 1) := by decide +kernel
theorem dX9_append_19 : decode cX9_append 19 = .ok (.ireturn, 1) := by decide +kernel
theorem dX9_append_20 : decode cX9_append 20 = .ok (.iconst 0, 1) := by decide +kernel
theorem dX9_append_21 : decode cX9_append 21 = .ok (.istore 6, 2) := by decide +kernel
theorem dX9_append_23 : decode cX9_append 23 = .ok (.iload 6, 2) := by decide +kernel
theorem dX9_append_25 : decode cX9_append 25 = .ok (.bipush 20, 2) := by decide +kernel
theorem dX9_append_27 : decode cX9_append 27 = .ok (.if_icmp .ge 90, 3) := by decide +kernel
theorem dX9_append_30 : decode cX9_append 30 = .ok (.iload 6, 2) := by decide +kernel
theorem dX9_append_32 : decode cX9_append 32 = .ok (.iconst 4, 1) := by decide +kernel
theorem dX9_append_33 : decode cX9_append 33 = .ok (.if_icmp .ge 7, 3) := by decide +kernel
theorem dX9_append_36 : decode cX9_append 36 = .ok (.iload_n 1, 1) := by decide +kernel
theorem dX9_append_37 : decode cX9_append 37 = .ok (.goto 39, 3) := by decide +kernel
theorem dX9_append_40 : decode cX9_append 40 = .ok (.iload 6, 2) := by decide +kernel
theorem dX9_append_42 : decode cX9_append 42 = .ok (.bipush 8, 2) := by decide +kernel
theorem dX9_append_44 : decode cX9_append 44 = .ok (.if_icmp .ge 7, 3) := by decide +kernel
theorem dX9_append_47 : decode cX9_append 47 = .ok (.iload_n 2, 1) := by decide +kernel
theorem dX9_append_48 : decode cX9_append 48 = .ok (.goto 28, 3) := by decide +kernel
theorem dX9_append_51 : decode cX9_append 51 = .ok (.iload 6, 2) := by decide +kernel
theorem dX9_append_53 : decode cX9_append 53 = .ok (.bipush 12, 2) := by decide +kernel
theorem dX9_append_55 : decode cX9_append 55 = .ok (.if_icmp .ge 7, 3) := by decide +kernel
theorem dX9_append_58 : decode cX9_append 58 = .ok (.iload_n 3, 1) := by decide +kernel
theorem dX9_append_59 : decode cX9_append 59 = .ok (.goto 17, 3) := by decide +kernel
theorem dX9_append_62 : decode cX9_append 62 = .ok (.iload 6, 2) := by decide +kernel
theorem dX9_append_64 : decode cX9_append 64 = .ok (.bipush 16, 2) := by decide +kernel
theorem dX9_append_66 : decode cX9_append 66 = .ok (.if_icmp .ge 8, 3) := by decide +kernel
theorem dX9_append_69 : decode cX9_append 69 = .ok (.iload 4, 2) := by decide +kernel
theorem dX9_append_71 : decode cX9_append 71 = .ok (.goto 5, 3) := by decide +kernel
theorem dX9_append_74 : decode cX9_append 74 = .ok (.iload 5, 2) := by decide +kernel
theorem dX9_append_76 : decode cX9_append 76 = .ok (.istore 7, 2) := by decide +kernel
theorem dX9_append_78 : decode cX9_append 78 = .ok (.aload_n 0, 1) := by decide +kernel
theorem dX9_append_79 : decode cX9_append 79 = .ok (.getfield 35, 3) := by decide +kernel
theorem dX9_append_82 : decode cX9_append 82 = .ok (.aload_n 0, 1) := by decide +kernel
theorem dX9_append_83 : decode cX9_append 83 = .ok (.getfield 162, 3) := by decide +kernel
theorem dX9_append_86 : decode cX9_append 86 = .ok (.iload 7, 2) := by decide +kernel
theorem dX9_append_88 : decode cX9_append 88 = .ok (.bipush 24, 2) := by decide +kernel
theorem dX9_append_90 : decode cX9_append 90 = .ok (.bipush 8, 2) := by decide +kernel
theorem dX9_append_92 : decode cX9_append 92 = .ok (.iload 6, 2) := by decide +kernel
theorem dX9_append_94 : decode cX9_append 94 = .ok (.iconst 4, 1) := by decide +kernel
theorem dX9_append_95 : decode cX9_append 95 = .ok (.irem, 1) := by decide +kernel
theorem dX9_append_96 : decode cX9_append 96 = .ok (.imul, 1) := by decide +kernel
theorem dX9_append_97 : decode cX9_append 97 = .ok (.isub, 1) := by decide +kernel
theorem dX9_append_98 : decode cX9_append 98 = .ok (.ishr, 1) := by decide +kernel
theorem dX9_append_99 : decode cX9_append 99 = .ok (.i2b, 1) := by decide +kernel
theorem dX9_append_100 : decode cX9_append 100 = .ok (.bastore, 1) := by decide +kernel
theorem dX9_append_101 : decode cX9_append 101 = .ok (.aload_n 0, 1) := by decide +kernel
theorem dX9_append_102 : decode cX9_append 102 = .ok (.dup, 1) := by decide +kernel
theorem dX9_append_103 : decode cX9_append 103 = .ok (.getfield 162, 3) := by decide +kernel
theorem dX9_append_106 : decode cX9_append 106 = .ok (.iconst 1, 1) := by decide +kernel
theorem dX9_append_107 : decode cX9_append 107 = .ok (.iadd, 1) := by decide +kernel
theorem dX9_append_108 : decode cX9_append 108 = .ok (.putfield 162, 3) := by decide +kernel
theorem dX9_append_111 : decode cX9_append 111 = .ok (.iinc 6 1, 3) := by decide +kernel
theorem dX9_append_114 : decode cX9_append 114 = .ok (.goto (-91), 3) := by decide +kernel
theorem dX9_append_117 : decode cX9_append 117 = .ok (.aload_n 0, 1) := by decide +kernel
theorem dX9_append_118 : decode cX9_append 118 = .ok (.getfield 162, 3) := by decide +kernel
theorem dX9_append_121 : decode cX9_append 121 = .ok (.ireturn, 1) := by decide +kernel
theorem dX9_truncate_0 : decode cX9_truncate 0 = .ok (.aload_n 0, 1) := by decide +kernel
theorem dX9_truncate_1 : decode cX9_truncate 1 = .ok (.iconst 0, 1) := by decide +kernel
theorem dX9_truncate_2 : decode cX9_truncate 2 = .ok (.putfield 46, 3) := by decide +kernel
theorem dX9_truncate_5 : decode cX9_truncate 5 = .ok (.iload_n 1, 1) := by decide +kernel
theorem dX9_truncate_6 : decode cX9_truncate 6 = .ok (.ifCond .lt 11, 3) := by decide +kernel
theorem dX9_truncate_9 : decode cX9_truncate 9 = .ok (.iload_n 1, 1) := by decide +kernel
theorem dX9_truncate_10 : decode cX9_truncate 10 = .ok (.aload_n 0, 1) := by decide +kernel
theorem dX9_truncate_11 : decode cX9_truncate 11 = .ok (.getfield 162, 3) := by decide +kernel
theorem dX9_truncate_14 : decode cX9_truncate 14 = .ok (.if_icmp .le 5, 3) := by decide +kernel
theorem dX9_truncate_17 : decode cX9_truncate 17 = .ok (.iconst 0, 1) := by decide +kernel
theorem dX9_truncate_18 : decode cX9_truncate 18 = .ok (.ireturn, 1) := by decide +kernel
theorem dX9_truncate_19 : decode cX9_truncate 19 = .ok (.aload_n 0, 1) := by decide +kernel
theorem dX9_truncate_20 : decode cX9_truncate 20 = .ok (.iload_n 1, 1) := by decide +kernel
theorem dX9_truncate_21 : decode cX9_truncate 21 = .ok (.putfield 162, 3) := by decide +kernel
theorem dX9_truncate_24 : decode cX9_truncate 24 = .ok (.iconst 1, 1) := by decide +kernel
theorem dX9_truncate_25 : decode cX9_truncate 25 = .ok (.ireturn, 1) := by decide +kernel
theorem dX9_ahead_0 : decode cX9_ahead 0 = .ok (.aload_n 0, 1) := by decide +kernel
theorem dX9_ahead_1 : decode cX9_ahead 1 = .ok (.getfield 165, 3) := by decide +kernel
theorem dX9_ahead_4 : decode cX9_ahead 4 = .ok (.aload_n 0, 1) := by decide +kernel
theorem dX9_ahead_5 : decode cX9_ahead 5 = .ok (.getfield 168, 3) := by decide +kernel
theorem dX9_ahead_8 : decode cX9_ahead 8 = .ok (.if_icmp .ge 15, 3) := by decide +kernel
theorem dX9_ahead_11 : decode cX9_ahead 11 = .ok (.aload_n 0, 1) := by decide +kernel
theorem dX9_ahead_12 : decode cX9_ahead 12 = .ok (.getfield 35, 3) := by decide +kernel
theorem dX9_ahead_15 : decode cX9_ahead 15 = .ok (.aload_n 0, 1) := by decide +kernel
theorem dX9_ahead_16 : decode cX9_ahead 16 = .ok (.getfield 165, 3) := by decide +kernel
theorem dX9_ahead_19 : decode cX9_ahead 19 = .ok (.baload, 1) := by decide +kernel
theorem dX9_ahead_20 : decode cX9_ahead 20 = .ok (.goto 4, 3) := by decide +kernel
theorem dX9_ahead_23 : decode cX9_ahead 23 = .ok (.iconst 0, 1) := by decide +kernel
theorem dX9_ahead_24 : decode cX9_ahead 24 = .ok (.ireturn, 1) := by decide +kernel
set_option maxRecDepth 20000 in
theorem ggX9_skips_X9_ahead : GoodIn wsX9_skips wsX9_ahead := goodIn_r _ [8, 3, 9, 10, 14, 15, 16, 17, 18, 19, 20, 21, 22, 23, 24, 25, 26, 27, 28, 29, 30, 31, 32, 33, 34, 35, 36, 37, 38, 39, 40] rfl (by decide +kernel)
set_option maxRecDepth 20000 in
theorem gX9_skips_X9_ahead : GoodIn wsX9_skips (wsV RX9 171 RX9 yX9_ahead wsX9_ahead) := goodIn_app (goodIn_r _ [4, 5, 6, 7] rfl (by decide +kernel)) ggX9_skips_X9_ahead
set_option maxRecDepth 20000 in
theorem ggX9_skips_X9_in : GoodIn wsX9_skips wsX9_in := goodIn_r _ [13] rfl (by decide +kernel)
set_option maxRecDepth 20000 in
theorem gX9_skips_X9_in : GoodIn wsX9_skips (va_wsS RX9 178 yX9_in wsX9_in) := goodIn_app (goodIn_r _ [11, 12, 7] rfl (by decide +kernel)) ggX9_skips_X9_in
theorem dX9_skips_0 : decode cX9_skips 0 = .ok (.aload_n 0, 1) := by decide +kernel
theorem dX9_skips_1 : decode cX9_skips 1 = .ok (.invokevirtual 171, 3) := by decide +kernel
theorem dX9_skips_4 : decode cX9_skips 4 = .ok (.i2l, 1) := by decide +kernel
theorem dX9_skips_5 : decode cX9_skips 5 = .ok (.ldc2_w 174, 3) := by decide +kernel
theorem dX9_skips_8 : decode cX9_skips 8 = .ok (.ldc2_w 176, 3) := by decide +kernel
theorem dX9_skips_11 : decode cX9_skips 11 = .ok (.invokestatic 178, 3) := by decide +kernel
theorem dX9_skips_14 : decode cX9_skips 14 = .ok (.ifCond .ne 12, 3) := by decide +kernel
theorem dX9_skips_17 : decode cX9_skips 17 = .ok (.aload_n 0, 1) := by decide +kernel
theorem dX9_skips_18 : decode cX9_skips 18 = .ok (.invokevirtual 171, 3) := by decide +kernel
theorem dX9_skips_21 : decode cX9_skips 21 = .ok (.bipush 32, 2) := by decide +kernel
theorem dX9_skips_23 : decode cX9_skips 23 = .ok (.if_icmp .ne 16, 3) := by decide +kernel
theorem dX9_skips_26 : decode cX9_skips 26 = .ok (.aload_n 0, 1) := by decide +kernel
theorem dX9_skips_27 : decode cX9_skips 27 = .ok (.dup, 1) := by decide +kernel
theorem dX9_skips_28 : decode cX9_skips 28 = .ok (.getfield 165, 3) := by decide +kernel
theorem dX9_skips_31 : decode cX9_skips 31 = .ok (.iconst 1, 1) := by decide +kernel
theorem dX9_skips_32 : decode cX9_skips 32 = .ok (.iadd, 1) := by decide +kernel
theorem dX9_skips_33 : decode cX9_skips 33 = .ok (.putfield 165, 3) := by decide +kernel
theorem dX9_skips_36 : decode cX9_skips 36 = .ok (.goto (-36), 3) := by decide +kernel
theorem dX9_skips_39 : decode cX9_skips 39 = .ok (.return_, 1) := by decide +kernel
theorem dX9_hasFailed_0 : decode cX9_hasFailed 0 = .ok (.aload_n 0, 1) := by decide +kernel
theorem dX9_hasFailed_1 : decode cX9_hasFailed 1 = .ok (.getfield 182, 3) := by decide +kernel
theorem dX9_hasFailed_4 : decode cX9_hasFailed 4 = .ok (.iconst (-1), 1) := by decide +kernel
theorem dX9_hasFailed_5 : decode cX9_hasFailed 5 = .ok (.if_icmp .eq 7, 3) := by decide +kernel
theorem dX9_hasFailed_8 : decode cX9_hasFailed 8 = .ok (.iconst 1, 1) := by decide +kernel
theorem dX9_hasFailed_9 : decode cX9_hasFailed 9 = .ok (.goto 4, 3) := by decide +kernel
theorem dX9_hasFailed_12 : decode cX9_hasFailed 12 = .ok (.iconst 0, 1) := by decide +kernel
theorem dX9_hasFailed_13 : decode cX9_hasFailed 13 = .ok (.ireturn, 1) := by decide +kernel
set_option maxRecDepth 20000 in
theorem ggX9_fails_X9_hasFailed : GoodIn wsX9_fails wsX9_hasFailed := goodIn_r _ [7, 1, 8, 9, 10, 11, 12, 13, 14, 15, 16, 17, 18, 19, 20, 21, 22, 23, 24, 25, 26, 27, 28, 29, 30, 31, 32, 33, 34] rfl (by decide +kernel)
set_option maxRecDepth 20000 in
theorem gX9_fails_X9_hasFailed : GoodIn wsX9_fails (wsV RX9 185 RX9 yX9_hasFailed wsX9_hasFailed) := goodIn_app (goodIn_r _ [3, 4, 5, 6] rfl (by decide +kernel)) ggX9_fails_X9_hasFailed
theorem dX9_fails_0 : decode cX9_fails 0 = .ok (.aload_n 0, 1) := by decide +kernel
theorem dX9_fails_1 : decode cX9_fails 1 = .ok (.invokevirtual 185, 3) := by decide +kernel
theorem dX9_fails_4 : decode cX9_fails 4 = .ok (.ifCond .ne 13, 3) := by decide +kernel
theorem dX9_fails_7 : decode cX9_fails 7 = .ok (.aload_n 0, 1) := by decide +kernel
theorem dX9_fails_8 : decode cX9_fails 8 = .ok (.iload_n 1, 1) := by decide +kernel
theorem dX9_fails_9 : decode cX9_fails 9 = .ok (.putfield 182, 3) := by decide +kernel
theorem dX9_fails_12 : decode cX9_fails 12 = .ok (.aload_n 0, 1) := by decide +kernel
theorem dX9_fails_13 : decode cX9_fails 13 = .ok (.iload_n 2, 1) := by decide +kernel
theorem dX9_fails_14 : decode cX9_fails 14 = .ok (.putfield 188, 3) := by decide +kernel
theorem dX9_fails_17 : decode cX9_fails 17 = .ok (.return_, 1) := by decide +kernel
set_option maxRecDepth 20000 in
theorem ggX9_takesWord_X9_skips : GoodIn wsX9_takesWord wsX9_skips := goodIn_r _ [10, 11, 12, 1, 13, 14, 15, 9, 16, 17, 18, 19, 20, 21, 22, 23, 24, 25, 26, 27, 28, 29, 30, 31, 32, 33, 34, 35, 36, 37, 38, 39, 40, 41, 42, 43, 44, 45, 46, 47, 48] rfl (by decide +kernel)
set_option maxRecDepth 20000 in
theorem gX9_takesWord_X9_skips : GoodIn wsX9_takesWord (wsV RX9 191 RX9 yX9_skips wsX9_skips) := goodIn_app (goodIn_r _ [6, 7, 8, 9] rfl (by decide +kernel)) ggX9_takesWord_X9_skips
set_option maxRecDepth 20000 in
theorem ggX9_takesWord_X9_ahead : GoodIn wsX9_takesWord wsX9_ahead := goodIn_r _ [16, 1, 17, 18, 22, 23, 24, 25, 26, 27, 28, 29, 30, 31, 32, 33, 34, 35, 36, 37, 38, 39, 40, 41, 42, 43, 44, 45, 46, 47, 48] rfl (by decide +kernel)
set_option maxRecDepth 20000 in
theorem gX9_takesWord_X9_ahead : GoodIn wsX9_takesWord (wsV RX9 171 RX9 yX9_ahead wsX9_ahead) := goodIn_app (goodIn_r _ [13, 14, 15, 9] rfl (by decide +kernel)) ggX9_takesWord_X9_ahead
set_option maxRecDepth 20000 in
theorem ggX9_takesWord_X9_in : GoodIn wsX9_takesWord wsX9_in := goodIn_r _ [21] rfl (by decide +kernel)
set_option maxRecDepth 20000 in
theorem gX9_takesWord_X9_in : GoodIn wsX9_takesWord (va_wsS RX9 178 yX9_in wsX9_in) := goodIn_app (goodIn_r _ [19, 20, 9] rfl (by decide +kernel)) ggX9_takesWord_X9_in
theorem dX9_takesWord_0 : decode cX9_takesWord 0 = .ok (.aload_n 0, 1) := by decide +kernel
theorem dX9_takesWord_1 : decode cX9_takesWord 1 = .ok (.invokevirtual 191, 3) := by decide +kernel
theorem dX9_takesWord_4 : decode cX9_takesWord 4 = .ok (.aload_n 0, 1) := by decide +kernel
theorem dX9_takesWord_5 : decode cX9_takesWord 5 = .ok (.aload_n 0, 1) := by decide +kernel
theorem dX9_takesWord_6 : decode cX9_takesWord 6 = .ok (.getfield 165, 3) := by decide +kernel
theorem dX9_takesWord_9 : decode cX9_takesWord 9 = .ok (.putfield 194, 3) := by decide +kernel
theorem dX9_takesWord_12 : decode cX9_takesWord 12 = .ok (.aload_n 0, 1) := by decide +kernel
theorem dX9_takesWord_13 : decode cX9_takesWord 13 = .ok (.invokevirtual 171, 3) := by decide +kernel
theorem dX9_takesWord_16 : decode cX9_takesWord 16 = .ok (.i2l, 1) := by decide +kernel
theorem dX9_takesWord_17 : decode cX9_takesWord 17 = .ok (.ldc2_w 197, 3) := by decide +kernel
theorem dX9_takesWord_20 : decode cX9_takesWord 20 = .ok (.ldc2_w 199, 3) := by decide +kernel
theorem dX9_takesWord_23 : decode cX9_takesWord 23 = .ok (.invokestatic 178, 3) := by decide +kernel
theorem dX9_takesWord_26 : decode cX9_takesWord 26 = .ok (.ifCond .eq 16, 3) := by decide +kernel
theorem dX9_takesWord_29 : decode cX9_takesWord 29 = .ok (.aload_n 0, 1) := by decide +kernel
theorem dX9_takesWord_30 : decode cX9_takesWord 30 = .ok (.dup, 1) := by decide +kernel
theorem dX9_takesWord_31 : decode cX9_takesWord 31 = .ok (.getfield 165, 3) := by decide +kernel
theorem dX9_takesWord_34 : decode cX9_takesWord 34 = .ok (.iconst 1, 1) := by decide +kernel
theorem dX9_takesWord_35 : decode cX9_takesWord 35 = .ok (.iadd, 1) := by decide +kernel
theorem dX9_takesWord_36 : decode cX9_takesWord 36 = .ok (.putfield 165, 3) := by decide +kernel
theorem dX9_takesWord_39 : decode cX9_takesWord 39 = .ok (.goto (-27), 3) := by decide +kernel
theorem dX9_takesWord_42 : decode cX9_takesWord 42 = .ok (.aload_n 0, 1) := by decide +kernel
theorem dX9_takesWord_43 : decode cX9_takesWord 43 = .ok (.aload_n 0, 1) := by decide +kernel
theorem dX9_takesWord_44 : decode cX9_takesWord 44 = .ok (.getfield 165, 3) := by decide +kernel
theorem dX9_takesWord_47 : decode cX9_takesWord 47 = .ok (.aload_n 0, 1) := by decide +kernel
theorem dX9_takesWord_48 : decode cX9_takesWord 48 = .ok (.getfield 194, 3) := by decide +kernel
theorem dX9_takesWord_51 : decode cX9_takesWord 51 = .ok (.isub, 1) := by decide +kernel
theorem dX9_takesWord_52 : decode cX9_takesWord 52 = .ok (.putfield 201, 3) := by decide +kernel
theorem dX9_takesWord_55 : decode cX9_takesWord 55 = .ok (.return_, 1) := by decide +kernel
set_option maxRecDepth 20000 in
theorem ggX9_isToken_J0_length_8abf5 : GoodIn wsX9_isToken wsJ0_length_8abf5 := goodIn_r _ [8, 9, 10, 11, 12, 7, 13, 14, 15] rfl (by decide +kernel)
set_option maxRecDepth 20000 in
theorem gX9_isToken_J0_length_8abf5 : GoodIn wsX9_isToken (wsV RX9 204 RJ0 yJ0_length_8abf5 wsJ0_length_8abf5) := goodIn_app (goodIn_r _ [4, 5, 6, 7] rfl (by decide +kernel)) ggX9_isToken_J0_length_8abf5
set_option maxRecDepth 20000 in
theorem ggX9_isToken_J0_charAt_5068e : GoodIn wsX9_isToken wsJ0_charAt_5068e := goodIn_r _ [19, 9, 20, 21, 22, 7, 23, 14, 15, 24, 25, 26, 27, 28, 29, 30, 31, 32, 33, 34, 35, 36, 37, 38, 39, 40, 41, 42, 43, 44, 45, 46, 47, 48, 49, 50, 51, 52] rfl (by decide +kernel)
set_option maxRecDepth 20000 in
theorem gX9_isToken_J0_charAt_5068e : GoodIn wsX9_isToken (wsV RX9 209 RJ0 yJ0_charAt_5068e wsJ0_charAt_5068e) := goodIn_app (goodIn_r _ [16, 17, 18, 7] rfl (by decide +kernel)) ggX9_isToken_J0_charAt_5068e
theorem dX9_isToken_0 : decode cX9_isToken 0 = .ok (.aload_n 0, 1) := by decide +kernel
theorem dX9_isToken_1 : decode cX9_isToken 1 = .ok (.getfield 201, 3) := by decide +kernel
theorem dX9_isToken_4 : decode cX9_isToken 4 = .ok (.aload_n 1, 1) := by decide +kernel
theorem dX9_isToken_5 : decode cX9_isToken 5 = .ok (.invokevirtual 204, 3) := by decide +kernel
theorem dX9_isToken_8 : decode cX9_isToken 8 = .ok (.if_icmp .eq 5, 3) := by decide +kernel
theorem dX9_isToken_11 : decode cX9_isToken 11 = .ok (.iconst 0, 1) := by decide +kernel
theorem dX9_isToken_12 : decode cX9_isToken 12 = .ok (.ireturn, 1) := by decide +kernel
theorem dX9_isToken_13 : decode cX9_isToken 13 = .ok (.iconst 0, 1) := by decide +kernel
theorem dX9_isToken_14 : decode cX9_isToken 14 = .ok (.istore_n 2, 1) := by decide +kernel
theorem dX9_isToken_15 : decode cX9_isToken 15 = .ok (.iload_n 2, 1) := by decide +kernel
theorem dX9_isToken_16 : decode cX9_isToken 16 = .ok (.aload_n 0, 1) := by decide +kernel
theorem dX9_isToken_17 : decode cX9_isToken 17 = .ok (.getfield 201, 3) := by decide +kernel
theorem dX9_isToken_20 : decode cX9_isToken 20 = .ok (.if_icmp .ge 30, 3) := by decide +kernel
theorem dX9_isToken_23 : decode cX9_isToken 23 = .ok (.aload_n 0, 1) := by decide +kernel
theorem dX9_isToken_24 : decode cX9_isToken 24 = .ok (.getfield 35, 3) := by decide +kernel
theorem dX9_isToken_27 : decode cX9_isToken 27 = .ok (.aload_n 0, 1) := by decide +kernel
theorem dX9_isToken_28 : decode cX9_isToken 28 = .ok (.getfield 194, 3) := by decide +kernel
theorem dX9_isToken_31 : decode cX9_isToken 31 = .ok (.iload_n 2, 1) := by decide +kernel
theorem dX9_isToken_32 : decode cX9_isToken 32 = .ok (.iadd, 1) := by decide +kernel
theorem dX9_isToken_33 : decode cX9_isToken 33 = .ok (.baload, 1) := by decide +kernel
theorem dX9_isToken_34 : decode cX9_isToken 34 = .ok (.aload_n 1, 1) := by decide +kernel
theorem dX9_isToken_35 : decode cX9_isToken 35 = .ok (.iload_n 2, 1) := by decide +kernel
theorem dX9_isToken_36 : decode cX9_isToken 36 = .ok (.invokevirtual 209, 3) := by decide +kernel
theorem dX9_isToken_39 : decode cX9_isToken 39 = .ok (.if_icmp .eq 5, 3) := by decide +kernel
theorem dX9_isToken_42 : decode cX9_isToken 42 = .ok (.iconst 0, 1) := by decide +kernel
theorem dX9_isToken_43 : decode cX9_isToken 43 = .ok (.ireturn, 1) := by decide +kernel
theorem dX9_isToken_44 : decode cX9_isToken 44 = .ok (.iinc 2 1, 3) := by decide +kernel
theorem dX9_isToken_47 : decode cX9_isToken 47 = .ok (.goto (-32), 3) := by decide +kernel
theorem dX9_isToken_50 : decode cX9_isToken 50 = .ok (.iconst 1, 1) := by decide +kernel
theorem dX9_isToken_51 : decode cX9_isToken 51 = .ok (.ireturn, 1) := by decide +kernel
set_option maxRecDepth 20000 in
theorem ggX9_number_X9_hasFailed : GoodIn wsX9_number wsX9_hasFailed := goodIn_r _ [13, 14, 35, 36, 37, 38, 39, 40, 41, 42, 43, 44, 45, 46, 47, 48, 49, 50, 51, 52, 53, 54, 55, 56, 57, 58, 59, 60, 61] rfl (by decide +kernel)
set_option maxRecDepth 20000 in
theorem gX9_number_X9_hasFailed : GoodIn wsX9_number (wsV RX9 185 RX9 yX9_hasFailed wsX9_hasFailed) := goodIn_app (goodIn_r _ [9, 10, 11, 12] rfl (by decide +kernel)) ggX9_number_X9_hasFailed
set_option maxRecDepth 20000 in
theorem ggX9_number_X9_skips : GoodIn wsX9_number wsX9_skips := goodIn_r _ [18, 19, 20, 1, 21, 22, 23, 12, 24, 25, 26, 27, 28, 29, 35, 36, 37, 38, 39, 40, 41, 42, 43, 44, 45, 46, 47, 48, 49, 50, 51, 52, 53, 54, 55, 56, 57, 58, 59, 60, 61] rfl (by decide +kernel)
set_option maxRecDepth 20000 in
theorem gX9_number_X9_skips : GoodIn wsX9_number (wsV RX9 191 RX9 yX9_skips wsX9_skips) := goodIn_app (goodIn_r _ [15, 16, 17, 12] rfl (by decide +kernel)) ggX9_number_X9_skips
set_option maxRecDepth 20000 in
theorem ggX9_number_X9_ahead : GoodIn wsX9_number wsX9_ahead := goodIn_r _ [24, 1, 25, 26, 35, 36, 37, 38, 39, 40, 41, 42, 43, 44, 45, 46, 47, 48, 49, 50, 51, 52, 53, 54, 55, 56, 57, 58, 59, 60, 61] rfl (by decide +kernel)
set_option maxRecDepth 20000 in
theorem gX9_number_X9_ahead : GoodIn wsX9_number (wsV RX9 171 RX9 yX9_ahead wsX9_ahead) := goodIn_app (goodIn_r _ [21, 22, 23, 12] rfl (by decide +kernel)) ggX9_number_X9_ahead
set_option maxRecDepth 20000 in
theorem ggX9_number_X9_in : GoodIn wsX9_number wsX9_in := goodIn_r _ [29] rfl (by decide +kernel)
set_option maxRecDepth 20000 in
theorem gX9_number_X9_in : GoodIn wsX9_number (va_wsS RX9 178 yX9_in wsX9_in) := goodIn_app (goodIn_r _ [27, 28, 12] rfl (by decide +kernel)) ggX9_number_X9_in
set_option maxRecDepth 20000 in
theorem ggX9_number_X9_fails : GoodIn wsX9_number wsX9_fails := goodIn_r _ [33, 14, 34, 9, 10, 11, 12, 13, 35, 36, 37, 38, 39, 40, 41, 42, 43, 44, 45, 46, 47, 48, 49, 50, 51, 52, 53, 54, 55, 56, 57, 58, 59, 60, 61] rfl (by decide +kernel)
set_option maxRecDepth 20000 in
theorem gX9_number_X9_fails : GoodIn wsX9_number (wsV RX9 217 RX9 yX9_fails wsX9_fails) := goodIn_app (goodIn_r _ [30, 31, 32, 12] rfl (by decide +kernel)) ggX9_number_X9_fails
theorem dX9_number_0 : decode cX9_number 0 = .ok (.aload_n 0, 1) := by decide +kernel
theorem dX9_number_1 : decode cX9_number 1 = .ok (.invokevirtual 185, 3) := by decide +kernel
theorem dX9_number_4 : decode cX9_number 4 = .ok (.ifCond .eq 5, 3) := by decide +kernel
theorem dX9_number_7 : decode cX9_number 7 = .ok (.iload_n 1, 1) := by decide +kernel
theorem dX9_number_8 : decode cX9_number 8 = .ok (.ireturn, 1) := by decide +kernel
theorem dX9_number_9 : decode cX9_number 9 = .ok (.aload_n 0, 1) := by decide +kernel
theorem dX9_number_10 : decode cX9_number 10 = .ok (.invokevirtual 191, 3) := by decide +kernel
theorem dX9_number_13 : decode cX9_number 13 = .ok (.aload_n 0, 1) := by decide +kernel
theorem dX9_number_14 : decode cX9_number 14 = .ok (.aload_n 0, 1) := by decide +kernel
theorem dX9_number_15 : decode cX9_number 15 = .ok (.getfield 165, 3) := by decide +kernel
theorem dX9_number_18 : decode cX9_number 18 = .ok (.putfield 194, 3) := by decide +kernel
theorem dX9_number_21 : decode cX9_number 21 = .ok (.iconst 0, 1) := by decide +kernel
theorem dX9_number_22 : decode cX9_number 22 = .ok (.istore_n 3, 1) := by decide +kernel
theorem dX9_number_23 : decode cX9_number 23 = .ok (.aload_n 0, 1) := by decide +kernel
theorem dX9_number_24 : decode cX9_number 24 = .ok (.invokevirtual 171, 3) := by decide +kernel
theorem dX9_number_27 : decode cX9_number 27 = .ok (.i2l, 1) := by decide +kernel
theorem dX9_number_28 : decode cX9_number 28 = .ok (.ldc2_w 213, 3) := by decide +kernel
theorem dX9_number_31 : decode cX9_number 31 = .ok (.ldc2_w 215, 3) := by decide +kernel
theorem dX9_number_34 : decode cX9_number 34 = .ok (.invokestatic 178, 3) := by decide +kernel
theorem dX9_number_37 : decode cX9_number 37 = .ok (.ifCond .eq 42, 3) := by decide +kernel
theorem dX9_number_40 : decode cX9_number 40 = .ok (.aload_n 0, 1) := by decide +kernel
theorem dX9_number_41 : decode cX9_number 41 = .ok (.getfield 165, 3) := by decide +kernel
theorem dX9_number_44 : decode cX9_number 44 = .ok (.aload_n 0, 1) := by decide +kernel
theorem dX9_number_45 : decode cX9_number 45 = .ok (.getfield 194, 3) := by decide +kernel
theorem dX9_number_48 : decode cX9_number 48 = .ok (.isub, 1) := by decide +kernel
theorem dX9_number_49 : decode cX9_number 49 = .ok (.iconst 4, 1) := by decide +kernel
theorem dX9_number_50 : decode cX9_number 50 = .ok (.if_icmp .ge 16, 3) := by decide +kernel
theorem dX9_number_53 : decode cX9_number 53 = .ok (.bipush 10, 2) := by decide +kernel
theorem dX9_number_55 : decode cX9_number 55 = .ok (.iload_n 3, 1) := by decide +kernel
theorem dX9_number_56 : decode cX9_number 56 = .ok (.imul, 1) := by decide +kernel
theorem dX9_number_57 : decode cX9_number 57 = .ok (.aload_n 0, 1) := by decide +kernel
theorem dX9_number_58 : decode cX9_number 58 = .ok (.invokevirtual 171, 3) := by decide +kernel
theorem dX9_number_61 : decode cX9_number 61 = .ok (.iadd, 1) := by decide +kernel
theorem dX9_number_62 : decode cX9_number 62 = .ok (.bipush 48, 2) := by decide +kernel
theorem dX9_number_64 : decode cX9_number 64 = .ok (.isub, 1) := by decide +kernel
theorem dX9_number_65 : decode cX9_number 65 = .ok (.istore_n 3, 1) := by decide +kernel
theorem dX9_number_66 : decode cX9_number 66 = .ok (.aload_n 0, 1) := by decide +kernel
theorem dX9_number_67 : decode cX9_number 67 = .ok (.dup, 1) := by decide +kernel
theorem dX9_number_68 : decode cX9_number 68 = .ok (.getfield 165, 3) := by decide +kernel
theorem dX9_number_71 : decode cX9_number 71 = .ok (.iconst 1, 1) := by decide +kernel
theorem dX9_number_72 : decode cX9_number 72 = .ok (.iadd, 1) := by decide +kernel
theorem dX9_number_73 : decode cX9_number 73 = .ok (.putfield 165, 3) := by decide +kernel
theorem dX9_number_76 : decode cX9_number 76 = .ok (.goto (-53), 3) := by decide +kernel
theorem dX9_number_79 : decode cX9_number 79 = .ok (.aload_n 0, 1) := by decide +kernel
theorem dX9_number_80 : decode cX9_number 80 = .ok (.getfield 165, 3) := by decide +kernel
theorem dX9_number_83 : decode cX9_number 83 = .ok (.aload_n 0, 1) := by decide +kernel
theorem dX9_number_84 : decode cX9_number 84 = .ok (.getfield 194, 3) := by decide +kernel
theorem dX9_number_87 : decode cX9_number 87 = .ok (.if_icmp .ne 15, 3) := by decide +kernel
theorem dX9_number_90 : decode cX9_number 90 = .ok (.aload_n 0, 1) := by decide +kernel
theorem dX9_number_91 : decode cX9_number 91 = .ok (.aload_n 0, 1) := by decide +kernel
theorem dX9_number_92 : decode cX9_number 92 = .ok (.getfield 194, 3) := by decide +kernel
theorem dX9_number_95 : decode cX9_number 95 = .ok (.iconst 1, 1) := by decide +kernel
theorem dX9_number_96 : decode cX9_number 96 = .ok (.invokevirtual 217, 3) := by decide +kernel
theorem dX9_number_99 : decode cX9_number 99 = .ok (.goto 37, 3) := by decide +kernel
theorem dX9_number_102 : decode cX9_number 102 = .ok (.aload_n 0, 1) := by decide +kernel
theorem dX9_number_103 : decode cX9_number 103 = .ok (.getfield 165, 3) := by decide +kernel
theorem dX9_number_106 : decode cX9_number 106 = .ok (.aload_n 0, 1) := by decide +kernel
theorem dX9_number_107 : decode cX9_number 107 = .ok (.getfield 194, 3) := by decide +kernel
theorem dX9_number_110 : decode cX9_number 110 = .ok (.isub, 1) := by decide +kernel
theorem dX9_number_111 : decode cX9_number 111 = .ok (.iconst 4, 1) := by decide +kernel
theorem dX9_number_112 : decode cX9_number 112 = .ok (.if_icmp .gt 15, 3) := by decide +kernel
theorem dX9_number_115 : decode cX9_number 115 = .ok (.iload_n 3, 1) := by decide +kernel
theorem dX9_number_116 : decode cX9_number 116 = .ok (.i2l, 1) := by decide +kernel
theorem dX9_number_117 : decode cX9_number 117 = .ok (.iload_n 1, 1) := by decide +kernel
theorem dX9_number_118 : decode cX9_number 118 = .ok (.i2l, 1) := by decide +kernel
theorem dX9_number_119 : decode cX9_number 119 = .ok (.iload_n 2, 1) := by decide +kernel
theorem dX9_number_120 : decode cX9_number 120 = .ok (.i2l, 1) := by decide +kernel
theorem dX9_number_121 : decode cX9_number 121 = .ok (.invokestatic 178, 3) := by decide +kernel
theorem dX9_number_124 : decode cX9_number 124 = .ok (.ifCond .ne 12, 3) := by decide +kernel
theorem dX9_number_127 : decode cX9_number 127 = .ok (.aload_n 0, 1) := by decide +kernel
theorem dX9_number_128 : decode cX9_number 128 = .ok (.aload_n 0, 1) := by decide +kernel
theorem dX9_number_129 : decode cX9_number 129 = .ok (.getfield 194, 3) := by decide +kernel
theorem dX9_number_132 : decode cX9_number 132 = .ok (.iconst 2, 1) := by decide +kernel
theorem dX9_number_133 : decode cX9_number 133 = .ok (.invokevirtual 217, 3) := by decide +kernel
theorem dX9_number_136 : decode cX9_number 136 = .ok (.aload_n 0, 1) := by decide +kernel
theorem dX9_number_137 : decode cX9_number 137 = .ok (.invokevirtual 185, 3) := by decide +kernel
theorem dX9_number_140 : decode cX9_number 140 = .ok (.ifCond .eq 11, 3) := by decide +kernel
theorem dX9_number_143 : decode cX9_number 143 = .ok (.iconst 0, 1) := by decide +kernel
theorem dX9_number_144 : decode cX9_number 144 = .ok (.iload_n 1, 1) := by decide +kernel
theorem dX9_number_145 : decode cX9_number 145 = .ok (.invokestatic 126, 3) := by decide +kernel
theorem dX9_number_148 : decode cX9_number 148 = .ok (.goto 4, 3) := by decide +kernel
theorem dX9_number_151 : decode cX9_number 151 = .ok (.iload_n 3, 1) := by decide +kernel
theorem dX9_number_152 : decode cX9_number 152 = .ok (.ireturn, 1) := by decide +kernel
set_option maxRecDepth 20000 in
theorem ggX9_takesVariable_X9_hasFailed : GoodIn wsX9_takesVariable wsX9_hasFailed := goodIn_r _ [8, 9, 41, 42, 43, 44, 45, 46, 47, 48, 49, 50, 51, 52, 53, 54, 55, 56, 57, 58, 59, 60, 61, 62, 63, 64, 65, 66, 67] rfl (by decide +kernel)
set_option maxRecDepth 20000 in
theorem gX9_takesVariable_X9_hasFailed : GoodIn wsX9_takesVariable (wsV RX9 185 RX9 yX9_hasFailed wsX9_hasFailed) := goodIn_app (goodIn_r _ [4, 5, 6, 7] rfl (by decide +kernel)) ggX9_takesVariable_X9_hasFailed
set_option maxRecDepth 20000 in
theorem ggX9_takesVariable_X9_takesWord : GoodIn wsX9_takesVariable wsX9_takesWord := goodIn_r _ [13, 14, 2, 15, 16, 1, 17, 18, 19, 7, 20, 21, 22, 23, 24, 25, 26, 27, 3, 28, 29, 30, 41, 42, 43, 44, 45, 46, 47, 48, 49, 50, 51, 52, 53, 54, 55, 56, 57, 58, 59, 60, 61, 62, 63, 64, 65, 66, 67] rfl (by decide +kernel)
set_option maxRecDepth 20000 in
theorem gX9_takesVariable_X9_takesWord : GoodIn wsX9_takesVariable (wsV RX9 220 RX9 yX9_takesWord wsX9_takesWord) := goodIn_app (goodIn_r _ [10, 11, 12, 7] rfl (by decide +kernel)) ggX9_takesVariable_X9_takesWord
set_option maxRecDepth 20000 in
theorem ggX9_takesVariable_X9_fails : GoodIn wsX9_takesVariable wsX9_fails := goodIn_r _ [34, 9, 35, 4, 5, 6, 7, 8, 41, 42, 43, 44, 45, 46, 47, 48, 49, 50, 51, 52, 53, 54, 55, 56, 57, 58, 59, 60, 61, 62, 63, 64, 65, 66, 67] rfl (by decide +kernel)
set_option maxRecDepth 20000 in
theorem gX9_takesVariable_X9_fails : GoodIn wsX9_takesVariable (wsV RX9 217 RX9 yX9_fails wsX9_fails) := goodIn_app (goodIn_r _ [31, 32, 33, 7] rfl (by decide +kernel)) ggX9_takesVariable_X9_fails
set_option maxRecDepth 20000 in
theorem ggX9_takesVariable_X9_wide : GoodIn wsX9_takesVariable wsX9_wide := goodIn_r _ [39, 40, 41, 42, 43, 44, 45, 46, 47, 48, 49, 50, 51, 52, 53, 54, 55, 56, 57, 58, 59, 60, 61, 62, 63, 64, 65, 66, 67] rfl (by decide +kernel)
set_option maxRecDepth 20000 in
theorem gX9_takesVariable_X9_wide : GoodIn wsX9_takesVariable (wsV RX9 64 RX9 yX9_wide wsX9_wide) := goodIn_app (goodIn_r _ [36, 37, 38, 7] rfl (by decide +kernel)) ggX9_takesVariable_X9_wide
theorem dX9_takesVariable_0 : decode cX9_takesVariable 0 = .ok (.aload_n 0, 1) := by decide +kernel
theorem dX9_takesVariable_1 : decode cX9_takesVariable 1 = .ok (.invokevirtual 185, 3) := by decide +kernel
theorem dX9_takesVariable_4 : decode cX9_takesVariable 4 = .ok (.ifCond .eq 5, 3) := by decide +kernel
theorem dX9_takesVariable_7 : decode cX9_takesVariable 7 = .ok (.iconst 0, 1) := by decide +kernel
theorem dX9_takesVariable_8 : decode cX9_takesVariable 8 = .ok (.ireturn, 1) := by decide +kernel
theorem dX9_takesVariable_9 : decode cX9_takesVariable 9 = .ok (.aload_n 0, 1) := by decide +kernel
theorem dX9_takesVariable_10 : decode cX9_takesVariable 10 = .ok (.invokevirtual 220, 3) := by decide +kernel
theorem dX9_takesVariable_13 : decode cX9_takesVariable 13 = .ok (.aload_n 0, 1) := by decide +kernel
theorem dX9_takesVariable_14 : decode cX9_takesVariable 14 = .ok (.getfield 201, 3) := by decide +kernel
theorem dX9_takesVariable_17 : decode cX9_takesVariable 17 = .ok (.iconst 1, 1) := by decide +kernel
theorem dX9_takesVariable_18 : decode cX9_takesVariable 18 = .ok (.if_icmp .eq 14, 3) := by decide +kernel
theorem dX9_takesVariable_21 : decode cX9_takesVariable 21 = .ok (.aload_n 0, 1) := by decide +kernel
theorem dX9_takesVariable_22 : decode cX9_takesVariable 22 = .ok (.aload_n 0, 1) := by decide +kernel
theorem dX9_takesVariable_23 : decode cX9_takesVariable 23 = .ok (.getfield 194, 3) := by decide +kernel
theorem dX9_takesVariable_26 : decode cX9_takesVariable 26 = .ok (.iconst 1, 1) := by decide +kernel
theorem dX9_takesVariable_27 : decode cX9_takesVariable 27 = .ok (.invokevirtual 217, 3) := by decide +kernel
theorem dX9_takesVariable_30 : decode cX9_takesVariable 30 = .ok (.iconst 0, 1) := by decide +kernel
theorem dX9_takesVariable_31 : decode cX9_takesVariable 31 = .ok (.ireturn, 1) := by decide +kernel
theorem dX9_takesVariable_32 : decode cX9_takesVariable 32 = .ok (.aload_n 0, 1) := by decide +kernel
theorem dX9_takesVariable_33 : decode cX9_takesVariable 33 = .ok (.getfield 35, 3) := by decide +kernel
theorem dX9_takesVariable_36 : decode cX9_takesVariable 36 = .ok (.aload_n 0, 1) := by decide +kernel
theorem dX9_takesVariable_37 : decode cX9_takesVariable 37 = .ok (.getfield 194, 3) := by decide +kernel
theorem dX9_takesVariable_40 : decode cX9_takesVariable 40 = .ok (.baload, 1) := by decide +kernel
theorem dX9_takesVariable_41 : decode cX9_takesVariable 41 = .ok (.bipush 97, 2) := by decide +kernel
theorem dX9_takesVariable_43 : decode cX9_takesVariable 43 = .ok (.isub, 1) := by decide +kernel
theorem dX9_takesVariable_44 : decode cX9_takesVariable 44 = .ok (.istore_n 1, 1) := by decide +kernel
theorem dX9_takesVariable_45 : decode cX9_takesVariable 45 = .ok (.iload_n 1, 1) := by decide +kernel
theorem dX9_takesVariable_46 : decode cX9_takesVariable 46 = .ok (.aload_n 0, 1) := by decide +kernel
theorem dX9_takesVariable_47 : decode cX9_takesVariable 47 = .ok (.invokevirtual 64, 3) := by decide +kernel
theorem dX9_takesVariable_50 : decode cX9_takesVariable 50 = .ok (.if_icmp .lt 12, 3) := by decide +kernel
theorem dX9_takesVariable_53 : decode cX9_takesVariable 53 = .ok (.aload_n 0, 1) := by decide +kernel
theorem dX9_takesVariable_54 : decode cX9_takesVariable 54 = .ok (.aload_n 0, 1) := by decide +kernel
theorem dX9_takesVariable_55 : decode cX9_takesVariable 55 = .ok (.getfield 194, 3) := by decide +kernel
theorem dX9_takesVariable_58 : decode cX9_takesVariable 58 = .ok (.iconst 2, 1) := by decide +kernel
theorem dX9_takesVariable_59 : decode cX9_takesVariable 59 = .ok (.invokevirtual 217, 3) := by decide +kernel
theorem dX9_takesVariable_62 : decode cX9_takesVariable 62 = .ok (.aload_n 0, 1) := by decide +kernel
theorem dX9_takesVariable_63 : decode cX9_takesVariable 63 = .ok (.invokevirtual 185, 3) := by decide +kernel
theorem dX9_takesVariable_66 : decode cX9_takesVariable 66 = .ok (.ifCond .eq 7, 3) := by decide +kernel
theorem dX9_takesVariable_69 : decode cX9_takesVariable 69 = .ok (.iconst 0, 1) := by decide +kernel
theorem dX9_takesVariable_70 : decode cX9_takesVariable 70 = .ok (.goto 4, 3) := by decide +kernel
theorem dX9_takesVariable_73 : decode cX9_takesVariable 73 = .ok (.iload_n 1, 1) := by decide +kernel
theorem dX9_takesVariable_74 : decode cX9_takesVariable 74 = .ok (.ireturn, 1) := by decide +kernel
set_option maxRecDepth 20000 in
theorem ggX9_takesLiterals_X9_lays : GoodIn wsX9_takesLiterals wsX9_lays := goodIn_r _ [9, 10, 11, 12, 8, 13, 14, 15, 16, 17, 18, 61, 62, 63, 64, 65, 66, 67, 68, 69, 70, 71, 72, 73, 74, 75, 76, 77, 78, 79, 80, 81, 82, 83, 84, 85, 86, 87] rfl (by decide +kernel)
set_option maxRecDepth 20000 in
theorem gX9_takesLiterals_X9_lays : GoodIn wsX9_takesLiterals (wsV RX9 223 RX9 yX9_lays wsX9_lays) := goodIn_app (goodIn_r _ [5, 6, 7, 8] rfl (by decide +kernel)) ggX9_takesLiterals_X9_lays
set_option maxRecDepth 20000 in
theorem ggX9_takesLiterals_X9_skips : GoodIn wsX9_takesLiterals wsX9_skips := goodIn_r _ [22, 23, 24, 3, 25, 26, 27, 8, 28, 29, 30, 31, 32, 33, 61, 62, 63, 64, 65, 66, 67, 68, 69, 70, 71, 72, 73, 74, 75, 76, 77, 78, 79, 80, 81, 82, 83, 84, 85, 86, 87] rfl (by decide +kernel)
set_option maxRecDepth 20000 in
theorem gX9_takesLiterals_X9_skips : GoodIn wsX9_takesLiterals (wsV RX9 191 RX9 yX9_skips wsX9_skips) := goodIn_app (goodIn_r _ [19, 20, 21, 8] rfl (by decide +kernel)) ggX9_takesLiterals_X9_skips
set_option maxRecDepth 20000 in
theorem ggX9_takesLiterals_X9_hasFailed : GoodIn wsX9_takesLiterals wsX9_hasFailed := goodIn_r _ [37, 38, 61, 62, 63, 64, 65, 66, 67, 68, 69, 70, 71, 72, 73, 74, 75, 76, 77, 78, 79, 80, 81, 82, 83, 84, 85, 86, 87] rfl (by decide +kernel)
set_option maxRecDepth 20000 in
theorem gX9_takesLiterals_X9_hasFailed : GoodIn wsX9_takesLiterals (wsV RX9 185 RX9 yX9_hasFailed wsX9_hasFailed) := goodIn_app (goodIn_r _ [34, 35, 36, 8] rfl (by decide +kernel)) ggX9_takesLiterals_X9_hasFailed
set_option maxRecDepth 20000 in
theorem ggX9_takesLiterals_X9_ahead : GoodIn wsX9_takesLiterals wsX9_ahead := goodIn_r _ [28, 3, 29, 30, 61, 62, 63, 64, 65, 66, 67, 68, 69, 70, 71, 72, 73, 74, 75, 76, 77, 78, 79, 80, 81, 82, 83, 84, 85, 86, 87] rfl (by decide +kernel)
set_option maxRecDepth 20000 in
theorem gX9_takesLiterals_X9_ahead : GoodIn wsX9_takesLiterals (wsV RX9 171 RX9 yX9_ahead wsX9_ahead) := goodIn_app (goodIn_r _ [25, 26, 27, 8] rfl (by decide +kernel)) ggX9_takesLiterals_X9_ahead
set_option maxRecDepth 20000 in
theorem ggX9_takesLiterals_X9_in : GoodIn wsX9_takesLiterals wsX9_in := goodIn_r _ [33] rfl (by decide +kernel)
set_option maxRecDepth 20000 in
theorem gX9_takesLiterals_X9_in : GoodIn wsX9_takesLiterals (va_wsS RX9 178 yX9_in wsX9_in) := goodIn_app (goodIn_r _ [31, 32, 8] rfl (by decide +kernel)) ggX9_takesLiterals_X9_in
set_option maxRecDepth 20000 in
theorem ggX9_takesLiterals_X9_takesVariable : GoodIn wsX9_takesLiterals wsX9_takesVariable := goodIn_r _ [42, 43, 4, 30, 34, 35, 36, 8, 37, 38, 44, 45, 46, 47, 3, 1, 2, 19, 20, 21, 22, 23, 24, 25, 26, 27, 28, 29, 31, 32, 33, 48, 49, 50, 51, 52, 53, 54, 55, 56, 14, 61, 62, 63, 64, 65, 66, 67, 68, 69, 70, 71, 72, 73, 74, 75, 76, 77, 78, 79, 80, 81, 82, 83, 84, 85, 86, 87] rfl (by decide +kernel)
set_option maxRecDepth 20000 in
theorem gX9_takesLiterals_X9_takesVariable : GoodIn wsX9_takesLiterals (wsV RX9 226 RX9 yX9_takesVariable wsX9_takesVariable) := goodIn_app (goodIn_r _ [39, 40, 41, 8] rfl (by decide +kernel)) ggX9_takesLiterals_X9_takesVariable
set_option maxRecDepth 20000 in
theorem ggX9_takesLiterals_X9_many : GoodIn wsX9_takesLiterals wsX9_many := goodIn_r _ [13, 14, 61, 62, 63, 64, 65, 66, 67, 68, 69, 70, 71, 72, 73, 74, 75, 76, 77, 78, 79, 80, 81, 82, 83, 84, 85, 86, 87] rfl (by decide +kernel)
set_option maxRecDepth 20000 in
theorem gX9_takesLiterals_X9_many : GoodIn wsX9_takesLiterals (wsV RX9 56 RX9 yX9_many wsX9_many) := goodIn_app (goodIn_r _ [10, 11, 12, 8] rfl (by decide +kernel)) ggX9_takesLiterals_X9_many
set_option maxRecDepth 20000 in
theorem ggX9_takesLiterals_X9_sign : GoodIn wsX9_takesLiterals wsX9_sign := goodIn_r _ [60, 14, 61, 62, 63, 64, 65, 66, 67, 68, 69, 70, 71, 72, 73, 74, 75, 76, 77, 78, 79, 80, 81, 82, 83, 84, 85, 86, 87] rfl (by decide +kernel)
set_option maxRecDepth 20000 in
theorem gX9_takesLiterals_X9_sign : GoodIn wsX9_takesLiterals (wsV RX9 67 RX9 yX9_sign wsX9_sign) := goodIn_app (goodIn_r _ [57, 58, 59, 8] rfl (by decide +kernel)) ggX9_takesLiterals_X9_sign
set_option maxRecDepth 20000 in
theorem ggX9_takesLiterals_X9_fails : GoodIn wsX9_takesLiterals wsX9_fails := goodIn_r _ [51, 38, 52, 34, 35, 36, 8, 37, 61, 62, 63, 64, 65, 66, 67, 68, 69, 70, 71, 72, 73, 74, 75, 76, 77, 78, 79, 80, 81, 82, 83, 84, 85, 86, 87] rfl (by decide +kernel)
set_option maxRecDepth 20000 in
theorem gX9_takesLiterals_X9_fails : GoodIn wsX9_takesLiterals (wsV RX9 217 RX9 yX9_fails wsX9_fails) := goodIn_app (goodIn_r _ [48, 49, 50, 8] rfl (by decide +kernel)) ggX9_takesLiterals_X9_fails
set_option maxRecDepth 20000 in
theorem ggX9_takesLiterals_X9_puts : GoodIn wsX9_takesLiterals wsX9_puts := goodIn_r _ [18, 14, 61, 62, 63, 64, 65, 66, 67, 68, 69, 70, 71, 72, 73, 74, 75, 76, 77, 78, 79, 80, 81, 82, 83, 84, 85, 86, 87] rfl (by decide +kernel)
set_option maxRecDepth 20000 in
theorem gX9_takesLiterals_X9_puts : GoodIn wsX9_takesLiterals (wsV RX9 60 RX9 yX9_puts wsX9_puts) := goodIn_app (goodIn_r _ [15, 16, 17, 8] rfl (by decide +kernel)) ggX9_takesLiterals_X9_puts
theorem dX9_takesLiterals_0 : decode cX9_takesLiterals 0 = .ok (.aload_n 0, 1) := by decide +kernel
theorem dX9_takesLiterals_1 : decode cX9_takesLiterals 1 = .ok (.iconst 0, 1) := by decide +kernel
theorem dX9_takesLiterals_2 : decode cX9_takesLiterals 2 = .ok (.iconst 0, 1) := by decide +kernel
theorem dX9_takesLiterals_3 : decode cX9_takesLiterals 3 = .ok (.invokevirtual 223, 3) := by decide +kernel
theorem dX9_takesLiterals_6 : decode cX9_takesLiterals 6 = .ok (.aload_n 0, 1) := by decide +kernel
theorem dX9_takesLiterals_7 : decode cX9_takesLiterals 7 = .ok (.invokevirtual 191, 3) := by decide +kernel
theorem dX9_takesLiterals_10 : decode cX9_takesLiterals 10 = .ok (.aload_n 0, 1) := by decide +kernel
theorem dX9_takesLiterals_11 : decode cX9_takesLiterals 11 = .ok (.invokevirtual 185, 3) := by decide +kernel
theorem dX9_takesLiterals_14 : decode cX9_takesLiterals 14 = .ok (.ifCond .ne 132, 3) := by decide +kernel
theorem dX9_takesLiterals_17 : decode cX9_takesLiterals 17 = .ok (.aload_n 0, 1) := by decide +kernel
theorem dX9_takesLiterals_18 : decode cX9_takesLiterals 18 = .ok (.invokevirtual 171, 3) := by decide +kernel
theorem dX9_takesLiterals_21 : decode cX9_takesLiterals 21 = .ok (.bipush 45, 2) := by decide +kernel
theorem dX9_takesLiterals_23 : decode cX9_takesLiterals 23 = .ok (.if_icmp .eq 20, 3) := by decide +kernel
theorem dX9_takesLiterals_26 : decode cX9_takesLiterals 26 = .ok (.aload_n 0, 1) := by decide +kernel
theorem dX9_takesLiterals_27 : decode cX9_takesLiterals 27 = .ok (.invokevirtual 171, 3) := by decide +kernel
theorem dX9_takesLiterals_30 : decode cX9_takesLiterals 30 = .ok (.i2l, 1) := by decide +kernel
theorem dX9_takesLiterals_31 : decode cX9_takesLiterals 31 = .ok (.ldc2_w 197, 3) := by decide +kernel
theorem dX9_takesLiterals_34 : decode cX9_takesLiterals 34 = .ok (.ldc2_w 199, 3) := by decide +kernel
theorem dX9_takesLiterals_37 : decode cX9_takesLiterals 37 = .ok (.invokestatic 178, 3) := by decide +kernel
theorem dX9_takesLiterals_40 : decode cX9_takesLiterals 40 = .ok (.ifCond .eq 106, 3) := by decide +kernel
theorem dX9_takesLiterals_43 : decode cX9_takesLiterals 43 = .ok (.aload_n 0, 1) := by decide +kernel
theorem dX9_takesLiterals_44 : decode cX9_takesLiterals 44 = .ok (.invokevirtual 171, 3) := by decide +kernel
theorem dX9_takesLiterals_47 : decode cX9_takesLiterals 47 = .ok (.bipush 45, 2) := by decide +kernel
theorem dX9_takesLiterals_49 : decode cX9_takesLiterals 49 = .ok (.if_icmp .ne 7, 3) := by decide +kernel
theorem dX9_takesLiterals_52 : decode cX9_takesLiterals 52 = .ok (.iconst 1, 1) := by decide +kernel
theorem dX9_takesLiterals_53 : decode cX9_takesLiterals 53 = .ok (.goto 4, 3) := by decide +kernel
theorem dX9_takesLiterals_56 : decode cX9_takesLiterals 56 = .ok (.iconst 0, 1) := by decide +kernel
theorem dX9_takesLiterals_57 : decode cX9_takesLiterals 57 = .ok (.istore_n 1, 1) := by decide +kernel
theorem dX9_takesLiterals_58 : decode cX9_takesLiterals 58 = .ok (.aload_n 0, 1) := by decide +kernel
theorem dX9_takesLiterals_59 : decode cX9_takesLiterals 59 = .ok (.dup, 1) := by decide +kernel
theorem dX9_takesLiterals_60 : decode cX9_takesLiterals 60 = .ok (.getfield 165, 3) := by decide +kernel
theorem dX9_takesLiterals_63 : decode cX9_takesLiterals 63 = .ok (.iload_n 1, 1) := by decide +kernel
theorem dX9_takesLiterals_64 : decode cX9_takesLiterals 64 = .ok (.ifCond .eq 7, 3) := by decide +kernel
theorem dX9_takesLiterals_67 : decode cX9_takesLiterals 67 = .ok (.iconst 1, 1) := by decide +kernel
theorem dX9_takesLiterals_68 : decode cX9_takesLiterals 68 = .ok (.goto 4, 3) := by decide +kernel
theorem dX9_takesLiterals_71 : decode cX9_takesLiterals 71 = .ok (.iconst 0, 1) := by decide +kernel
theorem dX9_takesLiterals_72 : decode cX9_takesLiterals 72 = .ok (.iadd, 1) := by decide +kernel
theorem dX9_takesLiterals_73 : decode cX9_takesLiterals 73 = .ok (.putfield 165, 3) := by decide +kernel
theorem dX9_takesLiterals_76 : decode cX9_takesLiterals 76 = .ok (.aload_n 0, 1) := by decide +kernel
theorem dX9_takesLiterals_77 : decode cX9_takesLiterals 77 = .ok (.invokevirtual 226, 3) := by decide +kernel
theorem dX9_takesLiterals_80 : decode cX9_takesLiterals 80 = .ok (.istore_n 2, 1) := by decide +kernel
theorem dX9_takesLiterals_81 : decode cX9_takesLiterals 81 = .ok (.iload_n 1, 1) := by decide +kernel
theorem dX9_takesLiterals_82 : decode cX9_takesLiterals 82 = .ok (.ifCond .eq 7, 3) := by decide +kernel
theorem dX9_takesLiterals_85 : decode cX9_takesLiterals 85 = .ok (.iconst 2, 1) := by decide +kernel
theorem dX9_takesLiterals_86 : decode cX9_takesLiterals 86 = .ok (.goto 4, 3) := by decide +kernel
theorem dX9_takesLiterals_89 : decode cX9_takesLiterals 89 = .ok (.iconst 1, 1) := by decide +kernel
theorem dX9_takesLiterals_90 : decode cX9_takesLiterals 90 = .ok (.istore_n 3, 1) := by decide +kernel
theorem dX9_takesLiterals_91 : decode cX9_takesLiterals 91 = .ok (.aload_n 0, 1) := by decide +kernel
theorem dX9_takesLiterals_92 : decode cX9_takesLiterals 92 = .ok (.invokevirtual 185, 3) := by decide +kernel
theorem dX9_takesLiterals_95 : decode cX9_takesLiterals 95 = .ok (.ifCond .ne 27, 3) := by decide +kernel
theorem dX9_takesLiterals_98 : decode cX9_takesLiterals 98 = .ok (.aload_n 0, 1) := by decide +kernel
theorem dX9_takesLiterals_99 : decode cX9_takesLiterals 99 = .ok (.aload_n 0, 1) := by decide +kernel
theorem dX9_takesLiterals_100 : decode cX9_takesLiterals 100 = .ok (.invokevirtual 56, 3) := by decide +kernel
theorem dX9_takesLiterals_103 : decode cX9_takesLiterals 103 = .ok (.iload_n 2, 1) := by decide +kernel
theorem dX9_takesLiterals_104 : decode cX9_takesLiterals 104 = .ok (.invokevirtual 67, 3) := by decide +kernel
theorem dX9_takesLiterals_107 : decode cX9_takesLiterals 107 = .ok (.iconst 3, 1) := by decide +kernel
theorem dX9_takesLiterals_108 : decode cX9_takesLiterals 108 = .ok (.iload_n 3, 1) := by decide +kernel
theorem dX9_takesLiterals_109 : decode cX9_takesLiterals 109 = .ok (.isub, 1) := by decide +kernel
theorem dX9_takesLiterals_110 : decode cX9_takesLiterals 110 = .ok (.if_icmp .ne 12, 3) := by decide +kernel
theorem dX9_takesLiterals_113 : decode cX9_takesLiterals 113 = .ok (.aload_n 0, 1) := by decide +kernel
theorem dX9_takesLiterals_114 : decode cX9_takesLiterals 114 = .ok (.aload_n 0, 1) := by decide +kernel
theorem dX9_takesLiterals_115 : decode cX9_takesLiterals 115 = .ok (.getfield 194, 3) := by decide +kernel
theorem dX9_takesLiterals_118 : decode cX9_takesLiterals 118 = .ok (.iconst 3, 1) := by decide +kernel
theorem dX9_takesLiterals_119 : decode cX9_takesLiterals 119 = .ok (.invokevirtual 217, 3) := by decide +kernel
theorem dX9_takesLiterals_122 : decode cX9_takesLiterals 122 = .ok (.aload_n 0, 1) := by decide +kernel
theorem dX9_takesLiterals_123 : decode cX9_takesLiterals 123 = .ok (.invokevirtual 185, 3) := by decide +kernel
theorem dX9_takesLiterals_126 : decode cX9_takesLiterals 126 = .ok (.ifCond .ne 13, 3) := by decide +kernel
theorem dX9_takesLiterals_129 : decode cX9_takesLiterals 129 = .ok (.aload_n 0, 1) := by decide +kernel
theorem dX9_takesLiterals_130 : decode cX9_takesLiterals 130 = .ok (.aload_n 0, 1) := by decide +kernel
theorem dX9_takesLiterals_131 : decode cX9_takesLiterals 131 = .ok (.invokevirtual 56, 3) := by decide +kernel
theorem dX9_takesLiterals_134 : decode cX9_takesLiterals 134 = .ok (.iload_n 2, 1) := by decide +kernel
theorem dX9_takesLiterals_135 : decode cX9_takesLiterals 135 = .ok (.iload_n 3, 1) := by decide +kernel
theorem dX9_takesLiterals_136 : decode cX9_takesLiterals 136 = .ok (.invokevirtual 60, 3) := by decide +kernel
theorem dX9_takesLiterals_139 : decode cX9_takesLiterals 139 = .ok (.aload_n 0, 1) := by decide +kernel
theorem dX9_takesLiterals_140 : decode cX9_takesLiterals 140 = .ok (.invokevirtual 191, 3) := by decide +kernel
theorem dX9_takesLiterals_143 : decode cX9_takesLiterals 143 = .ok (.goto (-133), 3) := by decide +kernel
theorem dX9_takesLiterals_146 : decode cX9_takesLiterals 146 = .ok (.return_, 1) := by decide +kernel
set_option maxRecDepth 20000 in
theorem ggX9_takesClause_X9_many : GoodIn wsX9_takesClause wsX9_many := goodIn_r _ [5, 6, 44, 45, 46, 47, 48, 49, 50, 51, 52, 53, 54, 55, 56, 57, 58, 59, 60, 61, 62, 63, 64, 65, 66, 67, 68, 69, 70] rfl (by decide +kernel)
set_option maxRecDepth 20000 in
theorem gX9_takesClause_X9_many : GoodIn wsX9_takesClause (wsV RX9 56 RX9 yX9_many wsX9_many) := goodIn_app (goodIn_r _ [1, 2, 3, 4] rfl (by decide +kernel)) ggX9_takesClause_X9_many
set_option maxRecDepth 20000 in
theorem ggX9_takesClause_X9_number : GoodIn wsX9_takesClause wsX9_number := goodIn_r _ [10, 11, 12, 13, 14, 15, 16, 17, 18, 19, 20, 21, 4, 22, 23, 24, 25, 26, 27, 28, 29, 30, 31, 32, 33, 34, 35, 36, 37, 38, 39, 40, 41, 42, 43, 44, 45, 46, 47, 48, 49, 50, 51, 52, 53, 54, 55, 56, 57, 58, 59, 60, 61, 62, 63, 64, 65, 66, 67, 68, 69, 70] rfl (by decide +kernel)
set_option maxRecDepth 20000 in
theorem gX9_takesClause_X9_number : GoodIn wsX9_takesClause (wsV RX9 229 RX9 yX9_number wsX9_number) := goodIn_app (goodIn_r _ [7, 8, 9, 4] rfl (by decide +kernel)) ggX9_takesClause_X9_number
theorem dX9_takesClause_0 : decode cX9_takesClause 0 = .ok (.aload_n 0, 1) := by decide +kernel
theorem dX9_takesClause_1 : decode cX9_takesClause 1 = .ok (.iconst 0, 1) := by decide +kernel
theorem dX9_takesClause_2 : decode cX9_takesClause 2 = .ok (.aload_n 0, 1) := by decide +kernel
theorem dX9_takesClause_3 : decode cX9_takesClause 3 = .ok (.invokevirtual 56, 3) := by decide +kernel
theorem dX9_takesClause_6 : decode cX9_takesClause 6 = .ok (.iconst 1, 1) := by decide +kernel
theorem dX9_takesClause_7 : decode cX9_takesClause 7 = .ok (.isub, 1) := by decide +kernel
theorem dX9_takesClause_8 : decode cX9_takesClause 8 = .ok (.invokevirtual 229, 3) := by decide +kernel
theorem dX9_takesClause_11 : decode cX9_takesClause 11 = .ok (.ireturn, 1) := by decide +kernel
set_option maxRecDepth 20000 in
theorem ggX9_isEnd_X9_hasFailed : GoodIn wsX9_isEnd wsX9_hasFailed := goodIn_r _ [6, 7, 28, 29, 30, 31, 32, 33, 34, 35, 36, 37, 38, 39, 40, 41, 42, 43, 44, 45, 46, 47, 48, 49, 50, 51, 52, 53, 54] rfl (by decide +kernel)
set_option maxRecDepth 20000 in
theorem gX9_isEnd_X9_hasFailed : GoodIn wsX9_isEnd (wsV RX9 185 RX9 yX9_hasFailed wsX9_hasFailed) := goodIn_app (goodIn_r _ [2, 3, 4, 5] rfl (by decide +kernel)) ggX9_isEnd_X9_hasFailed
set_option maxRecDepth 20000 in
theorem ggX9_isEnd_X9_skips : GoodIn wsX9_isEnd wsX9_skips := goodIn_r _ [11, 12, 13, 1, 14, 15, 16, 5, 17, 18, 19, 20, 21, 22, 28, 29, 30, 31, 32, 33, 34, 35, 36, 37, 38, 39, 40, 41, 42, 43, 44, 45, 46, 47, 48, 49, 50, 51, 52, 53, 54] rfl (by decide +kernel)
set_option maxRecDepth 20000 in
theorem gX9_isEnd_X9_skips : GoodIn wsX9_isEnd (wsV RX9 191 RX9 yX9_skips wsX9_skips) := goodIn_app (goodIn_r _ [8, 9, 10, 5] rfl (by decide +kernel)) ggX9_isEnd_X9_skips
set_option maxRecDepth 20000 in
theorem ggX9_isEnd_X9_ahead : GoodIn wsX9_isEnd wsX9_ahead := goodIn_r _ [17, 1, 18, 19, 28, 29, 30, 31, 32, 33, 34, 35, 36, 37, 38, 39, 40, 41, 42, 43, 44, 45, 46, 47, 48, 49, 50, 51, 52, 53, 54] rfl (by decide +kernel)
set_option maxRecDepth 20000 in
theorem gX9_isEnd_X9_ahead : GoodIn wsX9_isEnd (wsV RX9 171 RX9 yX9_ahead wsX9_ahead) := goodIn_app (goodIn_r _ [14, 15, 16, 5] rfl (by decide +kernel)) ggX9_isEnd_X9_ahead
set_option maxRecDepth 20000 in
theorem ggX9_isEnd_X9_fails : GoodIn wsX9_isEnd wsX9_fails := goodIn_r _ [26, 7, 27, 2, 3, 4, 5, 6, 28, 29, 30, 31, 32, 33, 34, 35, 36, 37, 38, 39, 40, 41, 42, 43, 44, 45, 46, 47, 48, 49, 50, 51, 52, 53, 54] rfl (by decide +kernel)
set_option maxRecDepth 20000 in
theorem gX9_isEnd_X9_fails : GoodIn wsX9_isEnd (wsV RX9 217 RX9 yX9_fails wsX9_fails) := goodIn_app (goodIn_r _ [23, 24, 25, 5] rfl (by decide +kernel)) ggX9_isEnd_X9_fails
theorem dX9_isEnd_0 : decode cX9_isEnd 0 = .ok (.aload_n 0, 1) := by decide +kernel
theorem dX9_isEnd_1 : decode cX9_isEnd 1 = .ok (.invokevirtual 185, 3) := by decide +kernel
theorem dX9_isEnd_4 : decode cX9_isEnd 4 = .ok (.ifCond .eq 5, 3) := by decide +kernel
theorem dX9_isEnd_7 : decode cX9_isEnd 7 = .ok (.iconst 0, 1) := by decide +kernel
theorem dX9_isEnd_8 : decode cX9_isEnd 8 = .ok (.ireturn, 1) := by decide +kernel
theorem dX9_isEnd_9 : decode cX9_isEnd 9 = .ok (.aload_n 0, 1) := by decide +kernel
theorem dX9_isEnd_10 : decode cX9_isEnd 10 = .ok (.invokevirtual 191, 3) := by decide +kernel
theorem dX9_isEnd_13 : decode cX9_isEnd 13 = .ok (.aload_n 0, 1) := by decide +kernel
theorem dX9_isEnd_14 : decode cX9_isEnd 14 = .ok (.invokevirtual 171, 3) := by decide +kernel
theorem dX9_isEnd_17 : decode cX9_isEnd 17 = .ok (.bipush 59, 2) := by decide +kernel
theorem dX9_isEnd_19 : decode cX9_isEnd 19 = .ok (.if_icmp .eq 12, 3) := by decide +kernel
theorem dX9_isEnd_22 : decode cX9_isEnd 22 = .ok (.aload_n 0, 1) := by decide +kernel
theorem dX9_isEnd_23 : decode cX9_isEnd 23 = .ok (.aload_n 0, 1) := by decide +kernel
theorem dX9_isEnd_24 : decode cX9_isEnd 24 = .ok (.getfield 165, 3) := by decide +kernel
theorem dX9_isEnd_27 : decode cX9_isEnd 27 = .ok (.iconst 1, 1) := by decide +kernel
theorem dX9_isEnd_28 : decode cX9_isEnd 28 = .ok (.invokevirtual 217, 3) := by decide +kernel
theorem dX9_isEnd_31 : decode cX9_isEnd 31 = .ok (.aload_n 0, 1) := by decide +kernel
theorem dX9_isEnd_32 : decode cX9_isEnd 32 = .ok (.dup, 1) := by decide +kernel
theorem dX9_isEnd_33 : decode cX9_isEnd 33 = .ok (.getfield 165, 3) := by decide +kernel
theorem dX9_isEnd_36 : decode cX9_isEnd 36 = .ok (.iconst 1, 1) := by decide +kernel
theorem dX9_isEnd_37 : decode cX9_isEnd 37 = .ok (.iadd, 1) := by decide +kernel
theorem dX9_isEnd_38 : decode cX9_isEnd 38 = .ok (.putfield 165, 3) := by decide +kernel
theorem dX9_isEnd_41 : decode cX9_isEnd 41 = .ok (.aload_n 0, 1) := by decide +kernel
theorem dX9_isEnd_42 : decode cX9_isEnd 42 = .ok (.invokevirtual 185, 3) := by decide +kernel
theorem dX9_isEnd_45 : decode cX9_isEnd 45 = .ok (.ifCond .ne 7, 3) := by decide +kernel
theorem dX9_isEnd_48 : decode cX9_isEnd 48 = .ok (.iconst 1, 1) := by decide +kernel
theorem dX9_isEnd_49 : decode cX9_isEnd 49 = .ok (.goto 4, 3) := by decide +kernel
theorem dX9_isEnd_52 : decode cX9_isEnd 52 = .ok (.iconst 0, 1) := by decide +kernel
theorem dX9_isEnd_53 : decode cX9_isEnd 53 = .ok (.ireturn, 1) := by decide +kernel
set_option maxRecDepth 20000 in
theorem ggX9_takesNewClause_X9_many : GoodIn wsX9_takesNewClause wsX9_many := goodIn_r _ [5, 6, 81, 82, 83, 84, 85, 86, 87, 88, 89, 90, 91, 92, 93, 94, 95, 96, 97, 98, 99, 100, 101, 102, 103, 104, 105, 106, 107] rfl (by decide +kernel)
set_option maxRecDepth 20000 in
theorem gX9_takesNewClause_X9_many : GoodIn wsX9_takesNewClause (wsV RX9 56 RX9 yX9_many wsX9_many) := goodIn_app (goodIn_r _ [1, 2, 3, 4] rfl (by decide +kernel)) ggX9_takesNewClause_X9_many
set_option maxRecDepth 20000 in
theorem ggX9_takesNewClause_X9_fails : GoodIn wsX9_takesNewClause wsX9_fails := goodIn_r _ [10, 11, 12, 13, 14, 15, 4, 16, 81, 82, 83, 84, 85, 86, 87, 88, 89, 90, 91, 92, 93, 94, 95, 96, 97, 98, 99, 100, 101, 102, 103, 104, 105, 106, 107] rfl (by decide +kernel)
set_option maxRecDepth 20000 in
theorem gX9_takesNewClause_X9_fails : GoodIn wsX9_takesNewClause (wsV RX9 217 RX9 yX9_fails wsX9_fails) := goodIn_app (goodIn_r _ [7, 8, 9, 4] rfl (by decide +kernel)) ggX9_takesNewClause_X9_fails
set_option maxRecDepth 20000 in
theorem ggX9_takesNewClause_X9_takesLiterals : GoodIn wsX9_takesNewClause wsX9_takesLiterals := goodIn_r _ [20, 21, 22, 23, 24, 25, 26, 27, 4, 28, 1, 2, 3, 5, 6, 29, 30, 31, 32, 33, 34, 35, 36, 37, 38, 39, 40, 41, 42, 43, 44, 45, 46, 47, 13, 14, 15, 16, 11, 48, 49, 50, 51, 52, 53, 54, 55, 56, 7, 8, 9, 10, 12, 57, 58, 59, 60, 61, 62, 63, 64, 81, 82, 83, 84, 85, 86, 87, 88, 89, 90, 91, 92, 93, 94, 95, 96, 97, 98, 99, 100, 101, 102, 103, 104, 105, 106, 107] rfl (by decide +kernel)
set_option maxRecDepth 20000 in
theorem gX9_takesNewClause_X9_takesLiterals : GoodIn wsX9_takesNewClause (wsV RX9 232 RX9 yX9_takesLiterals wsX9_takesLiterals) := goodIn_app (goodIn_r _ [17, 18, 19, 4] rfl (by decide +kernel)) ggX9_takesNewClause_X9_takesLiterals
set_option maxRecDepth 20000 in
theorem ggX9_takesNewClause_X9_hasFailed : GoodIn wsX9_takesNewClause wsX9_hasFailed := goodIn_r _ [16, 11, 81, 82, 83, 84, 85, 86, 87, 88, 89, 90, 91, 92, 93, 94, 95, 96, 97, 98, 99, 100, 101, 102, 103, 104, 105, 106, 107] rfl (by decide +kernel)
set_option maxRecDepth 20000 in
theorem gX9_takesNewClause_X9_hasFailed : GoodIn wsX9_takesNewClause (wsV RX9 185 RX9 yX9_hasFailed wsX9_hasFailed) := goodIn_app (goodIn_r _ [13, 14, 15, 4] rfl (by decide +kernel)) ggX9_takesNewClause_X9_hasFailed
set_option maxRecDepth 20000 in
theorem ggX9_takesNewClause_X9_same : GoodIn wsX9_takesNewClause wsX9_same := goodIn_r _ [68, 1, 2, 3, 4, 5, 6, 69, 70, 71, 72, 57, 58, 59, 60, 61, 62, 63, 64, 81, 82, 83, 84, 85, 86, 87, 88, 89, 90, 91, 92, 93, 94, 95, 96, 97, 98, 99, 100, 101, 102, 103, 104, 105, 106, 107] rfl (by decide +kernel)
set_option maxRecDepth 20000 in
theorem gX9_takesNewClause_X9_same : GoodIn wsX9_takesNewClause (wsV RX9 235 RX9 yX9_same wsX9_same) := goodIn_app (goodIn_r _ [65, 66, 67, 4] rfl (by decide +kernel)) ggX9_takesNewClause_X9_same
set_option maxRecDepth 20000 in
theorem ggX9_takesNewClause_X9_isEnd : GoodIn wsX9_takesNewClause wsX9_isEnd := goodIn_r _ [76, 23, 13, 14, 15, 4, 16, 11, 33, 34, 35, 36, 37, 38, 39, 40, 41, 42, 43, 44, 45, 46, 47, 7, 8, 9, 10, 12, 81, 82, 83, 84, 85, 86, 87, 88, 89, 90, 91, 92, 93, 94, 95, 96, 97, 98, 99, 100, 101, 102, 103, 104, 105, 106, 107] rfl (by decide +kernel)
set_option maxRecDepth 20000 in
theorem gX9_takesNewClause_X9_isEnd : GoodIn wsX9_takesNewClause (wsV RX9 238 RX9 yX9_isEnd wsX9_isEnd) := goodIn_app (goodIn_r _ [73, 74, 75, 4] rfl (by decide +kernel)) ggX9_takesNewClause_X9_isEnd
set_option maxRecDepth 20000 in
theorem ggX9_takesNewClause_X9_adds : GoodIn wsX9_takesNewClause wsX9_adds := goodIn_r _ [80, 6, 1, 2, 3, 4, 5, 81, 82, 83, 84, 85, 86, 87, 88, 89, 90, 91, 92, 93, 94, 95, 96, 97, 98, 99, 100, 101, 102, 103, 104, 105, 106, 107] rfl (by decide +kernel)
set_option maxRecDepth 20000 in
theorem gX9_takesNewClause_X9_adds : GoodIn wsX9_takesNewClause (wsV RX9 82 RX9 yX9_adds wsX9_adds) := goodIn_app (goodIn_r _ [77, 78, 79, 4] rfl (by decide +kernel)) ggX9_takesNewClause_X9_adds
theorem dX9_takesNewClause_0 : decode cX9_takesNewClause 0 = .ok (.aload_n 0, 1) := by decide +kernel
theorem dX9_takesNewClause_1 : decode cX9_takesNewClause 1 = .ok (.invokevirtual 56, 3) := by decide +kernel
theorem dX9_takesNewClause_4 : decode cX9_takesNewClause 4 = .ok (.bipush 60, 2) := by decide +kernel
theorem dX9_takesNewClause_6 : decode cX9_takesNewClause 6 = .ok (.if_icmp .ne 9, 3) := by decide +kernel
theorem dX9_takesNewClause_9 : decode cX9_takesNewClause 9 = .ok (.aload_n 0, 1) := by decide +kernel
theorem dX9_takesNewClause_10 : decode cX9_takesNewClause 10 = .ok (.iload_n 1, 1) := by decide +kernel
theorem dX9_takesNewClause_11 : decode cX9_takesNewClause 11 = .ok (.iconst 4, 1) := by decide +kernel
theorem dX9_takesNewClause_12 : decode cX9_takesNewClause 12 = .ok (.invokevirtual 217, 3) := by decide +kernel
theorem dX9_takesNewClause_15 : decode cX9_takesNewClause 15 = .ok (.aload_n 0, 1) := by decide +kernel
theorem dX9_takesNewClause_16 : decode cX9_takesNewClause 16 = .ok (.invokevirtual 232, 3) := by decide +kernel
theorem dX9_takesNewClause_19 : decode cX9_takesNewClause 19 = .ok (.aload_n 0, 1) := by decide +kernel
theorem dX9_takesNewClause_20 : decode cX9_takesNewClause 20 = .ok (.invokevirtual 185, 3) := by decide +kernel
theorem dX9_takesNewClause_23 : decode cX9_takesNewClause 23 = .ok (.ifCond .ne 17, 3) := by decide +kernel
theorem dX9_takesNewClause_26 : decode cX9_takesNewClause 26 = .ok (.aload_n 0, 1) := by decide +kernel
theorem dX9_takesNewClause_27 : decode cX9_takesNewClause 27 = .ok (.invokevirtual 235, 3) := by decide +kernel
theorem dX9_takesNewClause_30 : decode cX9_takesNewClause 30 = .ok (.iconst (-1), 1) := by decide +kernel
theorem dX9_takesNewClause_31 : decode cX9_takesNewClause 31 = .ok (.if_icmp .eq 9, 3) := by decide +kernel
theorem dX9_takesNewClause_34 : decode cX9_takesNewClause 34 = .ok (.aload_n 0, 1) := by decide +kernel
theorem dX9_takesNewClause_35 : decode cX9_takesNewClause 35 = .ok (.iload_n 1, 1) := by decide +kernel
theorem dX9_takesNewClause_36 : decode cX9_takesNewClause 36 = .ok (.iconst 4, 1) := by decide +kernel
theorem dX9_takesNewClause_37 : decode cX9_takesNewClause 37 = .ok (.invokevirtual 217, 3) := by decide +kernel
theorem dX9_takesNewClause_40 : decode cX9_takesNewClause 40 = .ok (.aload_n 0, 1) := by decide +kernel
theorem dX9_takesNewClause_41 : decode cX9_takesNewClause 41 = .ok (.invokevirtual 238, 3) := by decide +kernel
theorem dX9_takesNewClause_44 : decode cX9_takesNewClause 44 = .ok (.ifCond .eq 11, 3) := by decide +kernel
theorem dX9_takesNewClause_47 : decode cX9_takesNewClause 47 = .ok (.aload_n 0, 1) := by decide +kernel
theorem dX9_takesNewClause_48 : decode cX9_takesNewClause 48 = .ok (.iconst (-1), 1) := by decide +kernel
theorem dX9_takesNewClause_49 : decode cX9_takesNewClause 49 = .ok (.iconst (-1), 1) := by decide +kernel
theorem dX9_takesNewClause_50 : decode cX9_takesNewClause 50 = .ok (.iconst (-1), 1) := by decide +kernel
theorem dX9_takesNewClause_51 : decode cX9_takesNewClause 51 = .ok (.invokevirtual 82, 3) := by decide +kernel
theorem dX9_takesNewClause_54 : decode cX9_takesNewClause 54 = .ok (.istore_n 2, 1) := by decide +kernel
theorem dX9_takesNewClause_55 : decode cX9_takesNewClause 55 = .ok (.return_, 1) := by decide +kernel
set_option maxRecDepth 20000 in
theorem ggX9_takesResolve_X9_takesClause : GoodIn wsX9_takesResolve wsX9_takesClause := goodIn_r _ [6, 7, 8, 9, 5, 10, 11, 12, 13, 14, 15, 16, 1, 17, 18, 19, 20, 21, 22, 23, 24, 25, 26, 27, 28, 29, 30, 31, 32, 33, 34, 35, 36, 37, 38, 39, 40, 41, 42, 43, 44, 45, 46, 47, 92, 93, 94, 95, 96, 97, 98, 99, 100, 101, 102, 103, 104, 105, 106, 107, 108, 109, 110, 111, 112, 113, 114, 115, 116, 117, 118] rfl (by decide +kernel)
set_option maxRecDepth 20000 in
theorem gX9_takesResolve_X9_takesClause : GoodIn wsX9_takesResolve (wsV RX9 241 RX9 yX9_takesClause wsX9_takesClause) := goodIn_app (goodIn_r _ [2, 3, 4, 5] rfl (by decide +kernel)) ggX9_takesResolve_X9_takesClause
set_option maxRecDepth 20000 in
theorem ggX9_takesResolve_X9_hasFailed : GoodIn wsX9_takesResolve wsX9_hasFailed := goodIn_r _ [26, 27, 92, 93, 94, 95, 96, 97, 98, 99, 100, 101, 102, 103, 104, 105, 106, 107, 108, 109, 110, 111, 112, 113, 114, 115, 116, 117, 118] rfl (by decide +kernel)
set_option maxRecDepth 20000 in
theorem gX9_takesResolve_X9_hasFailed : GoodIn wsX9_takesResolve (wsV RX9 185 RX9 yX9_hasFailed wsX9_hasFailed) := goodIn_app (goodIn_r _ [23, 24, 25, 5] rfl (by decide +kernel)) ggX9_takesResolve_X9_hasFailed
set_option maxRecDepth 20000 in
theorem ggX9_takesResolve_X9_many : GoodIn wsX9_takesResolve wsX9_many := goodIn_r _ [10, 11, 92, 93, 94, 95, 96, 97, 98, 99, 100, 101, 102, 103, 104, 105, 106, 107, 108, 109, 110, 111, 112, 113, 114, 115, 116, 117, 118] rfl (by decide +kernel)
set_option maxRecDepth 20000 in
theorem gX9_takesResolve_X9_many : GoodIn wsX9_takesResolve (wsV RX9 56 RX9 yX9_many wsX9_many) := goodIn_app (goodIn_r _ [7, 8, 9, 5] rfl (by decide +kernel)) ggX9_takesResolve_X9_many
set_option maxRecDepth 20000 in
theorem ggX9_takesResolve_X9_clashing : GoodIn wsX9_takesResolve wsX9_clashing := goodIn_r _ [51, 52, 53, 54, 5, 55, 11, 56, 57, 58, 59, 92, 93, 94, 95, 96, 97, 98, 99, 100, 101, 102, 103, 104, 105, 106, 107, 108, 109, 110, 111, 112, 113, 114, 115, 116, 117, 118] rfl (by decide +kernel)
set_option maxRecDepth 20000 in
theorem gX9_takesResolve_X9_clashing : GoodIn wsX9_takesResolve (wsV RX9 99 RX9 yX9_clashing wsX9_clashing) := goodIn_app (goodIn_r _ [48, 49, 50, 5] rfl (by decide +kernel)) ggX9_takesResolve_X9_clashing
set_option maxRecDepth 20000 in
theorem ggX9_takesResolve_X9_fails : GoodIn wsX9_takesResolve wsX9_fails := goodIn_r _ [46, 27, 47, 23, 24, 25, 5, 26, 92, 93, 94, 95, 96, 97, 98, 99, 100, 101, 102, 103, 104, 105, 106, 107, 108, 109, 110, 111, 112, 113, 114, 115, 116, 117, 118] rfl (by decide +kernel)
set_option maxRecDepth 20000 in
theorem gX9_takesResolve_X9_fails : GoodIn wsX9_takesResolve (wsV RX9 217 RX9 yX9_fails wsX9_fails) := goodIn_app (goodIn_r _ [43, 44, 45, 5] rfl (by decide +kernel)) ggX9_takesResolve_X9_fails
set_option maxRecDepth 20000 in
theorem ggX9_takesResolve_X9_resolves : GoodIn wsX9_takesResolve wsX9_resolves := goodIn_r _ [63, 64, 65, 66, 5, 67, 56, 57, 58, 59, 11, 52, 53, 54, 55, 7, 8, 9, 10, 68, 69, 70, 71, 92, 93, 94, 95, 96, 97, 98, 99, 100, 101, 102, 103, 104, 105, 106, 107, 108, 109, 110, 111, 112, 113, 114, 115, 116, 117, 118] rfl (by decide +kernel)
set_option maxRecDepth 20000 in
theorem gX9_takesResolve_X9_resolves : GoodIn wsX9_takesResolve (wsV RX9 78 RX9 yX9_resolves wsX9_resolves) := goodIn_app (goodIn_r _ [60, 61, 62, 5] rfl (by decide +kernel)) ggX9_takesResolve_X9_resolves
set_option maxRecDepth 20000 in
theorem ggX9_takesResolve_X9_same : GoodIn wsX9_takesResolve wsX9_same := goodIn_r _ [75, 7, 8, 9, 5, 10, 11, 76, 77, 78, 79, 52, 53, 54, 55, 56, 57, 58, 59, 92, 93, 94, 95, 96, 97, 98, 99, 100, 101, 102, 103, 104, 105, 106, 107, 108, 109, 110, 111, 112, 113, 114, 115, 116, 117, 118] rfl (by decide +kernel)
set_option maxRecDepth 20000 in
theorem gX9_takesResolve_X9_same : GoodIn wsX9_takesResolve (wsV RX9 235 RX9 yX9_same wsX9_same) := goodIn_app (goodIn_r _ [72, 73, 74, 5] rfl (by decide +kernel)) ggX9_takesResolve_X9_same
set_option maxRecDepth 20000 in
theorem ggX9_takesResolve_X9_isEnd : GoodIn wsX9_takesResolve wsX9_isEnd := goodIn_r _ [83, 16, 23, 24, 25, 5, 26, 27, 28, 29, 30, 31, 32, 33, 34, 35, 36, 37, 38, 39, 40, 41, 42, 43, 44, 45, 46, 47, 92, 93, 94, 95, 96, 97, 98, 99, 100, 101, 102, 103, 104, 105, 106, 107, 108, 109, 110, 111, 112, 113, 114, 115, 116, 117, 118] rfl (by decide +kernel)
set_option maxRecDepth 20000 in
theorem gX9_takesResolve_X9_isEnd : GoodIn wsX9_takesResolve (wsV RX9 238 RX9 yX9_isEnd wsX9_isEnd) := goodIn_app (goodIn_r _ [80, 81, 82, 5] rfl (by decide +kernel)) ggX9_takesResolve_X9_isEnd
set_option maxRecDepth 20000 in
theorem ggX9_takesResolve_X9_addsResolvent : GoodIn wsX9_takesResolve wsX9_addsResolvent := goodIn_r _ [87, 64, 65, 66, 5, 67, 56, 57, 58, 59, 11, 60, 61, 62, 63, 52, 53, 54, 55, 7, 8, 9, 10, 68, 69, 70, 71, 88, 89, 90, 91, 92, 93, 94, 95, 96, 97, 98, 99, 100, 101, 102, 103, 104, 105, 106, 107, 108, 109, 110, 111, 112, 113, 114, 115, 116, 117, 118] rfl (by decide +kernel)
set_option maxRecDepth 20000 in
theorem gX9_takesResolve_X9_addsResolvent : GoodIn wsX9_takesResolve (wsV RX9 109 RX9 yX9_addsResolvent wsX9_addsResolvent) := goodIn_app (goodIn_r _ [84, 85, 86, 5] rfl (by decide +kernel)) ggX9_takesResolve_X9_addsResolvent
theorem dX9_takesResolve_0 : decode cX9_takesResolve 0 = .ok (.aload_n 0, 1) := by decide +kernel
theorem dX9_takesResolve_1 : decode cX9_takesResolve 1 = .ok (.invokevirtual 241, 3) := by decide +kernel
theorem dX9_takesResolve_4 : decode cX9_takesResolve 4 = .ok (.istore_n 1, 1) := by decide +kernel
theorem dX9_takesResolve_5 : decode cX9_takesResolve 5 = .ok (.aload_n 0, 1) := by decide +kernel
theorem dX9_takesResolve_6 : decode cX9_takesResolve 6 = .ok (.invokevirtual 241, 3) := by decide +kernel
theorem dX9_takesResolve_9 : decode cX9_takesResolve 9 = .ok (.istore_n 2, 1) := by decide +kernel
theorem dX9_takesResolve_10 : decode cX9_takesResolve 10 = .ok (.aload_n 0, 1) := by decide +kernel
theorem dX9_takesResolve_11 : decode cX9_takesResolve 11 = .ok (.invokevirtual 185, 3) := by decide +kernel
theorem dX9_takesResolve_14 : decode cX9_takesResolve 14 = .ok (.ifCond .ne 31, 3) := by decide +kernel
theorem dX9_takesResolve_17 : decode cX9_takesResolve 17 = .ok (.aload_n 0, 1) := by decide +kernel
theorem dX9_takesResolve_18 : decode cX9_takesResolve 18 = .ok (.invokevirtual 56, 3) := by decide +kernel
theorem dX9_takesResolve_21 : decode cX9_takesResolve 21 = .ok (.bipush 60, 2) := by decide +kernel
theorem dX9_takesResolve_23 : decode cX9_takesResolve 23 = .ok (.if_icmp .eq 13, 3) := by decide +kernel
theorem dX9_takesResolve_26 : decode cX9_takesResolve 26 = .ok (.aload_n 0, 1) := by decide +kernel
theorem dX9_takesResolve_27 : decode cX9_takesResolve 27 = .ok (.iload_n 1, 1) := by decide +kernel
theorem dX9_takesResolve_28 : decode cX9_takesResolve 28 = .ok (.iload_n 2, 1) := by decide +kernel
theorem dX9_takesResolve_29 : decode cX9_takesResolve 29 = .ok (.invokevirtual 99, 3) := by decide +kernel
theorem dX9_takesResolve_32 : decode cX9_takesResolve 32 = .ok (.iconst 1, 1) := by decide +kernel
theorem dX9_takesResolve_33 : decode cX9_takesResolve 33 = .ok (.if_icmp .eq 12, 3) := by decide +kernel
theorem dX9_takesResolve_36 : decode cX9_takesResolve 36 = .ok (.aload_n 0, 1) := by decide +kernel
theorem dX9_takesResolve_37 : decode cX9_takesResolve 37 = .ok (.aload_n 0, 1) := by decide +kernel
theorem dX9_takesResolve_38 : decode cX9_takesResolve 38 = .ok (.getfield 194, 3) := by decide +kernel
theorem dX9_takesResolve_41 : decode cX9_takesResolve 41 = .ok (.iconst 4, 1) := by decide +kernel
theorem dX9_takesResolve_42 : decode cX9_takesResolve 42 = .ok (.invokevirtual 217, 3) := by decide +kernel
theorem dX9_takesResolve_45 : decode cX9_takesResolve 45 = .ok (.aload_n 0, 1) := by decide +kernel
theorem dX9_takesResolve_46 : decode cX9_takesResolve 46 = .ok (.invokevirtual 185, 3) := by decide +kernel
theorem dX9_takesResolve_49 : decode cX9_takesResolve 49 = .ok (.ifCond .ne 26, 3) := by decide +kernel
theorem dX9_takesResolve_52 : decode cX9_takesResolve 52 = .ok (.aload_n 0, 1) := by decide +kernel
theorem dX9_takesResolve_53 : decode cX9_takesResolve 53 = .ok (.iload_n 1, 1) := by decide +kernel
theorem dX9_takesResolve_54 : decode cX9_takesResolve 54 = .ok (.iload_n 2, 1) := by decide +kernel
theorem dX9_takesResolve_55 : decode cX9_takesResolve 55 = .ok (.invokevirtual 78, 3) := by decide +kernel
theorem dX9_takesResolve_58 : decode cX9_takesResolve 58 = .ok (.aload_n 0, 1) := by decide +kernel
theorem dX9_takesResolve_59 : decode cX9_takesResolve 59 = .ok (.invokevirtual 235, 3) := by decide +kernel
theorem dX9_takesResolve_62 : decode cX9_takesResolve 62 = .ok (.iconst (-1), 1) := by decide +kernel
theorem dX9_takesResolve_63 : decode cX9_takesResolve 63 = .ok (.if_icmp .eq 12, 3) := by decide +kernel
theorem dX9_takesResolve_66 : decode cX9_takesResolve 66 = .ok (.aload_n 0, 1) := by decide +kernel
theorem dX9_takesResolve_67 : decode cX9_takesResolve 67 = .ok (.aload_n 0, 1) := by decide +kernel
theorem dX9_takesResolve_68 : decode cX9_takesResolve 68 = .ok (.getfield 194, 3) := by decide +kernel
theorem dX9_takesResolve_71 : decode cX9_takesResolve 71 = .ok (.iconst 4, 1) := by decide +kernel
theorem dX9_takesResolve_72 : decode cX9_takesResolve 72 = .ok (.invokevirtual 217, 3) := by decide +kernel
theorem dX9_takesResolve_75 : decode cX9_takesResolve 75 = .ok (.aload_n 0, 1) := by decide +kernel
theorem dX9_takesResolve_76 : decode cX9_takesResolve 76 = .ok (.invokevirtual 238, 3) := by decide +kernel
theorem dX9_takesResolve_79 : decode cX9_takesResolve 79 = .ok (.ifCond .eq 10, 3) := by decide +kernel
theorem dX9_takesResolve_82 : decode cX9_takesResolve 82 = .ok (.aload_n 0, 1) := by decide +kernel
theorem dX9_takesResolve_83 : decode cX9_takesResolve 83 = .ok (.iload_n 1, 1) := by decide +kernel
theorem dX9_takesResolve_84 : decode cX9_takesResolve 84 = .ok (.iload_n 2, 1) := by decide +kernel
theorem dX9_takesResolve_85 : decode cX9_takesResolve 85 = .ok (.invokevirtual 109, 3) := by decide +kernel
theorem dX9_takesResolve_88 : decode cX9_takesResolve 88 = .ok (.istore_n 3, 1) := by decide +kernel
theorem dX9_takesResolve_89 : decode cX9_takesResolve 89 = .ok (.return_, 1) := by decide +kernel
set_option maxRecDepth 20000 in
theorem ggX9_takesDrop_X9_takesClause : GoodIn wsX9_takesDrop wsX9_takesClause := goodIn_r _ [6, 7, 8, 9, 5, 10, 11, 12, 13, 14, 15, 16, 1, 17, 18, 19, 20, 21, 22, 23, 24, 25, 26, 27, 28, 29, 30, 31, 32, 33, 34, 35, 36, 37, 38, 39, 40, 41, 42, 43, 44, 45, 46, 47, 68, 69, 70, 71, 72, 73, 74, 75, 76, 77, 78, 79, 80, 81, 82, 83, 84, 85, 86, 87, 88, 89, 90, 91, 92, 93, 94] rfl (by decide +kernel)
set_option maxRecDepth 20000 in
theorem gX9_takesDrop_X9_takesClause : GoodIn wsX9_takesDrop (wsV RX9 241 RX9 yX9_takesClause wsX9_takesClause) := goodIn_app (goodIn_r _ [2, 3, 4, 5] rfl (by decide +kernel)) ggX9_takesDrop_X9_takesClause
set_option maxRecDepth 20000 in
theorem ggX9_takesDrop_X9_hasFailed : GoodIn wsX9_takesDrop wsX9_hasFailed := goodIn_r _ [26, 27, 68, 69, 70, 71, 72, 73, 74, 75, 76, 77, 78, 79, 80, 81, 82, 83, 84, 85, 86, 87, 88, 89, 90, 91, 92, 93, 94] rfl (by decide +kernel)
set_option maxRecDepth 20000 in
theorem gX9_takesDrop_X9_hasFailed : GoodIn wsX9_takesDrop (wsV RX9 185 RX9 yX9_hasFailed wsX9_hasFailed) := goodIn_app (goodIn_r _ [23, 24, 25, 5] rfl (by decide +kernel)) ggX9_takesDrop_X9_hasFailed
set_option maxRecDepth 20000 in
theorem ggX9_takesDrop_X9_isParent : GoodIn wsX9_takesDrop wsX9_isParent := goodIn_r _ [51, 11, 7, 8, 9, 5, 10, 68, 69, 70, 71, 72, 73, 74, 75, 76, 77, 78, 79, 80, 81, 82, 83, 84, 85, 86, 87, 88, 89, 90, 91, 92, 93, 94] rfl (by decide +kernel)
set_option maxRecDepth 20000 in
theorem gX9_takesDrop_X9_isParent : GoodIn wsX9_takesDrop (wsV RX9 119 RX9 yX9_isParent wsX9_isParent) := goodIn_app (goodIn_r _ [48, 49, 50, 5] rfl (by decide +kernel)) ggX9_takesDrop_X9_isParent
set_option maxRecDepth 20000 in
theorem ggX9_takesDrop_X9_fails : GoodIn wsX9_takesDrop wsX9_fails := goodIn_r _ [46, 27, 47, 23, 24, 25, 5, 26, 68, 69, 70, 71, 72, 73, 74, 75, 76, 77, 78, 79, 80, 81, 82, 83, 84, 85, 86, 87, 88, 89, 90, 91, 92, 93, 94] rfl (by decide +kernel)
set_option maxRecDepth 20000 in
theorem gX9_takesDrop_X9_fails : GoodIn wsX9_takesDrop (wsV RX9 217 RX9 yX9_fails wsX9_fails) := goodIn_app (goodIn_r _ [43, 44, 45, 5] rfl (by decide +kernel)) ggX9_takesDrop_X9_fails
set_option maxRecDepth 20000 in
theorem ggX9_takesDrop_X9_isEnd : GoodIn wsX9_takesDrop wsX9_isEnd := goodIn_r _ [55, 16, 23, 24, 25, 5, 26, 27, 28, 29, 30, 31, 32, 33, 34, 35, 36, 37, 38, 39, 40, 41, 42, 43, 44, 45, 46, 47, 68, 69, 70, 71, 72, 73, 74, 75, 76, 77, 78, 79, 80, 81, 82, 83, 84, 85, 86, 87, 88, 89, 90, 91, 92, 93, 94] rfl (by decide +kernel)
set_option maxRecDepth 20000 in
theorem gX9_takesDrop_X9_isEnd : GoodIn wsX9_takesDrop (wsV RX9 238 RX9 yX9_isEnd wsX9_isEnd) := goodIn_app (goodIn_r _ [52, 53, 54, 5] rfl (by decide +kernel)) ggX9_takesDrop_X9_isEnd
set_option maxRecDepth 20000 in
theorem ggX9_takesDrop_X9_drops : GoodIn wsX9_takesDrop wsX9_drops := goodIn_r _ [59, 11, 7, 8, 9, 5, 10, 60, 61, 62, 63, 64, 65, 66, 67, 68, 69, 70, 71, 72, 73, 74, 75, 76, 77, 78, 79, 80, 81, 82, 83, 84, 85, 86, 87, 88, 89, 90, 91, 92, 93, 94] rfl (by decide +kernel)
set_option maxRecDepth 20000 in
theorem gX9_takesDrop_X9_drops : GoodIn wsX9_takesDrop (wsV RX9 122 RX9 yX9_drops wsX9_drops) := goodIn_app (goodIn_r _ [56, 57, 58, 5] rfl (by decide +kernel)) ggX9_takesDrop_X9_drops
theorem dX9_takesDrop_0 : decode cX9_takesDrop 0 = .ok (.aload_n 0, 1) := by decide +kernel
theorem dX9_takesDrop_1 : decode cX9_takesDrop 1 = .ok (.invokevirtual 241, 3) := by decide +kernel
theorem dX9_takesDrop_4 : decode cX9_takesDrop 4 = .ok (.istore_n 1, 1) := by decide +kernel
theorem dX9_takesDrop_5 : decode cX9_takesDrop 5 = .ok (.aload_n 0, 1) := by decide +kernel
theorem dX9_takesDrop_6 : decode cX9_takesDrop 6 = .ok (.invokevirtual 185, 3) := by decide +kernel
theorem dX9_takesDrop_9 : decode cX9_takesDrop 9 = .ok (.ifCond .ne 20, 3) := by decide +kernel
theorem dX9_takesDrop_12 : decode cX9_takesDrop 12 = .ok (.aload_n 0, 1) := by decide +kernel
theorem dX9_takesDrop_13 : decode cX9_takesDrop 13 = .ok (.iload_n 1, 1) := by decide +kernel
theorem dX9_takesDrop_14 : decode cX9_takesDrop 14 = .ok (.invokevirtual 119, 3) := by decide +kernel
theorem dX9_takesDrop_17 : decode cX9_takesDrop 17 = .ok (.ifCond .eq 12, 3) := by decide +kernel
theorem dX9_takesDrop_20 : decode cX9_takesDrop 20 = .ok (.aload_n 0, 1) := by decide +kernel
theorem dX9_takesDrop_21 : decode cX9_takesDrop 21 = .ok (.aload_n 0, 1) := by decide +kernel
theorem dX9_takesDrop_22 : decode cX9_takesDrop 22 = .ok (.getfield 194, 3) := by decide +kernel
theorem dX9_takesDrop_25 : decode cX9_takesDrop 25 = .ok (.iconst 4, 1) := by decide +kernel
theorem dX9_takesDrop_26 : decode cX9_takesDrop 26 = .ok (.invokevirtual 217, 3) := by decide +kernel
theorem dX9_takesDrop_29 : decode cX9_takesDrop 29 = .ok (.aload_n 0, 1) := by decide +kernel
theorem dX9_takesDrop_30 : decode cX9_takesDrop 30 = .ok (.invokevirtual 238, 3) := by decide +kernel
theorem dX9_takesDrop_33 : decode cX9_takesDrop 33 = .ok (.ifCond .eq 8, 3) := by decide +kernel
theorem dX9_takesDrop_36 : decode cX9_takesDrop 36 = .ok (.aload_n 0, 1) := by decide +kernel
theorem dX9_takesDrop_37 : decode cX9_takesDrop 37 = .ok (.iload_n 1, 1) := by decide +kernel
theorem dX9_takesDrop_38 : decode cX9_takesDrop 38 = .ok (.invokevirtual 122, 3) := by decide +kernel
theorem dX9_takesDrop_41 : decode cX9_takesDrop 41 = .ok (.return_, 1) := by decide +kernel
set_option maxRecDepth 20000 in
theorem ggX9_isLiteralFixed_X9_skips : GoodIn wsX9_isLiteralFixed wsX9_skips := goodIn_r _ [6, 7, 8, 1, 9, 10, 11, 5, 12, 13, 14, 15, 16, 17, 76, 77, 78, 79, 80, 81, 82, 83, 84, 85, 86, 87, 88, 89, 90, 91, 92, 93, 94, 95, 96, 97, 98, 99, 100, 101, 102] rfl (by decide +kernel)
set_option maxRecDepth 20000 in
theorem gX9_isLiteralFixed_X9_skips : GoodIn wsX9_isLiteralFixed (wsV RX9 191 RX9 yX9_skips wsX9_skips) := goodIn_app (goodIn_r _ [2, 3, 4, 5] rfl (by decide +kernel)) ggX9_isLiteralFixed_X9_skips
set_option maxRecDepth 20000 in
theorem ggX9_isLiteralFixed_X9_ahead : GoodIn wsX9_isLiteralFixed wsX9_ahead := goodIn_r _ [12, 1, 13, 14, 76, 77, 78, 79, 80, 81, 82, 83, 84, 85, 86, 87, 88, 89, 90, 91, 92, 93, 94, 95, 96, 97, 98, 99, 100, 101, 102] rfl (by decide +kernel)
set_option maxRecDepth 20000 in
theorem gX9_isLiteralFixed_X9_ahead : GoodIn wsX9_isLiteralFixed (wsV RX9 171 RX9 yX9_ahead wsX9_ahead) := goodIn_app (goodIn_r _ [9, 10, 11, 5] rfl (by decide +kernel)) ggX9_isLiteralFixed_X9_ahead
set_option maxRecDepth 20000 in
theorem ggX9_isLiteralFixed_X9_takesVariable : GoodIn wsX9_isLiteralFixed wsX9_takesVariable := goodIn_r _ [21, 22, 23, 14, 24, 25, 26, 5, 27, 28, 29, 30, 31, 32, 1, 33, 34, 2, 3, 4, 6, 7, 8, 9, 10, 11, 12, 13, 15, 16, 17, 35, 36, 37, 38, 39, 40, 41, 42, 43, 44, 76, 77, 78, 79, 80, 81, 82, 83, 84, 85, 86, 87, 88, 89, 90, 91, 92, 93, 94, 95, 96, 97, 98, 99, 100, 101, 102] rfl (by decide +kernel)
set_option maxRecDepth 20000 in
theorem gX9_isLiteralFixed_X9_takesVariable : GoodIn wsX9_isLiteralFixed (wsV RX9 226 RX9 yX9_takesVariable wsX9_takesVariable) := goodIn_app (goodIn_r _ [18, 19, 20, 5] rfl (by decide +kernel)) ggX9_isLiteralFixed_X9_takesVariable
set_option maxRecDepth 20000 in
theorem ggX9_isLiteralFixed_X9_hasFailed : GoodIn wsX9_isLiteralFixed wsX9_hasFailed := goodIn_r _ [27, 28, 76, 77, 78, 79, 80, 81, 82, 83, 84, 85, 86, 87, 88, 89, 90, 91, 92, 93, 94, 95, 96, 97, 98, 99, 100, 101, 102] rfl (by decide +kernel)
set_option maxRecDepth 20000 in
theorem gX9_isLiteralFixed_X9_hasFailed : GoodIn wsX9_isLiteralFixed (wsV RX9 185 RX9 yX9_hasFailed wsX9_hasFailed) := goodIn_app (goodIn_r _ [24, 25, 26, 5] rfl (by decide +kernel)) ggX9_isLiteralFixed_X9_hasFailed
set_option maxRecDepth 20000 in
theorem ggX9_isLiteralFixed_X9_propagates : GoodIn wsX9_isLiteralFixed wsX9_propagates := goodIn_r _ [48, 49, 50, 51, 52, 53, 54, 5, 55, 44, 56, 57, 58, 59, 40, 41, 42, 43, 60, 61, 62, 63, 64, 65, 66, 67, 68, 69, 70, 71, 72, 73, 74, 75, 76, 77, 78, 79, 80, 81, 82, 83, 84, 85, 86, 87, 88, 89, 90, 91, 92, 93, 94, 95, 96, 97, 98, 99, 100, 101, 102] rfl (by decide +kernel)
set_option maxRecDepth 20000 in
theorem gX9_isLiteralFixed_X9_propagates : GoodIn wsX9_isLiteralFixed (wsV RX9 244 RX9 yX9_propagates wsX9_propagates) := goodIn_app (goodIn_r _ [45, 46, 47, 5] rfl (by decide +kernel)) ggX9_isLiteralFixed_X9_propagates
set_option maxRecDepth 20000 in
theorem ggX9_isLiteralFixed_X9_isFixed : GoodIn wsX9_isLiteralFixed wsX9_isFixed := goodIn_r _ [67, 49, 50, 76, 77, 78, 79, 80, 81, 82, 83, 84, 85, 86, 87, 88, 89, 90, 91, 92, 93, 94, 95, 96, 97, 98, 99, 100, 101, 102] rfl (by decide +kernel)
set_option maxRecDepth 20000 in
theorem gX9_isLiteralFixed_X9_isFixed : GoodIn wsX9_isLiteralFixed (wsV RX9 156 RX9 yX9_isFixed wsX9_isFixed) := goodIn_app (goodIn_r _ [64, 65, 66, 5] rfl (by decide +kernel)) ggX9_isLiteralFixed_X9_isFixed
theorem dX9_isLiteralFixed_0 : decode cX9_isLiteralFixed 0 = .ok (.aload_n 0, 1) := by decide +kernel
