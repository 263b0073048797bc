theorem dX8_nth_0 : decode cX8_nth 0 = .ok (.iload_n 1, 1) := by decide +kernel
theorem dX8_nth_1 : decode cX8_nth 1 = .ok (.i2l, 1) := by decide +kernel
theorem dX8_nth_2 : decode cX8_nth 2 = .ok (.lconst 0, 1) := by decide +kernel
theorem dX8_nth_3 : decode cX8_nth 3 = .ok (.aload_n 0, 1) := by decide +kernel
theorem dX8_nth_4 : decode cX8_nth 4 = .ok (.getfield 22, 3) := by decide +kernel
theorem dX8_nth_7 : decode cX8_nth 7 = .ok (.iconst 0, 1) := by decide +kernel
theorem dX8_nth_8 : decode cX8_nth 8 = .ok (.iaload, 1) := by decide +kernel
theorem dX8_nth_9 : decode cX8_nth 9 = .ok (.iconst 1, 1) := by decide +kernel
theorem dX8_nth_10 : decode cX8_nth 10 = .ok (.isub, 1) := by decide +kernel
theorem dX8_nth_11 : decode cX8_nth 11 = .ok (.i2l, 1) := by decide +kernel
theorem dX8_nth_12 : decode cX8_nth 12 = .ok (.invokestatic 65, 3) := by decide +kernel
theorem dX8_nth_15 : decode cX8_nth 15 = .ok (.ifCond .eq 11, 3) := by decide +kernel
theorem dX8_nth_18 : decode cX8_nth 18 = .ok (.aload_n 0, 1) := by decide +kernel
theorem dX8_nth_19 : decode cX8_nth 19 = .ok (.iload_n 1, 1) := by decide +kernel
theorem dX8_nth_20 : decode cX8_nth 20 = .ok (.invokevirtual 219, 3) := by decide +kernel
theorem dX8_nth_23 : decode cX8_nth 23 = .ok (.goto 4, 3) := by decide +kernel
theorem dX8_nth_26 : decode cX8_nth 26 = .ok (.iconst (-1), 1) := by decide +kernel
theorem dX8_nth_27 : decode cX8_nth 27 = .ok (.ireturn, 1) := by decide +kernel
set_option maxRecDepth 20000 in
theorem ggX8_rank_X8_isWord : GoodIn wsX8_rank wsX8_isWord := goodIn_r _ [5, 6, 7, 8, 4, 9] (by decide +kernel) (by decide +kernel)
set_option maxRecDepth 20000 in
theorem gX8_rank_X8_isWord : GoodIn wsX8_rank (va_wsS RX8 182 yX8_isWord wsX8_isWord) := goodIn_app (goodIn_of _ (by decide +kernel)) ggX8_rank_X8_isWord
set_option maxRecDepth 20000 in
theorem ggX8_rank_X8_word : GoodIn wsX8_rank wsX8_word := goodIn_r _ [12] (by decide +kernel) (by decide +kernel)
set_option maxRecDepth 20000 in
theorem gX8_rank_X8_word : GoodIn wsX8_rank (va_wsS RX8 97 yX8_word wsX8_word) := goodIn_app (goodIn_of _ (by decide +kernel)) ggX8_rank_X8_word
set_option maxRecDepth 20000 in
theorem ggX8_rank_X8_aheadOf : GoodIn wsX8_rank wsX8_aheadOf := goodIn_r _ [15] (by decide +kernel) (by decide +kernel)
set_option maxRecDepth 20000 in
theorem gX8_rank_X8_aheadOf : GoodIn wsX8_rank (va_wsS RX8 100 yX8_aheadOf wsX8_aheadOf) := goodIn_app (goodIn_of _ (by decide +kernel)) ggX8_rank_X8_aheadOf
set_option maxRecDepth 20000 in
theorem ggX8_rank_X8_under : GoodIn wsX8_rank wsX8_under := goodIn_r _ [18, 19, 20, 4, 21, 22, 23, 24, 25, 26, 27, 28, 29, 30] (by decide +kernel) (by decide +kernel)
set_option maxRecDepth 20000 in
theorem gX8_rank_X8_under : GoodIn wsX8_rank (va_wsS RX8 198 yX8_under wsX8_under) := goodIn_app (goodIn_of _ (by decide +kernel)) ggX8_rank_X8_under
set_option maxRecDepth 20000 in
theorem ggX8_rank_X8_answer : GoodIn wsX8_rank wsX8_answer := goodIn_r _ [34, 35, 36, 37, 38, 39, 40, 41, 42, 43, 44, 45, 46, 47, 48, 49, 50, 51, 52, 53, 54, 55, 56, 57] (by decide +kernel) (by decide +kernel)
set_option maxRecDepth 20000 in
theorem gX8_rank_X8_answer : GoodIn wsX8_rank (wsV RX8 213 RX8 yX8_answer wsX8_answer) := goodIn_app (goodIn_of _ (by decide +kernel)) ggX8_rank_X8_answer
theorem dX8_rank_0 : decode cX8_rank 0 = .ok (.iload_n 1, 1) := by decide +kernel
theorem dX8_rank_1 : decode cX8_rank 1 = .ok (.iload_n 2, 1) := by decide +kernel
theorem dX8_rank_2 : decode cX8_rank 2 = .ok (.iconst 1, 1) := by decide +kernel
theorem dX8_rank_3 : decode cX8_rank 3 = .ok (.invokestatic 182, 3) := by decide +kernel
theorem dX8_rank_6 : decode cX8_rank 6 = .ok (.ifCond .ne 5, 3) := by decide +kernel
theorem dX8_rank_9 : decode cX8_rank 9 = .ok (.iconst (-1), 1) := by decide +kernel
theorem dX8_rank_10 : decode cX8_rank 10 = .ok (.ireturn, 1) := by decide +kernel
theorem dX8_rank_11 : decode cX8_rank 11 = .ok (.aload_n 0, 1) := by decide +kernel
theorem dX8_rank_12 : decode cX8_rank 12 = .ok (.aload_n 0, 1) := by decide +kernel
theorem dX8_rank_13 : decode cX8_rank 13 = .ok (.getfield 22, 3) := by decide +kernel
theorem dX8_rank_16 : decode cX8_rank 16 = .ok (.iload_n 1, 1) := by decide +kernel
theorem dX8_rank_17 : decode cX8_rank 17 = .ok (.iload_n 2, 1) := by decide +kernel
theorem dX8_rank_18 : decode cX8_rank 18 = .ok (.invokestatic 97, 3) := by decide +kernel
theorem dX8_rank_21 : decode cX8_rank 21 = .ok (.invokestatic 100, 3) := by decide +kernel
theorem dX8_rank_24 : decode cX8_rank 24 = .ok (.aload_n 0, 1) := by decide +kernel
theorem dX8_rank_25 : decode cX8_rank 25 = .ok (.getfield 22, 3) := by decide +kernel
theorem dX8_rank_28 : decode cX8_rank 28 = .ok (.iload_n 1, 1) := by decide +kernel
theorem dX8_rank_29 : decode cX8_rank 29 = .ok (.iload_n 2, 1) := by decide +kernel
theorem dX8_rank_30 : decode cX8_rank 30 = .ok (.invokestatic 97, 3) := by decide +kernel
theorem dX8_rank_33 : decode cX8_rank 33 = .ok (.invokestatic 198, 3) := by decide +kernel
theorem dX8_rank_36 : decode cX8_rank 36 = .ok (.invokevirtual 213, 3) := by decide +kernel
theorem dX8_rank_39 : decode cX8_rank 39 = .ok (.ireturn, 1) := by decide +kernel
set_option maxRecDepth 20000 in
theorem ggX8_between_X8_isWord : GoodIn wsX8_between wsX8_isWord := goodIn_r _ [5, 6, 7, 8, 4, 9] (by decide +kernel) (by decide +kernel)
set_option maxRecDepth 20000 in
theorem gX8_between_X8_isWord : GoodIn wsX8_between (va_wsS RX8 182 yX8_isWord wsX8_isWord) := goodIn_app (goodIn_of _ (by decide +kernel)) ggX8_between_X8_isWord
set_option maxRecDepth 20000 in
theorem ggX8_between_X8_word : GoodIn wsX8_between wsX8_word := goodIn_r _ [12] (by decide +kernel) (by decide +kernel)
set_option maxRecDepth 20000 in
theorem gX8_between_X8_word : GoodIn wsX8_between (va_wsS RX8 97 yX8_word wsX8_word) := goodIn_app (goodIn_of _ (by decide +kernel)) ggX8_between_X8_word
set_option maxRecDepth 20000 in
theorem ggX8_between_X8_in : GoodIn wsX8_between wsX8_in := goodIn_r _ [9] (by decide +kernel) (by decide +kernel)
set_option maxRecDepth 20000 in
theorem gX8_between_X8_in : GoodIn wsX8_between (va_wsS RX8 65 yX8_in wsX8_in) := goodIn_app (goodIn_of _ (by decide +kernel)) ggX8_between_X8_in
set_option maxRecDepth 20000 in
theorem ggX8_between_X8_answer : GoodIn wsX8_between wsX8_answer := goodIn_r _ [16, 17, 18, 19, 20, 21, 22, 23, 24, 25, 26, 27, 28, 29, 30, 31, 32, 33, 34, 35, 36, 37, 38, 39] (by decide +kernel) (by decide +kernel)
set_option maxRecDepth 20000 in
theorem gX8_between_X8_answer : GoodIn wsX8_between (wsV RX8 213 RX8 yX8_answer wsX8_answer) := goodIn_app (goodIn_of _ (by decide +kernel)) ggX8_between_X8_answer
theorem dX8_between_0 : decode cX8_between 0 = .ok (.iload_n 1, 1) := by decide +kernel
theorem dX8_between_1 : decode cX8_between 1 = .ok (.iload_n 2, 1) := by decide +kernel
theorem dX8_between_2 : decode cX8_between 2 = .ok (.iconst 1, 1) := by decide +kernel
theorem dX8_between_3 : decode cX8_between 3 = .ok (.invokestatic 182, 3) := by decide +kernel
theorem dX8_between_6 : decode cX8_between 6 = .ok (.ifCond .eq 13, 3) := by decide +kernel
theorem dX8_between_9 : decode cX8_between 9 = .ok (.iload_n 3, 1) := by decide +kernel
theorem dX8_between_10 : decode cX8_between 10 = .ok (.iload 4, 2) := by decide +kernel
theorem dX8_between_12 : decode cX8_between 12 = .ok (.iconst 1, 1) := by decide +kernel
theorem dX8_between_13 : decode cX8_between 13 = .ok (.invokestatic 182, 3) := by decide +kernel
theorem dX8_between_16 : decode cX8_between 16 = .ok (.ifCond .ne 5, 3) := by decide +kernel
theorem dX8_between_19 : decode cX8_between 19 = .ok (.iconst (-1), 1) := by decide +kernel
theorem dX8_between_20 : decode cX8_between 20 = .ok (.ireturn, 1) := by decide +kernel
theorem dX8_between_21 : decode cX8_between 21 = .ok (.iconst 0, 1) := by decide +kernel
theorem dX8_between_22 : decode cX8_between 22 = .ok (.istore 5, 2) := by decide +kernel
theorem dX8_between_24 : decode cX8_between 24 = .ok (.iconst 0, 1) := by decide +kernel
theorem dX8_between_25 : decode cX8_between 25 = .ok (.istore 6, 2) := by decide +kernel
theorem dX8_between_27 : decode cX8_between 27 = .ok (.iconst 0, 1) := by decide +kernel
theorem dX8_between_28 : decode cX8_between 28 = .ok (.istore 7, 2) := by decide +kernel
theorem dX8_between_30 : decode cX8_between 30 = .ok (.iload 7, 2) := by decide +kernel
theorem dX8_between_32 : decode cX8_between 32 = .ok (.aload_n 0, 1) := by decide +kernel
theorem dX8_between_33 : decode cX8_between 33 = .ok (.getfield 22, 3) := by decide +kernel
theorem dX8_between_36 : decode cX8_between 36 = .ok (.iconst 0, 1) := by decide +kernel
theorem dX8_between_37 : decode cX8_between 37 = .ok (.iaload, 1) := by decide +kernel
theorem dX8_between_38 : decode cX8_between 38 = .ok (.if_icmp .ge 56, 3) := by decide +kernel
theorem dX8_between_41 : decode cX8_between 41 = .ok (.aload_n 0, 1) := by decide +kernel
theorem dX8_between_42 : decode cX8_between 42 = .ok (.getfield 22, 3) := by decide +kernel
theorem dX8_between_45 : decode cX8_between 45 = .ok (.iconst 1, 1) := by decide +kernel
theorem dX8_between_46 : decode cX8_between 46 = .ok (.iload 7, 2) := by decide +kernel
theorem dX8_between_48 : decode cX8_between 48 = .ok (.iadd, 1) := by decide +kernel
theorem dX8_between_49 : decode cX8_between 49 = .ok (.iaload, 1) := by decide +kernel
theorem dX8_between_50 : decode cX8_between 50 = .ok (.i2l, 1) := by decide +kernel
theorem dX8_between_51 : decode cX8_between 51 = .ok (.iload_n 1, 1) := by decide +kernel
theorem dX8_between_52 : decode cX8_between 52 = .ok (.iload_n 2, 1) := by decide +kernel
theorem dX8_between_53 : decode cX8_between 53 = .ok (.invokestatic 97, 3) := by decide +kernel
theorem dX8_between_56 : decode cX8_between 56 = .ok (.i2l, 1) := by decide +kernel
theorem dX8_between_57 : decode cX8_between 57 = .ok (.iload_n 3, 1) := by decide +kernel
theorem dX8_between_58 : decode cX8_between 58 = .ok (.iload 4, 2) := by decide +kernel
theorem dX8_between_60 : decode cX8_between 60 = .ok (.invokestatic 97, 3) := by decide +kernel
theorem dX8_between_63 : decode cX8_between 63 = .ok (.i2l, 1) := by decide +kernel
theorem dX8_between_64 : decode cX8_between 64 = .ok (.invokestatic 65, 3) := by decide +kernel
theorem dX8_between_67 : decode cX8_between 67 = .ok (.ifCond .eq 21, 3) := by decide +kernel
theorem dX8_between_70 : decode cX8_between 70 = .ok (.iinc 5 1, 3) := by decide +kernel
theorem dX8_between_73 : decode cX8_between 73 = .ok (.iload 6, 2) := by decide +kernel
theorem dX8_between_75 : decode cX8_between 75 = .ok (.aload_n 0, 1) := by decide +kernel
theorem dX8_between_76 : decode cX8_between 76 = .ok (.getfield 22, 3) := by decide +kernel
theorem dX8_between_79 : decode cX8_between 79 = .ok (.bipush 49, 2) := by decide +kernel
theorem dX8_between_81 : decode cX8_between 81 = .ok (.iload 7, 2) := by decide +kernel
theorem dX8_between_83 : decode cX8_between 83 = .ok (.iadd, 1) := by decide +kernel
theorem dX8_between_84 : decode cX8_between 84 = .ok (.iaload, 1) := by decide +kernel
theorem dX8_between_85 : decode cX8_between 85 = .ok (.iadd, 1) := by decide +kernel
theorem dX8_between_86 : decode cX8_between 86 = .ok (.istore 6, 2) := by decide +kernel
theorem dX8_between_88 : decode cX8_between 88 = .ok (.iinc 7 1, 3) := by decide +kernel
theorem dX8_between_91 : decode cX8_between 91 = .ok (.goto (-61), 3) := by decide +kernel
theorem dX8_between_94 : decode cX8_between 94 = .ok (.aload_n 0, 1) := by decide +kernel
theorem dX8_between_95 : decode cX8_between 95 = .ok (.iload 5, 2) := by decide +kernel
theorem dX8_between_97 : decode cX8_between 97 = .ok (.iload 6, 2) := by decide +kernel
theorem dX8_between_99 : decode cX8_between 99 = .ok (.invokevirtual 213, 3) := by decide +kernel
theorem dX8_between_102 : decode cX8_between 102 = .ok (.ireturn, 1) := by decide +kernel
set_option maxRecDepth 20000 in
theorem ggX8_node_X8_isWord : GoodIn wsX8_node wsX8_isWord := goodIn_r _ [6, 7, 8, 9, 5, 10] (by decide +kernel) (by decide +kernel)
set_option maxRecDepth 20000 in
theorem gX8_node_X8_isWord : GoodIn wsX8_node (va_wsS RX8 182 yX8_isWord wsX8_isWord) := goodIn_app (goodIn_of _ (by decide +kernel)) ggX8_node_X8_isWord
set_option maxRecDepth 20000 in
theorem ggX8_node_X8_in : GoodIn wsX8_node wsX8_in := goodIn_r _ [10] (by decide +kernel) (by decide +kernel)
set_option maxRecDepth 20000 in
theorem gX8_node_X8_in : GoodIn wsX8_node (va_wsS RX8 65 yX8_in wsX8_in) := goodIn_app (goodIn_of _ (by decide +kernel)) ggX8_node_X8_in
set_option maxRecDepth 20000 in
theorem ggX8_node_X8_word : GoodIn wsX8_node wsX8_word := goodIn_r _ [13] (by decide +kernel) (by decide +kernel)
set_option maxRecDepth 20000 in
theorem gX8_node_X8_word : GoodIn wsX8_node (va_wsS RX8 97 yX8_word wsX8_word) := goodIn_app (goodIn_of _ (by decide +kernel)) ggX8_node_X8_word
set_option maxRecDepth 20000 in
theorem ggX8_node_X8_findsNodes : GoodIn wsX8_node wsX8_findsNodes := goodIn_r _ [17, 18, 19, 20, 21, 5, 22, 23, 24, 25, 26, 27, 28, 29, 30, 31, 11, 12, 13, 32, 33, 34, 35, 69, 70, 71, 72, 73, 74, 75, 76, 77, 78, 79, 80, 81, 82, 83, 84, 85, 86, 87, 88, 89, 90] (by decide +kernel) (by decide +kernel)
set_option maxRecDepth 20000 in
theorem gX8_node_X8_findsNodes : GoodIn wsX8_node (wsV RX8 169 RX8 yX8_findsNodes wsX8_findsNodes) := goodIn_app (goodIn_of _ (by decide +kernel)) ggX8_node_X8_findsNodes
set_option maxRecDepth 20000 in
theorem ggX8_node_X8_nodeOf : GoodIn wsX8_node wsX8_nodeOf := goodIn_r _ [35, 18, 19, 69, 70, 71, 72, 73, 74, 75, 76, 77, 78, 79, 80, 81, 82, 83, 84, 85, 86, 87, 88, 89, 90] (by decide +kernel) (by decide +kernel)
set_option maxRecDepth 20000 in
theorem gX8_node_X8_nodeOf : GoodIn wsX8_node (wsV RX8 153 RX8 yX8_nodeOf wsX8_nodeOf) := goodIn_app (goodIn_of _ (by decide +kernel)) ggX8_node_X8_nodeOf
set_option maxRecDepth 20000 in
theorem ggX8_node_X8_childrenOf : GoodIn wsX8_node wsX8_childrenOf := goodIn_r _ [38, 39, 40, 5, 41, 20, 21, 22, 23, 24, 25, 26, 27, 28] (by decide +kernel) (by decide +kernel)
set_option maxRecDepth 20000 in
theorem gX8_node_X8_childrenOf : GoodIn wsX8_node (va_wsS RX8 163 yX8_childrenOf wsX8_childrenOf) := goodIn_app (goodIn_of _ (by decide +kernel)) ggX8_node_X8_childrenOf
set_option maxRecDepth 20000 in
theorem ggX8_node_X8_sizeNumber : GoodIn wsX8_node wsX8_sizeNumber := goodIn_r _ [44, 45, 46, 5, 47] (by decide +kernel) (by decide +kernel)
set_option maxRecDepth 20000 in
theorem gX8_node_X8_sizeNumber : GoodIn wsX8_node (va_wsS RX8 166 yX8_sizeNumber wsX8_sizeNumber) := goodIn_app (goodIn_of _ (by decide +kernel)) ggX8_node_X8_sizeNumber
set_option maxRecDepth 20000 in
theorem ggX8_node_X8_tell : GoodIn wsX8_node wsX8_tell := goodIn_r _ [51, 52, 69, 70, 71, 72, 73, 74, 75, 76, 77, 78, 79, 80, 81, 82, 83, 84, 85, 86, 87, 88, 89, 90] (by decide +kernel) (by decide +kernel)
set_option maxRecDepth 20000 in
theorem gX8_node_X8_tell : GoodIn wsX8_node (wsV RX8 79 RX8 yX8_tell wsX8_tell) := goodIn_app (goodIn_of _ (by decide +kernel)) ggX8_node_X8_tell
set_option maxRecDepth 20000 in
theorem ggX8_node_X8_prefixOf : GoodIn wsX8_node wsX8_prefixOf := goodIn_r _ [56, 18, 19, 39, 40, 5, 41, 20, 21, 22, 23, 24, 25, 26, 27, 28, 57, 58, 59, 69, 70, 71, 72, 73, 74, 75, 76, 77, 78, 79, 80, 81, 82, 83, 84, 85, 86, 87, 88, 89, 90] (by decide +kernel) (by decide +kernel)
set_option maxRecDepth 20000 in
theorem gX8_node_X8_prefixOf : GoodIn wsX8_node (wsV RX8 224 RX8 yX8_prefixOf wsX8_prefixOf) := goodIn_app (goodIn_of _ (by decide +kernel)) ggX8_node_X8_prefixOf
set_option maxRecDepth 20000 in
theorem ggX8_node_X8_placeOf : GoodIn wsX8_node wsX8_placeOf := goodIn_r _ [62, 63, 64, 5, 65] (by decide +kernel) (by decide +kernel)
set_option maxRecDepth 20000 in
theorem gX8_node_X8_placeOf : GoodIn wsX8_node (va_wsS RX8 104 yX8_placeOf wsX8_placeOf) := goodIn_app (goodIn_of _ (by decide +kernel)) ggX8_node_X8_placeOf
set_option maxRecDepth 20000 in
theorem ggX8_node_X8_under : GoodIn wsX8_node wsX8_under := goodIn_r _ [68, 39, 40, 5, 41, 20, 21, 22, 23, 24, 25, 26, 27, 28] (by decide +kernel) (by decide +kernel)
set_option maxRecDepth 20000 in
theorem gX8_node_X8_under : GoodIn wsX8_node (va_wsS RX8 198 yX8_under wsX8_under) := goodIn_app (goodIn_of _ (by decide +kernel)) ggX8_node_X8_under
theorem dX8_node_0 : decode cX8_node 0 = .ok (.iload_n 1, 1) := by decide +kernel
theorem dX8_node_1 : decode cX8_node 1 = .ok (.iload_n 2, 1) := by decide +kernel
theorem dX8_node_2 : decode cX8_node 2 = .ok (.iconst 0, 1) := by decide +kernel
theorem dX8_node_3 : decode cX8_node 3 = .ok (.invokestatic 182, 3) := by decide +kernel
theorem dX8_node_6 : decode cX8_node 6 = .ok (.ifCond .eq 15, 3) := by decide +kernel
theorem dX8_node_9 : decode cX8_node 9 = .ok (.iload_n 3, 1) := by decide +kernel
theorem dX8_node_10 : decode cX8_node 10 = .ok (.i2l, 1) := by decide +kernel
theorem dX8_node_11 : decode cX8_node 11 = .ok (.lconst 0, 1) := by decide +kernel
theorem dX8_node_12 : decode cX8_node 12 = .ok (.ldc2_w 222, 3) := by decide +kernel
theorem dX8_node_15 : decode cX8_node 15 = .ok (.invokestatic 65, 3) := by decide +kernel
theorem dX8_node_18 : decode cX8_node 18 = .ok (.ifCond .ne 5, 3) := by decide +kernel
theorem dX8_node_21 : decode cX8_node 21 = .ok (.iconst (-1), 1) := by decide +kernel
theorem dX8_node_22 : decode cX8_node 22 = .ok (.ireturn, 1) := by decide +kernel
theorem dX8_node_23 : decode cX8_node 23 = .ok (.iload_n 1, 1) := by decide +kernel
theorem dX8_node_24 : decode cX8_node 24 = .ok (.iload_n 2, 1) := by decide +kernel
theorem dX8_node_25 : decode cX8_node 25 = .ok (.invokestatic 97, 3) := by decide +kernel
theorem dX8_node_28 : decode cX8_node 28 = .ok (.istore 4, 2) := by decide +kernel
theorem dX8_node_30 : decode cX8_node 30 = .ok (.aload_n 0, 1) := by decide +kernel
theorem dX8_node_31 : decode cX8_node 31 = .ok (.aload_n 0, 1) := by decide +kernel
theorem dX8_node_32 : decode cX8_node 32 = .ok (.getfield 22, 3) := by decide +kernel
theorem dX8_node_35 : decode cX8_node 35 = .ok (.invokevirtual 169, 3) := by decide +kernel
theorem dX8_node_38 : decode cX8_node 38 = .ok (.aload_n 0, 1) := by decide +kernel
theorem dX8_node_39 : decode cX8_node 39 = .ok (.iload 4, 2) := by decide +kernel
theorem dX8_node_41 : decode cX8_node 41 = .ok (.invokevirtual 153, 3) := by decide +kernel
theorem dX8_node_44 : decode cX8_node 44 = .ok (.bipush (-9), 2) := by decide +kernel
theorem dX8_node_46 : decode cX8_node 46 = .ok (.if_icmp .ne 6, 3) := by decide +kernel
theorem dX8_node_49 : decode cX8_node 49 = .ok (.bipush (-9), 2) := by decide +kernel
theorem dX8_node_51 : decode cX8_node 51 = .ok (.ireturn, 1) := by decide +kernel
theorem dX8_node_52 : decode cX8_node 52 = .ok (.aload_n 0, 1) := by decide +kernel
theorem dX8_node_53 : decode cX8_node 53 = .ok (.getfield 22, 3) := by decide +kernel
theorem dX8_node_56 : decode cX8_node 56 = .ok (.iload 4, 2) := by decide +kernel
theorem dX8_node_58 : decode cX8_node 58 = .ok (.invokestatic 163, 3) := by decide +kernel
theorem dX8_node_61 : decode cX8_node 61 = .ok (.istore 5, 2) := by decide +kernel
theorem dX8_node_63 : decode cX8_node 63 = .ok (.iload_n 3, 1) := by decide +kernel
theorem dX8_node_64 : decode cX8_node 64 = .ok (.tableswitch 84 0 3 #[32, 42, 49, 60], 32) := by decide +kernel
theorem dX8_node_96 : decode cX8_node 96 = .ok (.aload_n 0, 1) := by decide +kernel
theorem dX8_node_97 : decode cX8_node 97 = .ok (.iload 5, 2) := by decide +kernel
theorem dX8_node_99 : decode cX8_node 99 = .ok (.invokestatic 166, 3) := by decide +kernel
theorem dX8_node_102 : decode cX8_node 102 = .ok (.invokevirtual 79, 3) := by decide +kernel
theorem dX8_node_105 : decode cX8_node 105 = .ok (.ireturn, 1) := by decide +kernel
theorem dX8_node_106 : decode cX8_node 106 = .ok (.aload_n 0, 1) := by decide +kernel
theorem dX8_node_107 : decode cX8_node 107 = .ok (.iload 5, 2) := by decide +kernel
theorem dX8_node_109 : decode cX8_node 109 = .ok (.invokevirtual 79, 3) := by decide +kernel
theorem dX8_node_112 : decode cX8_node 112 = .ok (.ireturn, 1) := by decide +kernel
theorem dX8_node_113 : decode cX8_node 113 = .ok (.aload_n 0, 1) := by decide +kernel
theorem dX8_node_114 : decode cX8_node 114 = .ok (.aload_n 0, 1) := by decide +kernel
theorem dX8_node_115 : decode cX8_node 115 = .ok (.iload 4, 2) := by decide +kernel
theorem dX8_node_117 : decode cX8_node 117 = .ok (.invokevirtual 224, 3) := by decide +kernel
theorem dX8_node_120 : decode cX8_node 120 = .ok (.invokevirtual 79, 3) := by decide +kernel
theorem dX8_node_123 : decode cX8_node 123 = .ok (.ireturn, 1) := by decide +kernel
theorem dX8_node_124 : decode cX8_node 124 = .ok (.aload_n 0, 1) := by decide +kernel
theorem dX8_node_125 : decode cX8_node 125 = .ok (.aload_n 0, 1) := by decide +kernel
theorem dX8_node_126 : decode cX8_node 126 = .ok (.getfield 22, 3) := by decide +kernel
theorem dX8_node_129 : decode cX8_node 129 = .ok (.iload 4, 2) := by decide +kernel
theorem dX8_node_131 : decode cX8_node 131 = .ok (.invokestatic 104, 3) := by decide +kernel
theorem dX8_node_134 : decode cX8_node 134 = .ok (.bipush (-9), 2) := by decide +kernel
theorem dX8_node_136 : decode cX8_node 136 = .ok (.if_icmp .ne 7, 3) := by decide +kernel
theorem dX8_node_139 : decode cX8_node 139 = .ok (.iconst 0, 1) := by decide +kernel
theorem dX8_node_140 : decode cX8_node 140 = .ok (.goto 4, 3) := by decide +kernel
theorem dX8_node_143 : decode cX8_node 143 = .ok (.iconst 1, 1) := by decide +kernel
theorem dX8_node_144 : decode cX8_node 144 = .ok (.invokevirtual 79, 3) := by decide +kernel
theorem dX8_node_147 : decode cX8_node 147 = .ok (.ireturn, 1) := by decide +kernel
theorem dX8_node_148 : decode cX8_node 148 = .ok (.aload_n 0, 1) := by decide +kernel
theorem dX8_node_149 : decode cX8_node 149 = .ok (.aload_n 0, 1) := by decide +kernel
theorem dX8_node_150 : decode cX8_node 150 = .ok (.getfield 22, 3) := by decide +kernel
theorem dX8_node_153 : decode cX8_node 153 = .ok (.iload 4, 2) := by decide +kernel
theorem dX8_node_155 : decode cX8_node 155 = .ok (.invokestatic 198, 3) := by decide +kernel
theorem dX8_node_158 : decode cX8_node 158 = .ok (.invokevirtual 79, 3) := by decide +kernel
theorem dX8_node_161 : decode cX8_node 161 = .ok (.ireturn, 1) := by decide +kernel
theorem dX8_lowest_0 : decode cX8_lowest 0 = .ok (.iconst 0, 1) := by decide +kernel
theorem dX8_lowest_1 : decode cX8_lowest 1 = .ok (.istore_n 1, 1) := by decide +kernel
theorem dX8_lowest_2 : decode cX8_lowest 2 = .ok (.iload_n 0, 1) := by decide +kernel
theorem dX8_lowest_3 : decode cX8_lowest 3 = .ok (.iload_n 1, 1) := by decide +kernel
theorem dX8_lowest_4 : decode cX8_lowest 4 = .ok (.ishr, 1) := by decide +kernel
theorem dX8_lowest_5 : decode cX8_lowest 5 = .ok (.iconst 1, 1) := by decide +kernel
theorem dX8_lowest_6 : decode cX8_lowest 6 = .ok (.iand, 1) := by decide +kernel
theorem dX8_lowest_7 : decode cX8_lowest 7 = .ok (.ifCond .ne 9, 3) := by decide +kernel
theorem dX8_lowest_10 : decode cX8_lowest 10 = .ok (.iinc 1 1, 3) := by decide +kernel
theorem dX8_lowest_13 : decode cX8_lowest 13 = .ok (.goto (-11), 3) := by decide +kernel
theorem dX8_lowest_16 : decode cX8_lowest 16 = .ok (.iload_n 1, 1) := by decide +kernel
theorem dX8_lowest_17 : decode cX8_lowest 17 = .ok (.ireturn, 1) := by decide +kernel
theorem dX8_highest_0 : decode cX8_highest 0 = .ok (.bipush 15, 2) := by decide +kernel
theorem dX8_highest_2 : decode cX8_highest 2 = .ok (.istore_n 1, 1) := by decide +kernel
theorem dX8_highest_3 : decode cX8_highest 3 = .ok (.iload_n 0, 1) := by decide +kernel
theorem dX8_highest_4 : decode cX8_highest 4 = .ok (.iload_n 1, 1) := by decide +kernel
theorem dX8_highest_5 : decode cX8_highest 5 = .ok (.ishr, 1) := by decide +kernel
theorem dX8_highest_6 : decode cX8_highest 6 = .ok (.iconst 1, 1) := by decide +kernel
theorem dX8_highest_7 : decode cX8_highest 7 = .ok (.iand, 1) := by decide +kernel
theorem dX8_highest_8 : decode cX8_highest 8 = .ok (.ifCond .ne 9, 3) := by decide +kernel
theorem dX8_highest_11 : decode cX8_highest 11 = .ok (.iinc 1 (-1), 3) := by decide +kernel
theorem dX8_highest_14 : decode cX8_highest 14 = .ok (.goto (-11), 3) := by decide +kernel
theorem dX8_highest_17 : decode cX8_highest 17 = .ok (.iload_n 1, 1) := by decide +kernel
theorem dX8_highest_18 : decode cX8_highest 18 = .ok (.ireturn, 1) := by decide +kernel
set_option maxRecDepth 20000 in
theorem ggX8_mark_X8_isWord : GoodIn wsX8_mark wsX8_isWord := goodIn_r _ [6, 7, 8, 9, 5, 10] (by decide +kernel) (by decide +kernel)
set_option maxRecDepth 20000 in
theorem gX8_mark_X8_isWord : GoodIn wsX8_mark (va_wsS RX8 182 yX8_isWord wsX8_isWord) := goodIn_app (goodIn_of _ (by decide +kernel)) ggX8_mark_X8_isWord
set_option maxRecDepth 20000 in
theorem ggX8_mark_X8_in : GoodIn wsX8_mark wsX8_in := goodIn_r _ [10] (by decide +kernel) (by decide +kernel)
set_option maxRecDepth 20000 in
theorem gX8_mark_X8_in : GoodIn wsX8_mark (va_wsS RX8 65 yX8_in wsX8_in) := goodIn_app (goodIn_of _ (by decide +kernel)) ggX8_mark_X8_in
set_option maxRecDepth 20000 in
theorem ggX8_mark_X8_word : GoodIn wsX8_mark wsX8_word := goodIn_r _ [13] (by decide +kernel) (by decide +kernel)
set_option maxRecDepth 20000 in
theorem gX8_mark_X8_word : GoodIn wsX8_mark (va_wsS RX8 97 yX8_word wsX8_word) := goodIn_app (goodIn_of _ (by decide +kernel)) ggX8_mark_X8_word
set_option maxRecDepth 20000 in
theorem ggX8_mark_X8_findsNodes : GoodIn wsX8_mark wsX8_findsNodes := goodIn_r _ [17, 18, 19, 20, 21, 5, 22, 23, 24, 25, 26, 27, 28, 29, 30, 31, 11, 12, 13, 32, 33, 34, 35, 60, 61, 62, 63, 64, 65, 66, 67, 68, 69, 70, 71, 72, 73, 74, 75, 76, 77, 78, 79, 80, 81] (by decide +kernel) (by decide +kernel)
set_option maxRecDepth 20000 in
theorem gX8_mark_X8_findsNodes : GoodIn wsX8_mark (wsV RX8 169 RX8 yX8_findsNodes wsX8_findsNodes) := goodIn_app (goodIn_of _ (by decide +kernel)) ggX8_mark_X8_findsNodes
set_option maxRecDepth 20000 in
theorem ggX8_mark_X8_nodeOf : GoodIn wsX8_mark wsX8_nodeOf := goodIn_r _ [35, 18, 19, 60, 61, 62, 63, 64, 65, 66, 67, 68, 69, 70, 71, 72, 73, 74, 75, 76, 77, 78, 79, 80, 81] (by decide +kernel) (by decide +kernel)
set_option maxRecDepth 20000 in
theorem gX8_mark_X8_nodeOf : GoodIn wsX8_mark (wsV RX8 153 RX8 yX8_nodeOf wsX8_nodeOf) := goodIn_app (goodIn_of _ (by decide +kernel)) ggX8_mark_X8_nodeOf
set_option maxRecDepth 20000 in
theorem ggX8_mark_X8_childrenOf : GoodIn wsX8_mark wsX8_childrenOf := goodIn_r _ [38, 39, 40, 5, 41, 20, 21, 22, 23, 24, 25, 26, 27, 28] (by decide +kernel) (by decide +kernel)
set_option maxRecDepth 20000 in
theorem gX8_mark_X8_childrenOf : GoodIn wsX8_mark (va_wsS RX8 163 yX8_childrenOf wsX8_childrenOf) := goodIn_app (goodIn_of _ (by decide +kernel)) ggX8_mark_X8_childrenOf
set_option maxRecDepth 20000 in
theorem ggX8_mark_X8_sizeNumber : GoodIn wsX8_mark wsX8_sizeNumber := goodIn_r _ [44, 45, 46, 5, 47] (by decide +kernel) (by decide +kernel)
set_option maxRecDepth 20000 in
theorem gX8_mark_X8_sizeNumber : GoodIn wsX8_mark (va_wsS RX8 166 yX8_sizeNumber wsX8_sizeNumber) := goodIn_app (goodIn_of _ (by decide +kernel)) ggX8_mark_X8_sizeNumber
set_option maxRecDepth 20000 in
theorem ggX8_mark_X8_found : GoodIn wsX8_mark wsX8_found := goodIn_r _ [51, 52, 53, 60, 61, 62, 63, 64, 65, 66, 67, 68, 69, 70, 71, 72, 73, 74, 75, 76, 77, 78, 79, 80, 81] (by decide +kernel) (by decide +kernel)
set_option maxRecDepth 20000 in
theorem gX8_mark_X8_found : GoodIn wsX8_mark (wsV RX8 75 RX8 yX8_found wsX8_found) := goodIn_app (goodIn_of _ (by decide +kernel)) ggX8_mark_X8_found
set_option maxRecDepth 20000 in
theorem ggX8_mark_X8_lowest : GoodIn wsX8_mark wsX8_lowest := goodIn_r _ [56] (by decide +kernel) (by decide +kernel)
set_option maxRecDepth 20000 in
theorem gX8_mark_X8_lowest : GoodIn wsX8_mark (va_wsS RX8 227 yX8_lowest wsX8_lowest) := goodIn_app (goodIn_of _ (by decide +kernel)) ggX8_mark_X8_lowest
set_option maxRecDepth 20000 in
theorem ggX8_mark_X8_highest : GoodIn wsX8_mark wsX8_highest := goodIn_r _ [59] (by decide +kernel) (by decide +kernel)
set_option maxRecDepth 20000 in
theorem gX8_mark_X8_highest : GoodIn wsX8_mark (va_wsS RX8 230 yX8_highest wsX8_highest) := goodIn_app (goodIn_of _ (by decide +kernel)) ggX8_mark_X8_highest
set_option maxRecDepth 20000 in
theorem ggX8_mark_X8_bits : GoodIn wsX8_mark wsX8_bits := goodIn_r _ [47] (by decide +kernel) (by decide +kernel)
set_option maxRecDepth 20000 in
theorem gX8_mark_X8_bits : GoodIn wsX8_mark (va_wsS RX8 160 yX8_bits wsX8_bits) := goodIn_app (goodIn_of _ (by decide +kernel)) ggX8_mark_X8_bits
theorem dX8_mark_0 : decode cX8_mark 0 = .ok (.iload_n 1, 1) := by decide +kernel
theorem dX8_mark_1 : decode cX8_mark 1 = .ok (.iload_n 2, 1) := by decide +kernel
theorem dX8_mark_2 : decode cX8_mark 2 = .ok (.iconst 0, 1) := by decide +kernel
theorem dX8_mark_3 : decode cX8_mark 3 = .ok (.invokestatic 182, 3) := by decide +kernel
theorem dX8_mark_6 : decode cX8_mark 6 = .ok (.ifCond .eq 15, 3) := by decide +kernel
theorem dX8_mark_9 : decode cX8_mark 9 = .ok (.iload_n 3, 1) := by decide +kernel
theorem dX8_mark_10 : decode cX8_mark 10 = .ok (.i2l, 1) := by decide +kernel
theorem dX8_mark_11 : decode cX8_mark 11 = .ok (.lconst 1, 1) := by decide +kernel
theorem dX8_mark_12 : decode cX8_mark 12 = .ok (.ldc2_w 222, 3) := by decide +kernel
theorem dX8_mark_15 : decode cX8_mark 15 = .ok (.invokestatic 65, 3) := by decide +kernel
theorem dX8_mark_18 : decode cX8_mark 18 = .ok (.ifCond .ne 5, 3) := by decide +kernel
theorem dX8_mark_21 : decode cX8_mark 21 = .ok (.iconst (-1), 1) := by decide +kernel
theorem dX8_mark_22 : decode cX8_mark 22 = .ok (.ireturn, 1) := by decide +kernel
theorem dX8_mark_23 : decode cX8_mark 23 = .ok (.iload_n 1, 1) := by decide +kernel
theorem dX8_mark_24 : decode cX8_mark 24 = .ok (.iload_n 2, 1) := by decide +kernel
theorem dX8_mark_25 : decode cX8_mark 25 = .ok (.invokestatic 97, 3) := by decide +kernel
theorem dX8_mark_28 : decode cX8_mark 28 = .ok (.istore 4, 2) := by decide +kernel
theorem dX8_mark_30 : decode cX8_mark 30 = .ok (.aload_n 0, 1) := by decide +kernel
theorem dX8_mark_31 : decode cX8_mark 31 = .ok (.aload_n 0, 1) := by decide +kernel
theorem dX8_mark_32 : decode cX8_mark 32 = .ok (.getfield 22, 3) := by decide +kernel
theorem dX8_mark_35 : decode cX8_mark 35 = .ok (.invokevirtual 169, 3) := by decide +kernel
theorem dX8_mark_38 : decode cX8_mark 38 = .ok (.aload_n 0, 1) := by decide +kernel
theorem dX8_mark_39 : decode cX8_mark 39 = .ok (.iload 4, 2) := by decide +kernel
theorem dX8_mark_41 : decode cX8_mark 41 = .ok (.invokevirtual 153, 3) := by decide +kernel
theorem dX8_mark_44 : decode cX8_mark 44 = .ok (.bipush (-9), 2) := by decide +kernel
theorem dX8_mark_46 : decode cX8_mark 46 = .ok (.if_icmp .ne 6, 3) := by decide +kernel
theorem dX8_mark_49 : decode cX8_mark 49 = .ok (.bipush (-9), 2) := by decide +kernel
theorem dX8_mark_51 : decode cX8_mark 51 = .ok (.ireturn, 1) := by decide +kernel
theorem dX8_mark_52 : decode cX8_mark 52 = .ok (.aload_n 0, 1) := by decide +kernel
theorem dX8_mark_53 : decode cX8_mark 53 = .ok (.getfield 22, 3) := by decide +kernel
theorem dX8_mark_56 : decode cX8_mark 56 = .ok (.iload 4, 2) := by decide +kernel
theorem dX8_mark_58 : decode cX8_mark 58 = .ok (.invokestatic 163, 3) := by decide +kernel
theorem dX8_mark_61 : decode cX8_mark 61 = .ok (.istore 5, 2) := by decide +kernel
theorem dX8_mark_63 : decode cX8_mark 63 = .ok (.iload 5, 2) := by decide +kernel
theorem dX8_mark_65 : decode cX8_mark 65 = .ok (.invokestatic 166, 3) := by decide +kernel
theorem dX8_mark_68 : decode cX8_mark 68 = .ok (.istore 6, 2) := by decide +kernel
theorem dX8_mark_70 : decode cX8_mark 70 = .ok (.iload 6, 2) := by decide +kernel
theorem dX8_mark_72 : decode cX8_mark 72 = .ok (.iload_n 3, 1) := by decide +kernel
theorem dX8_mark_73 : decode cX8_mark 73 = .ok (.if_icmp .eq 31, 3) := by decide +kernel
theorem dX8_mark_76 : decode cX8_mark 76 = .ok (.iload_n 3, 1) := by decide +kernel
theorem dX8_mark_77 : decode cX8_mark 77 = .ok (.iconst 1, 1) := by decide +kernel
theorem dX8_mark_78 : decode cX8_mark 78 = .ok (.if_icmp .ne 9, 3) := by decide +kernel
theorem dX8_mark_81 : decode cX8_mark 81 = .ok (.iload 6, 2) := by decide +kernel
theorem dX8_mark_83 : decode cX8_mark 83 = .ok (.iconst 2, 1) := by decide +kernel
theorem dX8_mark_84 : decode cX8_mark 84 = .ok (.if_icmp .eq 20, 3) := by decide +kernel
theorem dX8_mark_87 : decode cX8_mark 87 = .ok (.iload_n 3, 1) := by decide +kernel
theorem dX8_mark_88 : decode cX8_mark 88 = .ok (.iconst 3, 1) := by decide +kernel
theorem dX8_mark_89 : decode cX8_mark 89 = .ok (.if_icmp .ne 9, 3) := by decide +kernel
theorem dX8_mark_92 : decode cX8_mark 92 = .ok (.iload 6, 2) := by decide +kernel
theorem dX8_mark_94 : decode cX8_mark 94 = .ok (.iconst 4, 1) := by decide +kernel
theorem dX8_mark_95 : decode cX8_mark 95 = .ok (.if_icmp .eq 9, 3) := by decide +kernel
theorem dX8_mark_98 : decode cX8_mark 98 = .ok (.aload_n 0, 1) := by decide +kernel
theorem dX8_mark_99 : decode cX8_mark 99 = .ok (.iconst 3, 1) := by decide +kernel
theorem dX8_mark_100 : decode cX8_mark 100 = .ok (.invokevirtual 75, 3) := by decide +kernel
theorem dX8_mark_103 : decode cX8_mark 103 = .ok (.ireturn, 1) := by decide +kernel
theorem dX8_mark_104 : decode cX8_mark 104 = .ok (.iload_n 3, 1) := by decide +kernel
theorem dX8_mark_105 : decode cX8_mark 105 = .ok (.tableswitch 64 1 3 #[27, 33, 53], 27) := by decide +kernel
theorem dX8_mark_132 : decode cX8_mark 132 = .ok (.iload 5, 2) := by decide +kernel
theorem dX8_mark_134 : decode cX8_mark 134 = .ok (.invokestatic 227, 3) := by decide +kernel
theorem dX8_mark_137 : decode cX8_mark 137 = .ok (.ireturn, 1) := by decide +kernel
theorem dX8_mark_138 : decode cX8_mark 138 = .ok (.iload 5, 2) := by decide +kernel
theorem dX8_mark_140 : decode cX8_mark 140 = .ok (.invokestatic 230, 3) := by decide +kernel
theorem dX8_mark_143 : decode cX8_mark 143 = .ok (.iload 5, 2) := by decide +kernel
theorem dX8_mark_145 : decode cX8_mark 145 = .ok (.invokestatic 227, 3) := by decide +kernel
theorem dX8_mark_148 : decode cX8_mark 148 = .ok (.isub, 1) := by decide +kernel
theorem dX8_mark_149 : decode cX8_mark 149 = .ok (.iconst 1, 1) := by decide +kernel
theorem dX8_mark_150 : decode cX8_mark 150 = .ok (.iadd, 1) := by decide +kernel
theorem dX8_mark_151 : decode cX8_mark 151 = .ok (.iload 5, 2) := by decide +kernel
theorem dX8_mark_153 : decode cX8_mark 153 = .ok (.invokestatic 160, 3) := by decide +kernel
theorem dX8_mark_156 : decode cX8_mark 156 = .ok (.isub, 1) := by decide +kernel
theorem dX8_mark_157 : decode cX8_mark 157 = .ok (.ireturn, 1) := by decide +kernel
theorem dX8_mark_158 : decode cX8_mark 158 = .ok (.iconst 1, 1) := by decide +kernel
theorem dX8_mark_159 : decode cX8_mark 159 = .ok (.iload 6, 2) := by decide +kernel
theorem dX8_mark_161 : decode cX8_mark 161 = .ok (.ishl, 1) := by decide +kernel
theorem dX8_mark_162 : decode cX8_mark 162 = .ok (.iload 5, 2) := by decide +kernel
theorem dX8_mark_164 : decode cX8_mark 164 = .ok (.invokestatic 160, 3) := by decide +kernel
theorem dX8_mark_167 : decode cX8_mark 167 = .ok (.isub, 1) := by decide +kernel
theorem dX8_mark_168 : decode cX8_mark 168 = .ok (.ireturn, 1) := by decide +kernel
theorem dX8_mark_169 : decode cX8_mark 169 = .ok (.iload 5, 2) := by decide +kernel
theorem dX8_mark_171 : decode cX8_mark 171 = .ok (.invokestatic 230, 3) := by decide +kernel
theorem dX8_mark_174 : decode cX8_mark 174 = .ok (.ireturn, 1) := by decide +kernel
set_option maxRecDepth 20000 in
theorem ggX8_firstUnder_X8_begins : GoodIn wsX8_firstUnder wsX8_begins := goodIn_r _ [5, 6, 7, 4, 8, 9, 10, 11, 12, 13, 14] (by decide +kernel) (by decide +kernel)
set_option maxRecDepth 20000 in
theorem gX8_firstUnder_X8_begins : GoodIn wsX8_firstUnder (va_wsS RX8 156 yX8_begins wsX8_begins) := goodIn_app (goodIn_of _ (by decide +kernel)) ggX8_firstUnder_X8_begins
theorem dX8_firstUnder_0 : decode cX8_firstUnder 0 = .ok (.iconst 0, 1) := by decide +kernel
theorem dX8_firstUnder_1 : decode cX8_firstUnder 1 = .ok (.istore_n 2, 1) := by decide +kernel
theorem dX8_firstUnder_2 : decode cX8_firstUnder 2 = .ok (.aload_n 0, 1) := by decide +kernel
theorem dX8_firstUnder_3 : decode cX8_firstUnder 3 = .ok (.getfield 22, 3) := by decide +kernel
theorem dX8_firstUnder_6 : decode cX8_firstUnder 6 = .ok (.iconst 1, 1) := by decide +kernel
theorem dX8_firstUnder_7 : decode cX8_firstUnder 7 = .ok (.iload_n 2, 1) := by decide +kernel
theorem dX8_firstUnder_8 : decode cX8_firstUnder 8 = .ok (.iadd, 1) := by decide +kernel
theorem dX8_firstUnder_9 : decode cX8_firstUnder 9 = .ok (.iaload, 1) := by decide +kernel
theorem dX8_firstUnder_10 : decode cX8_firstUnder 10 = .ok (.iload_n 1, 1) := by decide +kernel
theorem dX8_firstUnder_11 : decode cX8_firstUnder 11 = .ok (.invokestatic 156, 3) := by decide +kernel
theorem dX8_firstUnder_14 : decode cX8_firstUnder 14 = .ok (.ifCond .ne 9, 3) := by decide +kernel
theorem dX8_firstUnder_17 : decode cX8_firstUnder 17 = .ok (.iinc 2 1, 3) := by decide +kernel
theorem dX8_firstUnder_20 : decode cX8_firstUnder 20 = .ok (.goto (-18), 3) := by decide +kernel
theorem dX8_firstUnder_23 : decode cX8_firstUnder 23 = .ok (.iload_n 2, 1) := by decide +kernel
theorem dX8_firstUnder_24 : decode cX8_firstUnder 24 = .ok (.ireturn, 1) := by decide +kernel
set_option maxRecDepth 20000 in
theorem ggX8_behind_X8_sizeOf : GoodIn wsX8_behind wsX8_sizeOf := goodIn_r _ [4] (by decide +kernel) (by decide +kernel)
set_option maxRecDepth 20000 in
theorem gX8_behind_X8_sizeOf : GoodIn wsX8_behind (va_wsS RX8 87 yX8_sizeOf wsX8_sizeOf) := goodIn_app (goodIn_of _ (by decide +kernel)) ggX8_behind_X8_sizeOf
set_option maxRecDepth 20000 in
theorem ggX8_behind_X8_numberOf : GoodIn wsX8_behind wsX8_numberOf := goodIn_r _ [7, 1, 2, 3, 4] (by decide +kernel) (by decide +kernel)
set_option maxRecDepth 20000 in
theorem gX8_behind_X8_numberOf : GoodIn wsX8_behind (va_wsS RX8 216 yX8_numberOf wsX8_numberOf) := goodIn_app (goodIn_of _ (by decide +kernel)) ggX8_behind_X8_numberOf
set_option maxRecDepth 20000 in
theorem ggX8_behind_X8_word : GoodIn wsX8_behind wsX8_word := goodIn_r _ [10] (by decide +kernel) (by decide +kernel)
set_option maxRecDepth 20000 in
theorem gX8_behind_X8_word : GoodIn wsX8_behind (va_wsS RX8 97 yX8_word wsX8_word) := goodIn_app (goodIn_of _ (by decide +kernel)) ggX8_behind_X8_word
theorem dX8_behind_0 : decode cX8_behind 0 = .ok (.iload_n 0, 1) := by decide +kernel
theorem dX8_behind_1 : decode cX8_behind 1 = .ok (.invokestatic 87, 3) := by decide +kernel
theorem dX8_behind_4 : decode cX8_behind 4 = .ok (.iload_n 1, 1) := by decide +kernel
theorem dX8_behind_5 : decode cX8_behind 5 = .ok (.isub, 1) := by decide +kernel
theorem dX8_behind_6 : decode cX8_behind 6 = .ok (.istore_n 2, 1) := by decide +kernel
theorem dX8_behind_7 : decode cX8_behind 7 = .ok (.iload_n 0, 1) := by decide +kernel
theorem dX8_behind_8 : decode cX8_behind 8 = .ok (.invokestatic 216, 3) := by decide +kernel
theorem dX8_behind_11 : decode cX8_behind 11 = .ok (.iconst 1, 1) := by decide +kernel
theorem dX8_behind_12 : decode cX8_behind 12 = .ok (.iconst 4, 1) := by decide +kernel
theorem dX8_behind_13 : decode cX8_behind 13 = .ok (.iload_n 2, 1) := by decide +kernel
theorem dX8_behind_14 : decode cX8_behind 14 = .ok (.imul, 1) := by decide +kernel
theorem dX8_behind_15 : decode cX8_behind 15 = .ok (.ishl, 1) := by decide +kernel
theorem dX8_behind_16 : decode cX8_behind 16 = .ok (.iconst 1, 1) := by decide +kernel
theorem dX8_behind_17 : decode cX8_behind 17 = .ok (.isub, 1) := by decide +kernel
theorem dX8_behind_18 : decode cX8_behind 18 = .ok (.iand, 1) := by decide +kernel
theorem dX8_behind_19 : decode cX8_behind 19 = .ok (.iload_n 2, 1) := by decide +kernel
theorem dX8_behind_20 : decode cX8_behind 20 = .ok (.invokestatic 97, 3) := by decide +kernel
theorem dX8_behind_23 : decode cX8_behind 23 = .ok (.ireturn, 1) := by decide +kernel
set_option maxRecDepth 20000 in
theorem ggX8_areAlike_X8_under : GoodIn wsX8_areAlike wsX8_under := goodIn_r _ [5, 6, 7, 4, 8, 9, 10, 11, 12, 13, 14, 15, 16, 17] (by decide +kernel) (by decide +kernel)
set_option maxRecDepth 20000 in
theorem gX8_areAlike_X8_under : GoodIn wsX8_areAlike (va_wsS RX8 198 yX8_under wsX8_under) := goodIn_app (goodIn_of _ (by decide +kernel)) ggX8_areAlike_X8_under
set_option maxRecDepth 20000 in
theorem ggX8_areAlike_X8_firstUnder : GoodIn wsX8_areAlike wsX8_firstUnder := goodIn_r _ [21, 1, 6, 7, 4, 8, 9, 10, 11, 12, 13, 14, 15, 16, 17, 31, 32, 33, 34, 35, 36, 37, 38, 39, 40, 41, 42, 43, 44, 45, 46, 47, 48, 49, 50, 51, 52] (by decide +kernel) (by decide +kernel)
set_option maxRecDepth 20000 in
theorem gX8_areAlike_X8_firstUnder : GoodIn wsX8_areAlike (wsV RX8 233 RX8 yX8_firstUnder wsX8_firstUnder) := goodIn_app (goodIn_of _ (by decide +kernel)) ggX8_areAlike_X8_firstUnder
set_option maxRecDepth 20000 in
theorem ggX8_areAlike_X8_sizeOf : GoodIn wsX8_areAlike wsX8_sizeOf := goodIn_r _ [14] (by decide +kernel) (by decide +kernel)
set_option maxRecDepth 20000 in
theorem gX8_areAlike_X8_sizeOf : GoodIn wsX8_areAlike (va_wsS RX8 87 yX8_sizeOf wsX8_sizeOf) := goodIn_app (goodIn_of _ (by decide +kernel)) ggX8_areAlike_X8_sizeOf
set_option maxRecDepth 20000 in
theorem ggX8_areAlike_X8_behind : GoodIn wsX8_areAlike wsX8_behind := goodIn_r _ [24, 12, 13, 4, 14, 25, 26, 27, 28, 29, 30] (by decide +kernel) (by decide +kernel)
set_option maxRecDepth 20000 in
theorem gX8_areAlike_X8_behind : GoodIn wsX8_areAlike (va_wsS RX8 236 yX8_behind wsX8_behind) := goodIn_app (goodIn_of _ (by decide +kernel)) ggX8_areAlike_X8_behind
theorem dX8_areAlike_0 : decode cX8_areAlike 0 = .ok (.aload_n 0, 1) := by decide +kernel
theorem dX8_areAlike_1 : decode cX8_areAlike 1 = .ok (.getfield 22, 3) := by decide +kernel
theorem dX8_areAlike_4 : decode cX8_areAlike 4 = .ok (.iload_n 1, 1) := by decide +kernel
theorem dX8_areAlike_5 : decode cX8_areAlike 5 = .ok (.invokestatic 198, 3) := by decide +kernel
theorem dX8_areAlike_8 : decode cX8_areAlike 8 = .ok (.istore_n 3, 1) := by decide +kernel
theorem dX8_areAlike_9 : decode cX8_areAlike 9 = .ok (.iload_n 3, 1) := by decide +kernel
theorem dX8_areAlike_10 : decode cX8_areAlike 10 = .ok (.aload_n 0, 1) := by decide +kernel
theorem dX8_areAlike_11 : decode cX8_areAlike 11 = .ok (.getfield 22, 3) := by decide +kernel
theorem dX8_areAlike_14 : decode cX8_areAlike 14 = .ok (.iload_n 2, 1) := by decide +kernel
theorem dX8_areAlike_15 : decode cX8_areAlike 15 = .ok (.invokestatic 198, 3) := by decide +kernel
theorem dX8_areAlike_18 : decode cX8_areAlike 18 = .ok (.if_icmp .ne 7, 3) := by decide +kernel
theorem dX8_areAlike_21 : decode cX8_areAlike 21 = .ok (.iconst 1, 1) := by decide +kernel
theorem dX8_areAlike_22 : decode cX8_areAlike 22 = .ok (.goto 4, 3) := by decide +kernel
theorem dX8_areAlike_25 : decode cX8_areAlike 25 = .ok (.iconst 0, 1) := by decide +kernel
theorem dX8_areAlike_26 : decode cX8_areAlike 26 = .ok (.istore 4, 2) := by decide +kernel
theorem dX8_areAlike_28 : decode cX8_areAlike 28 = .ok (.aload_n 0, 1) := by decide +kernel
theorem dX8_areAlike_29 : decode cX8_areAlike 29 = .ok (.iload_n 1, 1) := by decide +kernel
theorem dX8_areAlike_30 : decode cX8_areAlike 30 = .ok (.invokevirtual 233, 3) := by decide +kernel
theorem dX8_areAlike_33 : decode cX8_areAlike 33 = .ok (.istore 5, 2) := by decide +kernel
theorem dX8_areAlike_35 : decode cX8_areAlike 35 = .ok (.aload_n 0, 1) := by decide +kernel
theorem dX8_areAlike_36 : decode cX8_areAlike 36 = .ok (.iload_n 2, 1) := by decide +kernel
theorem dX8_areAlike_37 : decode cX8_areAlike 37 = .ok (.invokevirtual 233, 3) := by decide +kernel
theorem dX8_areAlike_40 : decode cX8_areAlike 40 = .ok (.istore 6, 2) := by decide +kernel
theorem dX8_areAlike_42 : decode cX8_areAlike 42 = .ok (.iconst 0, 1) := by decide +kernel
theorem dX8_areAlike_43 : decode cX8_areAlike 43 = .ok (.istore 7, 2) := by decide +kernel
theorem dX8_areAlike_45 : decode cX8_areAlike 45 = .ok (.iload 7, 2) := by decide +kernel
theorem dX8_areAlike_47 : decode cX8_areAlike 47 = .ok (.iload_n 3, 1) := by decide +kernel
theorem dX8_areAlike_48 : decode cX8_areAlike 48 = .ok (.if_icmp .ge 91, 3) := by decide +kernel
theorem dX8_areAlike_51 : decode cX8_areAlike 51 = .ok (.iload 4, 2) := by decide +kernel
theorem dX8_areAlike_53 : decode cX8_areAlike 53 = .ok (.ifCond .eq 86, 3) := by decide +kernel
theorem dX8_areAlike_56 : decode cX8_areAlike 56 = .ok (.aload_n 0, 1) := by decide +kernel
theorem dX8_areAlike_57 : decode cX8_areAlike 57 = .ok (.getfield 22, 3) := by decide +kernel
theorem dX8_areAlike_60 : decode cX8_areAlike 60 = .ok (.iconst 1, 1) := by decide +kernel
theorem dX8_areAlike_61 : decode cX8_areAlike 61 = .ok (.iload 5, 2) := by decide +kernel
theorem dX8_areAlike_63 : decode cX8_areAlike 63 = .ok (.iadd, 1) := by decide +kernel
theorem dX8_areAlike_64 : decode cX8_areAlike 64 = .ok (.iload 7, 2) := by decide +kernel
theorem dX8_areAlike_66 : decode cX8_areAlike 66 = .ok (.iadd, 1) := by decide +kernel
theorem dX8_areAlike_67 : decode cX8_areAlike 67 = .ok (.iaload, 1) := by decide +kernel
theorem dX8_areAlike_68 : decode cX8_areAlike 68 = .ok (.iload_n 1, 1) := by decide +kernel
theorem dX8_areAlike_69 : decode cX8_areAlike 69 = .ok (.invokestatic 87, 3) := by decide +kernel
theorem dX8_areAlike_72 : decode cX8_areAlike 72 = .ok (.invokestatic 236, 3) := by decide +kernel
theorem dX8_areAlike_75 : decode cX8_areAlike 75 = .ok (.aload_n 0, 1) := by decide +kernel
theorem dX8_areAlike_76 : decode cX8_areAlike 76 = .ok (.getfield 22, 3) := by decide +kernel
theorem dX8_areAlike_79 : decode cX8_areAlike 79 = .ok (.iconst 1, 1) := by decide +kernel
theorem dX8_areAlike_80 : decode cX8_areAlike 80 = .ok (.iload 6, 2) := by decide +kernel
theorem dX8_areAlike_82 : decode cX8_areAlike 82 = .ok (.iadd, 1) := by decide +kernel
theorem dX8_areAlike_83 : decode cX8_areAlike 83 = .ok (.iload 7, 2) := by decide +kernel
theorem dX8_areAlike_85 : decode cX8_areAlike 85 = .ok (.iadd, 1) := by decide +kernel
theorem dX8_areAlike_86 : decode cX8_areAlike 86 = .ok (.iaload, 1) := by decide +kernel
theorem dX8_areAlike_87 : decode cX8_areAlike 87 = .ok (.iload_n 2, 1) := by decide +kernel
theorem dX8_areAlike_88 : decode cX8_areAlike 88 = .ok (.invokestatic 87, 3) := by decide +kernel
theorem dX8_areAlike_91 : decode cX8_areAlike 91 = .ok (.invokestatic 236, 3) := by decide +kernel
theorem dX8_areAlike_94 : decode cX8_areAlike 94 = .ok (.if_icmp .ne 36, 3) := by decide +kernel
theorem dX8_areAlike_97 : decode cX8_areAlike 97 = .ok (.aload_n 0, 1) := by decide +kernel
theorem dX8_areAlike_98 : decode cX8_areAlike 98 = .ok (.getfield 22, 3) := by decide +kernel
theorem dX8_areAlike_101 : decode cX8_areAlike 101 = .ok (.bipush 49, 2) := by decide +kernel
theorem dX8_areAlike_103 : decode cX8_areAlike 103 = .ok (.iload 5, 2) := by decide +kernel
theorem dX8_areAlike_105 : decode cX8_areAlike 105 = .ok (.iadd, 1) := by decide +kernel
theorem dX8_areAlike_106 : decode cX8_areAlike 106 = .ok (.iload 7, 2) := by decide +kernel
theorem dX8_areAlike_108 : decode cX8_areAlike 108 = .ok (.iadd, 1) := by decide +kernel
theorem dX8_areAlike_109 : decode cX8_areAlike 109 = .ok (.iaload, 1) := by decide +kernel
theorem dX8_areAlike_110 : decode cX8_areAlike 110 = .ok (.aload_n 0, 1) := by decide +kernel
theorem dX8_areAlike_111 : decode cX8_areAlike 111 = .ok (.getfield 22, 3) := by decide +kernel
theorem dX8_areAlike_114 : decode cX8_areAlike 114 = .ok (.bipush 49, 2) := by decide +kernel
theorem dX8_areAlike_116 : decode cX8_areAlike 116 = .ok (.iload 6, 2) := by decide +kernel
theorem dX8_areAlike_118 : decode cX8_areAlike 118 = .ok (.iadd, 1) := by decide +kernel
theorem dX8_areAlike_119 : decode cX8_areAlike 119 = .ok (.iload 7, 2) := by decide +kernel
theorem dX8_areAlike_121 : decode cX8_areAlike 121 = .ok (.iadd, 1) := by decide +kernel
theorem dX8_areAlike_122 : decode cX8_areAlike 122 = .ok (.iaload, 1) := by decide +kernel
theorem dX8_areAlike_123 : decode cX8_areAlike 123 = .ok (.if_icmp .ne 7, 3) := by decide +kernel
theorem dX8_areAlike_126 : decode cX8_areAlike 126 = .ok (.iconst 1, 1) := by decide +kernel
theorem dX8_areAlike_127 : decode cX8_areAlike 127 = .ok (.goto 4, 3) := by decide +kernel
theorem dX8_areAlike_130 : decode cX8_areAlike 130 = .ok (.iconst 0, 1) := by decide +kernel
theorem dX8_areAlike_131 : decode cX8_areAlike 131 = .ok (.istore 4, 2) := by decide +kernel
theorem dX8_areAlike_133 : decode cX8_areAlike 133 = .ok (.iinc 7 1, 3) := by decide +kernel
theorem dX8_areAlike_136 : decode cX8_areAlike 136 = .ok (.goto (-91), 3) := by decide +kernel
theorem dX8_areAlike_139 : decode cX8_areAlike 139 = .ok (.iload 4, 2) := by decide +kernel
theorem dX8_areAlike_141 : decode cX8_areAlike 141 = .ok (.ireturn, 1) := by decide +kernel
set_option maxRecDepth 20000 in
theorem ggX8_twins_X8_findsNodes : GoodIn wsX8_twins wsX8_findsNodes := goodIn_r _ [8, 2, 3, 9, 10, 7, 11, 12, 13, 14, 15, 16, 17, 18, 19, 20, 21, 22, 23, 24, 25, 26, 27, 53, 54, 55, 56, 57, 58, 59, 60, 61, 62, 63, 64, 65, 66, 67, 68, 69, 70, 71, 72, 73, 74] (by decide +kernel) (by decide +kernel)
set_option maxRecDepth 20000 in
theorem gX8_twins_X8_findsNodes : GoodIn wsX8_twins (wsV RX8 169 RX8 yX8_findsNodes wsX8_findsNodes) := goodIn_app (goodIn_of _ (by decide +kernel)) ggX8_twins_X8_findsNodes
set_option maxRecDepth 20000 in
theorem ggX8_twins_X8_areAlike : GoodIn wsX8_twins wsX8_areAlike := goodIn_r _ [31, 1, 32, 33, 7, 34, 35, 36, 37, 9, 10, 11, 12, 13, 14, 15, 16, 17, 38, 39, 40, 41, 42, 43, 44, 45, 46, 47, 21, 22, 23, 53, 54, 55, 56, 57, 58, 59, 60, 61, 62, 63, 64, 65, 66, 67, 68, 69, 70, 71, 72, 73, 74] (by decide +kernel) (by decide +kernel)
set_option maxRecDepth 20000 in
theorem gX8_twins_X8_areAlike : GoodIn wsX8_twins (wsV RX8 239 RX8 yX8_areAlike wsX8_areAlike) := goodIn_app (goodIn_of _ (by decide +kernel)) ggX8_twins_X8_areAlike
set_option maxRecDepth 20000 in
theorem ggX8_twins_X8_answer : GoodIn wsX8_twins wsX8_answer := goodIn_r _ [51, 52, 53, 54, 55, 56, 57, 58, 59, 60, 61, 62, 63, 64, 65, 66, 67, 68, 69, 70, 71, 72, 73, 74] (by decide +kernel) (by decide +kernel)
set_option maxRecDepth 20000 in
theorem gX8_twins_X8_answer : GoodIn wsX8_twins (wsV RX8 213 RX8 yX8_answer wsX8_answer) := goodIn_app (goodIn_of _ (by decide +kernel)) ggX8_twins_X8_answer
theorem dX8_twins_0 : decode cX8_twins 0 = .ok (.aload_n 0, 1) := by decide +kernel
theorem dX8_twins_1 : decode cX8_twins 1 = .ok (.aload_n 0, 1) := by decide +kernel
theorem dX8_twins_2 : decode cX8_twins 2 = .ok (.getfield 22, 3) := by decide +kernel
theorem dX8_twins_5 : decode cX8_twins 5 = .ok (.invokevirtual 169, 3) := by decide +kernel
theorem dX8_twins_8 : decode cX8_twins 8 = .ok (.iconst 0, 1) := by decide +kernel
theorem dX8_twins_9 : decode cX8_twins 9 = .ok (.istore_n 1, 1) := by decide +kernel
theorem dX8_twins_10 : decode cX8_twins 10 = .ok (.iconst 0, 1) := by decide +kernel
theorem dX8_twins_11 : decode cX8_twins 11 = .ok (.istore_n 2, 1) := by decide +kernel
theorem dX8_twins_12 : decode cX8_twins 12 = .ok (.iconst 0, 1) := by decide +kernel
theorem dX8_twins_13 : decode cX8_twins 13 = .ok (.istore_n 3, 1) := by decide +kernel
theorem dX8_twins_14 : decode cX8_twins 14 = .ok (.iload_n 3, 1) := by decide +kernel
theorem dX8_twins_15 : decode cX8_twins 15 = .ok (.aload_n 0, 1) := by decide +kernel
theorem dX8_twins_16 : decode cX8_twins 16 = .ok (.getfield 147, 3) := by decide +kernel
theorem dX8_twins_19 : decode cX8_twins 19 = .ok (.if_icmp .ge 132, 3) := by decide +kernel
theorem dX8_twins_22 : decode cX8_twins 22 = .ok (.iconst 1, 1) := by decide +kernel
theorem dX8_twins_23 : decode cX8_twins 23 = .ok (.istore 4, 2) := by decide +kernel
theorem dX8_twins_25 : decode cX8_twins 25 = .ok (.iconst 0, 1) := by decide +kernel
theorem dX8_twins_26 : decode cX8_twins 26 = .ok (.istore 5, 2) := by decide +kernel
theorem dX8_twins_28 : decode cX8_twins 28 = .ok (.iconst 0, 1) := by decide +kernel
theorem dX8_twins_29 : decode cX8_twins 29 = .ok (.istore 6, 2) := by decide +kernel
theorem dX8_twins_31 : decode cX8_twins 31 = .ok (.iload 6, 2) := by decide +kernel
theorem dX8_twins_33 : decode cX8_twins 33 = .ok (.aload_n 0, 1) := by decide +kernel
theorem dX8_twins_34 : decode cX8_twins 34 = .ok (.getfield 147, 3) := by decide +kernel
theorem dX8_twins_37 : decode cX8_twins 37 = .ok (.if_icmp .ge 82, 3) := by decide +kernel
theorem dX8_twins_40 : decode cX8_twins 40 = .ok (.iload 6, 2) := by decide +kernel
theorem dX8_twins_42 : decode cX8_twins 42 = .ok (.iload_n 3, 1) := by decide +kernel
theorem dX8_twins_43 : decode cX8_twins 43 = .ok (.if_icmp .eq 27, 3) := by decide +kernel
theorem dX8_twins_46 : decode cX8_twins 46 = .ok (.aload_n 0, 1) := by decide +kernel
theorem dX8_twins_47 : decode cX8_twins 47 = .ok (.aload_n 0, 1) := by decide +kernel
theorem dX8_twins_48 : decode cX8_twins 48 = .ok (.getfield 50, 3) := by decide +kernel
theorem dX8_twins_51 : decode cX8_twins 51 = .ok (.iload_n 3, 1) := by decide +kernel
theorem dX8_twins_52 : decode cX8_twins 52 = .ok (.iaload, 1) := by decide +kernel
theorem dX8_twins_53 : decode cX8_twins 53 = .ok (.aload_n 0, 1) := by decide +kernel
theorem dX8_twins_54 : decode cX8_twins 54 = .ok (.getfield 50, 3) := by decide +kernel
theorem dX8_twins_57 : decode cX8_twins 57 = .ok (.iload 6, 2) := by decide +kernel
theorem dX8_twins_59 : decode cX8_twins 59 = .ok (.iaload, 1) := by decide +kernel
theorem dX8_twins_60 : decode cX8_twins 60 = .ok (.invokevirtual 239, 3) := by decide +kernel
theorem dX8_twins_63 : decode cX8_twins 63 = .ok (.ifCond .eq 7, 3) := by decide +kernel
theorem dX8_twins_66 : decode cX8_twins 66 = .ok (.iconst 1, 1) := by decide +kernel
theorem dX8_twins_67 : decode cX8_twins 67 = .ok (.goto 4, 3) := by decide +kernel
theorem dX8_twins_70 : decode cX8_twins 70 = .ok (.iconst 0, 1) := by decide +kernel
theorem dX8_twins_71 : decode cX8_twins 71 = .ok (.istore 7, 2) := by decide +kernel
theorem dX8_twins_73 : decode cX8_twins 73 = .ok (.iload 5, 2) := by decide +kernel
theorem dX8_twins_75 : decode cX8_twins 75 = .ok (.ifCond .ne 8, 3) := by decide +kernel
theorem dX8_twins_78 : decode cX8_twins 78 = .ok (.iload 7, 2) := by decide +kernel
theorem dX8_twins_80 : decode cX8_twins 80 = .ok (.ifCond .eq 7, 3) := by decide +kernel
theorem dX8_twins_83 : decode cX8_twins 83 = .ok (.iconst 1, 1) := by decide +kernel
theorem dX8_twins_84 : decode cX8_twins 84 = .ok (.goto 4, 3) := by decide +kernel
theorem dX8_twins_87 : decode cX8_twins 87 = .ok (.iconst 0, 1) := by decide +kernel
theorem dX8_twins_88 : decode cX8_twins 88 = .ok (.istore 5, 2) := by decide +kernel
theorem dX8_twins_90 : decode cX8_twins 90 = .ok (.iload 4, 2) := by decide +kernel
theorem dX8_twins_92 : decode cX8_twins 92 = .ok (.ifCond .eq 18, 3) := by decide +kernel
theorem dX8_twins_95 : decode cX8_twins 95 = .ok (.iload 7, 2) := by decide +kernel
theorem dX8_twins_97 : decode cX8_twins 97 = .ok (.ifCond .eq 9, 3) := by decide +kernel
theorem dX8_twins_100 : decode cX8_twins 100 = .ok (.iload 6, 2) := by decide +kernel
theorem dX8_twins_102 : decode cX8_twins 102 = .ok (.iload_n 3, 1) := by decide +kernel
theorem dX8_twins_103 : decode cX8_twins 103 = .ok (.if_icmp .lt 7, 3) := by decide +kernel
theorem dX8_twins_106 : decode cX8_twins 106 = .ok (.iconst 1, 1) := by decide +kernel
theorem dX8_twins_107 : decode cX8_twins 107 = .ok (.goto 4, 3) := by decide +kernel
theorem dX8_twins_110 : decode cX8_twins 110 = .ok (.iconst 0, 1) := by decide +kernel
theorem dX8_twins_111 : decode cX8_twins 111 = .ok (.istore 4, 2) := by decide +kernel
theorem dX8_twins_113 : decode cX8_twins 113 = .ok (.iinc 6 1, 3) := by decide +kernel
theorem dX8_twins_116 : decode cX8_twins 116 = .ok (.goto (-85), 3) := by decide +kernel
theorem dX8_twins_119 : decode cX8_twins 119 = .ok (.iload_n 1, 1) := by decide +kernel
theorem dX8_twins_120 : decode cX8_twins 120 = .ok (.iload 4, 2) := by decide +kernel
theorem dX8_twins_122 : decode cX8_twins 122 = .ok (.ifCond .eq 7, 3) := by decide +kernel
theorem dX8_twins_125 : decode cX8_twins 125 = .ok (.iconst 1, 1) := by decide +kernel
theorem dX8_twins_126 : decode cX8_twins 126 = .ok (.goto 4, 3) := by decide +kernel
theorem dX8_twins_129 : decode cX8_twins 129 = .ok (.iconst 0, 1) := by decide +kernel
theorem dX8_twins_130 : decode cX8_twins 130 = .ok (.iadd, 1) := by decide +kernel
theorem dX8_twins_131 : decode cX8_twins 131 = .ok (.istore_n 1, 1) := by decide +kernel
theorem dX8_twins_132 : decode cX8_twins 132 = .ok (.iload_n 2, 1) := by decide +kernel
theorem dX8_twins_133 : decode cX8_twins 133 = .ok (.iload 5, 2) := by decide +kernel
theorem dX8_twins_135 : decode cX8_twins 135 = .ok (.ifCond .eq 7, 3) := by decide +kernel
theorem dX8_twins_138 : decode cX8_twins 138 = .ok (.iconst 1, 1) := by decide +kernel
theorem dX8_twins_139 : decode cX8_twins 139 = .ok (.goto 4, 3) := by decide +kernel
theorem dX8_twins_142 : decode cX8_twins 142 = .ok (.iconst 0, 1) := by decide +kernel
theorem dX8_twins_143 : decode cX8_twins 143 = .ok (.iadd, 1) := by decide +kernel
theorem dX8_twins_144 : decode cX8_twins 144 = .ok (.istore_n 2, 1) := by decide +kernel
theorem dX8_twins_145 : decode cX8_twins 145 = .ok (.iinc 3 1, 3) := by decide +kernel
theorem dX8_twins_148 : decode cX8_twins 148 = .ok (.goto (-134), 3) := by decide +kernel
theorem dX8_twins_151 : decode cX8_twins 151 = .ok (.aload_n 0, 1) := by decide +kernel
theorem dX8_twins_152 : decode cX8_twins 152 = .ok (.iload_n 1, 1) := by decide +kernel
theorem dX8_twins_153 : decode cX8_twins 153 = .ok (.iload_n 2, 1) := by decide +kernel
theorem dX8_twins_154 : decode cX8_twins 154 = .ok (.invokevirtual 213, 3) := by decide +kernel
theorem dX8_twins_157 : decode cX8_twins 157 = .ok (.ireturn, 1) := by decide +kernel
set_option maxRecDepth 20000 in
theorem ggX8_best_X8_copies : GoodIn wsX8_best wsX8_copies := goodIn_r _ [7] (by decide +kernel) (by decide +kernel)
set_option maxRecDepth 20000 in
theorem gX8_best_X8_copies : GoodIn wsX8_best (va_wsS RX8 134 yX8_copies wsX8_copies) := goodIn_app (goodIn_of _ (by decide +kernel)) ggX8_best_X8_copies
set_option maxRecDepth 20000 in
theorem ggX8_best_X8_leaves : GoodIn wsX8_best wsX8_leaves := goodIn_r _ [10] (by decide +kernel) (by decide +kernel)
set_option maxRecDepth 20000 in
theorem gX8_best_X8_leaves : GoodIn wsX8_best (va_wsS RX8 194 yX8_leaves wsX8_leaves) := goodIn_app (goodIn_of _ (by decide +kernel)) ggX8_best_X8_leaves
set_option maxRecDepth 20000 in
theorem ggX8_best_X8_allPlaces : GoodIn wsX8_best wsX8_allPlaces := goodIn_r _ [14, 15, 16, 17, 18, 19, 6, 20, 21, 22, 23, 24, 25, 26, 27, 28, 29, 30, 31, 32, 33, 34, 35, 36, 37, 38, 39, 40, 41, 42, 43, 44, 45, 46, 47, 48, 49, 50, 51, 52, 53, 54, 63, 64, 65, 66, 67, 68, 69, 70, 71, 72, 73, 74, 75, 76, 77, 78, 79, 80, 81, 82, 83, 84] (by decide +kernel) (by decide +kernel)
set_option maxRecDepth 20000 in
theorem gX8_best_X8_allPlaces : GoodIn wsX8_best (wsV RX8 243 RX8 yX8_allPlaces wsX8_allPlaces) := goodIn_app (goodIn_of _ (by decide +kernel)) ggX8_best_X8_allPlaces
set_option maxRecDepth 20000 in
theorem ggX8_best_X8_numberOf : GoodIn wsX8_best wsX8_numberOf := goodIn_r _ [57, 24, 25, 6, 26] (by decide +kernel) (by decide +kernel)
set_option maxRecDepth 20000 in
theorem gX8_best_X8_numberOf : GoodIn wsX8_best (va_wsS RX8 216 yX8_numberOf wsX8_numberOf) := goodIn_app (goodIn_of _ (by decide +kernel)) ggX8_best_X8_numberOf
set_option maxRecDepth 20000 in
theorem ggX8_best_X8_answer : GoodIn wsX8_best wsX8_answer := goodIn_r _ [61, 62, 63, 64, 65, 66, 67, 68, 69, 70, 71, 72, 73, 74, 75, 76, 77, 78, 79, 80, 81, 82, 83, 84] (by decide +kernel) (by decide +kernel)
set_option maxRecDepth 20000 in
theorem gX8_best_X8_answer : GoodIn wsX8_best (wsV RX8 213 RX8 yX8_answer wsX8_answer) := goodIn_app (goodIn_of _ (by decide +kernel)) ggX8_best_X8_answer
theorem dX8_best_0 : decode cX8_best 0 = .ok (.aload_n 0, 1) := by decide +kernel
theorem dX8_best_1 : decode cX8_best 1 = .ok (.getfield 22, 3) := by decide +kernel
theorem dX8_best_4 : decode cX8_best 4 = .ok (.iconst 0, 1) := by decide +kernel
theorem dX8_best_5 : decode cX8_best 5 = .ok (.iaload, 1) := by decide +kernel
theorem dX8_best_6 : decode cX8_best 6 = .ok (.ifCond .ne 6, 3) := by decide +kernel
theorem dX8_best_9 : decode cX8_best 9 = .ok (.bipush (-4), 2) := by decide +kernel
theorem dX8_best_11 : decode cX8_best 11 = .ok (.ireturn, 1) := by decide +kernel
theorem dX8_best_12 : decode cX8_best 12 = .ok (.iconst 0, 1) := by decide +kernel
theorem dX8_best_13 : decode cX8_best 13 = .ok (.istore_n 1, 1) := by decide +kernel
theorem dX8_best_14 : decode cX8_best 14 = .ok (.ldc 242, 2) := by decide +kernel
theorem dX8_best_16 : decode cX8_best 16 = .ok (.istore_n 2, 1) := by decide +kernel
theorem dX8_best_17 : decode cX8_best 17 = .ok (.iconst 0, 1) := by decide +kernel
theorem dX8_best_18 : decode cX8_best 18 = .ok (.istore_n 3, 1) := by decide +kernel
theorem dX8_best_19 : decode cX8_best 19 = .ok (.iload_n 3, 1) := by decide +kernel
theorem dX8_best_20 : decode cX8_best 20 = .ok (.aload_n 0, 1) := by decide +kernel
theorem dX8_best_21 : decode cX8_best 21 = .ok (.getfield 22, 3) := by decide +kernel
theorem dX8_best_24 : decode cX8_best 24 = .ok (.iconst 0, 1) := by decide +kernel
theorem dX8_best_25 : decode cX8_best 25 = .ok (.iaload, 1) := by decide +kernel
theorem dX8_best_26 : decode cX8_best 26 = .ok (.if_icmp .ge 67, 3) := by decide +kernel
theorem dX8_best_29 : decode cX8_best 29 = .ok (.aload_n 0, 1) := by decide +kernel
theorem dX8_best_30 : decode cX8_best 30 = .ok (.getfield 22, 3) := by decide +kernel
theorem dX8_best_33 : decode cX8_best 33 = .ok (.iconst 0, 1) := by decide +kernel
theorem dX8_best_34 : decode cX8_best 34 = .ok (.aload_n 0, 1) := by decide +kernel
theorem dX8_best_35 : decode cX8_best 35 = .ok (.getfield 28, 3) := by decide +kernel
theorem dX8_best_38 : decode cX8_best 38 = .ok (.iconst 0, 1) := by decide +kernel
theorem dX8_best_39 : decode cX8_best 39 = .ok (.bipush 97, 2) := by decide +kernel
theorem dX8_best_41 : decode cX8_best 41 = .ok (.invokestatic 134, 3) := by decide +kernel
theorem dX8_best_44 : decode cX8_best 44 = .ok (.aload_n 0, 1) := by decide +kernel
theorem dX8_best_45 : decode cX8_best 45 = .ok (.getfield 28, 3) := by decide +kernel
theorem dX8_best_48 : decode cX8_best 48 = .ok (.iload_n 3, 1) := by decide +kernel
theorem dX8_best_49 : decode cX8_best 49 = .ok (.invokestatic 194, 3) := by decide +kernel
theorem dX8_best_52 : decode cX8_best 52 = .ok (.aload_n 0, 1) := by decide +kernel
theorem dX8_best_53 : decode cX8_best 53 = .ok (.aload_n 0, 1) := by decide +kernel
theorem dX8_best_54 : decode cX8_best 54 = .ok (.getfield 28, 3) := by decide +kernel
theorem dX8_best_57 : decode cX8_best 57 = .ok (.invokevirtual 243, 3) := by decide +kernel
theorem dX8_best_60 : decode cX8_best 60 = .ok (.istore 4, 2) := by decide +kernel
theorem dX8_best_62 : decode cX8_best 62 = .ok (.iload 4, 2) := by decide +kernel
theorem dX8_best_64 : decode cX8_best 64 = .ok (.iload_n 2, 1) := by decide +kernel
theorem dX8_best_65 : decode cX8_best 65 = .ok (.if_icmp .ge 7, 3) := by decide +kernel
theorem dX8_best_68 : decode cX8_best 68 = .ok (.iload_n 3, 1) := by decide +kernel
theorem dX8_best_69 : decode cX8_best 69 = .ok (.goto 4, 3) := by decide +kernel
theorem dX8_best_72 : decode cX8_best 72 = .ok (.iload_n 1, 1) := by decide +kernel
theorem dX8_best_73 : decode cX8_best 73 = .ok (.istore_n 1, 1) := by decide +kernel
theorem dX8_best_74 : decode cX8_best 74 = .ok (.iload 4, 2) := by decide +kernel
theorem dX8_best_76 : decode cX8_best 76 = .ok (.iload_n 2, 1) := by decide +kernel
theorem dX8_best_77 : decode cX8_best 77 = .ok (.if_icmp .ge 8, 3) := by decide +kernel
theorem dX8_best_80 : decode cX8_best 80 = .ok (.iload 4, 2) := by decide +kernel
theorem dX8_best_82 : decode cX8_best 82 = .ok (.goto 4, 3) := by decide +kernel
theorem dX8_best_85 : decode cX8_best 85 = .ok (.iload_n 2, 1) := by decide +kernel
theorem dX8_best_86 : decode cX8_best 86 = .ok (.istore_n 2, 1) := by decide +kernel
theorem dX8_best_87 : decode cX8_best 87 = .ok (.iinc 3 1, 3) := by decide +kernel
theorem dX8_best_90 : decode cX8_best 90 = .ok (.goto (-71), 3) := by decide +kernel
theorem dX8_best_93 : decode cX8_best 93 = .ok (.aload_n 0, 1) := by decide +kernel
theorem dX8_best_94 : decode cX8_best 94 = .ok (.aload_n 0, 1) := by decide +kernel
theorem dX8_best_95 : decode cX8_best 95 = .ok (.getfield 22, 3) := by decide +kernel
theorem dX8_best_98 : decode cX8_best 98 = .ok (.iconst 1, 1) := by decide +kernel
theorem dX8_best_99 : decode cX8_best 99 = .ok (.iload_n 1, 1) := by decide +kernel
theorem dX8_best_100 : decode cX8_best 100 = .ok (.iadd, 1) := by decide +kernel
theorem dX8_best_101 : decode cX8_best 101 = .ok (.iaload, 1) := by decide +kernel
theorem dX8_best_102 : decode cX8_best 102 = .ok (.invokestatic 216, 3) := by decide +kernel
theorem dX8_best_105 : decode cX8_best 105 = .ok (.iload_n 2, 1) := by decide +kernel
theorem dX8_best_106 : decode cX8_best 106 = .ok (.invokevirtual 213, 3) := by decide +kernel
theorem dX8_best_109 : decode cX8_best 109 = .ok (.ireturn, 1) := by decide +kernel
set_option maxRecDepth 20000 in
theorem ggX8_lately_X8_numberOf : GoodIn wsX8_lately wsX8_numberOf := goodIn_r _ [6, 7, 8, 5, 9] (by decide +kernel) (by decide +kernel)
set_option maxRecDepth 20000 in
theorem gX8_lately_X8_numberOf : GoodIn wsX8_lately (va_wsS RX8 216 yX8_numberOf wsX8_numberOf) := goodIn_app (goodIn_of _ (by decide +kernel)) ggX8_lately_X8_numberOf
set_option maxRecDepth 20000 in
theorem ggX8_lately_X8_sizeOf : GoodIn wsX8_lately wsX8_sizeOf := goodIn_r _ [9] (by decide +kernel) (by decide +kernel)
set_option maxRecDepth 20000 in
theorem gX8_lately_X8_sizeOf : GoodIn wsX8_lately (va_wsS RX8 87 yX8_sizeOf wsX8_sizeOf) := goodIn_app (goodIn_of _ (by decide +kernel)) ggX8_lately_X8_sizeOf
set_option maxRecDepth 20000 in
theorem ggX8_lately_X8_answer : GoodIn wsX8_lately wsX8_answer := goodIn_r _ [13, 14, 15, 16, 17, 18, 19, 20, 21, 22, 23, 24, 25, 26, 27, 28, 29, 30, 31, 32, 33, 34, 35, 36] (by decide +kernel) (by decide +kernel)
set_option maxRecDepth 20000 in
theorem gX8_lately_X8_answer : GoodIn wsX8_lately (wsV RX8 213 RX8 yX8_answer wsX8_answer) := goodIn_app (goodIn_of _ (by decide +kernel)) ggX8_lately_X8_answer
theorem dX8_lately_0 : decode cX8_lately 0 = .ok (.iload_n 1, 1) := by decide +kernel
theorem dX8_lately_1 : decode cX8_lately 1 = .ok (.ifCond .ge 5, 3) := by decide +kernel
theorem dX8_lately_4 : decode cX8_lately 4 = .ok (.iconst (-1), 1) := by decide +kernel
theorem dX8_lately_5 : decode cX8_lately 5 = .ok (.ireturn, 1) := by decide +kernel
theorem dX8_lately_6 : decode cX8_lately 6 = .ok (.iload_n 1, 1) := by decide +kernel
theorem dX8_lately_7 : decode cX8_lately 7 = .ok (.aload_n 0, 1) := by decide +kernel
theorem dX8_lately_8 : decode cX8_lately 8 = .ok (.getfield 141, 3) := by decide +kernel
theorem dX8_lately_11 : decode cX8_lately 11 = .ok (.if_icmp .ge 28, 3) := by decide +kernel
theorem dX8_lately_14 : decode cX8_lately 14 = .ok (.aload_n 0, 1) := by decide +kernel
theorem dX8_lately_15 : decode cX8_lately 15 = .ok (.aload_n 0, 1) := by decide +kernel
theorem dX8_lately_16 : decode cX8_lately 16 = .ok (.getfield 41, 3) := by decide +kernel
theorem dX8_lately_19 : decode cX8_lately 19 = .ok (.iload_n 1, 1) := by decide +kernel
theorem dX8_lately_20 : decode cX8_lately 20 = .ok (.iaload, 1) := by decide +kernel
theorem dX8_lately_21 : decode cX8_lately 21 = .ok (.invokestatic 216, 3) := by decide +kernel
theorem dX8_lately_24 : decode cX8_lately 24 = .ok (.aload_n 0, 1) := by decide +kernel
theorem dX8_lately_25 : decode cX8_lately 25 = .ok (.getfield 41, 3) := by decide +kernel
theorem dX8_lately_28 : decode cX8_lately 28 = .ok (.iload_n 1, 1) := by decide +kernel
theorem dX8_lately_29 : decode cX8_lately 29 = .ok (.iaload, 1) := by decide +kernel
theorem dX8_lately_30 : decode cX8_lately 30 = .ok (.invokestatic 87, 3) := by decide +kernel
theorem dX8_lately_33 : decode cX8_lately 33 = .ok (.invokevirtual 213, 3) := by decide +kernel
theorem dX8_lately_36 : decode cX8_lately 36 = .ok (.goto 5, 3) := by decide +kernel
theorem dX8_lately_39 : decode cX8_lately 39 = .ok (.bipush (-9), 2) := by decide +kernel
theorem dX8_lately_41 : decode cX8_lately 41 = .ok (.ireturn, 1) := by decide +kernel
set_option maxRecDepth 20000 in
theorem ggX8_falls_X8_word : GoodIn wsX8_falls wsX8_word := goodIn_r _ [11] (by decide +kernel) (by decide +kernel)
set_option maxRecDepth 20000 in
theorem gX8_falls_X8_word : GoodIn wsX8_falls (va_wsS RX8 97 yX8_word wsX8_word) := goodIn_app (goodIn_of _ (by decide +kernel)) ggX8_falls_X8_word
set_option maxRecDepth 20000 in
theorem ggX8_falls_X8_placeOf : GoodIn wsX8_falls wsX8_placeOf := goodIn_r _ [14, 15, 16, 10, 17] (by decide +kernel) (by decide +kernel)
set_option maxRecDepth 20000 in
theorem gX8_falls_X8_placeOf : GoodIn wsX8_falls (va_wsS RX8 104 yX8_placeOf wsX8_placeOf) := goodIn_app (goodIn_of _ (by decide +kernel)) ggX8_falls_X8_placeOf
set_option maxRecDepth 20000 in
theorem ggX8_falls_X8_enters : GoodIn wsX8_falls wsX8_enters := goodIn_r _ [20, 12, 13, 10, 14, 15, 16, 17] (by decide +kernel) (by decide +kernel)
set_option maxRecDepth 20000 in
theorem gX8_falls_X8_enters : GoodIn wsX8_falls (va_wsS RX8 121 yX8_enters wsX8_enters) := goodIn_app (goodIn_of _ (by decide +kernel)) ggX8_falls_X8_enters
set_option maxRecDepth 20000 in
theorem ggX8_falls_X8_leaves : GoodIn wsX8_falls wsX8_leaves := goodIn_r _ [23] (by decide +kernel) (by decide +kernel)
set_option maxRecDepth 20000 in
theorem gX8_falls_X8_leaves : GoodIn wsX8_falls (va_wsS RX8 194 yX8_leaves wsX8_leaves) := goodIn_app (goodIn_of _ (by decide +kernel)) ggX8_falls_X8_leaves
theorem dX8_falls_0 : decode cX8_falls 0 = .ok (.lload_n 1, 1) := by decide +kernel
theorem dX8_falls_1 : decode cX8_falls 1 = .ok (.ldc2_w 69, 3) := by decide +kernel
theorem dX8_falls_4 : decode cX8_falls 4 = .ok (.lrem, 1) := by decide +kernel
theorem dX8_falls_5 : decode cX8_falls 5 = .ok (.l2i, 1) := by decide +kernel
theorem dX8_falls_6 : decode cX8_falls 6 = .ok (.iconst 1, 1) := by decide +kernel
theorem dX8_falls_7 : decode cX8_falls 7 = .ok (.iadd, 1) := by decide +kernel
theorem dX8_falls_8 : decode cX8_falls 8 = .ok (.istore_n 3, 1) := by decide +kernel
theorem dX8_falls_9 : decode cX8_falls 9 = .ok (.iconst 0, 1) := by decide +kernel
theorem dX8_falls_10 : decode cX8_falls 10 = .ok (.istore 4, 2) := by decide +kernel
theorem dX8_falls_12 : decode cX8_falls 12 = .ok (.ldc2_w 247, 3) := by decide +kernel
theorem dX8_falls_15 : decode cX8_falls 15 = .ok (.lstore 5, 2) := by decide +kernel
theorem dX8_falls_17 : decode cX8_falls 17 = .ok (.iconst 0, 1) := by decide +kernel
theorem dX8_falls_18 : decode cX8_falls 18 = .ok (.istore 7, 2) := by decide +kernel
theorem dX8_falls_20 : decode cX8_falls 20 = .ok (.iload 7, 2) := by decide +kernel
theorem dX8_falls_22 : decode cX8_falls 22 = .ok (.iload_n 3, 1) := by decide +kernel
theorem dX8_falls_23 : decode cX8_falls 23 = .ok (.if_icmp .ge 49, 3) := by decide +kernel
theorem dX8_falls_26 : decode cX8_falls 26 = .ok (.lload_n 1, 1) := by decide +kernel
theorem dX8_falls_27 : decode cX8_falls 27 = .ok (.lload 5, 2) := by decide +kernel
theorem dX8_falls_29 : decode cX8_falls 29 = .ok (.ldiv, 1) := by decide +kernel
theorem dX8_falls_30 : decode cX8_falls 30 = .ok (.ldc2_w 222, 3) := by decide +kernel
theorem dX8_falls_33 : decode cX8_falls 33 = .ok (.lrem, 1) := by decide +kernel
theorem dX8_falls_34 : decode cX8_falls 34 = .ok (.l2i, 1) := by decide +kernel
theorem dX8_falls_35 : decode cX8_falls 35 = .ok (.istore 8, 2) := by decide +kernel
theorem dX8_falls_37 : decode cX8_falls 37 = .ok (.bipush 16, 2) := by decide +kernel
theorem dX8_falls_39 : decode cX8_falls 39 = .ok (.iload 4, 2) := by decide +kernel
theorem dX8_falls_41 : decode cX8_falls 41 = .ok (.imul, 1) := by decide +kernel
theorem dX8_falls_42 : decode cX8_falls 42 = .ok (.iload 8, 2) := by decide +kernel
theorem dX8_falls_44 : decode cX8_falls 44 = .ok (.iconst 3, 1) := by decide +kernel
theorem dX8_falls_45 : decode cX8_falls 45 = .ok (.if_icmp .ne 8, 3) := by decide +kernel
theorem dX8_falls_48 : decode cX8_falls 48 = .ok (.bipush 15, 2) := by decide +kernel
theorem dX8_falls_50 : decode cX8_falls 50 = .ok (.goto 5, 3) := by decide +kernel
theorem dX8_falls_53 : decode cX8_falls 53 = .ok (.iload 8, 2) := by decide +kernel
theorem dX8_falls_55 : decode cX8_falls 55 = .ok (.iadd, 1) := by decide +kernel
theorem dX8_falls_56 : decode cX8_falls 56 = .ok (.istore 4, 2) := by decide +kernel
theorem dX8_falls_58 : decode cX8_falls 58 = .ok (.lload 5, 2) := by decide +kernel
theorem dX8_falls_60 : decode cX8_falls 60 = .ok (.ldc2_w 222, 3) := by decide +kernel
theorem dX8_falls_63 : decode cX8_falls 63 = .ok (.lmul, 1) := by decide +kernel
theorem dX8_falls_64 : decode cX8_falls 64 = .ok (.lstore 5, 2) := by decide +kernel
theorem dX8_falls_66 : decode cX8_falls 66 = .ok (.iinc 7 1, 3) := by decide +kernel
theorem dX8_falls_69 : decode cX8_falls 69 = .ok (.goto (-49), 3) := by decide +kernel
theorem dX8_falls_72 : decode cX8_falls 72 = .ok (.aload_n 0, 1) := by decide +kernel
theorem dX8_falls_73 : decode cX8_falls 73 = .ok (.getfield 22, 3) := by decide +kernel
theorem dX8_falls_76 : decode cX8_falls 76 = .ok (.iload 4, 2) := by decide +kernel
theorem dX8_falls_78 : decode cX8_falls 78 = .ok (.iload_n 3, 1) := by decide +kernel
theorem dX8_falls_79 : decode cX8_falls 79 = .ok (.invokestatic 97, 3) := by decide +kernel
theorem dX8_falls_82 : decode cX8_falls 82 = .ok (.invokestatic 104, 3) := by decide +kernel
theorem dX8_falls_85 : decode cX8_falls 85 = .ok (.istore 7, 2) := by decide +kernel
theorem dX8_falls_87 : decode cX8_falls 87 = .ok (.lload_n 1, 1) := by decide +kernel
theorem dX8_falls_88 : decode cX8_falls 88 = .ok (.ldc2_w 222, 3) := by decide +kernel
theorem dX8_falls_91 : decode cX8_falls 91 = .ok (.ldiv, 1) := by decide +kernel
theorem dX8_falls_92 : decode cX8_falls 92 = .ok (.ldc2_w 201, 3) := by decide +kernel
theorem dX8_falls_95 : decode cX8_falls 95 = .ok (.lrem, 1) := by decide +kernel
theorem dX8_falls_96 : decode cX8_falls 96 = .ok (.lconst 0, 1) := by decide +kernel
theorem dX8_falls_97 : decode cX8_falls 97 = .ok (.lcmp, 1) := by decide +kernel
theorem dX8_falls_98 : decode cX8_falls 98 = .ok (.ifCond .ne 47, 3) := by decide +kernel
theorem dX8_falls_101 : decode cX8_falls 101 = .ok (.iload 7, 2) := by decide +kernel
theorem dX8_falls_103 : decode cX8_falls 103 = .ok (.bipush (-9), 2) := by decide +kernel
theorem dX8_falls_105 : decode cX8_falls 105 = .ok (.if_icmp .ne 14, 3) := by decide +kernel
theorem dX8_falls_108 : decode cX8_falls 108 = .ok (.aload_n 0, 1) := by decide +kernel
theorem dX8_falls_109 : decode cX8_falls 109 = .ok (.getfield 22, 3) := by decide +kernel
theorem dX8_falls_112 : decode cX8_falls 112 = .ok (.iconst 0, 1) := by decide +kernel
theorem dX8_falls_113 : decode cX8_falls 113 = .ok (.iaload, 1) := by decide +kernel
theorem dX8_falls_114 : decode cX8_falls 114 = .ok (.bipush 48, 2) := by decide +kernel
theorem dX8_falls_116 : decode cX8_falls 116 = .ok (.if_icmp .ge 45, 3) := by decide +kernel
theorem dX8_falls_119 : decode cX8_falls 119 = .ok (.aload_n 0, 1) := by decide +kernel
theorem dX8_falls_120 : decode cX8_falls 120 = .ok (.getfield 22, 3) := by decide +kernel
theorem dX8_falls_123 : decode cX8_falls 123 = .ok (.iload 4, 2) := by decide +kernel
theorem dX8_falls_125 : decode cX8_falls 125 = .ok (.iload_n 3, 1) := by decide +kernel
theorem dX8_falls_126 : decode cX8_falls 126 = .ok (.invokestatic 97, 3) := by decide +kernel
theorem dX8_falls_129 : decode cX8_falls 129 = .ok (.lload_n 1, 1) := by decide +kernel
theorem dX8_falls_130 : decode cX8_falls 130 = .ok (.ldc2_w 249, 3) := by decide +kernel
theorem dX8_falls_133 : decode cX8_falls 133 = .ok (.ldiv, 1) := by decide +kernel
theorem dX8_falls_134 : decode cX8_falls 134 = .ok (.ldc2_w 251, 3) := by decide +kernel
theorem dX8_falls_137 : decode cX8_falls 137 = .ok (.lrem, 1) := by decide +kernel
theorem dX8_falls_138 : decode cX8_falls 138 = .ok (.l2i, 1) := by decide +kernel
theorem dX8_falls_139 : decode cX8_falls 139 = .ok (.invokestatic 121, 3) := by decide +kernel
theorem dX8_falls_142 : decode cX8_falls 142 = .ok (.goto 19, 3) := by decide +kernel
theorem dX8_falls_145 : decode cX8_falls 145 = .ok (.iload 7, 2) := by decide +kernel
theorem dX8_falls_147 : decode cX8_falls 147 = .ok (.bipush (-9), 2) := by decide +kernel
theorem dX8_falls_149 : decode cX8_falls 149 = .ok (.if_icmp .eq 12, 3) := by decide +kernel
theorem dX8_falls_152 : decode cX8_falls 152 = .ok (.aload_n 0, 1) := by decide +kernel
theorem dX8_falls_153 : decode cX8_falls 153 = .ok (.getfield 22, 3) := by decide +kernel
theorem dX8_falls_156 : decode cX8_falls 156 = .ok (.iload 7, 2) := by decide +kernel
theorem dX8_falls_158 : decode cX8_falls 158 = .ok (.invokestatic 194, 3) := by decide +kernel
theorem dX8_falls_161 : decode cX8_falls 161 = .ok (.return_, 1) := by decide +kernel
set_option maxRecDepth 20000 in
theorem ggX8_lots_X8_in : GoodIn wsX8_lots wsX8_in := goodIn_r _ [10] (by decide +kernel) (by decide +kernel)
set_option maxRecDepth 20000 in
theorem gX8_lots_X8_in : GoodIn wsX8_lots (va_wsS RX8 65 yX8_in wsX8_in) := goodIn_app (goodIn_of _ (by decide +kernel)) ggX8_lots_X8_in
set_option maxRecDepth 20000 in
theorem ggX8_lots_X8_notes : GoodIn wsX8_lots wsX8_notes := goodIn_r _ [14, 6, 15, 3, 16, 17, 9, 18, 49, 50, 51, 52, 53, 54, 55, 56, 57, 58, 59, 60, 61, 62, 63, 64, 65, 66, 67, 68, 69, 70] (by decide +kernel) (by decide +kernel)
set_option maxRecDepth 20000 in
theorem gX8_lots_X8_notes : GoodIn wsX8_lots (wsV RX8 188 RX8 yX8_notes wsX8_notes) := goodIn_app (goodIn_of _ (by decide +kernel)) ggX8_lots_X8_notes
set_option maxRecDepth 20000 in
theorem ggX8_lots_X8_falls : GoodIn wsX8_lots wsX8_falls := goodIn_r _ [22, 23, 24, 25, 6, 26, 27, 28, 29, 30, 9, 31, 32, 33, 34, 35, 36, 37, 38, 39, 40, 41, 42, 43, 49, 50, 51, 52, 53, 54, 55, 56, 57, 58, 59, 60, 61, 62, 63, 64, 65, 66, 67, 68, 69, 70] (by decide +kernel) (by decide +kernel)
set_option maxRecDepth 20000 in
theorem gX8_lots_X8_falls : GoodIn wsX8_lots (wsV RX8 261 RX8 yX8_falls wsX8_falls) := goodIn_app (goodIn_of _ (by decide +kernel)) ggX8_lots_X8_falls
set_option maxRecDepth 20000 in
theorem ggX8_lots_X8_noChange : GoodIn wsX8_lots wsX8_noChange := goodIn_r _ [47, 48, 49, 50, 51, 52, 53, 54, 55, 56, 57, 58, 59, 60, 61, 62, 63, 64, 65, 66, 67, 68, 69, 70] (by decide +kernel) (by decide +kernel)
set_option maxRecDepth 20000 in
theorem gX8_lots_X8_noChange : GoodIn wsX8_lots (wsV RX8 144 RX8 yX8_noChange wsX8_noChange) := goodIn_app (goodIn_of _ (by decide +kernel)) ggX8_lots_X8_noChange
theorem dX8_lots_0 : decode cX8_lots 0 = .ok (.iload_n 1, 1) := by decide +kernel
theorem dX8_lots_1 : decode cX8_lots 1 = .ok (.i2l, 1) := by decide +kernel
theorem dX8_lots_2 : decode cX8_lots 2 = .ok (.lconst 1, 1) := by decide +kernel
theorem dX8_lots_3 : decode cX8_lots 3 = .ok (.ldc2_w 253, 3) := by decide +kernel
theorem dX8_lots_6 : decode cX8_lots 6 = .ok (.invokestatic 65, 3) := by decide +kernel
theorem dX8_lots_9 : decode cX8_lots 9 = .ok (.ifCond .eq 15, 3) := by decide +kernel
theorem dX8_lots_12 : decode cX8_lots 12 = .ok (.iload_n 2, 1) := by decide +kernel
theorem dX8_lots_13 : decode cX8_lots 13 = .ok (.i2l, 1) := by decide +kernel
theorem dX8_lots_14 : decode cX8_lots 14 = .ok (.lconst 1, 1) := by decide +kernel
theorem dX8_lots_15 : decode cX8_lots 15 = .ok (.ldc2_w 255, 3) := by decide +kernel
theorem dX8_lots_18 : decode cX8_lots 18 = .ok (.invokestatic 65, 3) := by decide +kernel
theorem dX8_lots_21 : decode cX8_lots 21 = .ok (.ifCond .ne 5, 3) := by decide +kernel
theorem dX8_lots_24 : decode cX8_lots 24 = .ok (.iconst (-1), 1) := by decide +kernel
theorem dX8_lots_25 : decode cX8_lots 25 = .ok (.ireturn, 1) := by decide +kernel
theorem dX8_lots_26 : decode cX8_lots 26 = .ok (.aload_n 0, 1) := by decide +kernel
theorem dX8_lots_27 : decode cX8_lots 27 = .ok (.getfield 138, 3) := by decide +kernel
theorem dX8_lots_30 : decode cX8_lots 30 = .ok (.iload_n 1, 1) := by decide +kernel
theorem dX8_lots_31 : decode cX8_lots 31 = .ok (.iadd, 1) := by decide +kernel
theorem dX8_lots_32 : decode cX8_lots 32 = .ok (.bipush 40, 2) := by decide +kernel
theorem dX8_lots_34 : decode cX8_lots 34 = .ok (.if_icmp .le 6, 3) := by decide +kernel
theorem dX8_lots_37 : decode cX8_lots 37 = .ok (.bipush (-2), 2) := by decide +kernel
theorem dX8_lots_39 : decode cX8_lots 39 = .ok (.ireturn, 1) := by decide +kernel
theorem dX8_lots_40 : decode cX8_lots 40 = .ok (.iload_n 2, 1) := by decide +kernel
theorem dX8_lots_41 : decode cX8_lots 41 = .ok (.i2l, 1) := by decide +kernel
theorem dX8_lots_42 : decode cX8_lots 42 = .ok (.lstore_n 3, 1) := by decide +kernel
theorem dX8_lots_43 : decode cX8_lots 43 = .ok (.iconst 0, 1) := by decide +kernel
theorem dX8_lots_44 : decode cX8_lots 44 = .ok (.istore 5, 2) := by decide +kernel
theorem dX8_lots_46 : decode cX8_lots 46 = .ok (.iload 5, 2) := by decide +kernel
theorem dX8_lots_48 : decode cX8_lots 48 = .ok (.iload_n 1, 1) := by decide +kernel
theorem dX8_lots_49 : decode cX8_lots 49 = .ok (.if_icmp .ge 28, 3) := by decide +kernel
theorem dX8_lots_52 : decode cX8_lots 52 = .ok (.lload_n 3, 1) := by decide +kernel
theorem dX8_lots_53 : decode cX8_lots 53 = .ok (.ldc2_w 257, 3) := by decide +kernel
theorem dX8_lots_56 : decode cX8_lots 56 = .ok (.lmul, 1) := by decide +kernel
theorem dX8_lots_57 : decode cX8_lots 57 = .ok (.ldc2_w 259, 3) := by decide +kernel
theorem dX8_lots_60 : decode cX8_lots 60 = .ok (.lrem, 1) := by decide +kernel
theorem dX8_lots_61 : decode cX8_lots 61 = .ok (.lstore_n 3, 1) := by decide +kernel
theorem dX8_lots_62 : decode cX8_lots 62 = .ok (.aload_n 0, 1) := by decide +kernel
theorem dX8_lots_63 : decode cX8_lots 63 = .ok (.invokevirtual 188, 3) := by decide +kernel
theorem dX8_lots_66 : decode cX8_lots 66 = .ok (.aload_n 0, 1) := by decide +kernel
theorem dX8_lots_67 : decode cX8_lots 67 = .ok (.lload_n 3, 1) := by decide +kernel
theorem dX8_lots_68 : decode cX8_lots 68 = .ok (.invokevirtual 261, 3) := by decide +kernel
theorem dX8_lots_71 : decode cX8_lots 71 = .ok (.iinc 5 1, 3) := by decide +kernel
theorem dX8_lots_74 : decode cX8_lots 74 = .ok (.goto (-28), 3) := by decide +kernel
theorem dX8_lots_77 : decode cX8_lots 77 = .ok (.aload_n 0, 1) := by decide +kernel
theorem dX8_lots_78 : decode cX8_lots 78 = .ok (.invokevirtual 144, 3) := by decide +kernel
theorem dX8_lots_81 : decode cX8_lots 81 = .ok (.aload_n 0, 1) := by decide +kernel
theorem dX8_lots_82 : decode cX8_lots 82 = .ok (.getfield 22, 3) := by decide +kernel
theorem dX8_lots_85 : decode cX8_lots 85 = .ok (.iconst 0, 1) := by decide +kernel
theorem dX8_lots_86 : decode cX8_lots 86 = .ok (.iaload, 1) := by decide +kernel
theorem dX8_lots_87 : decode cX8_lots 87 = .ok (.ireturn, 1) := by decide +kernel
theorem dX8_asked_0 : decode cX8_asked 0 = .ok (.aload_n 0, 1) := by decide +kernel
theorem dX8_asked_1 : decode cX8_asked 1 = .ok (.getfield 60, 3) := by decide +kernel
theorem dX8_asked_4 : decode cX8_asked 4 = .ok (.ireturn, 1) := by decide +kernel
theorem dX8_there_0 : decode cX8_there 0 = .ok (.iconst 0, 1) := by decide +kernel
theorem dX8_there_1 : decode cX8_there 1 = .ok (.istore_n 2, 1) := by decide +kernel
theorem dX8_there_2 : decode cX8_there 2 = .ok (.iconst 0, 1) := by decide +kernel
theorem dX8_there_3 : decode cX8_there 3 = .ok (.istore_n 3, 1) := by decide +kernel
theorem dX8_there_4 : decode cX8_there 4 = .ok (.iload_n 3, 1) := by decide +kernel
theorem dX8_there_5 : decode cX8_there 5 = .ok (.iload_n 1, 1) := by decide +kernel
theorem dX8_there_6 : decode cX8_there 6 = .ok (.if_icmp .ge 23, 3) := by decide +kernel
theorem dX8_there_9 : decode cX8_there 9 = .ok (.iload_n 2, 1) := by decide +kernel
theorem dX8_there_10 : decode cX8_there 10 = .ok (.aload_n 0, 1) := by decide +kernel
theorem dX8_there_11 : decode cX8_there 11 = .ok (.iload_n 3, 1) := by decide +kernel
theorem dX8_there_12 : decode cX8_there 12 = .ok (.iaload, 1) := by decide +kernel
theorem dX8_there_13 : decode cX8_there 13 = .ok (.ifCond .ge 7, 3) := by decide +kernel
theorem dX8_there_16 : decode cX8_there 16 = .ok (.iconst 0, 1) := by decide +kernel
theorem dX8_there_17 : decode cX8_there 17 = .ok (.goto 4, 3) := by decide +kernel
theorem dX8_there_20 : decode cX8_there 20 = .ok (.iconst 1, 1) := by decide +kernel
theorem dX8_there_21 : decode cX8_there 21 = .ok (.iadd, 1) := by decide +kernel
theorem dX8_there_22 : decode cX8_there 22 = .ok (.istore_n 2, 1) := by decide +kernel
theorem dX8_there_23 : decode cX8_there 23 = .ok (.iinc 3 1, 3) := by decide +kernel
theorem dX8_there_26 : decode cX8_there 26 = .ok (.goto (-22), 3) := by decide +kernel
theorem dX8_there_29 : decode cX8_there 29 = .ok (.iload_n 2, 1) := by decide +kernel
theorem dX8_there_30 : decode cX8_there 30 = .ok (.ireturn, 1) := by decide +kernel
set_option maxRecDepth 20000 in
theorem ggX8_ofSize_X8_childrenOf : GoodIn wsX8_ofSize wsX8_childrenOf := goodIn_r _ [7, 8, 9, 6, 10, 11, 12, 13, 14, 15, 16, 17, 18, 19] (by decide +kernel) (by decide +kernel)
set_option maxRecDepth 20000 in
theorem gX8_ofSize_X8_childrenOf : GoodIn wsX8_ofSize (va_wsS RX8 163 yX8_childrenOf wsX8_childrenOf) := goodIn_app (goodIn_of _ (by decide +kernel)) ggX8_ofSize_X8_childrenOf
set_option maxRecDepth 20000 in
theorem ggX8_ofSize_X8_sizeNumber : GoodIn wsX8_ofSize wsX8_sizeNumber := goodIn_r _ [22, 23, 24, 6, 25] (by decide +kernel) (by decide +kernel)
set_option maxRecDepth 20000 in
theorem gX8_ofSize_X8_sizeNumber : GoodIn wsX8_ofSize (va_wsS RX8 166 yX8_sizeNumber wsX8_sizeNumber) := goodIn_app (goodIn_of _ (by decide +kernel)) ggX8_ofSize_X8_sizeNumber
theorem dX8_ofSize_0 : decode cX8_ofSize 0 = .ok (.iconst 0, 1) := by decide +kernel
theorem dX8_ofSize_1 : decode cX8_ofSize 1 = .ok (.istore_n 2, 1) := by decide +kernel
theorem dX8_ofSize_2 : decode cX8_ofSize 2 = .ok (.iconst 0, 1) := by decide +kernel
theorem dX8_ofSize_3 : decode cX8_ofSize 3 = .ok (.istore_n 3, 1) := by decide +kernel
theorem dX8_ofSize_4 : decode cX8_ofSize 4 = .ok (.iload_n 3, 1) := by decide +kernel
theorem dX8_ofSize_5 : decode cX8_ofSize 5 = .ok (.aload_n 0, 1) := by decide +kernel
theorem dX8_ofSize_6 : decode cX8_ofSize 6 = .ok (.getfield 147, 3) := by decide +kernel
theorem dX8_ofSize_9 : decode cX8_ofSize 9 = .ok (.if_icmp .ge 37, 3) := by decide +kernel
theorem dX8_ofSize_12 : decode cX8_ofSize 12 = .ok (.iload_n 2, 1) := by decide +kernel
theorem dX8_ofSize_13 : decode cX8_ofSize 13 = .ok (.aload_n 0, 1) := by decide +kernel
theorem dX8_ofSize_14 : decode cX8_ofSize 14 = .ok (.getfield 22, 3) := by decide +kernel
theorem dX8_ofSize_17 : decode cX8_ofSize 17 = .ok (.aload_n 0, 1) := by decide +kernel
theorem dX8_ofSize_18 : decode cX8_ofSize 18 = .ok (.getfield 50, 3) := by decide +kernel
theorem dX8_ofSize_21 : decode cX8_ofSize 21 = .ok (.iload_n 3, 1) := by decide +kernel
theorem dX8_ofSize_22 : decode cX8_ofSize 22 = .ok (.iaload, 1) := by decide +kernel
theorem dX8_ofSize_23 : decode cX8_ofSize 23 = .ok (.invokestatic 163, 3) := by decide +kernel
theorem dX8_ofSize_26 : decode cX8_ofSize 26 = .ok (.invokestatic 166, 3) := by decide +kernel
theorem dX8_ofSize_29 : decode cX8_ofSize 29 = .ok (.iload_n 1, 1) := by decide +kernel
theorem dX8_ofSize_30 : decode cX8_ofSize 30 = .ok (.if_icmp .ne 7, 3) := by decide +kernel
theorem dX8_ofSize_33 : decode cX8_ofSize 33 = .ok (.iconst 1, 1) := by decide +kernel
theorem dX8_ofSize_34 : decode cX8_ofSize 34 = .ok (.goto 4, 3) := by decide +kernel
theorem dX8_ofSize_37 : decode cX8_ofSize 37 = .ok (.iconst 0, 1) := by decide +kernel
theorem dX8_ofSize_38 : decode cX8_ofSize 38 = .ok (.iadd, 1) := by decide +kernel
theorem dX8_ofSize_39 : decode cX8_ofSize 39 = .ok (.istore_n 2, 1) := by decide +kernel
theorem dX8_ofSize_40 : decode cX8_ofSize 40 = .ok (.iinc 3 1, 3) := by decide +kernel
theorem dX8_ofSize_43 : decode cX8_ofSize 43 = .ok (.goto (-39), 3) := by decide +kernel
theorem dX8_ofSize_46 : decode cX8_ofSize 46 = .ok (.iload_n 2, 1) := by decide +kernel
theorem dX8_ofSize_47 : decode cX8_ofSize 47 = .ok (.ireturn, 1) := by decide +kernel
set_option maxRecDepth 20000 in
theorem ggX8_mostHeads_X8_headsOf : GoodIn wsX8_mostHeads wsX8_headsOf := goodIn_r _ [6, 7, 8, 9, 10, 5, 11, 12, 13, 14, 15, 16, 17, 18, 19, 20, 24, 25, 26, 27, 28, 29, 30, 31, 32, 33, 34, 35, 36, 37, 38, 39, 40, 41, 42, 43, 44, 45] (by decide +kernel) (by decide +kernel)
set_option maxRecDepth 20000 in
theorem gX8_mostHeads_X8_headsOf : GoodIn wsX8_mostHeads (wsV RX8 210 RX8 yX8_headsOf wsX8_headsOf) := goodIn_app (goodIn_of _ (by decide +kernel)) ggX8_mostHeads_X8_headsOf
set_option maxRecDepth 20000 in
theorem ggX8_mostHeads_X8_more : GoodIn wsX8_mostHeads wsX8_more := goodIn_r _ [23] (by decide +kernel) (by decide +kernel)
set_option maxRecDepth 20000 in
theorem gX8_mostHeads_X8_more : GoodIn wsX8_mostHeads (va_wsS RX8 176 yX8_more wsX8_more) := goodIn_app (goodIn_of _ (by decide +kernel)) ggX8_mostHeads_X8_more
theorem dX8_mostHeads_0 : decode cX8_mostHeads 0 = .ok (.iconst 0, 1) := by decide +kernel
theorem dX8_mostHeads_1 : decode cX8_mostHeads 1 = .ok (.istore_n 1, 1) := by decide +kernel
theorem dX8_mostHeads_2 : decode cX8_mostHeads 2 = .ok (.iconst 0, 1) := by decide +kernel
theorem dX8_mostHeads_3 : decode cX8_mostHeads 3 = .ok (.istore_n 2, 1) := by decide +kernel
theorem dX8_mostHeads_4 : decode cX8_mostHeads 4 = .ok (.iload_n 2, 1) := by decide +kernel
theorem dX8_mostHeads_5 : decode cX8_mostHeads 5 = .ok (.aload_n 0, 1) := by decide +kernel
theorem dX8_mostHeads_6 : decode cX8_mostHeads 6 = .ok (.getfield 22, 3) := by decide +kernel
theorem dX8_mostHeads_9 : decode cX8_mostHeads 9 = .ok (.iconst 0, 1) := by decide +kernel
theorem dX8_mostHeads_10 : decode cX8_mostHeads 10 = .ok (.iaload, 1) := by decide +kernel
theorem dX8_mostHeads_11 : decode cX8_mostHeads 11 = .ok (.if_icmp .ge 26, 3) := by decide +kernel
theorem dX8_mostHeads_14 : decode cX8_mostHeads 14 = .ok (.iload_n 1, 1) := by decide +kernel
theorem dX8_mostHeads_15 : decode cX8_mostHeads 15 = .ok (.aload_n 0, 1) := by decide +kernel
theorem dX8_mostHeads_16 : decode cX8_mostHeads 16 = .ok (.aload_n 0, 1) := by decide +kernel
theorem dX8_mostHeads_17 : decode cX8_mostHeads 17 = .ok (.getfield 22, 3) := by decide +kernel
theorem dX8_mostHeads_20 : decode cX8_mostHeads 20 = .ok (.iconst 1, 1) := by decide +kernel
theorem dX8_mostHeads_21 : decode cX8_mostHeads 21 = .ok (.iload_n 2, 1) := by decide +kernel
theorem dX8_mostHeads_22 : decode cX8_mostHeads 22 = .ok (.iadd, 1) := by decide +kernel
theorem dX8_mostHeads_23 : decode cX8_mostHeads 23 = .ok (.iaload, 1) := by decide +kernel
theorem dX8_mostHeads_24 : decode cX8_mostHeads 24 = .ok (.invokevirtual 210, 3) := by decide +kernel
theorem dX8_mostHeads_27 : decode cX8_mostHeads 27 = .ok (.invokestatic 176, 3) := by decide +kernel
theorem dX8_mostHeads_30 : decode cX8_mostHeads 30 = .ok (.istore_n 1, 1) := by decide +kernel
theorem dX8_mostHeads_31 : decode cX8_mostHeads 31 = .ok (.iinc 2 1, 3) := by decide +kernel
theorem dX8_mostHeads_34 : decode cX8_mostHeads 34 = .ok (.goto (-30), 3) := by decide +kernel
theorem dX8_mostHeads_37 : decode cX8_mostHeads 37 = .ok (.iload_n 1, 1) := by decide +kernel
theorem dX8_mostHeads_38 : decode cX8_mostHeads 38 = .ok (.ireturn, 1) := by decide +kernel
set_option maxRecDepth 20000 in
theorem ggX8_longestPrefix_X8_prefixOf : GoodIn wsX8_longestPrefix wsX8_prefixOf := goodIn_r _ [7, 1, 2, 8, 9, 6, 10, 11, 12, 13, 14, 15, 16, 17, 18, 19, 20, 21, 22, 23, 24, 25, 26, 27, 28, 29, 30, 31, 32, 33, 34, 35, 36, 37, 38, 39, 40, 41, 42, 43, 44] (by decide +kernel) (by decide +kernel)
set_option maxRecDepth 20000 in
theorem gX8_longestPrefix_X8_prefixOf : GoodIn wsX8_longestPrefix (wsV RX8 224 RX8 yX8_prefixOf wsX8_prefixOf) := goodIn_app (goodIn_of _ (by decide +kernel)) ggX8_longestPrefix_X8_prefixOf
set_option maxRecDepth 20000 in
theorem ggX8_longestPrefix_X8_more : GoodIn wsX8_longestPrefix wsX8_more := goodIn_r _ [22] (by decide +kernel) (by decide +kernel)
set_option maxRecDepth 20000 in
theorem gX8_longestPrefix_X8_more : GoodIn wsX8_longestPrefix (va_wsS RX8 176 yX8_more wsX8_more) := goodIn_app (goodIn_of _ (by decide +kernel)) ggX8_longestPrefix_X8_more
theorem dX8_longestPrefix_0 : decode cX8_longestPrefix 0 = .ok (.iconst 0, 1) := by decide +kernel
theorem dX8_longestPrefix_1 : decode cX8_longestPrefix 1 = .ok (.istore_n 1, 1) := by decide +kernel
theorem dX8_longestPrefix_2 : decode cX8_longestPrefix 2 = .ok (.iconst 0, 1) := by decide +kernel
theorem dX8_longestPrefix_3 : decode cX8_longestPrefix 3 = .ok (.istore_n 2, 1) := by decide +kernel
theorem dX8_longestPrefix_4 : decode cX8_longestPrefix 4 = .ok (.iload_n 2, 1) := by decide +kernel
theorem dX8_longestPrefix_5 : decode cX8_longestPrefix 5 = .ok (.aload_n 0, 1) := by decide +kernel
theorem dX8_longestPrefix_6 : decode cX8_longestPrefix 6 = .ok (.getfield 147, 3) := by decide +kernel
theorem dX8_longestPrefix_9 : decode cX8_longestPrefix 9 = .ok (.if_icmp .ge 24, 3) := by decide +kernel
theorem dX8_longestPrefix_12 : decode cX8_longestPrefix 12 = .ok (.iload_n 1, 1) := by decide +kernel
theorem dX8_longestPrefix_13 : decode cX8_longestPrefix 13 = .ok (.aload_n 0, 1) := by decide +kernel
theorem dX8_longestPrefix_14 : decode cX8_longestPrefix 14 = .ok (.aload_n 0, 1) := by decide +kernel
theorem dX8_longestPrefix_15 : decode cX8_longestPrefix 15 = .ok (.getfield 50, 3) := by decide +kernel
theorem dX8_longestPrefix_18 : decode cX8_longestPrefix 18 = .ok (.iload_n 2, 1) := by decide +kernel
theorem dX8_longestPrefix_19 : decode cX8_longestPrefix 19 = .ok (.iaload, 1) := by decide +kernel
theorem dX8_longestPrefix_20 : decode cX8_longestPrefix 20 = .ok (.invokevirtual 224, 3) := by decide +kernel
theorem dX8_longestPrefix_23 : decode cX8_longestPrefix 23 = .ok (.invokestatic 176, 3) := by decide +kernel
theorem dX8_longestPrefix_26 : decode cX8_longestPrefix 26 = .ok (.istore_n 1, 1) := by decide +kernel
theorem dX8_longestPrefix_27 : decode cX8_longestPrefix 27 = .ok (.iinc 2 1, 3) := by decide +kernel
theorem dX8_longestPrefix_30 : decode cX8_longestPrefix 30 = .ok (.goto (-26), 3) := by decide +kernel
theorem dX8_longestPrefix_33 : decode cX8_longestPrefix 33 = .ok (.iload_n 1, 1) := by decide +kernel
theorem dX8_longestPrefix_34 : decode cX8_longestPrefix 34 = .ok (.ireturn, 1) := by decide +kernel
set_option maxRecDepth 20000 in
theorem ggX8_count_X8_in : GoodIn wsX8_count wsX8_in := goodIn_r _ [12] (by decide +kernel) (by decide +kernel)
set_option maxRecDepth 20000 in
theorem gX8_count_X8_in : GoodIn wsX8_count (va_wsS RX8 65 yX8_in wsX8_in) := goodIn_app (goodIn_of _ (by decide +kernel)) ggX8_count_X8_in
set_option maxRecDepth 20000 in
theorem ggX8_count_X8_findsNodes : GoodIn wsX8_count wsX8_findsNodes := goodIn_r _ [16, 3, 17, 18, 19, 11, 20, 21, 22, 23, 24, 25, 26, 27, 28, 29, 30, 31, 32, 33, 34, 35, 36, 82, 83, 84, 85, 86, 87, 88, 89, 90, 91, 92, 93, 94, 95, 96, 97, 98, 99, 100, 101, 102, 103] (by decide +kernel) (by decide +kernel)
set_option maxRecDepth 20000 in
theorem gX8_count_X8_findsNodes : GoodIn wsX8_count (wsV RX8 169 RX8 yX8_findsNodes wsX8_findsNodes) := goodIn_app (goodIn_of _ (by decide +kernel)) ggX8_count_X8_findsNodes
set_option maxRecDepth 20000 in
theorem ggX8_count_X8_ofSize : GoodIn wsX8_count wsX8_ofSize := goodIn_r _ [40, 3, 2, 17, 41, 42, 11, 43, 44, 45, 46, 18, 19, 20, 21, 22, 23, 24, 25, 26, 47, 48, 49, 50, 51, 52, 82, 83, 84, 85, 86, 87, 88, 89, 90, 91, 92, 93, 94, 95, 96, 97, 98, 99, 100, 101, 102, 103] (by decide +kernel) (by decide +kernel)
set_option maxRecDepth 20000 in
theorem gX8_count_X8_ofSize : GoodIn wsX8_count (wsV RX8 267 RX8 yX8_ofSize wsX8_ofSize) := goodIn_app (goodIn_of _ (by decide +kernel)) ggX8_count_X8_ofSize
set_option maxRecDepth 20000 in
theorem ggX8_count_X8_allPlaces : GoodIn wsX8_count wsX8_allPlaces := goodIn_r _ [56, 3, 17, 13, 14, 15, 11, 16, 18, 19, 20, 21, 22, 23, 24, 25, 26, 27, 28, 29, 30, 31, 32, 33, 34, 35, 36, 57, 58, 59, 41, 42, 43, 44, 45, 46, 47, 48, 49, 50, 51, 52, 82, 83, 84, 85, 86, 87, 88, 89, 90, 91, 92, 93, 94, 95, 96, 97, 98, 99, 100, 101, 102, 103] (by decide +kernel) (by decide +kernel)
set_option maxRecDepth 20000 in
theorem gX8_count_X8_allPlaces : GoodIn wsX8_count (wsV RX8 243 RX8 yX8_allPlaces wsX8_allPlaces) := goodIn_app (goodIn_of _ (by decide +kernel)) ggX8_count_X8_allPlaces
set_option maxRecDepth 20000 in
theorem ggX8_count_X8_mostHeads : GoodIn wsX8_count wsX8_mostHeads := goodIn_r _ [63, 2, 64, 65, 66, 11, 67, 3, 17, 44, 45, 46, 18, 19, 20, 21, 22, 23, 24, 25, 26, 68, 69, 70, 82, 83, 84, 85, 86, 87, 88, 89, 90, 91, 92, 93, 94, 95, 96, 97, 98, 99, 100, 101, 102, 103] (by decide +kernel) (by decide +kernel)
set_option maxRecDepth 20000 in
theorem gX8_count_X8_mostHeads : GoodIn wsX8_count (wsV RX8 270 RX8 yX8_mostHeads wsX8_mostHeads) := goodIn_app (goodIn_of _ (by decide +kernel)) ggX8_count_X8_mostHeads
set_option maxRecDepth 20000 in
theorem ggX8_count_X8_longestPrefix : GoodIn wsX8_count wsX8_longestPrefix := goodIn_r _ [74, 3, 17, 75, 76, 77, 11, 78, 44, 45, 46, 18, 19, 20, 21, 22, 23, 24, 25, 26, 68, 69, 70, 82, 83, 84, 85, 86, 87, 88, 89, 90, 91, 92, 93, 94, 95, 96, 97, 98, 99, 100, 101, 102, 103] (by decide +kernel) (by decide +kernel)
set_option maxRecDepth 20000 in
theorem gX8_count_X8_longestPrefix : GoodIn wsX8_count (wsV RX8 274 RX8 yX8_longestPrefix wsX8_longestPrefix) := goodIn_app (goodIn_of _ (by decide +kernel)) ggX8_count_X8_longestPrefix
set_option maxRecDepth 20000 in
theorem ggX8_count_X8_there : GoodIn wsX8_count wsX8_there := goodIn_r _ [81] (by decide +kernel) (by decide +kernel)
set_option maxRecDepth 20000 in
theorem gX8_count_X8_there : GoodIn wsX8_count (va_wsS RX8 277 yX8_there wsX8_there) := goodIn_app (goodIn_of _ (by decide +kernel)) ggX8_count_X8_there
theorem dX8_count_0 : decode cX8_count 0 = .ok (.iload_n 1, 1) := by decide +kernel
theorem dX8_count_1 : decode cX8_count 1 = .ok (.i2l, 1) := by decide +kernel
theorem dX8_count_2 : decode cX8_count 2 = .ok (.lconst 0, 1) := by decide +kernel
theorem dX8_count_3 : decode cX8_count 3 = .ok (.ldc2_w 265, 3) := by decide +kernel
theorem dX8_count_6 : decode cX8_count 6 = .ok (.invokestatic 65, 3) := by decide +kernel
theorem dX8_count_9 : decode cX8_count 9 = .ok (.ifCond .ne 5, 3) := by decide +kernel
theorem dX8_count_12 : decode cX8_count 12 = .ok (.iconst (-1), 1) := by decide +kernel
theorem dX8_count_13 : decode cX8_count 13 = .ok (.ireturn, 1) := by decide +kernel
theorem dX8_count_14 : decode cX8_count 14 = .ok (.aload_n 0, 1) := by decide +kernel
theorem dX8_count_15 : decode cX8_count 15 = .ok (.aload_n 0, 1) := by decide +kernel
theorem dX8_count_16 : decode cX8_count 16 = .ok (.getfield 22, 3) := by decide +kernel
theorem dX8_count_19 : decode cX8_count 19 = .ok (.invokevirtual 169, 3) := by decide +kernel
theorem dX8_count_22 : decode cX8_count 22 = .ok (.iload_n 1, 1) := by decide +kernel
theorem dX8_count_23 : decode cX8_count 23 = .ok (.tableswitch 173 0 12 #[65, 72, 77, 77, 77, 77, 85, 94, 99, 104, 109, 119, 128], 65) := by decide +kernel
theorem dX8_count_88 : decode cX8_count 88 = .ok (.aload_n 0, 1) := by decide +kernel
theorem dX8_count_89 : decode cX8_count 89 = .ok (.getfield 22, 3) := by decide +kernel
theorem dX8_count_92 : decode cX8_count 92 = .ok (.iconst 0, 1) := by decide +kernel
theorem dX8_count_93 : decode cX8_count 93 = .ok (.iaload, 1) := by decide +kernel
theorem dX8_count_94 : decode cX8_count 94 = .ok (.ireturn, 1) := by decide +kernel
theorem dX8_count_95 : decode cX8_count 95 = .ok (.aload_n 0, 1) := by decide +kernel
theorem dX8_count_96 : decode cX8_count 96 = .ok (.getfield 147, 3) := by decide +kernel
theorem dX8_count_99 : decode cX8_count 99 = .ok (.ireturn, 1) := by decide +kernel
theorem dX8_count_100 : decode cX8_count 100 = .ok (.aload_n 0, 1) := by decide +kernel
theorem dX8_count_101 : decode cX8_count 101 = .ok (.iload_n 1, 1) := by decide +kernel
theorem dX8_count_102 : decode cX8_count 102 = .ok (.iconst 1, 1) := by decide +kernel
theorem dX8_count_103 : decode cX8_count 103 = .ok (.isub, 1) := by decide +kernel
theorem dX8_count_104 : decode cX8_count 104 = .ok (.invokevirtual 267, 3) := by decide +kernel
theorem dX8_count_107 : decode cX8_count 107 = .ok (.ireturn, 1) := by decide +kernel
theorem dX8_count_108 : decode cX8_count 108 = .ok (.aload_n 0, 1) := by decide +kernel
theorem dX8_count_109 : decode cX8_count 109 = .ok (.aload_n 0, 1) := by decide +kernel
theorem dX8_count_110 : decode cX8_count 110 = .ok (.getfield 22, 3) := by decide +kernel
theorem dX8_count_113 : decode cX8_count 113 = .ok (.invokevirtual 243, 3) := by decide +kernel
theorem dX8_count_116 : decode cX8_count 116 = .ok (.ireturn, 1) := by decide +kernel
theorem dX8_count_117 : decode cX8_count 117 = .ok (.aload_n 0, 1) := by decide +kernel
theorem dX8_count_118 : decode cX8_count 118 = .ok (.invokevirtual 270, 3) := by decide +kernel
theorem dX8_count_121 : decode cX8_count 121 = .ok (.ireturn, 1) := by decide +kernel
theorem dX8_count_122 : decode cX8_count 122 = .ok (.aload_n 0, 1) := by decide +kernel
theorem dX8_count_123 : decode cX8_count 123 = .ok (.invokevirtual 274, 3) := by decide +kernel
theorem dX8_count_126 : decode cX8_count 126 = .ok (.ireturn, 1) := by decide +kernel
theorem dX8_count_127 : decode cX8_count 127 = .ok (.aload_n 0, 1) := by decide +kernel
theorem dX8_count_128 : decode cX8_count 128 = .ok (.getfield 138, 3) := by decide +kernel
theorem dX8_count_131 : decode cX8_count 131 = .ok (.ireturn, 1) := by decide +kernel
theorem dX8_count_132 : decode cX8_count 132 = .ok (.aload_n 0, 1) := by decide +kernel
theorem dX8_count_133 : decode cX8_count 133 = .ok (.getfield 7, 3) := by decide +kernel
theorem dX8_count_136 : decode cX8_count 136 = .ok (.bipush 6, 2) := by decide +kernel
theorem dX8_count_138 : decode cX8_count 138 = .ok (.invokestatic 277, 3) := by decide +kernel
theorem dX8_count_141 : decode cX8_count 141 = .ok (.ireturn, 1) := by decide +kernel
theorem dX8_count_142 : decode cX8_count 142 = .ok (.aload_n 0, 1) := by decide +kernel
theorem dX8_count_143 : decode cX8_count 143 = .ok (.getfield 16, 3) := by decide +kernel
theorem dX8_count_146 : decode cX8_count 146 = .ok (.iconst 4, 1) := by decide +kernel
theorem dX8_count_147 : decode cX8_count 147 = .ok (.invokestatic 277, 3) := by decide +kernel
theorem dX8_count_150 : decode cX8_count 150 = .ok (.ireturn, 1) := by decide +kernel
theorem dX8_count_151 : decode cX8_count 151 = .ok (.aload_n 0, 1) := by decide +kernel
theorem dX8_count_152 : decode cX8_count 152 = .ok (.getfield 37, 3) := by decide +kernel
theorem dX8_count_155 : decode cX8_count 155 = .ok (.iconst 0, 1) := by decide +kernel
theorem dX8_count_156 : decode cX8_count 156 = .ok (.baload, 1) := by decide +kernel
theorem dX8_count_157 : decode cX8_count 157 = .ok (.ifCond .eq 7, 3) := by decide +kernel
theorem dX8_count_160 : decode cX8_count 160 = .ok (.iconst 1, 1) := by decide +kernel
theorem dX8_count_161 : decode cX8_count 161 = .ok (.goto 4, 3) := by decide +kernel
theorem dX8_count_164 : decode cX8_count 164 = .ok (.iconst 0, 1) := by decide +kernel
theorem dX8_count_165 : decode cX8_count 165 = .ok (.aload_n 0, 1) := by decide +kernel
theorem dX8_count_166 : decode cX8_count 166 = .ok (.getfield 37, 3) := by decide +kernel
theorem dX8_count_169 : decode cX8_count 169 = .ok (.iconst 1, 1) := by decide +kernel
theorem dX8_count_170 : decode cX8_count 170 = .ok (.baload, 1) := by decide +kernel
theorem dX8_count_171 : decode cX8_count 171 = .ok (.ifCond .eq 7, 3) := by decide +kernel
theorem dX8_count_174 : decode cX8_count 174 = .ok (.iconst 1, 1) := by decide +kernel
theorem dX8_count_175 : decode cX8_count 175 = .ok (.goto 4, 3) := by decide +kernel
theorem dX8_count_178 : decode cX8_count 178 = .ok (.iconst 0, 1) := by decide +kernel
theorem dX8_count_179 : decode cX8_count 179 = .ok (.iadd, 1) := by decide +kernel
theorem dX8_count_180 : decode cX8_count 180 = .ok (.aload_n 0, 1) := by decide +kernel
theorem dX8_count_181 : decode cX8_count 181 = .ok (.getfield 37, 3) := by decide +kernel
theorem dX8_count_184 : decode cX8_count 184 = .ok (.iconst 2, 1) := by decide +kernel
theorem dX8_count_185 : decode cX8_count 185 = .ok (.baload, 1) := by decide +kernel
theorem dX8_count_186 : decode cX8_count 186 = .ok (.ifCond .eq 7, 3) := by decide +kernel
theorem dX8_count_189 : decode cX8_count 189 = .ok (.iconst 1, 1) := by decide +kernel
theorem dX8_count_190 : decode cX8_count 190 = .ok (.goto 4, 3) := by decide +kernel
theorem dX8_count_193 : decode cX8_count 193 = .ok (.iconst 0, 1) := by decide +kernel
theorem dX8_count_194 : decode cX8_count 194 = .ok (.iadd, 1) := by decide +kernel
theorem dX8_count_195 : decode cX8_count 195 = .ok (.ireturn, 1) := by decide +kernel
theorem dX8_count_196 : decode cX8_count 196 = .ok (.aload_n 0, 1) := by decide +kernel
theorem dX8_count_197 : decode cX8_count 197 = .ok (.getfield 141, 3) := by decide +kernel
theorem dX8_count_200 : decode cX8_count 200 = .ok (.ireturn, 1) := by decide +kernel
theorem dX8_finding_0 : decode cX8_finding 0 = .ok (.aload_n 0, 1) := by decide +kernel
theorem dX8_finding_1 : decode cX8_finding 1 = .ok (.getfield 56, 3) := by decide +kernel
theorem dX8_finding_4 : decode cX8_finding 4 = .ok (.ireturn, 1) := by decide +kernel
set_option maxRecDepth 20000 in
theorem ggX8_findings_X8_in : GoodIn wsX8_findings wsX8_in := goodIn_r _ [6] (by decide +kernel) (by decide +kernel)
set_option maxRecDepth 20000 in
theorem gX8_findings_X8_in : GoodIn wsX8_findings (va_wsS RX8 65 yX8_in wsX8_in) := goodIn_app (goodIn_of _ (by decide +kernel)) ggX8_findings_X8_in
theorem dX8_findings_0 : decode cX8_findings 0 = .ok (.iload_n 1, 1) := by decide +kernel
theorem dX8_findings_1 : decode cX8_findings 1 = .ok (.i2l, 1) := by decide +kernel
theorem dX8_findings_2 : decode cX8_findings 2 = .ok (.lconst 1, 1) := by decide +kernel
theorem dX8_findings_3 : decode cX8_findings 3 = .ok (.ldc2_w 63, 3) := by decide +kernel
theorem dX8_findings_6 : decode cX8_findings 6 = .ok (.invokestatic 65, 3) := by decide +kernel
theorem dX8_findings_9 : decode cX8_findings 9 = .ok (.ifCond .eq 12, 3) := by decide +kernel
theorem dX8_findings_12 : decode cX8_findings 12 = .ok (.aload_n 0, 1) := by decide +kernel
theorem dX8_findings_13 : decode cX8_findings 13 = .ok (.getfield 47, 3) := by decide +kernel
theorem dX8_findings_16 : decode cX8_findings 16 = .ok (.iload_n 1, 1) := by decide +kernel
theorem dX8_findings_17 : decode cX8_findings 17 = .ok (.iaload, 1) := by decide +kernel
theorem dX8_findings_18 : decode cX8_findings 18 = .ok (.goto 4, 3) := by decide +kernel
theorem dX8_findings_21 : decode cX8_findings 21 = .ok (.iconst (-1), 1) := by decide +kernel
theorem dX8_findings_22 : decode cX8_findings 22 = .ok (.ireturn, 1) := by decide +kernel
set_option maxRecDepth 20000 in
theorem ggX8_digest_X8_count : GoodIn wsX8_digest wsX8_count := goodIn_r _ [16, 17, 3, 18, 19, 8, 10, 4, 6, 20, 21, 15, 22, 23, 24, 25, 26, 27, 28, 29, 30, 31, 32, 33, 34, 35, 36, 37, 38, 39, 40, 41, 42, 43, 44, 45, 46, 47, 48, 49, 50, 51, 52, 53, 54, 55, 56, 57, 58, 59, 60, 61, 62, 63, 64, 65, 66, 67, 68, 69, 70, 71, 72, 73, 74, 75, 76, 77, 78, 79, 80, 81, 82, 83, 84, 85, 86, 87, 88, 89, 90, 91, 95, 96, 97, 98, 99, 100, 101, 102, 103, 104, 105, 106, 107, 108, 109, 110, 111, 112, 113, 114, 115, 116] (by decide +kernel) (by decide +kernel)
set_option maxRecDepth 20000 in
theorem gX8_digest_X8_count : GoodIn wsX8_digest (wsV RX8 284 RX8 yX8_count wsX8_count) := goodIn_app (goodIn_of _ (by decide +kernel)) ggX8_digest_X8_count
set_option maxRecDepth 20000 in
theorem ggX8_digest_X8_numberOf : GoodIn wsX8_digest wsX8_numberOf := goodIn_r _ [94, 31, 32, 15, 33] (by decide +kernel) (by decide +kernel)
set_option maxRecDepth 20000 in
theorem gX8_digest_X8_numberOf : GoodIn wsX8_digest (va_wsS RX8 216 yX8_numberOf wsX8_numberOf) := goodIn_app (goodIn_of _ (by decide +kernel)) ggX8_digest_X8_numberOf
set_option maxRecDepth 20000 in
theorem ggX8_digest_X8_sizeOf : GoodIn wsX8_digest wsX8_sizeOf := goodIn_r _ [33] (by decide +kernel) (by decide +kernel)
set_option maxRecDepth 20000 in
theorem gX8_digest_X8_sizeOf : GoodIn wsX8_digest (va_wsS RX8 87 yX8_sizeOf wsX8_sizeOf) := goodIn_app (goodIn_of _ (by decide +kernel)) ggX8_digest_X8_sizeOf
theorem dX8_digest_0 : decode cX8_digest 0 = .ok (.ldc2_w 280, 3) := by decide +kernel
theorem dX8_digest_3 : decode cX8_digest 3 = .ok (.lstore_n 1, 1) := by decide +kernel
theorem dX8_digest_4 : decode cX8_digest 4 = .ok (.iconst 0, 1) := by decide +kernel
theorem dX8_digest_5 : decode cX8_digest 5 = .ok (.istore_n 3, 1) := by decide +kernel
theorem dX8_digest_6 : decode cX8_digest 6 = .ok (.iload_n 3, 1) := by decide +kernel
theorem dX8_digest_7 : decode cX8_digest 7 = .ok (.bipush 14, 2) := by decide +kernel
theorem dX8_digest_9 : decode cX8_digest 9 = .ok (.if_icmp .ge 22, 3) := by decide +kernel
theorem dX8_digest_12 : decode cX8_digest 12 = .ok (.ldc2_w 282, 3) := by decide +kernel
theorem dX8_digest_15 : decode cX8_digest 15 = .ok (.lload_n 1, 1) := by decide +kernel
theorem dX8_digest_16 : decode cX8_digest 16 = .ok (.lmul, 1) := by decide +kernel
theorem dX8_digest_17 : decode cX8_digest 17 = .ok (.aload_n 0, 1) := by decide +kernel
theorem dX8_digest_18 : decode cX8_digest 18 = .ok (.iload_n 3, 1) := by decide +kernel
theorem dX8_digest_19 : decode cX8_digest 19 = .ok (.invokevirtual 284, 3) := by decide +kernel
theorem dX8_digest_22 : decode cX8_digest 22 = .ok (.i2l, 1) := by decide +kernel
theorem dX8_digest_23 : decode cX8_digest 23 = .ok (.ladd, 1) := by decide +kernel
theorem dX8_digest_24 : decode cX8_digest 24 = .ok (.lstore_n 1, 1) := by decide +kernel
theorem dX8_digest_25 : decode cX8_digest 25 = .ok (.iinc 3 1, 3) := by decide +kernel
theorem dX8_digest_28 : decode cX8_digest 28 = .ok (.goto (-22), 3) := by decide +kernel
theorem dX8_digest_31 : decode cX8_digest 31 = .ok (.iconst 0, 1) := by decide +kernel
theorem dX8_digest_32 : decode cX8_digest 32 = .ok (.istore_n 3, 1) := by decide +kernel
theorem dX8_digest_33 : decode cX8_digest 33 = .ok (.iload_n 3, 1) := by decide +kernel
theorem dX8_digest_34 : decode cX8_digest 34 = .ok (.aload_n 0, 1) := by decide +kernel
theorem dX8_digest_35 : decode cX8_digest 35 = .ok (.getfield 22, 3) := by decide +kernel
theorem dX8_digest_38 : decode cX8_digest 38 = .ok (.iconst 0, 1) := by decide +kernel
theorem dX8_digest_39 : decode cX8_digest 39 = .ok (.iaload, 1) := by decide +kernel
theorem dX8_digest_40 : decode cX8_digest 40 = .ok (.if_icmp .ge 64, 3) := by decide +kernel
theorem dX8_digest_43 : decode cX8_digest 43 = .ok (.ldc2_w 282, 3) := by decide +kernel
theorem dX8_digest_46 : decode cX8_digest 46 = .ok (.lload_n 1, 1) := by decide +kernel
theorem dX8_digest_47 : decode cX8_digest 47 = .ok (.lmul, 1) := by decide +kernel
theorem dX8_digest_48 : decode cX8_digest 48 = .ok (.aload_n 0, 1) := by decide +kernel
theorem dX8_digest_49 : decode cX8_digest 49 = .ok (.getfield 22, 3) := by decide +kernel
theorem dX8_digest_52 : decode cX8_digest 52 = .ok (.iconst 1, 1) := by decide +kernel
theorem dX8_digest_53 : decode cX8_digest 53 = .ok (.iload_n 3, 1) := by decide +kernel
theorem dX8_digest_54 : decode cX8_digest 54 = .ok (.iadd, 1) := by decide +kernel
theorem dX8_digest_55 : decode cX8_digest 55 = .ok (.iaload, 1) := by decide +kernel
theorem dX8_digest_56 : decode cX8_digest 56 = .ok (.invokestatic 216, 3) := by decide +kernel
theorem dX8_digest_59 : decode cX8_digest 59 = .ok (.i2l, 1) := by decide +kernel
theorem dX8_digest_60 : decode cX8_digest 60 = .ok (.ladd, 1) := by decide +kernel
theorem dX8_digest_61 : decode cX8_digest 61 = .ok (.lstore_n 1, 1) := by decide +kernel
theorem dX8_digest_62 : decode cX8_digest 62 = .ok (.ldc2_w 282, 3) := by decide +kernel
theorem dX8_digest_65 : decode cX8_digest 65 = .ok (.lload_n 1, 1) := by decide +kernel
theorem dX8_digest_66 : decode cX8_digest 66 = .ok (.lmul, 1) := by decide +kernel
theorem dX8_digest_67 : decode cX8_digest 67 = .ok (.aload_n 0, 1) := by decide +kernel
theorem dX8_digest_68 : decode cX8_digest 68 = .ok (.getfield 22, 3) := by decide +kernel
theorem dX8_digest_71 : decode cX8_digest 71 = .ok (.iconst 1, 1) := by decide +kernel
theorem dX8_digest_72 : decode cX8_digest 72 = .ok (.iload_n 3, 1) := by decide +kernel
theorem dX8_digest_73 : decode cX8_digest 73 = .ok (.iadd, 1) := by decide +kernel
theorem dX8_digest_74 : decode cX8_digest 74 = .ok (.iaload, 1) := by decide +kernel
theorem dX8_digest_75 : decode cX8_digest 75 = .ok (.invokestatic 87, 3) := by decide +kernel
theorem dX8_digest_78 : decode cX8_digest 78 = .ok (.i2l, 1) := by decide +kernel
theorem dX8_digest_79 : decode cX8_digest 79 = .ok (.ladd, 1) := by decide +kernel
theorem dX8_digest_80 : decode cX8_digest 80 = .ok (.lstore_n 1, 1) := by decide +kernel
theorem dX8_digest_81 : decode cX8_digest 81 = .ok (.ldc2_w 282, 3) := by decide +kernel
theorem dX8_digest_84 : decode cX8_digest 84 = .ok (.lload_n 1, 1) := by decide +kernel
theorem dX8_digest_85 : decode cX8_digest 85 = .ok (.lmul, 1) := by decide +kernel
theorem dX8_digest_86 : decode cX8_digest 86 = .ok (.aload_n 0, 1) := by decide +kernel
theorem dX8_digest_87 : decode cX8_digest 87 = .ok (.getfield 22, 3) := by decide +kernel
theorem dX8_digest_90 : decode cX8_digest 90 = .ok (.bipush 49, 2) := by decide +kernel
theorem dX8_digest_92 : decode cX8_digest 92 = .ok (.iload_n 3, 1) := by decide +kernel
theorem dX8_digest_93 : decode cX8_digest 93 = .ok (.iadd, 1) := by decide +kernel
theorem dX8_digest_94 : decode cX8_digest 94 = .ok (.iaload, 1) := by decide +kernel
theorem dX8_digest_95 : decode cX8_digest 95 = .ok (.i2l, 1) := by decide +kernel
theorem dX8_digest_96 : decode cX8_digest 96 = .ok (.ladd, 1) := by decide +kernel
theorem dX8_digest_97 : decode cX8_digest 97 = .ok (.lstore_n 1, 1) := by decide +kernel
theorem dX8_digest_98 : decode cX8_digest 98 = .ok (.iinc 3 1, 3) := by decide +kernel
theorem dX8_digest_101 : decode cX8_digest 101 = .ok (.goto (-68), 3) := by decide +kernel
theorem dX8_digest_104 : decode cX8_digest 104 = .ok (.iconst 0, 1) := by decide +kernel
theorem dX8_digest_105 : decode cX8_digest 105 = .ok (.istore_n 3, 1) := by decide +kernel
theorem dX8_digest_106 : decode cX8_digest 106 = .ok (.iload_n 3, 1) := by decide +kernel
theorem dX8_digest_107 : decode cX8_digest 107 = .ok (.iconst 3, 1) := by decide +kernel
theorem dX8_digest_108 : decode cX8_digest 108 = .ok (.if_icmp .ge 43, 3) := by decide +kernel
theorem dX8_digest_111 : decode cX8_digest 111 = .ok (.ldc2_w 282, 3) := by decide +kernel
theorem dX8_digest_114 : decode cX8_digest 114 = .ok (.lload_n 1, 1) := by decide +kernel
theorem dX8_digest_115 : decode cX8_digest 115 = .ok (.lmul, 1) := by decide +kernel
theorem dX8_digest_116 : decode cX8_digest 116 = .ok (.aload_n 0, 1) := by decide +kernel
theorem dX8_digest_117 : decode cX8_digest 117 = .ok (.getfield 37, 3) := by decide +kernel
theorem dX8_digest_120 : decode cX8_digest 120 = .ok (.iload_n 3, 1) := by decide +kernel
theorem dX8_digest_121 : decode cX8_digest 121 = .ok (.baload, 1) := by decide +kernel
theorem dX8_digest_122 : decode cX8_digest 122 = .ok (.ifCond .eq 19, 3) := by decide +kernel
theorem dX8_digest_125 : decode cX8_digest 125 = .ok (.aload_n 0, 1) := by decide +kernel
theorem dX8_digest_126 : decode cX8_digest 126 = .ok (.getfield 34, 3) := by decide +kernel
theorem dX8_digest_129 : decode cX8_digest 129 = .ok (.sipush 3978, 3) := by decide +kernel
theorem dX8_digest_132 : decode cX8_digest 132 = .ok (.iload_n 3, 1) := by decide +kernel
theorem dX8_digest_133 : decode cX8_digest 133 = .ok (.imul, 1) := by decide +kernel
theorem dX8_digest_134 : decode cX8_digest 134 = .ok (.bipush 97, 2) := by decide +kernel
theorem dX8_digest_136 : decode cX8_digest 136 = .ok (.iadd, 1) := by decide +kernel
theorem dX8_digest_137 : decode cX8_digest 137 = .ok (.iaload, 1) := by decide +kernel
theorem dX8_digest_138 : decode cX8_digest 138 = .ok (.goto 4, 3) := by decide +kernel
theorem dX8_digest_141 : decode cX8_digest 141 = .ok (.iconst (-1), 1) := by decide +kernel
theorem dX8_digest_142 : decode cX8_digest 142 = .ok (.i2l, 1) := by decide +kernel
theorem dX8_digest_143 : decode cX8_digest 143 = .ok (.ladd, 1) := by decide +kernel
theorem dX8_digest_144 : decode cX8_digest 144 = .ok (.lstore_n 1, 1) := by decide +kernel
theorem dX8_digest_145 : decode cX8_digest 145 = .ok (.iinc 3 1, 3) := by decide +kernel
theorem dX8_digest_148 : decode cX8_digest 148 = .ok (.goto (-42), 3) := by decide +kernel
theorem dX8_digest_151 : decode cX8_digest 151 = .ok (.iconst 0, 1) := by decide +kernel
theorem dX8_digest_152 : decode cX8_digest 152 = .ok (.istore_n 3, 1) := by decide +kernel
theorem dX8_digest_153 : decode cX8_digest 153 = .ok (.iload_n 3, 1) := by decide +kernel
theorem dX8_digest_154 : decode cX8_digest 154 = .ok (.aload_n 0, 1) := by decide +kernel
theorem dX8_digest_155 : decode cX8_digest 155 = .ok (.getfield 141, 3) := by decide +kernel
theorem dX8_digest_158 : decode cX8_digest 158 = .ok (.if_icmp .ge 43, 3) := by decide +kernel
theorem dX8_digest_161 : decode cX8_digest 161 = .ok (.ldc2_w 282, 3) := by decide +kernel
theorem dX8_digest_164 : decode cX8_digest 164 = .ok (.lload_n 1, 1) := by decide +kernel
theorem dX8_digest_165 : decode cX8_digest 165 = .ok (.lmul, 1) := by decide +kernel
theorem dX8_digest_166 : decode cX8_digest 166 = .ok (.aload_n 0, 1) := by decide +kernel
theorem dX8_digest_167 : decode cX8_digest 167 = .ok (.getfield 41, 3) := by decide +kernel
theorem dX8_digest_170 : decode cX8_digest 170 = .ok (.iload_n 3, 1) := by decide +kernel
theorem dX8_digest_171 : decode cX8_digest 171 = .ok (.iaload, 1) := by decide +kernel
theorem dX8_digest_172 : decode cX8_digest 172 = .ok (.invokestatic 216, 3) := by decide +kernel
theorem dX8_digest_175 : decode cX8_digest 175 = .ok (.i2l, 1) := by decide +kernel
theorem dX8_digest_176 : decode cX8_digest 176 = .ok (.ladd, 1) := by decide +kernel
theorem dX8_digest_177 : decode cX8_digest 177 = .ok (.lstore_n 1, 1) := by decide +kernel
theorem dX8_digest_178 : decode cX8_digest 178 = .ok (.ldc2_w 282, 3) := by decide +kernel
theorem dX8_digest_181 : decode cX8_digest 181 = .ok (.lload_n 1, 1) := by decide +kernel
theorem dX8_digest_182 : decode cX8_digest 182 = .ok (.lmul, 1) := by decide +kernel
theorem dX8_digest_183 : decode cX8_digest 183 = .ok (.aload_n 0, 1) := by decide +kernel
theorem dX8_digest_184 : decode cX8_digest 184 = .ok (.getfield 41, 3) := by decide +kernel
theorem dX8_digest_187 : decode cX8_digest 187 = .ok (.iload_n 3, 1) := by decide +kernel
theorem dX8_digest_188 : decode cX8_digest 188 = .ok (.iaload, 1) := by decide +kernel
theorem dX8_digest_189 : decode cX8_digest 189 = .ok (.invokestatic 87, 3) := by decide +kernel
theorem dX8_digest_192 : decode cX8_digest 192 = .ok (.i2l, 1) := by decide +kernel
theorem dX8_digest_193 : decode cX8_digest 193 = .ok (.ladd, 1) := by decide +kernel
theorem dX8_digest_194 : decode cX8_digest 194 = .ok (.lstore_n 1, 1) := by decide +kernel
theorem dX8_digest_195 : decode cX8_digest 195 = .ok (.iinc 3 1, 3) := by decide +kernel
theorem dX8_digest_198 : decode cX8_digest 198 = .ok (.goto (-45), 3) := by decide +kernel
theorem dX8_digest_201 : decode cX8_digest 201 = .ok (.iconst 0, 1) := by decide +kernel
theorem dX8_digest_202 : decode cX8_digest 202 = .ok (.istore_n 3, 1) := by decide +kernel
theorem dX8_digest_203 : decode cX8_digest 203 = .ok (.iload_n 3, 1) := by decide +kernel
theorem dX8_digest_204 : decode cX8_digest 204 = .ok (.bipush 6, 2) := by decide +kernel
theorem dX8_digest_206 : decode cX8_digest 206 = .ok (.if_icmp .ge 63, 3) := by decide +kernel
theorem dX8_digest_209 : decode cX8_digest 209 = .ok (.ldc2_w 282, 3) := by decide +kernel
theorem dX8_digest_212 : decode cX8_digest 212 = .ok (.lload_n 1, 1) := by decide +kernel
theorem dX8_digest_213 : decode cX8_digest 213 = .ok (.lmul, 1) := by decide +kernel
theorem dX8_digest_214 : decode cX8_digest 214 = .ok (.aload_n 0, 1) := by decide +kernel
theorem dX8_digest_215 : decode cX8_digest 215 = .ok (.getfield 7, 3) := by decide +kernel
theorem dX8_digest_218 : decode cX8_digest 218 = .ok (.iload_n 3, 1) := by decide +kernel
theorem dX8_digest_219 : decode cX8_digest 219 = .ok (.iaload, 1) := by decide +kernel
theorem dX8_digest_220 : decode cX8_digest 220 = .ok (.i2l, 1) := by decide +kernel
theorem dX8_digest_221 : decode cX8_digest 221 = .ok (.ladd, 1) := by decide +kernel
theorem dX8_digest_222 : decode cX8_digest 222 = .ok (.lstore_n 1, 1) := by decide +kernel
theorem dX8_digest_223 : decode cX8_digest 223 = .ok (.iconst 0, 1) := by decide +kernel
theorem dX8_digest_224 : decode cX8_digest 224 = .ok (.istore 4, 2) := by decide +kernel
theorem dX8_digest_226 : decode cX8_digest 226 = .ok (.iload 4, 2) := by decide +kernel
theorem dX8_digest_228 : decode cX8_digest 228 = .ok (.aload_n 0, 1) := by decide +kernel
theorem dX8_digest_229 : decode cX8_digest 229 = .ok (.getfield 7, 3) := by decide +kernel
theorem dX8_digest_232 : decode cX8_digest 232 = .ok (.iload_n 3, 1) := by decide +kernel
theorem dX8_digest_233 : decode cX8_digest 233 = .ok (.iaload, 1) := by decide +kernel
theorem dX8_digest_234 : decode cX8_digest 234 = .ok (.if_icmp .ge 29, 3) := by decide +kernel
theorem dX8_digest_237 : decode cX8_digest 237 = .ok (.ldc2_w 282, 3) := by decide +kernel
theorem dX8_digest_240 : decode cX8_digest 240 = .ok (.lload_n 1, 1) := by decide +kernel
theorem dX8_digest_241 : decode cX8_digest 241 = .ok (.lmul, 1) := by decide +kernel
theorem dX8_digest_242 : decode cX8_digest 242 = .ok (.aload_n 0, 1) := by decide +kernel
theorem dX8_digest_243 : decode cX8_digest 243 = .ok (.getfield 13, 3) := by decide +kernel
theorem dX8_digest_246 : decode cX8_digest 246 = .ok (.bipush 40, 2) := by decide +kernel
theorem dX8_digest_248 : decode cX8_digest 248 = .ok (.iload_n 3, 1) := by decide +kernel
theorem dX8_digest_249 : decode cX8_digest 249 = .ok (.imul, 1) := by decide +kernel
theorem dX8_digest_250 : decode cX8_digest 250 = .ok (.iload 4, 2) := by decide +kernel
theorem dX8_digest_252 : decode cX8_digest 252 = .ok (.iadd, 1) := by decide +kernel
theorem dX8_digest_253 : decode cX8_digest 253 = .ok (.iaload, 1) := by decide +kernel
theorem dX8_digest_254 : decode cX8_digest 254 = .ok (.i2l, 1) := by decide +kernel
theorem dX8_digest_255 : decode cX8_digest 255 = .ok (.ladd, 1) := by decide +kernel
theorem dX8_digest_256 : decode cX8_digest 256 = .ok (.lstore_n 1, 1) := by decide +kernel
theorem dX8_digest_257 : decode cX8_digest 257 = .ok (.iinc 4 1, 3) := by decide +kernel
theorem dX8_digest_260 : decode cX8_digest 260 = .ok (.goto (-34), 3) := by decide +kernel
theorem dX8_digest_263 : decode cX8_digest 263 = .ok (.iinc 3 1, 3) := by decide +kernel
theorem dX8_digest_266 : decode cX8_digest 266 = .ok (.goto (-63), 3) := by decide +kernel
theorem dX8_digest_269 : decode cX8_digest 269 = .ok (.iconst 0, 1) := by decide +kernel
theorem dX8_digest_270 : decode cX8_digest 270 = .ok (.istore_n 3, 1) := by decide +kernel
theorem dX8_digest_271 : decode cX8_digest 271 = .ok (.iload_n 3, 1) := by decide +kernel
theorem dX8_digest_272 : decode cX8_digest 272 = .ok (.iconst 4, 1) := by decide +kernel
theorem dX8_digest_273 : decode cX8_digest 273 = .ok (.if_icmp .ge 63, 3) := by decide +kernel
theorem dX8_digest_276 : decode cX8_digest 276 = .ok (.ldc2_w 282, 3) := by decide +kernel
theorem dX8_digest_279 : decode cX8_digest 279 = .ok (.lload_n 1, 1) := by decide +kernel
theorem dX8_digest_280 : decode cX8_digest 280 = .ok (.lmul, 1) := by decide +kernel
theorem dX8_digest_281 : decode cX8_digest 281 = .ok (.aload_n 0, 1) := by decide +kernel
theorem dX8_digest_282 : decode cX8_digest 282 = .ok (.getfield 16, 3) := by decide +kernel
theorem dX8_digest_285 : decode cX8_digest 285 = .ok (.iload_n 3, 1) := by decide +kernel
theorem dX8_digest_286 : decode cX8_digest 286 = .ok (.iaload, 1) := by decide +kernel
theorem dX8_digest_287 : decode cX8_digest 287 = .ok (.i2l, 1) := by decide +kernel
theorem dX8_digest_288 : decode cX8_digest 288 = .ok (.ladd, 1) := by decide +kernel
theorem dX8_digest_289 : decode cX8_digest 289 = .ok (.lstore_n 1, 1) := by decide +kernel
theorem dX8_digest_290 : decode cX8_digest 290 = .ok (.iconst 0, 1) := by decide +kernel
theorem dX8_digest_291 : decode cX8_digest 291 = .ok (.istore 4, 2) := by decide +kernel
theorem dX8_digest_293 : decode cX8_digest 293 = .ok (.iload 4, 2) := by decide +kernel
theorem dX8_digest_295 : decode cX8_digest 295 = .ok (.aload_n 0, 1) := by decide +kernel
theorem dX8_digest_296 : decode cX8_digest 296 = .ok (.getfield 16, 3) := by decide +kernel
theorem dX8_digest_299 : decode cX8_digest 299 = .ok (.iload_n 3, 1) := by decide +kernel
theorem dX8_digest_300 : decode cX8_digest 300 = .ok (.iaload, 1) := by decide +kernel
theorem dX8_digest_301 : decode cX8_digest 301 = .ok (.if_icmp .ge 29, 3) := by decide +kernel
theorem dX8_digest_304 : decode cX8_digest 304 = .ok (.ldc2_w 282, 3) := by decide +kernel
theorem dX8_digest_307 : decode cX8_digest 307 = .ok (.lload_n 1, 1) := by decide +kernel
theorem dX8_digest_308 : decode cX8_digest 308 = .ok (.lmul, 1) := by decide +kernel
theorem dX8_digest_309 : decode cX8_digest 309 = .ok (.aload_n 0, 1) := by decide +kernel
theorem dX8_digest_310 : decode cX8_digest 310 = .ok (.getfield 19, 3) := by decide +kernel
theorem dX8_digest_313 : decode cX8_digest 313 = .ok (.bipush 90, 2) := by decide +kernel
theorem dX8_digest_315 : decode cX8_digest 315 = .ok (.iload_n 3, 1) := by decide +kernel
theorem dX8_digest_316 : decode cX8_digest 316 = .ok (.imul, 1) := by decide +kernel
theorem dX8_digest_317 : decode cX8_digest 317 = .ok (.iload 4, 2) := by decide +kernel
theorem dX8_digest_319 : decode cX8_digest 319 = .ok (.iadd, 1) := by decide +kernel
theorem dX8_digest_320 : decode cX8_digest 320 = .ok (.iaload, 1) := by decide +kernel
theorem dX8_digest_321 : decode cX8_digest 321 = .ok (.i2l, 1) := by decide +kernel
theorem dX8_digest_322 : decode cX8_digest 322 = .ok (.ladd, 1) := by decide +kernel
theorem dX8_digest_323 : decode cX8_digest 323 = .ok (.lstore_n 1, 1) := by decide +kernel
theorem dX8_digest_324 : decode cX8_digest 324 = .ok (.iinc 4 1, 3) := by decide +kernel
theorem dX8_digest_327 : decode cX8_digest 327 = .ok (.goto (-34), 3) := by decide +kernel
theorem dX8_digest_330 : decode cX8_digest 330 = .ok (.iinc 3 1, 3) := by decide +kernel
theorem dX8_digest_333 : decode cX8_digest 333 = .ok (.goto (-62), 3) := by decide +kernel
theorem dX8_digest_336 : decode cX8_digest 336 = .ok (.lload_n 1, 1) := by decide +kernel
theorem dX8_digest_337 : decode cX8_digest 337 = .ok (.lreturn, 1) := by decide +kernel
theorem dJ6_numberOfLeadingZeros_0f7a4_0 : decode cJ6_numberOfLeadingZeros_0f7a4 0 = .ok (.iload_n 0, 1) := by decide +kernel
theorem dJ6_numberOfLeadingZeros_0f7a4_1 : decode cJ6_numberOfLeadingZeros_0f7a4 1 = .ok (.ifCond .gt 14, 3) := by decide +kernel
theorem dJ6_numberOfLeadingZeros_0f7a4_4 : decode cJ6_numberOfLeadingZeros_0f7a4 4 = .ok (.iload_n 0, 1) := by decide +kernel
theorem dJ6_numberOfLeadingZeros_0f7a4_5 : decode cJ6_numberOfLeadingZeros_0f7a4 5 = .ok (.ifCond .ne 8, 3) := by decide +kernel
theorem dJ6_numberOfLeadingZeros_0f7a4_8 : decode cJ6_numberOfLeadingZeros_0f7a4 8 = .ok (.bipush 32, 2) := by decide +kernel
theorem dJ6_numberOfLeadingZeros_0f7a4_10 : decode cJ6_numberOfLeadingZeros_0f7a4 10 = .ok (.goto 4, 3) := by decide +kernel
theorem dJ6_numberOfLeadingZeros_0f7a4_13 : decode cJ6_numberOfLeadingZeros_0f7a4 13 = .ok (.iconst 0, 1) := by decide +kernel
theorem dJ6_numberOfLeadingZeros_0f7a4_14 : decode cJ6_numberOfLeadingZeros_0f7a4 14 = .ok (.ireturn, 1) := by decide +kernel
theorem dJ6_numberOfLeadingZeros_0f7a4_15 : decode cJ6_numberOfLeadingZeros_0f7a4 15 = .ok (.bipush 31, 2) := by decide +kernel
theorem dJ6_numberOfLeadingZeros_0f7a4_17 : decode cJ6_numberOfLeadingZeros_0f7a4 17 = .ok (.istore_n 1, 1) := by decide +kernel
theorem dJ6_numberOfLeadingZeros_0f7a4_18 : decode cJ6_numberOfLeadingZeros_0f7a4 18 = .ok (.iload_n 0, 1) := by decide +kernel
theorem dJ6_numberOfLeadingZeros_0f7a4_19 : decode cJ6_numberOfLeadingZeros_0f7a4 19 = .ok (.ldc_w 264, 3) := by decide +kernel
theorem dJ6_numberOfLeadingZeros_0f7a4_22 : decode cJ6_numberOfLeadingZeros_0f7a4 22 = .ok (.if_icmp .lt 11, 3) := by decide +kernel
theorem dJ6_numberOfLeadingZeros_0f7a4_25 : decode cJ6_numberOfLeadingZeros_0f7a4 25 = .ok (.iinc 1 (-16), 3) := by decide +kernel
theorem dJ6_numberOfLeadingZeros_0f7a4_28 : decode cJ6_numberOfLeadingZeros_0f7a4 28 = .ok (.iload_n 0, 1) := by decide +kernel
theorem dJ6_numberOfLeadingZeros_0f7a4_29 : decode cJ6_numberOfLeadingZeros_0f7a4 29 = .ok (.bipush 16, 2) := by decide +kernel
theorem dJ6_numberOfLeadingZeros_0f7a4_31 : decode cJ6_numberOfLeadingZeros_0f7a4 31 = .ok (.iushr, 1) := by decide +kernel
theorem dJ6_numberOfLeadingZeros_0f7a4_32 : decode cJ6_numberOfLeadingZeros_0f7a4 32 = .ok (.istore_n 0, 1) := by decide +kernel
theorem dJ6_numberOfLeadingZeros_0f7a4_33 : decode cJ6_numberOfLeadingZeros_0f7a4 33 = .ok (.iload_n 0, 1) := by decide +kernel
theorem dJ6_numberOfLeadingZeros_0f7a4_34 : decode cJ6_numberOfLeadingZeros_0f7a4 34 = .ok (.sipush 256, 3) := by decide +kernel
theorem dJ6_numberOfLeadingZeros_0f7a4_37 : decode cJ6_numberOfLeadingZeros_0f7a4 37 = .ok (.if_icmp .lt 11, 3) := by decide +kernel
theorem dJ6_numberOfLeadingZeros_0f7a4_40 : decode cJ6_numberOfLeadingZeros_0f7a4 40 = .ok (.iinc 1 (-8), 3) := by decide +kernel
theorem dJ6_numberOfLeadingZeros_0f7a4_43 : decode cJ6_numberOfLeadingZeros_0f7a4 43 = .ok (.iload_n 0, 1) := by decide +kernel
theorem dJ6_numberOfLeadingZeros_0f7a4_44 : decode cJ6_numberOfLeadingZeros_0f7a4 44 = .ok (.bipush 8, 2) := by decide +kernel
theorem dJ6_numberOfLeadingZeros_0f7a4_46 : decode cJ6_numberOfLeadingZeros_0f7a4 46 = .ok (.iushr, 1) := by decide +kernel
theorem dJ6_numberOfLeadingZeros_0f7a4_47 : decode cJ6_numberOfLeadingZeros_0f7a4 47 = .ok (.istore_n 0, 1) := by decide +kernel
theorem dJ6_numberOfLeadingZeros_0f7a4_48 : decode cJ6_numberOfLeadingZeros_0f7a4 48 = .ok (.iload_n 0, 1) := by decide +kernel
theorem dJ6_numberOfLeadingZeros_0f7a4_49 : decode cJ6_numberOfLeadingZeros_0f7a4 49 = .ok (.bipush 16, 2) := by decide +kernel
theorem dJ6_numberOfLeadingZeros_0f7a4_51 : decode cJ6_numberOfLeadingZeros_0f7a4 51 = .ok (.if_icmp .lt 10, 3) := by decide +kernel
theorem dJ6_numberOfLeadingZeros_0f7a4_54 : decode cJ6_numberOfLeadingZeros_0f7a4 54 = .ok (.iinc 1 (-4), 3) := by decide +kernel
theorem dJ6_numberOfLeadingZeros_0f7a4_57 : decode cJ6_numberOfLeadingZeros_0f7a4 57 = .ok (.iload_n 0, 1) := by decide +kernel
theorem dJ6_numberOfLeadingZeros_0f7a4_58 : decode cJ6_numberOfLeadingZeros_0f7a4 58 = .ok (.iconst 4, 1) := by decide +kernel
theorem dJ6_numberOfLeadingZeros_0f7a4_59 : decode cJ6_numberOfLeadingZeros_0f7a4 59 = .ok (.iushr, 1) := by decide +kernel
theorem dJ6_numberOfLeadingZeros_0f7a4_60 : decode cJ6_numberOfLeadingZeros_0f7a4 60 = .ok (.istore_n 0, 1) := by decide +kernel
theorem dJ6_numberOfLeadingZeros_0f7a4_61 : decode cJ6_numberOfLeadingZeros_0f7a4 61 = .ok (.iload_n 0, 1) := by decide +kernel
theorem dJ6_numberOfLeadingZeros_0f7a4_62 : decode cJ6_numberOfLeadingZeros_0f7a4 62 = .ok (.iconst 4, 1) := by decide +kernel
theorem dJ6_numberOfLeadingZeros_0f7a4_63 : decode cJ6_numberOfLeadingZeros_0f7a4 63 = .ok (.if_icmp .lt 10, 3) := by decide +kernel
theorem dJ6_numberOfLeadingZeros_0f7a4_66 : decode cJ6_numberOfLeadingZeros_0f7a4 66 = .ok (.iinc 1 (-2), 3) := by decide +kernel
theorem dJ6_numberOfLeadingZeros_0f7a4_69 : decode cJ6_numberOfLeadingZeros_0f7a4 69 = .ok (.iload_n 0, 1) := by decide +kernel
theorem dJ6_numberOfLeadingZeros_0f7a4_70 : decode cJ6_numberOfLeadingZeros_0f7a4 70 = .ok (.iconst 2, 1) := by decide +kernel
theorem dJ6_numberOfLeadingZeros_0f7a4_71 : decode cJ6_numberOfLeadingZeros_0f7a4 71 = .ok (.iushr, 1) := by decide +kernel
theorem dJ6_numberOfLeadingZeros_0f7a4_72 : decode cJ6_numberOfLeadingZeros_0f7a4 72 = .ok (.istore_n 0, 1) := by decide +kernel
theorem dJ6_numberOfLeadingZeros_0f7a4_73 : decode cJ6_numberOfLeadingZeros_0f7a4 73 = .ok (.iload_n 1, 1) := by decide +kernel
theorem dJ6_numberOfLeadingZeros_0f7a4_74 : decode cJ6_numberOfLeadingZeros_0f7a4 74 = .ok (.iload_n 0, 1) := by decide +kernel
theorem dJ6_numberOfLeadingZeros_0f7a4_75 : decode cJ6_numberOfLeadingZeros_0f7a4 75 = .ok (.iconst 1, 1) := by decide +kernel
theorem dJ6_numberOfLeadingZeros_0f7a4_76 : decode cJ6_numberOfLeadingZeros_0f7a4 76 = .ok (.iushr, 1) := by decide +kernel
theorem dJ6_numberOfLeadingZeros_0f7a4_77 : decode cJ6_numberOfLeadingZeros_0f7a4 77 = .ok (.isub, 1) := by decide +kernel
theorem dJ6_numberOfLeadingZeros_0f7a4_78 : decode cJ6_numberOfLeadingZeros_0f7a4 78 = .ok (.ireturn, 1) := by decide +kernel
theorem dJ6_numberOfTrailingZeros_0f7a4_0 : decode cJ6_numberOfTrailingZeros_0f7a4 0 = .ok (.iload_n 0, 1) := by decide +kernel
theorem dJ6_numberOfTrailingZeros_0f7a4_1 : decode cJ6_numberOfTrailingZeros_0f7a4 1 = .ok (.iconst (-1), 1) := by decide +kernel
theorem dJ6_numberOfTrailingZeros_0f7a4_2 : decode cJ6_numberOfTrailingZeros_0f7a4 2 = .ok (.ixor, 1) := by decide +kernel
theorem dJ6_numberOfTrailingZeros_0f7a4_3 : decode cJ6_numberOfTrailingZeros_0f7a4 3 = .ok (.iload_n 0, 1) := by decide +kernel
theorem dJ6_numberOfTrailingZeros_0f7a4_4 : decode cJ6_numberOfTrailingZeros_0f7a4 4 = .ok (.iconst 1, 1) := by decide +kernel
theorem dJ6_numberOfTrailingZeros_0f7a4_5 : decode cJ6_numberOfTrailingZeros_0f7a4 5 = .ok (.isub, 1) := by decide +kernel
theorem dJ6_numberOfTrailingZeros_0f7a4_6 : decode cJ6_numberOfTrailingZeros_0f7a4 6 = .ok (.iand, 1) := by decide +kernel
theorem dJ6_numberOfTrailingZeros_0f7a4_7 : decode cJ6_numberOfTrailingZeros_0f7a4 7 = .ok (.istore_n 0, 1) := by decide +kernel
theorem dJ6_numberOfTrailingZeros_0f7a4_8 : decode cJ6_numberOfTrailingZeros_0f7a4 8 = .ok (.iload_n 0, 1) := by decide +kernel
theorem dJ6_numberOfTrailingZeros_0f7a4_9 : decode cJ6_numberOfTrailingZeros_0f7a4 9 = .ok (.ifCond .gt 8, 3) := by decide +kernel
theorem dJ6_numberOfTrailingZeros_0f7a4_12 : decode cJ6_numberOfTrailingZeros_0f7a4 12 = .ok (.iload_n 0, 1) := by decide +kernel
theorem dJ6_numberOfTrailingZeros_0f7a4_13 : decode cJ6_numberOfTrailingZeros_0f7a4 13 = .ok (.bipush 32, 2) := by decide +kernel
theorem dJ6_numberOfTrailingZeros_0f7a4_15 : decode cJ6_numberOfTrailingZeros_0f7a4 15 = .ok (.iand, 1) := by decide +kernel
theorem dJ6_numberOfTrailingZeros_0f7a4_16 : decode cJ6_numberOfTrailingZeros_0f7a4 16 = .ok (.ireturn, 1) := by decide +kernel
theorem dJ6_numberOfTrailingZeros_0f7a4_17 : decode cJ6_numberOfTrailingZeros_0f7a4 17 = .ok (.iconst 1, 1) := by decide +kernel
theorem dJ6_numberOfTrailingZeros_0f7a4_18 : decode cJ6_numberOfTrailingZeros_0f7a4 18 = .ok (.istore_n 1, 1) := by decide +kernel
theorem dJ6_numberOfTrailingZeros_0f7a4_19 : decode cJ6_numberOfTrailingZeros_0f7a4 19 = .ok (.iload_n 0, 1) := by decide +kernel
theorem dJ6_numberOfTrailingZeros_0f7a4_20 : decode cJ6_numberOfTrailingZeros_0f7a4 20 = .ok (.ldc_w 264, 3) := by decide +kernel
theorem dJ6_numberOfTrailingZeros_0f7a4_23 : decode cJ6_numberOfTrailingZeros_0f7a4 23 = .ok (.if_icmp .le 11, 3) := by decide +kernel
theorem dJ6_numberOfTrailingZeros_0f7a4_26 : decode cJ6_numberOfTrailingZeros_0f7a4 26 = .ok (.iinc 1 16, 3) := by decide +kernel
theorem dJ6_numberOfTrailingZeros_0f7a4_29 : decode cJ6_numberOfTrailingZeros_0f7a4 29 = .ok (.iload_n 0, 1) := by decide +kernel
theorem dJ6_numberOfTrailingZeros_0f7a4_30 : decode cJ6_numberOfTrailingZeros_0f7a4 30 = .ok (.bipush 16, 2) := by decide +kernel
theorem dJ6_numberOfTrailingZeros_0f7a4_32 : decode cJ6_numberOfTrailingZeros_0f7a4 32 = .ok (.iushr, 1) := by decide +kernel
theorem dJ6_numberOfTrailingZeros_0f7a4_33 : decode cJ6_numberOfTrailingZeros_0f7a4 33 = .ok (.istore_n 0, 1) := by decide +kernel
theorem dJ6_numberOfTrailingZeros_0f7a4_34 : decode cJ6_numberOfTrailingZeros_0f7a4 34 = .ok (.iload_n 0, 1) := by decide +kernel
theorem dJ6_numberOfTrailingZeros_0f7a4_35 : decode cJ6_numberOfTrailingZeros_0f7a4 35 = .ok (.sipush 256, 3) := by decide +kernel
theorem dJ6_numberOfTrailingZeros_0f7a4_38 : decode cJ6_numberOfTrailingZeros_0f7a4 38 = .ok (.if_icmp .le 11, 3) := by decide +kernel
theorem dJ6_numberOfTrailingZeros_0f7a4_41 : decode cJ6_numberOfTrailingZeros_0f7a4 41 = .ok (.iinc 1 8, 3) := by decide +kernel
theorem dJ6_numberOfTrailingZeros_0f7a4_44 : decode cJ6_numberOfTrailingZeros_0f7a4 44 = .ok (.iload_n 0, 1) := by decide +kernel
theorem dJ6_numberOfTrailingZeros_0f7a4_45 : decode cJ6_numberOfTrailingZeros_0f7a4 45 = .ok (.bipush 8, 2) := by decide +kernel
theorem dJ6_numberOfTrailingZeros_0f7a4_47 : decode cJ6_numberOfTrailingZeros_0f7a4 47 = .ok (.iushr, 1) := by decide +kernel
theorem dJ6_numberOfTrailingZeros_0f7a4_48 : decode cJ6_numberOfTrailingZeros_0f7a4 48 = .ok (.istore_n 0, 1) := by decide +kernel
theorem dJ6_numberOfTrailingZeros_0f7a4_49 : decode cJ6_numberOfTrailingZeros_0f7a4 49 = .ok (.iload_n 0, 1) := by decide +kernel
theorem dJ6_numberOfTrailingZeros_0f7a4_50 : decode cJ6_numberOfTrailingZeros_0f7a4 50 = .ok (.bipush 16, 2) := by decide +kernel
theorem dJ6_numberOfTrailingZeros_0f7a4_52 : decode cJ6_numberOfTrailingZeros_0f7a4 52 = .ok (.if_icmp .le 10, 3) := by decide +kernel
theorem dJ6_numberOfTrailingZeros_0f7a4_55 : decode cJ6_numberOfTrailingZeros_0f7a4 55 = .ok (.iinc 1 4, 3) := by decide +kernel
theorem dJ6_numberOfTrailingZeros_0f7a4_58 : decode cJ6_numberOfTrailingZeros_0f7a4 58 = .ok (.iload_n 0, 1) := by decide +kernel
theorem dJ6_numberOfTrailingZeros_0f7a4_59 : decode cJ6_numberOfTrailingZeros_0f7a4 59 = .ok (.iconst 4, 1) := by decide +kernel
theorem dJ6_numberOfTrailingZeros_0f7a4_60 : decode cJ6_numberOfTrailingZeros_0f7a4 60 = .ok (.iushr, 1) := by decide +kernel
theorem dJ6_numberOfTrailingZeros_0f7a4_61 : decode cJ6_numberOfTrailingZeros_0f7a4 61 = .ok (.istore_n 0, 1) := by decide +kernel
theorem dJ6_numberOfTrailingZeros_0f7a4_62 : decode cJ6_numberOfTrailingZeros_0f7a4 62 = .ok (.iload_n 0, 1) := by decide +kernel
theorem dJ6_numberOfTrailingZeros_0f7a4_63 : decode cJ6_numberOfTrailingZeros_0f7a4 63 = .ok (.iconst 4, 1) := by decide +kernel
theorem dJ6_numberOfTrailingZeros_0f7a4_64 : decode cJ6_numberOfTrailingZeros_0f7a4 64 = .ok (.if_icmp .le 10, 3) := by decide +kernel
theorem dJ6_numberOfTrailingZeros_0f7a4_67 : decode cJ6_numberOfTrailingZeros_0f7a4 67 = .ok (.iinc 1 2, 3) := by decide +kernel
theorem dJ6_numberOfTrailingZeros_0f7a4_70 : decode cJ6_numberOfTrailingZeros_0f7a4 70 = .ok (.iload_n 0, 1) := by decide +kernel
theorem dJ6_numberOfTrailingZeros_0f7a4_71 : decode cJ6_numberOfTrailingZeros_0f7a4 71 = .ok (.iconst 2, 1) := by decide +kernel
theorem dJ6_numberOfTrailingZeros_0f7a4_72 : decode cJ6_numberOfTrailingZeros_0f7a4 72 = .ok (.iushr, 1) := by decide +kernel
theorem dJ6_numberOfTrailingZeros_0f7a4_73 : decode cJ6_numberOfTrailingZeros_0f7a4 73 = .ok (.istore_n 0, 1) := by decide +kernel
theorem dJ6_numberOfTrailingZeros_0f7a4_74 : decode cJ6_numberOfTrailingZeros_0f7a4 74 = .ok (.iload_n 1, 1) := by decide +kernel
theorem dJ6_numberOfTrailingZeros_0f7a4_75 : decode cJ6_numberOfTrailingZeros_0f7a4 75 = .ok (.iload_n 0, 1) := by decide +kernel
theorem dJ6_numberOfTrailingZeros_0f7a4_76 : decode cJ6_numberOfTrailingZeros_0f7a4 76 = .ok (.iconst 1, 1) := by decide +kernel
theorem dJ6_numberOfTrailingZeros_0f7a4_77 : decode cJ6_numberOfTrailingZeros_0f7a4 77 = .ok (.iushr, 1) := by decide +kernel
theorem dJ6_numberOfTrailingZeros_0f7a4_78 : decode cJ6_numberOfTrailingZeros_0f7a4 78 = .ok (.iadd, 1) := by decide +kernel
theorem dJ6_numberOfTrailingZeros_0f7a4_79 : decode cJ6_numberOfTrailingZeros_0f7a4 79 = .ok (.ireturn, 1) := by decide +kernel
theorem dJ6_bitCount_0f7a4_0 : decode cJ6_bitCount_0f7a4 0 = .ok (.iload_n 0, 1) := by decide +kernel
theorem dJ6_bitCount_0f7a4_1 : decode cJ6_bitCount_0f7a4 1 = .ok (.iload_n 0, 1) := by decide +kernel
theorem dJ6_bitCount_0f7a4_2 : decode cJ6_bitCount_0f7a4 2 = .ok (.iconst 1, 1) := by decide +kernel
theorem dJ6_bitCount_0f7a4_3 : decode cJ6_bitCount_0f7a4 3 = .ok (.iushr, 1) := by decide +kernel
theorem dJ6_bitCount_0f7a4_4 : decode cJ6_bitCount_0f7a4 4 = .ok (.ldc_w 265, 3) := by decide +kernel
theorem dJ6_bitCount_0f7a4_7 : decode cJ6_bitCount_0f7a4 7 = .ok (.iand, 1) := by decide +kernel
theorem dJ6_bitCount_0f7a4_8 : decode cJ6_bitCount_0f7a4 8 = .ok (.isub, 1) := by decide +kernel
theorem dJ6_bitCount_0f7a4_9 : decode cJ6_bitCount_0f7a4 9 = .ok (.istore_n 0, 1) := by decide +kernel
theorem dJ6_bitCount_0f7a4_10 : decode cJ6_bitCount_0f7a4 10 = .ok (.iload_n 0, 1) := by decide +kernel
theorem dJ6_bitCount_0f7a4_11 : decode cJ6_bitCount_0f7a4 11 = .ok (.ldc_w 266, 3) := by decide +kernel
theorem dJ6_bitCount_0f7a4_14 : decode cJ6_bitCount_0f7a4 14 = .ok (.iand, 1) := by decide +kernel
theorem dJ6_bitCount_0f7a4_15 : decode cJ6_bitCount_0f7a4 15 = .ok (.iload_n 0, 1) := by decide +kernel
theorem dJ6_bitCount_0f7a4_16 : decode cJ6_bitCount_0f7a4 16 = .ok (.iconst 2, 1) := by decide +kernel
theorem dJ6_bitCount_0f7a4_17 : decode cJ6_bitCount_0f7a4 17 = .ok (.iushr, 1) := by decide +kernel
theorem dJ6_bitCount_0f7a4_18 : decode cJ6_bitCount_0f7a4 18 = .ok (.ldc_w 266, 3) := by decide +kernel
theorem dJ6_bitCount_0f7a4_21 : decode cJ6_bitCount_0f7a4 21 = .ok (.iand, 1) := by decide +kernel
theorem dJ6_bitCount_0f7a4_22 : decode cJ6_bitCount_0f7a4 22 = .ok (.iadd, 1) := by decide +kernel
theorem dJ6_bitCount_0f7a4_23 : decode cJ6_bitCount_0f7a4 23 = .ok (.istore_n 0, 1) := by decide +kernel
theorem dJ6_bitCount_0f7a4_24 : decode cJ6_bitCount_0f7a4 24 = .ok (.iload_n 0, 1) := by decide +kernel
theorem dJ6_bitCount_0f7a4_25 : decode cJ6_bitCount_0f7a4 25 = .ok (.iload_n 0, 1) := by decide +kernel
theorem dJ6_bitCount_0f7a4_26 : decode cJ6_bitCount_0f7a4 26 = .ok (.iconst 4, 1) := by decide +kernel
theorem dJ6_bitCount_0f7a4_27 : decode cJ6_bitCount_0f7a4 27 = .ok (.iushr, 1) := by decide +kernel
theorem dJ6_bitCount_0f7a4_28 : decode cJ6_bitCount_0f7a4 28 = .ok (.iadd, 1) := by decide +kernel
theorem dJ6_bitCount_0f7a4_29 : decode cJ6_bitCount_0f7a4 29 = .ok (.ldc_w 267, 3) := by decide +kernel
theorem dJ6_bitCount_0f7a4_32 : decode cJ6_bitCount_0f7a4 32 = .ok (.iand, 1) := by decide +kernel
theorem dJ6_bitCount_0f7a4_33 : decode cJ6_bitCount_0f7a4 33 = .ok (.istore_n 0, 1) := by decide +kernel
theorem dJ6_bitCount_0f7a4_34 : decode cJ6_bitCount_0f7a4 34 = .ok (.iload_n 0, 1) := by decide +kernel
theorem dJ6_bitCount_0f7a4_35 : decode cJ6_bitCount_0f7a4 35 = .ok (.iload_n 0, 1) := by decide +kernel
theorem dJ6_bitCount_0f7a4_36 : decode cJ6_bitCount_0f7a4 36 = .ok (.bipush 8, 2) := by decide +kernel
theorem dJ6_bitCount_0f7a4_38 : decode cJ6_bitCount_0f7a4 38 = .ok (.iushr, 1) := by decide +kernel
theorem dJ6_bitCount_0f7a4_39 : decode cJ6_bitCount_0f7a4 39 = .ok (.iadd, 1) := by decide +kernel
theorem dJ6_bitCount_0f7a4_40 : decode cJ6_bitCount_0f7a4 40 = .ok (.istore_n 0, 1) := by decide +kernel
theorem dJ6_bitCount_0f7a4_41 : decode cJ6_bitCount_0f7a4 41 = .ok (.iload_n 0, 1) := by decide +kernel
theorem dJ6_bitCount_0f7a4_42 : decode cJ6_bitCount_0f7a4 42 = .ok (.iload_n 0, 1) := by decide +kernel
theorem dJ6_bitCount_0f7a4_43 : decode cJ6_bitCount_0f7a4 43 = .ok (.bipush 16, 2) := by decide +kernel
theorem dJ6_bitCount_0f7a4_45 : decode cJ6_bitCount_0f7a4 45 = .ok (.iushr, 1) := by decide +kernel
theorem dJ6_bitCount_0f7a4_46 : decode cJ6_bitCount_0f7a4 46 = .ok (.iadd, 1) := by decide +kernel
theorem dJ6_bitCount_0f7a4_47 : decode cJ6_bitCount_0f7a4 47 = .ok (.istore_n 0, 1) := by decide +kernel
theorem dJ6_bitCount_0f7a4_48 : decode cJ6_bitCount_0f7a4 48 = .ok (.iload_n 0, 1) := by decide +kernel
theorem dJ6_bitCount_0f7a4_49 : decode cJ6_bitCount_0f7a4 49 = .ok (.bipush 63, 2) := by decide +kernel
theorem dJ6_bitCount_0f7a4_51 : decode cJ6_bitCount_0f7a4 51 = .ok (.iand, 1) := by decide +kernel
theorem dJ6_bitCount_0f7a4_52 : decode cJ6_bitCount_0f7a4 52 = .ok (.ireturn, 1) := by decide +kernel
theorem dJ9_max_7cf53_0 : decode cJ9_max_7cf53 0 = .ok (.iload_n 0, 1) := by decide +kernel
theorem dJ9_max_7cf53_1 : decode cJ9_max_7cf53 1 = .ok (.iload_n 1, 1) := by decide +kernel
theorem dJ9_max_7cf53_2 : decode cJ9_max_7cf53 2 = .ok (.if_icmp .lt 7, 3) := by decide +kernel
theorem dJ9_max_7cf53_5 : decode cJ9_max_7cf53 5 = .ok (.iload_n 0, 1) := by decide +kernel
theorem dJ9_max_7cf53_6 : decode cJ9_max_7cf53 6 = .ok (.goto 4, 3) := by decide +kernel
theorem dJ9_max_7cf53_9 : decode cJ9_max_7cf53 9 = .ok (.iload_n 1, 1) := by decide +kernel
theorem dJ9_max_7cf53_10 : decode cJ9_max_7cf53 10 = .ok (.ireturn, 1) := by decide +kernel
theorem dJ9_min_7cf53_0 : decode cJ9_min_7cf53 0 = .ok (.iload_n 0, 1) := by decide +kernel
theorem dJ9_min_7cf53_1 : decode cJ9_min_7cf53 1 = .ok (.iload_n 1, 1) := by decide +kernel
theorem dJ9_min_7cf53_2 : decode cJ9_min_7cf53 2 = .ok (.if_icmp .gt 7, 3) := by decide +kernel
theorem dJ9_min_7cf53_5 : decode cJ9_min_7cf53 5 = .ok (.iload_n 0, 1) := by decide +kernel
theorem dJ9_min_7cf53_6 : decode cJ9_min_7cf53 6 = .ok (.goto 4, 3) := by decide +kernel
theorem dJ9_min_7cf53_9 : decode cJ9_min_7cf53 9 = .ok (.iload_n 1, 1) := by decide +kernel
theorem dJ9_min_7cf53_10 : decode cJ9_min_7cf53 10 = .ok (.ireturn, 1) := by decide +kernel
