set_option maxRecDepth 20000 in
theorem ggX8_placeOf_X8_aheadOf : GoodIn wsX8_placeOf wsX8_aheadOf := goodIn_r _ [4] (by decide +kernel) (by decide +kernel)
set_option maxRecDepth 20000 in
theorem gX8_placeOf_X8_aheadOf : GoodIn wsX8_placeOf (va_wsS RX8 100 yX8_aheadOf wsX8_aheadOf) := goodIn_app (goodIn_of _ (by decide +kernel)) ggX8_placeOf_X8_aheadOf
theorem dX8_placeOf_0 : decode cX8_placeOf 0 = .ok (.aload_n 0, 1) := by decide +kernel
theorem dX8_placeOf_1 : decode cX8_placeOf 1 = .ok (.iload_n 1, 1) := by decide +kernel
theorem dX8_placeOf_2 : decode cX8_placeOf 2 = .ok (.invokestatic 100, 3) := by decide +kernel
theorem dX8_placeOf_5 : decode cX8_placeOf 5 = .ok (.istore_n 2, 1) := by decide +kernel
theorem dX8_placeOf_6 : decode cX8_placeOf 6 = .ok (.iload_n 2, 1) := by decide +kernel
theorem dX8_placeOf_7 : decode cX8_placeOf 7 = .ok (.aload_n 0, 1) := by decide +kernel
theorem dX8_placeOf_8 : decode cX8_placeOf 8 = .ok (.iconst 0, 1) := by decide +kernel
theorem dX8_placeOf_9 : decode cX8_placeOf 9 = .ok (.iaload, 1) := by decide +kernel
theorem dX8_placeOf_10 : decode cX8_placeOf 10 = .ok (.if_icmp .ge 16, 3) := by decide +kernel
theorem dX8_placeOf_13 : decode cX8_placeOf 13 = .ok (.aload_n 0, 1) := by decide +kernel
theorem dX8_placeOf_14 : decode cX8_placeOf 14 = .ok (.iconst 1, 1) := by decide +kernel
theorem dX8_placeOf_15 : decode cX8_placeOf 15 = .ok (.iload_n 2, 1) := by decide +kernel
theorem dX8_placeOf_16 : decode cX8_placeOf 16 = .ok (.iadd, 1) := by decide +kernel
theorem dX8_placeOf_17 : decode cX8_placeOf 17 = .ok (.iaload, 1) := by decide +kernel
theorem dX8_placeOf_18 : decode cX8_placeOf 18 = .ok (.iload_n 1, 1) := by decide +kernel
theorem dX8_placeOf_19 : decode cX8_placeOf 19 = .ok (.if_icmp .ne 7, 3) := by decide +kernel
theorem dX8_placeOf_22 : decode cX8_placeOf 22 = .ok (.iload_n 2, 1) := by decide +kernel
theorem dX8_placeOf_23 : decode cX8_placeOf 23 = .ok (.goto 5, 3) := by decide +kernel
theorem dX8_placeOf_26 : decode cX8_placeOf 26 = .ok (.bipush (-9), 2) := by decide +kernel
theorem dX8_placeOf_28 : decode cX8_placeOf 28 = .ok (.ireturn, 1) := by decide +kernel
set_option maxRecDepth 20000 in
theorem ggX8_enters_X8_placeOf : GoodIn wsX8_enters wsX8_placeOf := goodIn_r _ [4, 5, 6, 3, 7] (by decide +kernel) (by decide +kernel)
set_option maxRecDepth 20000 in
theorem gX8_enters_X8_placeOf : GoodIn wsX8_enters (va_wsS RX8 104 yX8_placeOf wsX8_placeOf) := goodIn_app (goodIn_of _ (by decide +kernel)) ggX8_enters_X8_placeOf
set_option maxRecDepth 20000 in
theorem ggX8_enters_X8_aheadOf : GoodIn wsX8_enters wsX8_aheadOf := goodIn_r _ [7] (by decide +kernel) (by decide +kernel)
set_option maxRecDepth 20000 in
theorem gX8_enters_X8_aheadOf : GoodIn wsX8_enters (va_wsS RX8 100 yX8_aheadOf wsX8_aheadOf) := goodIn_app (goodIn_of _ (by decide +kernel)) ggX8_enters_X8_aheadOf
theorem dX8_enters_0 : decode cX8_enters 0 = .ok (.aload_n 0, 1) := by decide +kernel
theorem dX8_enters_1 : decode cX8_enters 1 = .ok (.iload_n 1, 1) := by decide +kernel
theorem dX8_enters_2 : decode cX8_enters 2 = .ok (.invokestatic 104, 3) := by decide +kernel
theorem dX8_enters_5 : decode cX8_enters 5 = .ok (.istore_n 3, 1) := by decide +kernel
theorem dX8_enters_6 : decode cX8_enters 6 = .ok (.iload_n 3, 1) := by decide +kernel
theorem dX8_enters_7 : decode cX8_enters 7 = .ok (.bipush (-9), 2) := by decide +kernel
theorem dX8_enters_9 : decode cX8_enters 9 = .ok (.if_icmp .ne 69, 3) := by decide +kernel
theorem dX8_enters_12 : decode cX8_enters 12 = .ok (.aload_n 0, 1) := by decide +kernel
theorem dX8_enters_13 : decode cX8_enters 13 = .ok (.iload_n 1, 1) := by decide +kernel
theorem dX8_enters_14 : decode cX8_enters 14 = .ok (.invokestatic 100, 3) := by decide +kernel
theorem dX8_enters_17 : decode cX8_enters 17 = .ok (.istore_n 3, 1) := by decide +kernel
theorem dX8_enters_18 : decode cX8_enters 18 = .ok (.aload_n 0, 1) := by decide +kernel
theorem dX8_enters_19 : decode cX8_enters 19 = .ok (.iconst 0, 1) := by decide +kernel
theorem dX8_enters_20 : decode cX8_enters 20 = .ok (.iaload, 1) := by decide +kernel
theorem dX8_enters_21 : decode cX8_enters 21 = .ok (.istore 4, 2) := by decide +kernel
theorem dX8_enters_23 : decode cX8_enters 23 = .ok (.iload 4, 2) := by decide +kernel
theorem dX8_enters_25 : decode cX8_enters 25 = .ok (.iload_n 3, 1) := by decide +kernel
theorem dX8_enters_26 : decode cX8_enters 26 = .ok (.if_icmp .le 39, 3) := by decide +kernel
theorem dX8_enters_29 : decode cX8_enters 29 = .ok (.aload_n 0, 1) := by decide +kernel
theorem dX8_enters_30 : decode cX8_enters 30 = .ok (.iconst 1, 1) := by decide +kernel
theorem dX8_enters_31 : decode cX8_enters 31 = .ok (.iload 4, 2) := by decide +kernel
theorem dX8_enters_33 : decode cX8_enters 33 = .ok (.iadd, 1) := by decide +kernel
theorem dX8_enters_34 : decode cX8_enters 34 = .ok (.aload_n 0, 1) := by decide +kernel
theorem dX8_enters_35 : decode cX8_enters 35 = .ok (.iconst 1, 1) := by decide +kernel
theorem dX8_enters_36 : decode cX8_enters 36 = .ok (.iload 4, 2) := by decide +kernel
theorem dX8_enters_38 : decode cX8_enters 38 = .ok (.iadd, 1) := by decide +kernel
theorem dX8_enters_39 : decode cX8_enters 39 = .ok (.iconst 1, 1) := by decide +kernel
theorem dX8_enters_40 : decode cX8_enters 40 = .ok (.isub, 1) := by decide +kernel
theorem dX8_enters_41 : decode cX8_enters 41 = .ok (.iaload, 1) := by decide +kernel
theorem dX8_enters_42 : decode cX8_enters 42 = .ok (.iastore, 1) := by decide +kernel
theorem dX8_enters_43 : decode cX8_enters 43 = .ok (.aload_n 0, 1) := by decide +kernel
theorem dX8_enters_44 : decode cX8_enters 44 = .ok (.bipush 49, 2) := by decide +kernel
theorem dX8_enters_46 : decode cX8_enters 46 = .ok (.iload 4, 2) := by decide +kernel
theorem dX8_enters_48 : decode cX8_enters 48 = .ok (.iadd, 1) := by decide +kernel
theorem dX8_enters_49 : decode cX8_enters 49 = .ok (.aload_n 0, 1) := by decide +kernel
theorem dX8_enters_50 : decode cX8_enters 50 = .ok (.bipush 49, 2) := by decide +kernel
theorem dX8_enters_52 : decode cX8_enters 52 = .ok (.iload 4, 2) := by decide +kernel
theorem dX8_enters_54 : decode cX8_enters 54 = .ok (.iadd, 1) := by decide +kernel
theorem dX8_enters_55 : decode cX8_enters 55 = .ok (.iconst 1, 1) := by decide +kernel
theorem dX8_enters_56 : decode cX8_enters 56 = .ok (.isub, 1) := by decide +kernel
theorem dX8_enters_57 : decode cX8_enters 57 = .ok (.iaload, 1) := by decide +kernel
theorem dX8_enters_58 : decode cX8_enters 58 = .ok (.iastore, 1) := by decide +kernel
theorem dX8_enters_59 : decode cX8_enters 59 = .ok (.iinc 4 (-1), 3) := by decide +kernel
theorem dX8_enters_62 : decode cX8_enters 62 = .ok (.goto (-39), 3) := by decide +kernel
theorem dX8_enters_65 : decode cX8_enters 65 = .ok (.aload_n 0, 1) := by decide +kernel
theorem dX8_enters_66 : decode cX8_enters 66 = .ok (.iconst 0, 1) := by decide +kernel
theorem dX8_enters_67 : decode cX8_enters 67 = .ok (.dup2, 1) := by decide +kernel
theorem dX8_enters_68 : decode cX8_enters 68 = .ok (.iaload, 1) := by decide +kernel
theorem dX8_enters_69 : decode cX8_enters 69 = .ok (.iconst 1, 1) := by decide +kernel
theorem dX8_enters_70 : decode cX8_enters 70 = .ok (.iadd, 1) := by decide +kernel
theorem dX8_enters_71 : decode cX8_enters 71 = .ok (.iastore, 1) := by decide +kernel
theorem dX8_enters_72 : decode cX8_enters 72 = .ok (.aload_n 0, 1) := by decide +kernel
theorem dX8_enters_73 : decode cX8_enters 73 = .ok (.iconst 1, 1) := by decide +kernel
theorem dX8_enters_74 : decode cX8_enters 74 = .ok (.iload_n 3, 1) := by decide +kernel
theorem dX8_enters_75 : decode cX8_enters 75 = .ok (.iadd, 1) := by decide +kernel
theorem dX8_enters_76 : decode cX8_enters 76 = .ok (.iload_n 1, 1) := by decide +kernel
theorem dX8_enters_77 : decode cX8_enters 77 = .ok (.iastore, 1) := by decide +kernel
theorem dX8_enters_78 : decode cX8_enters 78 = .ok (.aload_n 0, 1) := by decide +kernel
theorem dX8_enters_79 : decode cX8_enters 79 = .ok (.bipush 49, 2) := by decide +kernel
theorem dX8_enters_81 : decode cX8_enters 81 = .ok (.iload_n 3, 1) := by decide +kernel
theorem dX8_enters_82 : decode cX8_enters 82 = .ok (.iadd, 1) := by decide +kernel
theorem dX8_enters_83 : decode cX8_enters 83 = .ok (.iload_n 2, 1) := by decide +kernel
theorem dX8_enters_84 : decode cX8_enters 84 = .ok (.iastore, 1) := by decide +kernel
theorem dX8_enters_85 : decode cX8_enters 85 = .ok (.return_, 1) := by decide +kernel
theorem dX8_leaves_0 : decode cX8_leaves 0 = .ok (.iload_n 1, 1) := by decide +kernel
theorem dX8_leaves_1 : decode cX8_leaves 1 = .ok (.istore_n 2, 1) := by decide +kernel
theorem dX8_leaves_2 : decode cX8_leaves 2 = .ok (.iload_n 2, 1) := by decide +kernel
theorem dX8_leaves_3 : decode cX8_leaves 3 = .ok (.iconst 1, 1) := by decide +kernel
theorem dX8_leaves_4 : decode cX8_leaves 4 = .ok (.iadd, 1) := by decide +kernel
theorem dX8_leaves_5 : decode cX8_leaves 5 = .ok (.aload_n 0, 1) := by decide +kernel
theorem dX8_leaves_6 : decode cX8_leaves 6 = .ok (.iconst 0, 1) := by decide +kernel
theorem dX8_leaves_7 : decode cX8_leaves 7 = .ok (.iaload, 1) := by decide +kernel
theorem dX8_leaves_8 : decode cX8_leaves 8 = .ok (.if_icmp .ge 35, 3) := by decide +kernel
theorem dX8_leaves_11 : decode cX8_leaves 11 = .ok (.aload_n 0, 1) := by decide +kernel
theorem dX8_leaves_12 : decode cX8_leaves 12 = .ok (.iconst 1, 1) := by decide +kernel
theorem dX8_leaves_13 : decode cX8_leaves 13 = .ok (.iload_n 2, 1) := by decide +kernel
theorem dX8_leaves_14 : decode cX8_leaves 14 = .ok (.iadd, 1) := by decide +kernel
theorem dX8_leaves_15 : decode cX8_leaves 15 = .ok (.aload_n 0, 1) := by decide +kernel
theorem dX8_leaves_16 : decode cX8_leaves 16 = .ok (.iconst 1, 1) := by decide +kernel
theorem dX8_leaves_17 : decode cX8_leaves 17 = .ok (.iload_n 2, 1) := by decide +kernel
theorem dX8_leaves_18 : decode cX8_leaves 18 = .ok (.iadd, 1) := by decide +kernel
theorem dX8_leaves_19 : decode cX8_leaves 19 = .ok (.iconst 1, 1) := by decide +kernel
theorem dX8_leaves_20 : decode cX8_leaves 20 = .ok (.iadd, 1) := by decide +kernel
theorem dX8_leaves_21 : decode cX8_leaves 21 = .ok (.iaload, 1) := by decide +kernel
theorem dX8_leaves_22 : decode cX8_leaves 22 = .ok (.iastore, 1) := by decide +kernel
theorem dX8_leaves_23 : decode cX8_leaves 23 = .ok (.aload_n 0, 1) := by decide +kernel
theorem dX8_leaves_24 : decode cX8_leaves 24 = .ok (.bipush 49, 2) := by decide +kernel
theorem dX8_leaves_26 : decode cX8_leaves 26 = .ok (.iload_n 2, 1) := by decide +kernel
theorem dX8_leaves_27 : decode cX8_leaves 27 = .ok (.iadd, 1) := by decide +kernel
theorem dX8_leaves_28 : decode cX8_leaves 28 = .ok (.aload_n 0, 1) := by decide +kernel
theorem dX8_leaves_29 : decode cX8_leaves 29 = .ok (.bipush 49, 2) := by decide +kernel
theorem dX8_leaves_31 : decode cX8_leaves 31 = .ok (.iload_n 2, 1) := by decide +kernel
theorem dX8_leaves_32 : decode cX8_leaves 32 = .ok (.iadd, 1) := by decide +kernel
theorem dX8_leaves_33 : decode cX8_leaves 33 = .ok (.iconst 1, 1) := by decide +kernel
theorem dX8_leaves_34 : decode cX8_leaves 34 = .ok (.iadd, 1) := by decide +kernel
theorem dX8_leaves_35 : decode cX8_leaves 35 = .ok (.iaload, 1) := by decide +kernel
theorem dX8_leaves_36 : decode cX8_leaves 36 = .ok (.iastore, 1) := by decide +kernel
theorem dX8_leaves_37 : decode cX8_leaves 37 = .ok (.iinc 2 1, 3) := by decide +kernel
theorem dX8_leaves_40 : decode cX8_leaves 40 = .ok (.goto (-38), 3) := by decide +kernel
theorem dX8_leaves_43 : decode cX8_leaves 43 = .ok (.aload_n 0, 1) := by decide +kernel
theorem dX8_leaves_44 : decode cX8_leaves 44 = .ok (.iconst 0, 1) := by decide +kernel
theorem dX8_leaves_45 : decode cX8_leaves 45 = .ok (.dup2, 1) := by decide +kernel
theorem dX8_leaves_46 : decode cX8_leaves 46 = .ok (.iaload, 1) := by decide +kernel
theorem dX8_leaves_47 : decode cX8_leaves 47 = .ok (.iconst 1, 1) := by decide +kernel
theorem dX8_leaves_48 : decode cX8_leaves 48 = .ok (.isub, 1) := by decide +kernel
theorem dX8_leaves_49 : decode cX8_leaves 49 = .ok (.iastore, 1) := by decide +kernel
theorem dX8_leaves_50 : decode cX8_leaves 50 = .ok (.return_, 1) := by decide +kernel
theorem dX8_here_0 : decode cX8_here 0 = .ok (.iload_n 2, 1) := by decide +kernel
theorem dX8_here_1 : decode cX8_here 1 = .ok (.aload_n 0, 1) := by decide +kernel
theorem dX8_here_2 : decode cX8_here 2 = .ok (.getfield 16, 3) := by decide +kernel
theorem dX8_here_5 : decode cX8_here 5 = .ok (.iload_n 1, 1) := by decide +kernel
theorem dX8_here_6 : decode cX8_here 6 = .ok (.iaload, 1) := by decide +kernel
theorem dX8_here_7 : decode cX8_here 7 = .ok (.if_icmp .ge 17, 3) := by decide +kernel
theorem dX8_here_10 : decode cX8_here 10 = .ok (.aload_n 0, 1) := by decide +kernel
theorem dX8_here_11 : decode cX8_here 11 = .ok (.getfield 19, 3) := by decide +kernel
theorem dX8_here_14 : decode cX8_here 14 = .ok (.bipush 90, 2) := by decide +kernel
theorem dX8_here_16 : decode cX8_here 16 = .ok (.iload_n 1, 1) := by decide +kernel
theorem dX8_here_17 : decode cX8_here 17 = .ok (.imul, 1) := by decide +kernel
theorem dX8_here_18 : decode cX8_here 18 = .ok (.iload_n 2, 1) := by decide +kernel
theorem dX8_here_19 : decode cX8_here 19 = .ok (.iadd, 1) := by decide +kernel
theorem dX8_here_20 : decode cX8_here 20 = .ok (.iaload, 1) := by decide +kernel
theorem dX8_here_21 : decode cX8_here 21 = .ok (.goto 6, 3) := by decide +kernel
theorem dX8_here_24 : decode cX8_here 24 = .ok (.sipush (-1000), 3) := by decide +kernel
theorem dX8_here_27 : decode cX8_here 27 = .ok (.ireturn, 1) := by decide +kernel
set_option maxRecDepth 20000 in
theorem ggX8_hexOf_X8_in : GoodIn wsX8_hexOf wsX8_in := goodIn_r _ [8] (by decide +kernel) (by decide +kernel)
set_option maxRecDepth 20000 in
theorem gX8_hexOf_X8_in : GoodIn wsX8_hexOf (va_wsS RX8 65 yX8_in wsX8_in) := goodIn_app (goodIn_of _ (by decide +kernel)) ggX8_hexOf_X8_in
theorem dX8_hexOf_0 : decode cX8_hexOf 0 = .ok (.iload_n 0, 1) := by decide +kernel
theorem dX8_hexOf_1 : decode cX8_hexOf 1 = .ok (.i2l, 1) := by decide +kernel
theorem dX8_hexOf_2 : decode cX8_hexOf 2 = .ok (.ldc2_w 107, 3) := by decide +kernel
theorem dX8_hexOf_5 : decode cX8_hexOf 5 = .ok (.ldc2_w 109, 3) := by decide +kernel
theorem dX8_hexOf_8 : decode cX8_hexOf 8 = .ok (.invokestatic 65, 3) := by decide +kernel
theorem dX8_hexOf_11 : decode cX8_hexOf 11 = .ok (.ifCond .eq 10, 3) := by decide +kernel
theorem dX8_hexOf_14 : decode cX8_hexOf 14 = .ok (.iload_n 0, 1) := by decide +kernel
theorem dX8_hexOf_15 : decode cX8_hexOf 15 = .ok (.bipush 48, 2) := by decide +kernel
theorem dX8_hexOf_17 : decode cX8_hexOf 17 = .ok (.isub, 1) := by decide +kernel
theorem dX8_hexOf_18 : decode cX8_hexOf 18 = .ok (.goto 26, 3) := by decide +kernel
theorem dX8_hexOf_21 : decode cX8_hexOf 21 = .ok (.iload_n 0, 1) := by decide +kernel
theorem dX8_hexOf_22 : decode cX8_hexOf 22 = .ok (.i2l, 1) := by decide +kernel
theorem dX8_hexOf_23 : decode cX8_hexOf 23 = .ok (.ldc2_w 111, 3) := by decide +kernel
theorem dX8_hexOf_26 : decode cX8_hexOf 26 = .ok (.ldc2_w 113, 3) := by decide +kernel
theorem dX8_hexOf_29 : decode cX8_hexOf 29 = .ok (.invokestatic 65, 3) := by decide +kernel
theorem dX8_hexOf_32 : decode cX8_hexOf 32 = .ok (.ifCond .eq 10, 3) := by decide +kernel
theorem dX8_hexOf_35 : decode cX8_hexOf 35 = .ok (.iload_n 0, 1) := by decide +kernel
theorem dX8_hexOf_36 : decode cX8_hexOf 36 = .ok (.bipush 87, 2) := by decide +kernel
theorem dX8_hexOf_38 : decode cX8_hexOf 38 = .ok (.isub, 1) := by decide +kernel
theorem dX8_hexOf_39 : decode cX8_hexOf 39 = .ok (.goto 5, 3) := by decide +kernel
theorem dX8_hexOf_42 : decode cX8_hexOf 42 = .ok (.bipush (-9), 2) := by decide +kernel
theorem dX8_hexOf_44 : decode cX8_hexOf 44 = .ok (.ireturn, 1) := by decide +kernel
set_option maxRecDepth 20000 in
theorem ggX8_readsItem_X8_here : GoodIn wsX8_readsItem wsX8_here := goodIn_r _ [9, 10, 11, 32, 33, 34, 35, 36, 37, 38, 39, 40, 41, 42, 43, 44, 45, 46, 47, 48, 49, 50, 51, 52, 53] (by decide +kernel) (by decide +kernel)
set_option maxRecDepth 20000 in
theorem gX8_readsItem_X8_here : GoodIn wsX8_readsItem (wsV RX8 115 RX8 yX8_here wsX8_here) := goodIn_app (goodIn_of _ (by decide +kernel)) ggX8_readsItem_X8_here
set_option maxRecDepth 20000 in
theorem ggX8_readsItem_X8_hexOf : GoodIn wsX8_readsItem wsX8_hexOf := goodIn_r _ [14, 2, 3, 15, 16, 17, 18, 8, 19] (by decide +kernel) (by decide +kernel)
set_option maxRecDepth 20000 in
theorem gX8_readsItem_X8_hexOf : GoodIn wsX8_readsItem (va_wsS RX8 118 yX8_hexOf wsX8_hexOf) := goodIn_app (goodIn_of _ (by decide +kernel)) ggX8_readsItem_X8_hexOf
set_option maxRecDepth 20000 in
theorem ggX8_readsItem_X8_word : GoodIn wsX8_readsItem wsX8_word := goodIn_r _ [22] (by decide +kernel) (by decide +kernel)
set_option maxRecDepth 20000 in
theorem gX8_readsItem_X8_word : GoodIn wsX8_readsItem (va_wsS RX8 97 yX8_word wsX8_word) := goodIn_app (goodIn_of _ (by decide +kernel)) ggX8_readsItem_X8_word
set_option maxRecDepth 20000 in
theorem ggX8_readsItem_X8_placeOf : GoodIn wsX8_readsItem wsX8_placeOf := goodIn_r _ [25, 26, 27, 8, 28] (by decide +kernel) (by decide +kernel)
set_option maxRecDepth 20000 in
theorem gX8_readsItem_X8_placeOf : GoodIn wsX8_readsItem (va_wsS RX8 104 yX8_placeOf wsX8_placeOf) := goodIn_app (goodIn_of _ (by decide +kernel)) ggX8_readsItem_X8_placeOf
set_option maxRecDepth 20000 in
theorem ggX8_readsItem_X8_in : GoodIn wsX8_readsItem wsX8_in := goodIn_r _ [19] (by decide +kernel) (by decide +kernel)
set_option maxRecDepth 20000 in
theorem gX8_readsItem_X8_in : GoodIn wsX8_readsItem (va_wsS RX8 65 yX8_in wsX8_in) := goodIn_app (goodIn_of _ (by decide +kernel)) ggX8_readsItem_X8_in
set_option maxRecDepth 20000 in
theorem ggX8_readsItem_X8_enters : GoodIn wsX8_readsItem wsX8_enters := goodIn_r _ [31, 23, 24, 8, 25, 26, 27, 28] (by decide +kernel) (by decide +kernel)
set_option maxRecDepth 20000 in
theorem gX8_readsItem_X8_enters : GoodIn wsX8_readsItem (va_wsS RX8 121 yX8_enters wsX8_enters) := goodIn_app (goodIn_of _ (by decide +kernel)) ggX8_readsItem_X8_enters
theorem dX8_readsItem_0 : decode cX8_readsItem 0 = .ok (.iload_n 2, 1) := by decide +kernel
theorem dX8_readsItem_1 : decode cX8_readsItem 1 = .ok (.istore_n 3, 1) := by decide +kernel
theorem dX8_readsItem_2 : decode cX8_readsItem 2 = .ok (.iconst 0, 1) := by decide +kernel
theorem dX8_readsItem_3 : decode cX8_readsItem 3 = .ok (.istore 4, 2) := by decide +kernel
theorem dX8_readsItem_5 : decode cX8_readsItem 5 = .ok (.iconst 0, 1) := by decide +kernel
theorem dX8_readsItem_6 : decode cX8_readsItem 6 = .ok (.istore 5, 2) := by decide +kernel
theorem dX8_readsItem_8 : decode cX8_readsItem 8 = .ok (.aload_n 0, 1) := by decide +kernel
theorem dX8_readsItem_9 : decode cX8_readsItem 9 = .ok (.iload_n 1, 1) := by decide +kernel
theorem dX8_readsItem_10 : decode cX8_readsItem 10 = .ok (.iload_n 3, 1) := by decide +kernel
theorem dX8_readsItem_11 : decode cX8_readsItem 11 = .ok (.invokevirtual 115, 3) := by decide +kernel
theorem dX8_readsItem_14 : decode cX8_readsItem 14 = .ok (.invokestatic 118, 3) := by decide +kernel
theorem dX8_readsItem_17 : decode cX8_readsItem 17 = .ok (.ifCond .lt 38, 3) := by decide +kernel
theorem dX8_readsItem_20 : decode cX8_readsItem 20 = .ok (.iload 5, 2) := by decide +kernel
theorem dX8_readsItem_22 : decode cX8_readsItem 22 = .ok (.bipush 6, 2) := by decide +kernel
theorem dX8_readsItem_24 : decode cX8_readsItem 24 = .ok (.if_icmp .ne 5, 3) := by decide +kernel
theorem dX8_readsItem_27 : decode cX8_readsItem 27 = .ok (.iload_n 3, 1) := by decide +kernel
theorem dX8_readsItem_28 : decode cX8_readsItem 28 = .ok (.ireturn, 1) := by decide +kernel
theorem dX8_readsItem_29 : decode cX8_readsItem 29 = .ok (.bipush 16, 2) := by decide +kernel
theorem dX8_readsItem_31 : decode cX8_readsItem 31 = .ok (.iload 4, 2) := by decide +kernel
theorem dX8_readsItem_33 : decode cX8_readsItem 33 = .ok (.imul, 1) := by decide +kernel
theorem dX8_readsItem_34 : decode cX8_readsItem 34 = .ok (.aload_n 0, 1) := by decide +kernel
theorem dX8_readsItem_35 : decode cX8_readsItem 35 = .ok (.iload_n 1, 1) := by decide +kernel
theorem dX8_readsItem_36 : decode cX8_readsItem 36 = .ok (.iload_n 3, 1) := by decide +kernel
theorem dX8_readsItem_37 : decode cX8_readsItem 37 = .ok (.invokevirtual 115, 3) := by decide +kernel
theorem dX8_readsItem_40 : decode cX8_readsItem 40 = .ok (.invokestatic 118, 3) := by decide +kernel
theorem dX8_readsItem_43 : decode cX8_readsItem 43 = .ok (.iadd, 1) := by decide +kernel
theorem dX8_readsItem_44 : decode cX8_readsItem 44 = .ok (.istore 4, 2) := by decide +kernel
theorem dX8_readsItem_46 : decode cX8_readsItem 46 = .ok (.iinc 5 1, 3) := by decide +kernel
theorem dX8_readsItem_49 : decode cX8_readsItem 49 = .ok (.iinc 3 1, 3) := by decide +kernel
theorem dX8_readsItem_52 : decode cX8_readsItem 52 = .ok (.goto (-44), 3) := by decide +kernel
theorem dX8_readsItem_55 : decode cX8_readsItem 55 = .ok (.iload 5, 2) := by decide +kernel
theorem dX8_readsItem_57 : decode cX8_readsItem 57 = .ok (.ifCond .ne 5, 3) := by decide +kernel
theorem dX8_readsItem_60 : decode cX8_readsItem 60 = .ok (.iload_n 3, 1) := by decide +kernel
theorem dX8_readsItem_61 : decode cX8_readsItem 61 = .ok (.ireturn, 1) := by decide +kernel
theorem dX8_readsItem_62 : decode cX8_readsItem 62 = .ok (.aload_n 0, 1) := by decide +kernel
theorem dX8_readsItem_63 : decode cX8_readsItem 63 = .ok (.getfield 25, 3) := by decide +kernel
theorem dX8_readsItem_66 : decode cX8_readsItem 66 = .ok (.iload 4, 2) := by decide +kernel
theorem dX8_readsItem_68 : decode cX8_readsItem 68 = .ok (.iload 5, 2) := by decide +kernel
theorem dX8_readsItem_70 : decode cX8_readsItem 70 = .ok (.invokestatic 97, 3) := by decide +kernel
theorem dX8_readsItem_73 : decode cX8_readsItem 73 = .ok (.invokestatic 104, 3) := by decide +kernel
theorem dX8_readsItem_76 : decode cX8_readsItem 76 = .ok (.bipush (-9), 2) := by decide +kernel
theorem dX8_readsItem_78 : decode cX8_readsItem 78 = .ok (.if_icmp .ne 14, 3) := by decide +kernel
theorem dX8_readsItem_81 : decode cX8_readsItem 81 = .ok (.aload_n 0, 1) := by decide +kernel
theorem dX8_readsItem_82 : decode cX8_readsItem 82 = .ok (.getfield 25, 3) := by decide +kernel
theorem dX8_readsItem_85 : decode cX8_readsItem 85 = .ok (.iconst 0, 1) := by decide +kernel
theorem dX8_readsItem_86 : decode cX8_readsItem 86 = .ok (.iaload, 1) := by decide +kernel
theorem dX8_readsItem_87 : decode cX8_readsItem 87 = .ok (.bipush 48, 2) := by decide +kernel
theorem dX8_readsItem_89 : decode cX8_readsItem 89 = .ok (.if_icmp .ne 5, 3) := by decide +kernel
theorem dX8_readsItem_92 : decode cX8_readsItem 92 = .ok (.iload_n 2, 1) := by decide +kernel
theorem dX8_readsItem_93 : decode cX8_readsItem 93 = .ok (.ireturn, 1) := by decide +kernel
theorem dX8_readsItem_94 : decode cX8_readsItem 94 = .ok (.aload_n 0, 1) := by decide +kernel
theorem dX8_readsItem_95 : decode cX8_readsItem 95 = .ok (.iload_n 1, 1) := by decide +kernel
theorem dX8_readsItem_96 : decode cX8_readsItem 96 = .ok (.iload_n 3, 1) := by decide +kernel
theorem dX8_readsItem_97 : decode cX8_readsItem 97 = .ok (.invokevirtual 115, 3) := by decide +kernel
theorem dX8_readsItem_100 : decode cX8_readsItem 100 = .ok (.bipush 61, 2) := by decide +kernel
theorem dX8_readsItem_102 : decode cX8_readsItem 102 = .ok (.if_icmp .eq 5, 3) := by decide +kernel
theorem dX8_readsItem_105 : decode cX8_readsItem 105 = .ok (.iload_n 3, 1) := by decide +kernel
theorem dX8_readsItem_106 : decode cX8_readsItem 106 = .ok (.ireturn, 1) := by decide +kernel
theorem dX8_readsItem_107 : decode cX8_readsItem 107 = .ok (.iinc 3 1, 3) := by decide +kernel
theorem dX8_readsItem_110 : decode cX8_readsItem 110 = .ok (.iconst 0, 1) := by decide +kernel
theorem dX8_readsItem_111 : decode cX8_readsItem 111 = .ok (.istore 6, 2) := by decide +kernel
theorem dX8_readsItem_113 : decode cX8_readsItem 113 = .ok (.iconst 0, 1) := by decide +kernel
theorem dX8_readsItem_114 : decode cX8_readsItem 114 = .ok (.istore 7, 2) := by decide +kernel
theorem dX8_readsItem_116 : decode cX8_readsItem 116 = .ok (.aload_n 0, 1) := by decide +kernel
theorem dX8_readsItem_117 : decode cX8_readsItem 117 = .ok (.iload_n 1, 1) := by decide +kernel
theorem dX8_readsItem_118 : decode cX8_readsItem 118 = .ok (.iload_n 3, 1) := by decide +kernel
theorem dX8_readsItem_119 : decode cX8_readsItem 119 = .ok (.invokevirtual 115, 3) := by decide +kernel
theorem dX8_readsItem_122 : decode cX8_readsItem 122 = .ok (.i2l, 1) := by decide +kernel
theorem dX8_readsItem_123 : decode cX8_readsItem 123 = .ok (.ldc2_w 107, 3) := by decide +kernel
theorem dX8_readsItem_126 : decode cX8_readsItem 126 = .ok (.ldc2_w 109, 3) := by decide +kernel
theorem dX8_readsItem_129 : decode cX8_readsItem 129 = .ok (.invokestatic 65, 3) := by decide +kernel
theorem dX8_readsItem_132 : decode cX8_readsItem 132 = .ok (.ifCond .eq 37, 3) := by decide +kernel
theorem dX8_readsItem_135 : decode cX8_readsItem 135 = .ok (.iload 7, 2) := by decide +kernel
theorem dX8_readsItem_137 : decode cX8_readsItem 137 = .ok (.iconst 3, 1) := by decide +kernel
theorem dX8_readsItem_138 : decode cX8_readsItem 138 = .ok (.if_icmp .ne 5, 3) := by decide +kernel
theorem dX8_readsItem_141 : decode cX8_readsItem 141 = .ok (.iload_n 3, 1) := by decide +kernel
theorem dX8_readsItem_142 : decode cX8_readsItem 142 = .ok (.ireturn, 1) := by decide +kernel
theorem dX8_readsItem_143 : decode cX8_readsItem 143 = .ok (.bipush 10, 2) := by decide +kernel
theorem dX8_readsItem_145 : decode cX8_readsItem 145 = .ok (.iload 6, 2) := by decide +kernel
theorem dX8_readsItem_147 : decode cX8_readsItem 147 = .ok (.imul, 1) := by decide +kernel
theorem dX8_readsItem_148 : decode cX8_readsItem 148 = .ok (.aload_n 0, 1) := by decide +kernel
theorem dX8_readsItem_149 : decode cX8_readsItem 149 = .ok (.iload_n 1, 1) := by decide +kernel
theorem dX8_readsItem_150 : decode cX8_readsItem 150 = .ok (.iload_n 3, 1) := by decide +kernel
theorem dX8_readsItem_151 : decode cX8_readsItem 151 = .ok (.invokevirtual 115, 3) := by decide +kernel
theorem dX8_readsItem_154 : decode cX8_readsItem 154 = .ok (.iadd, 1) := by decide +kernel
theorem dX8_readsItem_155 : decode cX8_readsItem 155 = .ok (.bipush 48, 2) := by decide +kernel
theorem dX8_readsItem_157 : decode cX8_readsItem 157 = .ok (.isub, 1) := by decide +kernel
theorem dX8_readsItem_158 : decode cX8_readsItem 158 = .ok (.istore 6, 2) := by decide +kernel
theorem dX8_readsItem_160 : decode cX8_readsItem 160 = .ok (.iinc 7 1, 3) := by decide +kernel
theorem dX8_readsItem_163 : decode cX8_readsItem 163 = .ok (.iinc 3 1, 3) := by decide +kernel
theorem dX8_readsItem_166 : decode cX8_readsItem 166 = .ok (.goto (-50), 3) := by decide +kernel
theorem dX8_readsItem_169 : decode cX8_readsItem 169 = .ok (.iload 7, 2) := by decide +kernel
theorem dX8_readsItem_171 : decode cX8_readsItem 171 = .ok (.ifCond .eq 14, 3) := by decide +kernel
theorem dX8_readsItem_174 : decode cX8_readsItem 174 = .ok (.aload_n 0, 1) := by decide +kernel
theorem dX8_readsItem_175 : decode cX8_readsItem 175 = .ok (.iload_n 1, 1) := by decide +kernel
theorem dX8_readsItem_176 : decode cX8_readsItem 176 = .ok (.iload_n 3, 1) := by decide +kernel
theorem dX8_readsItem_177 : decode cX8_readsItem 177 = .ok (.invokevirtual 115, 3) := by decide +kernel
theorem dX8_readsItem_180 : decode cX8_readsItem 180 = .ok (.bipush 59, 2) := by decide +kernel
theorem dX8_readsItem_182 : decode cX8_readsItem 182 = .ok (.if_icmp .eq 5, 3) := by decide +kernel
theorem dX8_readsItem_185 : decode cX8_readsItem 185 = .ok (.iload_n 3, 1) := by decide +kernel
theorem dX8_readsItem_186 : decode cX8_readsItem 186 = .ok (.ireturn, 1) := by decide +kernel
theorem dX8_readsItem_187 : decode cX8_readsItem 187 = .ok (.aload_n 0, 1) := by decide +kernel
theorem dX8_readsItem_188 : decode cX8_readsItem 188 = .ok (.getfield 25, 3) := by decide +kernel
theorem dX8_readsItem_191 : decode cX8_readsItem 191 = .ok (.iload 4, 2) := by decide +kernel
theorem dX8_readsItem_193 : decode cX8_readsItem 193 = .ok (.iload 5, 2) := by decide +kernel
theorem dX8_readsItem_195 : decode cX8_readsItem 195 = .ok (.invokestatic 97, 3) := by decide +kernel
theorem dX8_readsItem_198 : decode cX8_readsItem 198 = .ok (.iload 6, 2) := by decide +kernel
theorem dX8_readsItem_200 : decode cX8_readsItem 200 = .ok (.invokestatic 121, 3) := by decide +kernel
theorem dX8_readsItem_203 : decode cX8_readsItem 203 = .ok (.aload_n 0, 1) := by decide +kernel
theorem dX8_readsItem_204 : decode cX8_readsItem 204 = .ok (.iload_n 3, 1) := by decide +kernel
theorem dX8_readsItem_205 : decode cX8_readsItem 205 = .ok (.iconst 1, 1) := by decide +kernel
theorem dX8_readsItem_206 : decode cX8_readsItem 206 = .ok (.iadd, 1) := by decide +kernel
theorem dX8_readsItem_207 : decode cX8_readsItem 207 = .ok (.putfield 125, 3) := by decide +kernel
theorem dX8_readsItem_210 : decode cX8_readsItem 210 = .ok (.bipush (-9), 2) := by decide +kernel
theorem dX8_readsItem_212 : decode cX8_readsItem 212 = .ok (.ireturn, 1) := by decide +kernel
set_option maxRecDepth 20000 in
theorem ggX8_reads_X8_here : GoodIn wsX8_reads wsX8_here := goodIn_r _ [8, 2, 9, 36, 37, 38, 39, 40, 41, 42, 43, 44, 45, 46, 47, 48, 49, 50, 51, 52, 53, 54, 55, 56, 57] (by decide +kernel) (by decide +kernel)
set_option maxRecDepth 20000 in
theorem gX8_reads_X8_here : GoodIn wsX8_reads (wsV RX8 115 RX8 yX8_here wsX8_here) := goodIn_app (goodIn_of _ (by decide +kernel)) ggX8_reads_X8_here
set_option maxRecDepth 20000 in
theorem ggX8_reads_X8_readsItem : GoodIn wsX8_reads wsX8_readsItem := goodIn_r _ [13, 1, 14, 15, 3, 4, 5, 6, 7, 8, 2, 9, 16, 17, 18, 19, 20, 21, 22, 23, 24, 25, 26, 27, 28, 29, 30, 31, 32, 33, 34, 35, 36, 37, 38, 39, 40, 41, 42, 43, 44, 45, 46, 47, 48, 49, 50, 51, 52, 53, 54, 55, 56, 57] (by decide +kernel) (by decide +kernel)
set_option maxRecDepth 20000 in
theorem gX8_reads_X8_readsItem : GoodIn wsX8_reads (wsV RX8 128 RX8 yX8_readsItem wsX8_readsItem) := goodIn_app (goodIn_of _ (by decide +kernel)) ggX8_reads_X8_readsItem
theorem dX8_reads_0 : decode cX8_reads 0 = .ok (.iconst 0, 1) := by decide +kernel
theorem dX8_reads_1 : decode cX8_reads 1 = .ok (.istore_n 2, 1) := by decide +kernel
theorem dX8_reads_2 : decode cX8_reads 2 = .ok (.aload_n 0, 1) := by decide +kernel
theorem dX8_reads_3 : decode cX8_reads 3 = .ok (.getfield 25, 3) := by decide +kernel
theorem dX8_reads_6 : decode cX8_reads 6 = .ok (.iconst 0, 1) := by decide +kernel
theorem dX8_reads_7 : decode cX8_reads 7 = .ok (.iconst 0, 1) := by decide +kernel
theorem dX8_reads_8 : decode cX8_reads 8 = .ok (.iastore, 1) := by decide +kernel
theorem dX8_reads_9 : decode cX8_reads 9 = .ok (.iload_n 2, 1) := by decide +kernel
theorem dX8_reads_10 : decode cX8_reads 10 = .ok (.aload_n 0, 1) := by decide +kernel
theorem dX8_reads_11 : decode cX8_reads 11 = .ok (.getfield 16, 3) := by decide +kernel
theorem dX8_reads_14 : decode cX8_reads 14 = .ok (.iload_n 1, 1) := by decide +kernel
theorem dX8_reads_15 : decode cX8_reads 15 = .ok (.iaload, 1) := by decide +kernel
theorem dX8_reads_16 : decode cX8_reads 16 = .ok (.if_icmp .ge 43, 3) := by decide +kernel
theorem dX8_reads_19 : decode cX8_reads 19 = .ok (.aload_n 0, 1) := by decide +kernel
theorem dX8_reads_20 : decode cX8_reads 20 = .ok (.iload_n 1, 1) := by decide +kernel
theorem dX8_reads_21 : decode cX8_reads 21 = .ok (.iload_n 2, 1) := by decide +kernel
theorem dX8_reads_22 : decode cX8_reads 22 = .ok (.invokevirtual 115, 3) := by decide +kernel
theorem dX8_reads_25 : decode cX8_reads 25 = .ok (.bipush 32, 2) := by decide +kernel
theorem dX8_reads_27 : decode cX8_reads 27 = .ok (.if_icmp .ne 9, 3) := by decide +kernel
theorem dX8_reads_30 : decode cX8_reads 30 = .ok (.iinc 2 1, 3) := by decide +kernel
theorem dX8_reads_33 : decode cX8_reads 33 = .ok (.goto (-24), 3) := by decide +kernel
theorem dX8_reads_36 : decode cX8_reads 36 = .ok (.aload_n 0, 1) := by decide +kernel
theorem dX8_reads_37 : decode cX8_reads 37 = .ok (.iload_n 1, 1) := by decide +kernel
theorem dX8_reads_38 : decode cX8_reads 38 = .ok (.iload_n 2, 1) := by decide +kernel
theorem dX8_reads_39 : decode cX8_reads 39 = .ok (.invokevirtual 128, 3) := by decide +kernel
theorem dX8_reads_42 : decode cX8_reads 42 = .ok (.istore_n 3, 1) := by decide +kernel
theorem dX8_reads_43 : decode cX8_reads 43 = .ok (.iload_n 3, 1) := by decide +kernel
theorem dX8_reads_44 : decode cX8_reads 44 = .ok (.bipush (-9), 2) := by decide +kernel
theorem dX8_reads_46 : decode cX8_reads 46 = .ok (.if_icmp .eq 5, 3) := by decide +kernel
theorem dX8_reads_49 : decode cX8_reads 49 = .ok (.iload_n 3, 1) := by decide +kernel
theorem dX8_reads_50 : decode cX8_reads 50 = .ok (.ireturn, 1) := by decide +kernel
theorem dX8_reads_51 : decode cX8_reads 51 = .ok (.aload_n 0, 1) := by decide +kernel
theorem dX8_reads_52 : decode cX8_reads 52 = .ok (.getfield 125, 3) := by decide +kernel
theorem dX8_reads_55 : decode cX8_reads 55 = .ok (.istore_n 2, 1) := by decide +kernel
theorem dX8_reads_56 : decode cX8_reads 56 = .ok (.goto (-47), 3) := by decide +kernel
theorem dX8_reads_59 : decode cX8_reads 59 = .ok (.bipush (-9), 2) := by decide +kernel
theorem dX8_reads_61 : decode cX8_reads 61 = .ok (.ireturn, 1) := by decide +kernel
set_option maxRecDepth 20000 in
theorem ggX8_fault_X8_isText : GoodIn wsX8_fault wsX8_isText := goodIn_r _ [5, 6, 7, 8, 4, 9] (by decide +kernel) (by decide +kernel)
set_option maxRecDepth 20000 in
theorem gX8_fault_X8_isText : GoodIn wsX8_fault (va_wsS RX8 82 yX8_isText wsX8_isText) := goodIn_app (goodIn_of _ (by decide +kernel)) ggX8_fault_X8_isText
set_option maxRecDepth 20000 in
theorem ggX8_fault_X8_found : GoodIn wsX8_fault wsX8_found := goodIn_r _ [13, 14, 15, 50, 51, 52, 53, 54, 55, 56, 57, 58, 59, 60, 61, 62, 63, 64, 65, 66, 67, 68, 69, 70, 71] (by decide +kernel) (by decide +kernel)
set_option maxRecDepth 20000 in
theorem gX8_fault_X8_found : GoodIn wsX8_fault (wsV RX8 75 RX8 yX8_found wsX8_found) := goodIn_app (goodIn_of _ (by decide +kernel)) ggX8_fault_X8_found
set_option maxRecDepth 20000 in
theorem ggX8_fault_X8_reads : GoodIn wsX8_fault wsX8_reads := goodIn_r _ [19, 20, 1, 21, 22, 23, 24, 4, 25, 26, 27, 28, 29, 30, 31, 32, 33, 34, 35, 36, 37, 7, 8, 9, 38, 39, 40, 41, 42, 43, 44, 45, 46, 47, 48, 49, 50, 51, 52, 53, 54, 55, 56, 57, 58, 59, 60, 61, 62, 63, 64, 65, 66, 67, 68, 69, 70, 71] (by decide +kernel) (by decide +kernel)
set_option maxRecDepth 20000 in
theorem gX8_fault_X8_reads : GoodIn wsX8_fault (wsV RX8 131 RX8 yX8_reads wsX8_reads) := goodIn_app (goodIn_of _ (by decide +kernel)) ggX8_fault_X8_reads
theorem dX8_fault_0 : decode cX8_fault 0 = .ok (.iload_n 1, 1) := by decide +kernel
theorem dX8_fault_1 : decode cX8_fault 1 = .ok (.invokestatic 82, 3) := by decide +kernel
theorem dX8_fault_4 : decode cX8_fault 4 = .ok (.ifCond .ne 5, 3) := by decide +kernel
theorem dX8_fault_7 : decode cX8_fault 7 = .ok (.iconst (-1), 1) := by decide +kernel
theorem dX8_fault_8 : decode cX8_fault 8 = .ok (.ireturn, 1) := by decide +kernel
theorem dX8_fault_9 : decode cX8_fault 9 = .ok (.aload_n 0, 1) := by decide +kernel
theorem dX8_fault_10 : decode cX8_fault 10 = .ok (.getfield 16, 3) := by decide +kernel
theorem dX8_fault_13 : decode cX8_fault 13 = .ok (.iload_n 1, 1) := by decide +kernel
theorem dX8_fault_14 : decode cX8_fault 14 = .ok (.iaload, 1) := by decide +kernel
theorem dX8_fault_15 : decode cX8_fault 15 = .ok (.ifCond .ge 11, 3) := by decide +kernel
theorem dX8_fault_18 : decode cX8_fault 18 = .ok (.aload_n 0, 1) := by decide +kernel
theorem dX8_fault_19 : decode cX8_fault 19 = .ok (.iconst 1, 1) := by decide +kernel
theorem dX8_fault_20 : decode cX8_fault 20 = .ok (.invokevirtual 75, 3) := by decide +kernel
theorem dX8_fault_23 : decode cX8_fault 23 = .ok (.goto 8, 3) := by decide +kernel
theorem dX8_fault_26 : decode cX8_fault 26 = .ok (.aload_n 0, 1) := by decide +kernel
theorem dX8_fault_27 : decode cX8_fault 27 = .ok (.iload_n 1, 1) := by decide +kernel
theorem dX8_fault_28 : decode cX8_fault 28 = .ok (.invokevirtual 131, 3) := by decide +kernel
theorem dX8_fault_31 : decode cX8_fault 31 = .ok (.ireturn, 1) := by decide +kernel
theorem dX8_noChange_0 : decode cX8_noChange 0 = .ok (.iconst 0, 1) := by decide +kernel
theorem dX8_noChange_1 : decode cX8_noChange 1 = .ok (.istore_n 1, 1) := by decide +kernel
theorem dX8_noChange_2 : decode cX8_noChange 2 = .ok (.iload_n 1, 1) := by decide +kernel
theorem dX8_noChange_3 : decode cX8_noChange 3 = .ok (.iconst 4, 1) := by decide +kernel
theorem dX8_noChange_4 : decode cX8_noChange 4 = .ok (.if_icmp .ge 16, 3) := by decide +kernel
theorem dX8_noChange_7 : decode cX8_noChange 7 = .ok (.aload_n 0, 1) := by decide +kernel
theorem dX8_noChange_8 : decode cX8_noChange 8 = .ok (.getfield 44, 3) := by decide +kernel
theorem dX8_noChange_11 : decode cX8_noChange 11 = .ok (.iload_n 1, 1) := by decide +kernel
theorem dX8_noChange_12 : decode cX8_noChange 12 = .ok (.iconst 0, 1) := by decide +kernel
theorem dX8_noChange_13 : decode cX8_noChange 13 = .ok (.iastore, 1) := by decide +kernel
theorem dX8_noChange_14 : decode cX8_noChange 14 = .ok (.iinc 1 1, 3) := by decide +kernel
theorem dX8_noChange_17 : decode cX8_noChange 17 = .ok (.goto (-15), 3) := by decide +kernel
theorem dX8_noChange_20 : decode cX8_noChange 20 = .ok (.return_, 1) := by decide +kernel
set_option maxRecDepth 20000 in
theorem ggX8_index_X8_isText : GoodIn wsX8_index wsX8_isText := goodIn_r _ [10, 11, 12, 13, 9, 14] (by decide +kernel) (by decide +kernel)
set_option maxRecDepth 20000 in
theorem gX8_index_X8_isText : GoodIn wsX8_index (va_wsS RX8 82 yX8_isText wsX8_isText) := goodIn_app (goodIn_of _ (by decide +kernel)) ggX8_index_X8_isText
set_option maxRecDepth 20000 in
theorem ggX8_index_X8_found : GoodIn wsX8_index wsX8_found := goodIn_r _ [18, 19, 20, 62, 63, 64, 65, 66, 67, 68, 69, 70, 71, 72, 73, 74, 75, 76, 77, 78, 79, 80, 81, 82, 83] (by decide +kernel) (by decide +kernel)
set_option maxRecDepth 20000 in
theorem gX8_index_X8_found : GoodIn wsX8_index (wsV RX8 75 RX8 yX8_found wsX8_found) := goodIn_app (goodIn_of _ (by decide +kernel)) ggX8_index_X8_found
set_option maxRecDepth 20000 in
theorem ggX8_index_X8_reads : GoodIn wsX8_index wsX8_reads := goodIn_r _ [24, 2, 1, 25, 26, 27, 28, 9, 29, 30, 31, 32, 33, 34, 35, 36, 37, 38, 39, 40, 41, 12, 13, 14, 42, 43, 44, 45, 46, 47, 48, 49, 50, 51, 52, 53, 62, 63, 64, 65, 66, 67, 68, 69, 70, 71, 72, 73, 74, 75, 76, 77, 78, 79, 80, 81, 82, 83] (by decide +kernel) (by decide +kernel)
set_option maxRecDepth 20000 in
theorem gX8_index_X8_reads : GoodIn wsX8_index (wsV RX8 131 RX8 yX8_reads wsX8_reads) := goodIn_app (goodIn_of _ (by decide +kernel)) ggX8_index_X8_reads
set_option maxRecDepth 20000 in
theorem ggX8_index_X8_copies : GoodIn wsX8_index wsX8_copies := goodIn_r _ [56] (by decide +kernel) (by decide +kernel)
set_option maxRecDepth 20000 in
theorem gX8_index_X8_copies : GoodIn wsX8_index (va_wsS RX8 134 yX8_copies wsX8_copies) := goodIn_app (goodIn_of _ (by decide +kernel)) ggX8_index_X8_copies
set_option maxRecDepth 20000 in
theorem ggX8_index_X8_noChange : GoodIn wsX8_index wsX8_noChange := goodIn_r _ [60, 61, 62, 63, 64, 65, 66, 67, 68, 69, 70, 71, 72, 73, 74, 75, 76, 77, 78, 79, 80, 81, 82, 83] (by decide +kernel) (by decide +kernel)
set_option maxRecDepth 20000 in
theorem gX8_index_X8_noChange : GoodIn wsX8_index (wsV RX8 144 RX8 yX8_noChange wsX8_noChange) := goodIn_app (goodIn_of _ (by decide +kernel)) ggX8_index_X8_noChange
theorem dX8_index_0 : decode cX8_index 0 = .ok (.iload_n 1, 1) := by decide +kernel
theorem dX8_index_1 : decode cX8_index 1 = .ok (.invokestatic 82, 3) := by decide +kernel
theorem dX8_index_4 : decode cX8_index 4 = .ok (.ifCond .ne 5, 3) := by decide +kernel
theorem dX8_index_7 : decode cX8_index 7 = .ok (.iconst (-1), 1) := by decide +kernel
theorem dX8_index_8 : decode cX8_index 8 = .ok (.ireturn, 1) := by decide +kernel
theorem dX8_index_9 : decode cX8_index 9 = .ok (.aload_n 0, 1) := by decide +kernel
theorem dX8_index_10 : decode cX8_index 10 = .ok (.getfield 16, 3) := by decide +kernel
theorem dX8_index_13 : decode cX8_index 13 = .ok (.iload_n 1, 1) := by decide +kernel
theorem dX8_index_14 : decode cX8_index 14 = .ok (.iaload, 1) := by decide +kernel
theorem dX8_index_15 : decode cX8_index 15 = .ok (.ifCond .ge 9, 3) := by decide +kernel
theorem dX8_index_18 : decode cX8_index 18 = .ok (.aload_n 0, 1) := by decide +kernel
theorem dX8_index_19 : decode cX8_index 19 = .ok (.iconst 1, 1) := by decide +kernel
theorem dX8_index_20 : decode cX8_index 20 = .ok (.invokevirtual 75, 3) := by decide +kernel
theorem dX8_index_23 : decode cX8_index 23 = .ok (.ireturn, 1) := by decide +kernel
theorem dX8_index_24 : decode cX8_index 24 = .ok (.aload_n 0, 1) := by decide +kernel
theorem dX8_index_25 : decode cX8_index 25 = .ok (.iload_n 1, 1) := by decide +kernel
theorem dX8_index_26 : decode cX8_index 26 = .ok (.invokevirtual 131, 3) := by decide +kernel
theorem dX8_index_29 : decode cX8_index 29 = .ok (.bipush (-9), 2) := by decide +kernel
theorem dX8_index_31 : decode cX8_index 31 = .ok (.if_icmp .eq 6, 3) := by decide +kernel
theorem dX8_index_34 : decode cX8_index 34 = .ok (.bipush (-4), 2) := by decide +kernel
theorem dX8_index_36 : decode cX8_index 36 = .ok (.ireturn, 1) := by decide +kernel
theorem dX8_index_37 : decode cX8_index 37 = .ok (.aload_n 0, 1) := by decide +kernel
theorem dX8_index_38 : decode cX8_index 38 = .ok (.getfield 25, 3) := by decide +kernel
theorem dX8_index_41 : decode cX8_index 41 = .ok (.iconst 0, 1) := by decide +kernel
theorem dX8_index_42 : decode cX8_index 42 = .ok (.aload_n 0, 1) := by decide +kernel
theorem dX8_index_43 : decode cX8_index 43 = .ok (.getfield 22, 3) := by decide +kernel
theorem dX8_index_46 : decode cX8_index 46 = .ok (.iconst 0, 1) := by decide +kernel
theorem dX8_index_47 : decode cX8_index 47 = .ok (.bipush 97, 2) := by decide +kernel
theorem dX8_index_49 : decode cX8_index 49 = .ok (.invokestatic 134, 3) := by decide +kernel
theorem dX8_index_52 : decode cX8_index 52 = .ok (.aload_n 0, 1) := by decide +kernel
theorem dX8_index_53 : decode cX8_index 53 = .ok (.iconst 0, 1) := by decide +kernel
theorem dX8_index_54 : decode cX8_index 54 = .ok (.putfield 138, 3) := by decide +kernel
theorem dX8_index_57 : decode cX8_index 57 = .ok (.aload_n 0, 1) := by decide +kernel
theorem dX8_index_58 : decode cX8_index 58 = .ok (.iconst 0, 1) := by decide +kernel
theorem dX8_index_59 : decode cX8_index 59 = .ok (.putfield 141, 3) := by decide +kernel
theorem dX8_index_62 : decode cX8_index 62 = .ok (.iconst 0, 1) := by decide +kernel
theorem dX8_index_63 : decode cX8_index 63 = .ok (.istore_n 2, 1) := by decide +kernel
theorem dX8_index_64 : decode cX8_index 64 = .ok (.iload_n 2, 1) := by decide +kernel
theorem dX8_index_65 : decode cX8_index 65 = .ok (.iconst 3, 1) := by decide +kernel
theorem dX8_index_66 : decode cX8_index 66 = .ok (.if_icmp .ge 16, 3) := by decide +kernel
theorem dX8_index_69 : decode cX8_index 69 = .ok (.aload_n 0, 1) := by decide +kernel
theorem dX8_index_70 : decode cX8_index 70 = .ok (.getfield 37, 3) := by decide +kernel
theorem dX8_index_73 : decode cX8_index 73 = .ok (.iload_n 2, 1) := by decide +kernel
theorem dX8_index_74 : decode cX8_index 74 = .ok (.iconst 0, 1) := by decide +kernel
theorem dX8_index_75 : decode cX8_index 75 = .ok (.bastore, 1) := by decide +kernel
theorem dX8_index_76 : decode cX8_index 76 = .ok (.iinc 2 1, 3) := by decide +kernel
theorem dX8_index_79 : decode cX8_index 79 = .ok (.goto (-15), 3) := by decide +kernel
theorem dX8_index_82 : decode cX8_index 82 = .ok (.aload_n 0, 1) := by decide +kernel
theorem dX8_index_83 : decode cX8_index 83 = .ok (.invokevirtual 144, 3) := by decide +kernel
theorem dX8_index_86 : decode cX8_index 86 = .ok (.aload_n 0, 1) := by decide +kernel
theorem dX8_index_87 : decode cX8_index 87 = .ok (.getfield 22, 3) := by decide +kernel
theorem dX8_index_90 : decode cX8_index 90 = .ok (.iconst 0, 1) := by decide +kernel
theorem dX8_index_91 : decode cX8_index 91 = .ok (.iaload, 1) := by decide +kernel
theorem dX8_index_92 : decode cX8_index 92 = .ok (.ireturn, 1) := by decide +kernel
theorem dX8_nodeOf_0 : decode cX8_nodeOf 0 = .ok (.iconst 0, 1) := by decide +kernel
theorem dX8_nodeOf_1 : decode cX8_nodeOf 1 = .ok (.istore_n 2, 1) := by decide +kernel
theorem dX8_nodeOf_2 : decode cX8_nodeOf 2 = .ok (.iload_n 2, 1) := by decide +kernel
theorem dX8_nodeOf_3 : decode cX8_nodeOf 3 = .ok (.aload_n 0, 1) := by decide +kernel
theorem dX8_nodeOf_4 : decode cX8_nodeOf 4 = .ok (.getfield 147, 3) := by decide +kernel
theorem dX8_nodeOf_7 : decode cX8_nodeOf 7 = .ok (.if_icmp .ge 21, 3) := by decide +kernel
theorem dX8_nodeOf_10 : decode cX8_nodeOf 10 = .ok (.aload_n 0, 1) := by decide +kernel
theorem dX8_nodeOf_11 : decode cX8_nodeOf 11 = .ok (.getfield 50, 3) := by decide +kernel
theorem dX8_nodeOf_14 : decode cX8_nodeOf 14 = .ok (.iload_n 2, 1) := by decide +kernel
theorem dX8_nodeOf_15 : decode cX8_nodeOf 15 = .ok (.iaload, 1) := by decide +kernel
theorem dX8_nodeOf_16 : decode cX8_nodeOf 16 = .ok (.iload_n 1, 1) := by decide +kernel
theorem dX8_nodeOf_17 : decode cX8_nodeOf 17 = .ok (.if_icmp .ne 5, 3) := by decide +kernel
theorem dX8_nodeOf_20 : decode cX8_nodeOf 20 = .ok (.iload_n 2, 1) := by decide +kernel
theorem dX8_nodeOf_21 : decode cX8_nodeOf 21 = .ok (.ireturn, 1) := by decide +kernel
theorem dX8_nodeOf_22 : decode cX8_nodeOf 22 = .ok (.iinc 2 1, 3) := by decide +kernel
theorem dX8_nodeOf_25 : decode cX8_nodeOf 25 = .ok (.goto (-23), 3) := by decide +kernel
theorem dX8_nodeOf_28 : decode cX8_nodeOf 28 = .ok (.bipush (-9), 2) := by decide +kernel
theorem dX8_nodeOf_30 : decode cX8_nodeOf 30 = .ok (.ireturn, 1) := by decide +kernel
set_option maxRecDepth 20000 in
theorem ggX8_findsNodes_X8_alikeOf : GoodIn wsX8_findsNodes wsX8_alikeOf := goodIn_r _ [6, 7, 8, 5, 9, 10, 11, 12] (by decide +kernel) (by decide +kernel)
set_option maxRecDepth 20000 in
theorem gX8_findsNodes_X8_alikeOf : GoodIn wsX8_findsNodes (va_wsS RX8 94 yX8_alikeOf wsX8_alikeOf) := goodIn_app (goodIn_of _ (by decide +kernel)) ggX8_findsNodes_X8_alikeOf
set_option maxRecDepth 20000 in
theorem ggX8_findsNodes_X8_head : GoodIn wsX8_findsNodes wsX8_head := goodIn_r _ [15, 16, 17, 5, 18] (by decide +kernel) (by decide +kernel)
set_option maxRecDepth 20000 in
theorem gX8_findsNodes_X8_head : GoodIn wsX8_findsNodes (va_wsS RX8 150 yX8_head wsX8_head) := goodIn_app (goodIn_of _ (by decide +kernel)) ggX8_findsNodes_X8_head
set_option maxRecDepth 20000 in
theorem ggX8_findsNodes_X8_nodeOf : GoodIn wsX8_findsNodes wsX8_nodeOf := goodIn_r _ [22, 1, 2, 23, 24, 25, 26, 27, 28, 29, 30, 31, 32, 33, 34, 35, 36, 37, 38, 39, 40, 41, 42, 43, 44] (by decide +kernel) (by decide +kernel)
set_option maxRecDepth 20000 in
theorem gX8_findsNodes_X8_nodeOf : GoodIn wsX8_findsNodes (wsV RX8 153 RX8 yX8_nodeOf wsX8_nodeOf) := goodIn_app (goodIn_of _ (by decide +kernel)) ggX8_findsNodes_X8_nodeOf
theorem dX8_findsNodes_0 : decode cX8_findsNodes 0 = .ok (.aload_n 0, 1) := by decide +kernel
theorem dX8_findsNodes_1 : decode cX8_findsNodes 1 = .ok (.iconst 0, 1) := by decide +kernel
theorem dX8_findsNodes_2 : decode cX8_findsNodes 2 = .ok (.putfield 147, 3) := by decide +kernel
theorem dX8_findsNodes_5 : decode cX8_findsNodes 5 = .ok (.iconst 0, 1) := by decide +kernel
theorem dX8_findsNodes_6 : decode cX8_findsNodes 6 = .ok (.istore_n 2, 1) := by decide +kernel
theorem dX8_findsNodes_7 : decode cX8_findsNodes 7 = .ok (.iload_n 2, 1) := by decide +kernel
theorem dX8_findsNodes_8 : decode cX8_findsNodes 8 = .ok (.iconst 1, 1) := by decide +kernel
theorem dX8_findsNodes_9 : decode cX8_findsNodes 9 = .ok (.iadd, 1) := by decide +kernel
theorem dX8_findsNodes_10 : decode cX8_findsNodes 10 = .ok (.aload_n 1, 1) := by decide +kernel
theorem dX8_findsNodes_11 : decode cX8_findsNodes 11 = .ok (.iconst 0, 1) := by decide +kernel
theorem dX8_findsNodes_12 : decode cX8_findsNodes 12 = .ok (.iaload, 1) := by decide +kernel
theorem dX8_findsNodes_13 : decode cX8_findsNodes 13 = .ok (.if_icmp .ge 63, 3) := by decide +kernel
theorem dX8_findsNodes_16 : decode cX8_findsNodes 16 = .ok (.aload_n 1, 1) := by decide +kernel
theorem dX8_findsNodes_17 : decode cX8_findsNodes 17 = .ok (.iconst 1, 1) := by decide +kernel
theorem dX8_findsNodes_18 : decode cX8_findsNodes 18 = .ok (.iload_n 2, 1) := by decide +kernel
theorem dX8_findsNodes_19 : decode cX8_findsNodes 19 = .ok (.iadd, 1) := by decide +kernel
theorem dX8_findsNodes_20 : decode cX8_findsNodes 20 = .ok (.iaload, 1) := by decide +kernel
theorem dX8_findsNodes_21 : decode cX8_findsNodes 21 = .ok (.aload_n 1, 1) := by decide +kernel
theorem dX8_findsNodes_22 : decode cX8_findsNodes 22 = .ok (.iconst 1, 1) := by decide +kernel
theorem dX8_findsNodes_23 : decode cX8_findsNodes 23 = .ok (.iload_n 2, 1) := by decide +kernel
theorem dX8_findsNodes_24 : decode cX8_findsNodes 24 = .ok (.iadd, 1) := by decide +kernel
theorem dX8_findsNodes_25 : decode cX8_findsNodes 25 = .ok (.iaload, 1) := by decide +kernel
theorem dX8_findsNodes_26 : decode cX8_findsNodes 26 = .ok (.aload_n 1, 1) := by decide +kernel
theorem dX8_findsNodes_27 : decode cX8_findsNodes 27 = .ok (.iconst 1, 1) := by decide +kernel
theorem dX8_findsNodes_28 : decode cX8_findsNodes 28 = .ok (.iload_n 2, 1) := by decide +kernel
theorem dX8_findsNodes_29 : decode cX8_findsNodes 29 = .ok (.iadd, 1) := by decide +kernel
theorem dX8_findsNodes_30 : decode cX8_findsNodes 30 = .ok (.iconst 1, 1) := by decide +kernel
theorem dX8_findsNodes_31 : decode cX8_findsNodes 31 = .ok (.iadd, 1) := by decide +kernel
theorem dX8_findsNodes_32 : decode cX8_findsNodes 32 = .ok (.iaload, 1) := by decide +kernel
theorem dX8_findsNodes_33 : decode cX8_findsNodes 33 = .ok (.invokestatic 94, 3) := by decide +kernel
theorem dX8_findsNodes_36 : decode cX8_findsNodes 36 = .ok (.invokestatic 150, 3) := by decide +kernel
theorem dX8_findsNodes_39 : decode cX8_findsNodes 39 = .ok (.istore_n 3, 1) := by decide +kernel
theorem dX8_findsNodes_40 : decode cX8_findsNodes 40 = .ok (.aload_n 0, 1) := by decide +kernel
theorem dX8_findsNodes_41 : decode cX8_findsNodes 41 = .ok (.iload_n 3, 1) := by decide +kernel
theorem dX8_findsNodes_42 : decode cX8_findsNodes 42 = .ok (.invokevirtual 153, 3) := by decide +kernel
theorem dX8_findsNodes_45 : decode cX8_findsNodes 45 = .ok (.bipush (-9), 2) := by decide +kernel
theorem dX8_findsNodes_47 : decode cX8_findsNodes 47 = .ok (.if_icmp .ne 23, 3) := by decide +kernel
theorem dX8_findsNodes_50 : decode cX8_findsNodes 50 = .ok (.aload_n 0, 1) := by decide +kernel
theorem dX8_findsNodes_51 : decode cX8_findsNodes 51 = .ok (.getfield 50, 3) := by decide +kernel
theorem dX8_findsNodes_54 : decode cX8_findsNodes 54 = .ok (.aload_n 0, 1) := by decide +kernel
theorem dX8_findsNodes_55 : decode cX8_findsNodes 55 = .ok (.getfield 147, 3) := by decide +kernel
theorem dX8_findsNodes_58 : decode cX8_findsNodes 58 = .ok (.iload_n 3, 1) := by decide +kernel
theorem dX8_findsNodes_59 : decode cX8_findsNodes 59 = .ok (.iastore, 1) := by decide +kernel
theorem dX8_findsNodes_60 : decode cX8_findsNodes 60 = .ok (.aload_n 0, 1) := by decide +kernel
theorem dX8_findsNodes_61 : decode cX8_findsNodes 61 = .ok (.dup, 1) := by decide +kernel
theorem dX8_findsNodes_62 : decode cX8_findsNodes 62 = .ok (.getfield 147, 3) := by decide +kernel
theorem dX8_findsNodes_65 : decode cX8_findsNodes 65 = .ok (.iconst 1, 1) := by decide +kernel
theorem dX8_findsNodes_66 : decode cX8_findsNodes 66 = .ok (.iadd, 1) := by decide +kernel
theorem dX8_findsNodes_67 : decode cX8_findsNodes 67 = .ok (.putfield 147, 3) := by decide +kernel
theorem dX8_findsNodes_70 : decode cX8_findsNodes 70 = .ok (.iinc 2 1, 3) := by decide +kernel
theorem dX8_findsNodes_73 : decode cX8_findsNodes 73 = .ok (.goto (-66), 3) := by decide +kernel
theorem dX8_findsNodes_76 : decode cX8_findsNodes 76 = .ok (.return_, 1) := by decide +kernel
set_option maxRecDepth 20000 in
theorem ggX8_childrenOf_X8_begins : GoodIn wsX8_childrenOf wsX8_begins := goodIn_r _ [4, 5, 6, 3, 7, 8, 9, 10, 11, 12, 13] (by decide +kernel) (by decide +kernel)
set_option maxRecDepth 20000 in
theorem gX8_childrenOf_X8_begins : GoodIn wsX8_childrenOf (va_wsS RX8 156 yX8_begins wsX8_begins) := goodIn_app (goodIn_of _ (by decide +kernel)) ggX8_childrenOf_X8_begins
set_option maxRecDepth 20000 in
theorem ggX8_childrenOf_X8_sizeOf : GoodIn wsX8_childrenOf wsX8_sizeOf := goodIn_r _ [10] (by decide +kernel) (by decide +kernel)
set_option maxRecDepth 20000 in
theorem gX8_childrenOf_X8_sizeOf : GoodIn wsX8_childrenOf (va_wsS RX8 87 yX8_sizeOf wsX8_sizeOf) := goodIn_app (goodIn_of _ (by decide +kernel)) ggX8_childrenOf_X8_sizeOf
set_option maxRecDepth 20000 in
theorem ggX8_childrenOf_X8_figure : GoodIn wsX8_childrenOf wsX8_figure := goodIn_r _ [13] (by decide +kernel) (by decide +kernel)
set_option maxRecDepth 20000 in
theorem gX8_childrenOf_X8_figure : GoodIn wsX8_childrenOf (va_wsS RX8 90 yX8_figure wsX8_figure) := goodIn_app (goodIn_of _ (by decide +kernel)) ggX8_childrenOf_X8_figure
theorem dX8_childrenOf_0 : decode cX8_childrenOf 0 = .ok (.iconst 0, 1) := by decide +kernel
theorem dX8_childrenOf_1 : decode cX8_childrenOf 1 = .ok (.istore_n 2, 1) := by decide +kernel
theorem dX8_childrenOf_2 : decode cX8_childrenOf 2 = .ok (.iconst 0, 1) := by decide +kernel
theorem dX8_childrenOf_3 : decode cX8_childrenOf 3 = .ok (.istore_n 3, 1) := by decide +kernel
theorem dX8_childrenOf_4 : decode cX8_childrenOf 4 = .ok (.iload_n 3, 1) := by decide +kernel
theorem dX8_childrenOf_5 : decode cX8_childrenOf 5 = .ok (.aload_n 0, 1) := by decide +kernel
theorem dX8_childrenOf_6 : decode cX8_childrenOf 6 = .ok (.iconst 0, 1) := by decide +kernel
theorem dX8_childrenOf_7 : decode cX8_childrenOf 7 = .ok (.iaload, 1) := by decide +kernel
theorem dX8_childrenOf_8 : decode cX8_childrenOf 8 = .ok (.if_icmp .ge 55, 3) := by decide +kernel
theorem dX8_childrenOf_11 : decode cX8_childrenOf 11 = .ok (.aload_n 0, 1) := by decide +kernel
theorem dX8_childrenOf_12 : decode cX8_childrenOf 12 = .ok (.iconst 1, 1) := by decide +kernel
theorem dX8_childrenOf_13 : decode cX8_childrenOf 13 = .ok (.iload_n 3, 1) := by decide +kernel
theorem dX8_childrenOf_14 : decode cX8_childrenOf 14 = .ok (.iadd, 1) := by decide +kernel
theorem dX8_childrenOf_15 : decode cX8_childrenOf 15 = .ok (.iaload, 1) := by decide +kernel
theorem dX8_childrenOf_16 : decode cX8_childrenOf 16 = .ok (.istore 4, 2) := by decide +kernel
theorem dX8_childrenOf_18 : decode cX8_childrenOf 18 = .ok (.iload_n 2, 1) := by decide +kernel
theorem dX8_childrenOf_19 : decode cX8_childrenOf 19 = .ok (.iload 4, 2) := by decide +kernel
theorem dX8_childrenOf_21 : decode cX8_childrenOf 21 = .ok (.iload_n 1, 1) := by decide +kernel
theorem dX8_childrenOf_22 : decode cX8_childrenOf 22 = .ok (.invokestatic 156, 3) := by decide +kernel
theorem dX8_childrenOf_25 : decode cX8_childrenOf 25 = .ok (.ifCond .eq 29, 3) := by decide +kernel
theorem dX8_childrenOf_28 : decode cX8_childrenOf 28 = .ok (.iload 4, 2) := by decide +kernel
theorem dX8_childrenOf_30 : decode cX8_childrenOf 30 = .ok (.invokestatic 87, 3) := by decide +kernel
theorem dX8_childrenOf_33 : decode cX8_childrenOf 33 = .ok (.iload_n 1, 1) := by decide +kernel
theorem dX8_childrenOf_34 : decode cX8_childrenOf 34 = .ok (.invokestatic 87, 3) := by decide +kernel
theorem dX8_childrenOf_37 : decode cX8_childrenOf 37 = .ok (.if_icmp .le 17, 3) := by decide +kernel
theorem dX8_childrenOf_40 : decode cX8_childrenOf 40 = .ok (.iconst 1, 1) := by decide +kernel
theorem dX8_childrenOf_41 : decode cX8_childrenOf 41 = .ok (.iload 4, 2) := by decide +kernel
theorem dX8_childrenOf_43 : decode cX8_childrenOf 43 = .ok (.iload_n 1, 1) := by decide +kernel
theorem dX8_childrenOf_44 : decode cX8_childrenOf 44 = .ok (.invokestatic 87, 3) := by decide +kernel
theorem dX8_childrenOf_47 : decode cX8_childrenOf 47 = .ok (.invokestatic 90, 3) := by decide +kernel
theorem dX8_childrenOf_50 : decode cX8_childrenOf 50 = .ok (.ishl, 1) := by decide +kernel
theorem dX8_childrenOf_51 : decode cX8_childrenOf 51 = .ok (.goto 4, 3) := by decide +kernel
theorem dX8_childrenOf_54 : decode cX8_childrenOf 54 = .ok (.iconst 0, 1) := by decide +kernel
theorem dX8_childrenOf_55 : decode cX8_childrenOf 55 = .ok (.ior, 1) := by decide +kernel
theorem dX8_childrenOf_56 : decode cX8_childrenOf 56 = .ok (.istore_n 2, 1) := by decide +kernel
theorem dX8_childrenOf_57 : decode cX8_childrenOf 57 = .ok (.iinc 3 1, 3) := by decide +kernel
theorem dX8_childrenOf_60 : decode cX8_childrenOf 60 = .ok (.goto (-56), 3) := by decide +kernel
theorem dX8_childrenOf_63 : decode cX8_childrenOf 63 = .ok (.iload_n 2, 1) := by decide +kernel
theorem dX8_childrenOf_64 : decode cX8_childrenOf 64 = .ok (.ireturn, 1) := by decide +kernel
set_option maxRecDepth 20000 in
theorem ggX8_sizeNumber_X8_bits : GoodIn wsX8_sizeNumber wsX8_bits := goodIn_r _ [4] (by decide +kernel) (by decide +kernel)
set_option maxRecDepth 20000 in
theorem gX8_sizeNumber_X8_bits : GoodIn wsX8_sizeNumber (va_wsS RX8 160 yX8_bits wsX8_bits) := goodIn_app (goodIn_of _ (by decide +kernel)) ggX8_sizeNumber_X8_bits
theorem dX8_sizeNumber_0 : decode cX8_sizeNumber 0 = .ok (.iload_n 0, 1) := by decide +kernel
theorem dX8_sizeNumber_1 : decode cX8_sizeNumber 1 = .ok (.invokestatic 160, 3) := by decide +kernel
theorem dX8_sizeNumber_4 : decode cX8_sizeNumber 4 = .ok (.istore_n 1, 1) := by decide +kernel
theorem dX8_sizeNumber_5 : decode cX8_sizeNumber 5 = .ok (.iload_n 1, 1) := by decide +kernel
theorem dX8_sizeNumber_6 : decode cX8_sizeNumber 6 = .ok (.iconst 2, 1) := by decide +kernel
theorem dX8_sizeNumber_7 : decode cX8_sizeNumber 7 = .ok (.if_icmp .gt 7, 3) := by decide +kernel
theorem dX8_sizeNumber_10 : decode cX8_sizeNumber 10 = .ok (.iconst 1, 1) := by decide +kernel
theorem dX8_sizeNumber_11 : decode cX8_sizeNumber 11 = .ok (.goto 23, 3) := by decide +kernel
theorem dX8_sizeNumber_14 : decode cX8_sizeNumber 14 = .ok (.iload_n 1, 1) := by decide +kernel
theorem dX8_sizeNumber_15 : decode cX8_sizeNumber 15 = .ok (.iconst 4, 1) := by decide +kernel
theorem dX8_sizeNumber_16 : decode cX8_sizeNumber 16 = .ok (.if_icmp .gt 7, 3) := by decide +kernel
theorem dX8_sizeNumber_19 : decode cX8_sizeNumber 19 = .ok (.iconst 2, 1) := by decide +kernel
theorem dX8_sizeNumber_20 : decode cX8_sizeNumber 20 = .ok (.goto 14, 3) := by decide +kernel
theorem dX8_sizeNumber_23 : decode cX8_sizeNumber 23 = .ok (.iload_n 1, 1) := by decide +kernel
theorem dX8_sizeNumber_24 : decode cX8_sizeNumber 24 = .ok (.bipush 8, 2) := by decide +kernel
theorem dX8_sizeNumber_26 : decode cX8_sizeNumber 26 = .ok (.if_icmp .gt 7, 3) := by decide +kernel
theorem dX8_sizeNumber_29 : decode cX8_sizeNumber 29 = .ok (.iconst 3, 1) := by decide +kernel
theorem dX8_sizeNumber_30 : decode cX8_sizeNumber 30 = .ok (.goto 4, 3) := by decide +kernel
theorem dX8_sizeNumber_33 : decode cX8_sizeNumber 33 = .ok (.iconst 4, 1) := by decide +kernel
theorem dX8_sizeNumber_34 : decode cX8_sizeNumber 34 = .ok (.ireturn, 1) := by decide +kernel
set_option maxRecDepth 20000 in
theorem ggX8_placesOf_X8_childrenOf : GoodIn wsX8_placesOf wsX8_childrenOf := goodIn_r _ [4, 5, 6, 3, 7, 8, 9, 10, 11, 12, 13, 14, 15, 16] (by decide +kernel) (by decide +kernel)
set_option maxRecDepth 20000 in
theorem gX8_placesOf_X8_childrenOf : GoodIn wsX8_placesOf (va_wsS RX8 163 yX8_childrenOf wsX8_childrenOf) := goodIn_app (goodIn_of _ (by decide +kernel)) ggX8_placesOf_X8_childrenOf
set_option maxRecDepth 20000 in
theorem ggX8_placesOf_X8_sizeNumber : GoodIn wsX8_placesOf wsX8_sizeNumber := goodIn_r _ [19, 20, 21, 3, 22] (by decide +kernel) (by decide +kernel)
set_option maxRecDepth 20000 in
theorem gX8_placesOf_X8_sizeNumber : GoodIn wsX8_placesOf (va_wsS RX8 166 yX8_sizeNumber wsX8_sizeNumber) := goodIn_app (goodIn_of _ (by decide +kernel)) ggX8_placesOf_X8_sizeNumber
theorem dX8_placesOf_0 : decode cX8_placesOf 0 = .ok (.iconst 1, 1) := by decide +kernel
theorem dX8_placesOf_1 : decode cX8_placesOf 1 = .ok (.aload_n 0, 1) := by decide +kernel
theorem dX8_placesOf_2 : decode cX8_placesOf 2 = .ok (.iload_n 1, 1) := by decide +kernel
theorem dX8_placesOf_3 : decode cX8_placesOf 3 = .ok (.invokestatic 163, 3) := by decide +kernel
theorem dX8_placesOf_6 : decode cX8_placesOf 6 = .ok (.invokestatic 166, 3) := by decide +kernel
theorem dX8_placesOf_9 : decode cX8_placesOf 9 = .ok (.ishl, 1) := by decide +kernel
theorem dX8_placesOf_10 : decode cX8_placesOf 10 = .ok (.ireturn, 1) := by decide +kernel
set_option maxRecDepth 20000 in
theorem ggX8_allPlaces_X8_findsNodes : GoodIn wsX8_allPlaces wsX8_findsNodes := goodIn_r _ [7, 1, 2, 8, 9, 6, 10, 11, 12, 13, 14, 15, 16, 17, 18, 19, 20, 21, 22, 23, 24, 25, 26, 42, 43, 44, 45, 46, 47, 48, 49, 50, 51, 52, 53, 54, 55, 56, 57, 58, 59, 60, 61, 62, 63] (by decide +kernel) (by decide +kernel)
set_option maxRecDepth 20000 in
theorem gX8_allPlaces_X8_findsNodes : GoodIn wsX8_allPlaces (wsV RX8 169 RX8 yX8_findsNodes wsX8_findsNodes) := goodIn_app (goodIn_of _ (by decide +kernel)) ggX8_allPlaces_X8_findsNodes
set_option maxRecDepth 20000 in
theorem ggX8_allPlaces_X8_placesOf : GoodIn wsX8_allPlaces wsX8_placesOf := goodIn_r _ [29, 30, 31, 6, 32, 33, 34, 35, 8, 9, 10, 11, 12, 13, 14, 15, 16, 36, 37, 38, 39, 40, 41] (by decide +kernel) (by decide +kernel)
set_option maxRecDepth 20000 in
theorem gX8_allPlaces_X8_placesOf : GoodIn wsX8_allPlaces (va_wsS RX8 173 yX8_placesOf wsX8_placesOf) := goodIn_app (goodIn_of _ (by decide +kernel)) ggX8_allPlaces_X8_placesOf
theorem dX8_allPlaces_0 : decode cX8_allPlaces 0 = .ok (.aload_n 0, 1) := by decide +kernel
theorem dX8_allPlaces_1 : decode cX8_allPlaces 1 = .ok (.aload_n 1, 1) := by decide +kernel
theorem dX8_allPlaces_2 : decode cX8_allPlaces 2 = .ok (.invokevirtual 169, 3) := by decide +kernel
theorem dX8_allPlaces_5 : decode cX8_allPlaces 5 = .ok (.iconst 0, 1) := by decide +kernel
theorem dX8_allPlaces_6 : decode cX8_allPlaces 6 = .ok (.istore_n 2, 1) := by decide +kernel
theorem dX8_allPlaces_7 : decode cX8_allPlaces 7 = .ok (.iconst 0, 1) := by decide +kernel
theorem dX8_allPlaces_8 : decode cX8_allPlaces 8 = .ok (.istore_n 3, 1) := by decide +kernel
theorem dX8_allPlaces_9 : decode cX8_allPlaces 9 = .ok (.iload_n 3, 1) := by decide +kernel
theorem dX8_allPlaces_10 : decode cX8_allPlaces 10 = .ok (.aload_n 0, 1) := by decide +kernel
theorem dX8_allPlaces_11 : decode cX8_allPlaces 11 = .ok (.getfield 147, 3) := by decide +kernel
theorem dX8_allPlaces_14 : decode cX8_allPlaces 14 = .ok (.if_icmp .ge 22, 3) := by decide +kernel
theorem dX8_allPlaces_17 : decode cX8_allPlaces 17 = .ok (.iload_n 2, 1) := by decide +kernel
theorem dX8_allPlaces_18 : decode cX8_allPlaces 18 = .ok (.aload_n 1, 1) := by decide +kernel
theorem dX8_allPlaces_19 : decode cX8_allPlaces 19 = .ok (.aload_n 0, 1) := by decide +kernel
theorem dX8_allPlaces_20 : decode cX8_allPlaces 20 = .ok (.getfield 50, 3) := by decide +kernel
theorem dX8_allPlaces_23 : decode cX8_allPlaces 23 = .ok (.iload_n 3, 1) := by decide +kernel
theorem dX8_allPlaces_24 : decode cX8_allPlaces 24 = .ok (.iaload, 1) := by decide +kernel
theorem dX8_allPlaces_25 : decode cX8_allPlaces 25 = .ok (.invokestatic 173, 3) := by decide +kernel
theorem dX8_allPlaces_28 : decode cX8_allPlaces 28 = .ok (.iadd, 1) := by decide +kernel
theorem dX8_allPlaces_29 : decode cX8_allPlaces 29 = .ok (.istore_n 2, 1) := by decide +kernel
theorem dX8_allPlaces_30 : decode cX8_allPlaces 30 = .ok (.iinc 3 1, 3) := by decide +kernel
theorem dX8_allPlaces_33 : decode cX8_allPlaces 33 = .ok (.goto (-24), 3) := by decide +kernel
theorem dX8_allPlaces_36 : decode cX8_allPlaces 36 = .ok (.iload_n 2, 1) := by decide +kernel
theorem dX8_allPlaces_37 : decode cX8_allPlaces 37 = .ok (.ireturn, 1) := by decide +kernel
set_option maxRecDepth 20000 in
theorem ggX8_headsOf_X8_begins : GoodIn wsX8_headsOf wsX8_begins := goodIn_r _ [6, 7, 8, 5, 9, 10, 11, 12, 13, 14, 15] (by decide +kernel) (by decide +kernel)
set_option maxRecDepth 20000 in
theorem gX8_headsOf_X8_begins : GoodIn wsX8_headsOf (va_wsS RX8 156 yX8_begins wsX8_begins) := goodIn_app (goodIn_of _ (by decide +kernel)) ggX8_headsOf_X8_begins
theorem dX8_headsOf_0 : decode cX8_headsOf 0 = .ok (.iconst 0, 1) := by decide +kernel
theorem dX8_headsOf_1 : decode cX8_headsOf 1 = .ok (.istore_n 2, 1) := by decide +kernel
theorem dX8_headsOf_2 : decode cX8_headsOf 2 = .ok (.iconst 0, 1) := by decide +kernel
theorem dX8_headsOf_3 : decode cX8_headsOf 3 = .ok (.istore_n 3, 1) := by decide +kernel
theorem dX8_headsOf_4 : decode cX8_headsOf 4 = .ok (.iload_n 3, 1) := by decide +kernel
theorem dX8_headsOf_5 : decode cX8_headsOf 5 = .ok (.aload_n 0, 1) := by decide +kernel
theorem dX8_headsOf_6 : decode cX8_headsOf 6 = .ok (.getfield 147, 3) := by decide +kernel
theorem dX8_headsOf_9 : decode cX8_headsOf 9 = .ok (.if_icmp .ge 30, 3) := by decide +kernel
theorem dX8_headsOf_12 : decode cX8_headsOf 12 = .ok (.iload_n 2, 1) := by decide +kernel
theorem dX8_headsOf_13 : decode cX8_headsOf 13 = .ok (.iload_n 1, 1) := by decide +kernel
theorem dX8_headsOf_14 : decode cX8_headsOf 14 = .ok (.aload_n 0, 1) := by decide +kernel
theorem dX8_headsOf_15 : decode cX8_headsOf 15 = .ok (.getfield 50, 3) := by decide +kernel
theorem dX8_headsOf_18 : decode cX8_headsOf 18 = .ok (.iload_n 3, 1) := by decide +kernel
theorem dX8_headsOf_19 : decode cX8_headsOf 19 = .ok (.iaload, 1) := by decide +kernel
theorem dX8_headsOf_20 : decode cX8_headsOf 20 = .ok (.invokestatic 156, 3) := by decide +kernel
theorem dX8_headsOf_23 : decode cX8_headsOf 23 = .ok (.ifCond .eq 7, 3) := by decide +kernel
theorem dX8_headsOf_26 : decode cX8_headsOf 26 = .ok (.iconst 1, 1) := by decide +kernel
theorem dX8_headsOf_27 : decode cX8_headsOf 27 = .ok (.goto 4, 3) := by decide +kernel
theorem dX8_headsOf_30 : decode cX8_headsOf 30 = .ok (.iconst 0, 1) := by decide +kernel
theorem dX8_headsOf_31 : decode cX8_headsOf 31 = .ok (.iadd, 1) := by decide +kernel
theorem dX8_headsOf_32 : decode cX8_headsOf 32 = .ok (.istore_n 2, 1) := by decide +kernel
theorem dX8_headsOf_33 : decode cX8_headsOf 33 = .ok (.iinc 3 1, 3) := by decide +kernel
theorem dX8_headsOf_36 : decode cX8_headsOf 36 = .ok (.goto (-32), 3) := by decide +kernel
theorem dX8_headsOf_39 : decode cX8_headsOf 39 = .ok (.iload_n 2, 1) := by decide +kernel
theorem dX8_headsOf_40 : decode cX8_headsOf 40 = .ok (.ireturn, 1) := by decide +kernel
set_option maxRecDepth 20000 in
theorem ggX8_prefixOf_X8_begins : GoodIn wsX8_prefixOf wsX8_begins := goodIn_r _ [6, 7, 8, 5, 9, 10, 11, 12, 13, 14, 15] (by decide +kernel) (by decide +kernel)
set_option maxRecDepth 20000 in
theorem gX8_prefixOf_X8_begins : GoodIn wsX8_prefixOf (va_wsS RX8 156 yX8_begins wsX8_begins) := goodIn_app (goodIn_of _ (by decide +kernel)) ggX8_prefixOf_X8_begins
set_option maxRecDepth 20000 in
theorem ggX8_prefixOf_X8_sizeOf : GoodIn wsX8_prefixOf wsX8_sizeOf := goodIn_r _ [12] (by decide +kernel) (by decide +kernel)
set_option maxRecDepth 20000 in
theorem gX8_prefixOf_X8_sizeOf : GoodIn wsX8_prefixOf (va_wsS RX8 87 yX8_sizeOf wsX8_sizeOf) := goodIn_app (goodIn_of _ (by decide +kernel)) ggX8_prefixOf_X8_sizeOf
set_option maxRecDepth 20000 in
theorem ggX8_prefixOf_X8_more : GoodIn wsX8_prefixOf wsX8_more := goodIn_r _ [18] (by decide +kernel) (by decide +kernel)
set_option maxRecDepth 20000 in
theorem gX8_prefixOf_X8_more : GoodIn wsX8_prefixOf (va_wsS RX8 176 yX8_more wsX8_more) := goodIn_app (goodIn_of _ (by decide +kernel)) ggX8_prefixOf_X8_more
theorem dX8_prefixOf_0 : decode cX8_prefixOf 0 = .ok (.bipush (-9), 2) := by decide +kernel
theorem dX8_prefixOf_2 : decode cX8_prefixOf 2 = .ok (.istore_n 2, 1) := by decide +kernel
theorem dX8_prefixOf_3 : decode cX8_prefixOf 3 = .ok (.iconst 0, 1) := by decide +kernel
theorem dX8_prefixOf_4 : decode cX8_prefixOf 4 = .ok (.istore_n 3, 1) := by decide +kernel
theorem dX8_prefixOf_5 : decode cX8_prefixOf 5 = .ok (.iload_n 3, 1) := by decide +kernel
theorem dX8_prefixOf_6 : decode cX8_prefixOf 6 = .ok (.aload_n 0, 1) := by decide +kernel
theorem dX8_prefixOf_7 : decode cX8_prefixOf 7 = .ok (.getfield 147, 3) := by decide +kernel
theorem dX8_prefixOf_10 : decode cX8_prefixOf 10 = .ok (.if_icmp .ge 50, 3) := by decide +kernel
theorem dX8_prefixOf_13 : decode cX8_prefixOf 13 = .ok (.aload_n 0, 1) := by decide +kernel
theorem dX8_prefixOf_14 : decode cX8_prefixOf 14 = .ok (.getfield 50, 3) := by decide +kernel
theorem dX8_prefixOf_17 : decode cX8_prefixOf 17 = .ok (.iload_n 3, 1) := by decide +kernel
theorem dX8_prefixOf_18 : decode cX8_prefixOf 18 = .ok (.iaload, 1) := by decide +kernel
theorem dX8_prefixOf_19 : decode cX8_prefixOf 19 = .ok (.iload_n 1, 1) := by decide +kernel
theorem dX8_prefixOf_20 : decode cX8_prefixOf 20 = .ok (.if_icmp .eq 32, 3) := by decide +kernel
theorem dX8_prefixOf_23 : decode cX8_prefixOf 23 = .ok (.iload_n 1, 1) := by decide +kernel
theorem dX8_prefixOf_24 : decode cX8_prefixOf 24 = .ok (.aload_n 0, 1) := by decide +kernel
theorem dX8_prefixOf_25 : decode cX8_prefixOf 25 = .ok (.getfield 50, 3) := by decide +kernel
theorem dX8_prefixOf_28 : decode cX8_prefixOf 28 = .ok (.iload_n 3, 1) := by decide +kernel
theorem dX8_prefixOf_29 : decode cX8_prefixOf 29 = .ok (.iaload, 1) := by decide +kernel
theorem dX8_prefixOf_30 : decode cX8_prefixOf 30 = .ok (.invokestatic 156, 3) := by decide +kernel
theorem dX8_prefixOf_33 : decode cX8_prefixOf 33 = .ok (.ifCond .eq 19, 3) := by decide +kernel
theorem dX8_prefixOf_36 : decode cX8_prefixOf 36 = .ok (.iload_n 2, 1) := by decide +kernel
theorem dX8_prefixOf_37 : decode cX8_prefixOf 37 = .ok (.aload_n 0, 1) := by decide +kernel
theorem dX8_prefixOf_38 : decode cX8_prefixOf 38 = .ok (.getfield 50, 3) := by decide +kernel
theorem dX8_prefixOf_41 : decode cX8_prefixOf 41 = .ok (.iload_n 3, 1) := by decide +kernel
theorem dX8_prefixOf_42 : decode cX8_prefixOf 42 = .ok (.iaload, 1) := by decide +kernel
theorem dX8_prefixOf_43 : decode cX8_prefixOf 43 = .ok (.invokestatic 87, 3) := by decide +kernel
theorem dX8_prefixOf_46 : decode cX8_prefixOf 46 = .ok (.invokestatic 176, 3) := by decide +kernel
theorem dX8_prefixOf_49 : decode cX8_prefixOf 49 = .ok (.goto 4, 3) := by decide +kernel
theorem dX8_prefixOf_52 : decode cX8_prefixOf 52 = .ok (.iload_n 2, 1) := by decide +kernel
theorem dX8_prefixOf_53 : decode cX8_prefixOf 53 = .ok (.istore_n 2, 1) := by decide +kernel
theorem dX8_prefixOf_54 : decode cX8_prefixOf 54 = .ok (.iinc 3 1, 3) := by decide +kernel
theorem dX8_prefixOf_57 : decode cX8_prefixOf 57 = .ok (.goto (-52), 3) := by decide +kernel
theorem dX8_prefixOf_60 : decode cX8_prefixOf 60 = .ok (.iload_n 2, 1) := by decide +kernel
theorem dX8_prefixOf_61 : decode cX8_prefixOf 61 = .ok (.bipush (-9), 2) := by decide +kernel
theorem dX8_prefixOf_63 : decode cX8_prefixOf 63 = .ok (.if_icmp .ne 10, 3) := by decide +kernel
theorem dX8_prefixOf_66 : decode cX8_prefixOf 66 = .ok (.iload_n 1, 1) := by decide +kernel
theorem dX8_prefixOf_67 : decode cX8_prefixOf 67 = .ok (.invokestatic 87, 3) := by decide +kernel
theorem dX8_prefixOf_70 : decode cX8_prefixOf 70 = .ok (.goto 11, 3) := by decide +kernel
theorem dX8_prefixOf_73 : decode cX8_prefixOf 73 = .ok (.iload_n 1, 1) := by decide +kernel
theorem dX8_prefixOf_74 : decode cX8_prefixOf 74 = .ok (.invokestatic 87, 3) := by decide +kernel
theorem dX8_prefixOf_77 : decode cX8_prefixOf 77 = .ok (.iload_n 2, 1) := by decide +kernel
theorem dX8_prefixOf_78 : decode cX8_prefixOf 78 = .ok (.isub, 1) := by decide +kernel
theorem dX8_prefixOf_79 : decode cX8_prefixOf 79 = .ok (.iconst 1, 1) := by decide +kernel
theorem dX8_prefixOf_80 : decode cX8_prefixOf 80 = .ok (.isub, 1) := by decide +kernel
theorem dX8_prefixOf_81 : decode cX8_prefixOf 81 = .ok (.ireturn, 1) := by decide +kernel
set_option maxRecDepth 20000 in
theorem ggX8_under_X8_begins : GoodIn wsX8_under wsX8_begins := goodIn_r _ [4, 5, 6, 3, 7, 8, 9, 10, 11, 12, 13] (by decide +kernel) (by decide +kernel)
set_option maxRecDepth 20000 in
theorem gX8_under_X8_begins : GoodIn wsX8_under (va_wsS RX8 156 yX8_begins wsX8_begins) := goodIn_app (goodIn_of _ (by decide +kernel)) ggX8_under_X8_begins
theorem dX8_under_0 : decode cX8_under 0 = .ok (.iconst 0, 1) := by decide +kernel
theorem dX8_under_1 : decode cX8_under 1 = .ok (.istore_n 2, 1) := by decide +kernel
theorem dX8_under_2 : decode cX8_under 2 = .ok (.iconst 0, 1) := by decide +kernel
theorem dX8_under_3 : decode cX8_under 3 = .ok (.istore_n 3, 1) := by decide +kernel
theorem dX8_under_4 : decode cX8_under 4 = .ok (.iload_n 3, 1) := by decide +kernel
theorem dX8_under_5 : decode cX8_under 5 = .ok (.aload_n 0, 1) := by decide +kernel
theorem dX8_under_6 : decode cX8_under 6 = .ok (.iconst 0, 1) := by decide +kernel
theorem dX8_under_7 : decode cX8_under 7 = .ok (.iaload, 1) := by decide +kernel
theorem dX8_under_8 : decode cX8_under 8 = .ok (.if_icmp .ge 29, 3) := by decide +kernel
theorem dX8_under_11 : decode cX8_under 11 = .ok (.iload_n 2, 1) := by decide +kernel
theorem dX8_under_12 : decode cX8_under 12 = .ok (.aload_n 0, 1) := by decide +kernel
theorem dX8_under_13 : decode cX8_under 13 = .ok (.iconst 1, 1) := by decide +kernel
theorem dX8_under_14 : decode cX8_under 14 = .ok (.iload_n 3, 1) := by decide +kernel
theorem dX8_under_15 : decode cX8_under 15 = .ok (.iadd, 1) := by decide +kernel
theorem dX8_under_16 : decode cX8_under 16 = .ok (.iaload, 1) := by decide +kernel
theorem dX8_under_17 : decode cX8_under 17 = .ok (.iload_n 1, 1) := by decide +kernel
theorem dX8_under_18 : decode cX8_under 18 = .ok (.invokestatic 156, 3) := by decide +kernel
theorem dX8_under_21 : decode cX8_under 21 = .ok (.ifCond .eq 7, 3) := by decide +kernel
theorem dX8_under_24 : decode cX8_under 24 = .ok (.iconst 1, 1) := by decide +kernel
theorem dX8_under_25 : decode cX8_under 25 = .ok (.goto 4, 3) := by decide +kernel
theorem dX8_under_28 : decode cX8_under 28 = .ok (.iconst 0, 1) := by decide +kernel
theorem dX8_under_29 : decode cX8_under 29 = .ok (.iadd, 1) := by decide +kernel
theorem dX8_under_30 : decode cX8_under 30 = .ok (.istore_n 2, 1) := by decide +kernel
theorem dX8_under_31 : decode cX8_under 31 = .ok (.iinc 3 1, 3) := by decide +kernel
theorem dX8_under_34 : decode cX8_under 34 = .ok (.goto (-30), 3) := by decide +kernel
theorem dX8_under_37 : decode cX8_under 37 = .ok (.iload_n 2, 1) := by decide +kernel
theorem dX8_under_38 : decode cX8_under 38 = .ok (.ireturn, 1) := by decide +kernel
set_option maxRecDepth 20000 in
theorem ggX8_notes_X8_copies : GoodIn wsX8_notes wsX8_copies := goodIn_r _ [7] (by decide +kernel) (by decide +kernel)
set_option maxRecDepth 20000 in
theorem gX8_notes_X8_copies : GoodIn wsX8_notes (va_wsS RX8 134 yX8_copies wsX8_copies) := goodIn_app (goodIn_of _ (by decide +kernel)) ggX8_notes_X8_copies
theorem dX8_notes_0 : decode cX8_notes 0 = .ok (.aload_n 0, 1) := by decide +kernel
theorem dX8_notes_1 : decode cX8_notes 1 = .ok (.getfield 22, 3) := by decide +kernel
theorem dX8_notes_4 : decode cX8_notes 4 = .ok (.iconst 0, 1) := by decide +kernel
theorem dX8_notes_5 : decode cX8_notes 5 = .ok (.aload_n 0, 1) := by decide +kernel
theorem dX8_notes_6 : decode cX8_notes 6 = .ok (.getfield 31, 3) := by decide +kernel
theorem dX8_notes_9 : decode cX8_notes 9 = .ok (.bipush 97, 2) := by decide +kernel
theorem dX8_notes_11 : decode cX8_notes 11 = .ok (.aload_n 0, 1) := by decide +kernel
theorem dX8_notes_12 : decode cX8_notes 12 = .ok (.getfield 138, 3) := by decide +kernel
theorem dX8_notes_15 : decode cX8_notes 15 = .ok (.imul, 1) := by decide +kernel
theorem dX8_notes_16 : decode cX8_notes 16 = .ok (.bipush 97, 2) := by decide +kernel
theorem dX8_notes_18 : decode cX8_notes 18 = .ok (.invokestatic 134, 3) := by decide +kernel
theorem dX8_notes_21 : decode cX8_notes 21 = .ok (.aload_n 0, 1) := by decide +kernel
theorem dX8_notes_22 : decode cX8_notes 22 = .ok (.dup, 1) := by decide +kernel
theorem dX8_notes_23 : decode cX8_notes 23 = .ok (.getfield 138, 3) := by decide +kernel
theorem dX8_notes_26 : decode cX8_notes 26 = .ok (.iconst 1, 1) := by decide +kernel
theorem dX8_notes_27 : decode cX8_notes 27 = .ok (.iadd, 1) := by decide +kernel
theorem dX8_notes_28 : decode cX8_notes 28 = .ok (.putfield 138, 3) := by decide +kernel
theorem dX8_notes_31 : decode cX8_notes 31 = .ok (.return_, 1) := by decide +kernel
set_option maxRecDepth 20000 in
theorem ggX8_changed_X8_copies : GoodIn wsX8_changed wsX8_copies := goodIn_r _ [13] (by decide +kernel) (by decide +kernel)
set_option maxRecDepth 20000 in
theorem gX8_changed_X8_copies : GoodIn wsX8_changed (va_wsS RX8 134 yX8_copies wsX8_copies) := goodIn_app (goodIn_of _ (by decide +kernel)) ggX8_changed_X8_copies
set_option maxRecDepth 20000 in
theorem ggX8_changed_X8_noChange : GoodIn wsX8_changed wsX8_noChange := goodIn_r _ [17, 9, 56, 57, 58, 59, 60, 61, 62, 63, 64, 65, 66, 67, 68, 69, 70, 71, 72, 73, 74, 75, 76, 77] (by decide +kernel) (by decide +kernel)
set_option maxRecDepth 20000 in
theorem gX8_changed_X8_noChange : GoodIn wsX8_changed (wsV RX8 144 RX8 yX8_noChange wsX8_noChange) := goodIn_app (goodIn_of _ (by decide +kernel)) ggX8_changed_X8_noChange
set_option maxRecDepth 20000 in
theorem ggX8_changed_X8_findsNodes : GoodIn wsX8_changed wsX8_findsNodes := goodIn_r _ [21, 4, 6, 22, 23, 12, 24, 25, 26, 27, 28, 29, 30, 31, 32, 33, 34, 35, 36, 37, 38, 39, 40, 56, 57, 58, 59, 60, 61, 62, 63, 64, 65, 66, 67, 68, 69, 70, 71, 72, 73, 74, 75, 76, 77] (by decide +kernel) (by decide +kernel)
set_option maxRecDepth 20000 in
theorem gX8_changed_X8_findsNodes : GoodIn wsX8_changed (wsV RX8 169 RX8 yX8_findsNodes wsX8_findsNodes) := goodIn_app (goodIn_of _ (by decide +kernel)) ggX8_changed_X8_findsNodes
set_option maxRecDepth 20000 in
theorem ggX8_changed_X8_nodeOf : GoodIn wsX8_changed wsX8_nodeOf := goodIn_r _ [40, 4, 6, 56, 57, 58, 59, 60, 61, 62, 63, 64, 65, 66, 67, 68, 69, 70, 71, 72, 73, 74, 75, 76, 77] (by decide +kernel) (by decide +kernel)
set_option maxRecDepth 20000 in
theorem gX8_changed_X8_nodeOf : GoodIn wsX8_changed (wsV RX8 153 RX8 yX8_nodeOf wsX8_nodeOf) := goodIn_app (goodIn_of _ (by decide +kernel)) ggX8_changed_X8_nodeOf
set_option maxRecDepth 20000 in
theorem ggX8_changed_X8_placesOf : GoodIn wsX8_changed wsX8_placesOf := goodIn_r _ [43, 44, 45, 12, 46, 47, 48, 49, 22, 23, 24, 25, 26, 27, 28, 29, 30, 50, 51, 52, 53, 54, 55] (by decide +kernel) (by decide +kernel)
set_option maxRecDepth 20000 in
theorem gX8_changed_X8_placesOf : GoodIn wsX8_changed (va_wsS RX8 173 yX8_placesOf wsX8_placesOf) := goodIn_app (goodIn_of _ (by decide +kernel)) ggX8_changed_X8_placesOf
theorem dX8_changed_0 : decode cX8_changed 0 = .ok (.aload_n 0, 1) := by decide +kernel
theorem dX8_changed_1 : decode cX8_changed 1 = .ok (.getfield 31, 3) := by decide +kernel
theorem dX8_changed_4 : decode cX8_changed 4 = .ok (.bipush 97, 2) := by decide +kernel
theorem dX8_changed_6 : decode cX8_changed 6 = .ok (.aload_n 0, 1) := by decide +kernel
theorem dX8_changed_7 : decode cX8_changed 7 = .ok (.getfield 138, 3) := by decide +kernel
theorem dX8_changed_10 : decode cX8_changed 10 = .ok (.iconst 1, 1) := by decide +kernel
theorem dX8_changed_11 : decode cX8_changed 11 = .ok (.isub, 1) := by decide +kernel
theorem dX8_changed_12 : decode cX8_changed 12 = .ok (.imul, 1) := by decide +kernel
theorem dX8_changed_13 : decode cX8_changed 13 = .ok (.aload_n 0, 1) := by decide +kernel
theorem dX8_changed_14 : decode cX8_changed 14 = .ok (.getfield 28, 3) := by decide +kernel
theorem dX8_changed_17 : decode cX8_changed 17 = .ok (.iconst 0, 1) := by decide +kernel
theorem dX8_changed_18 : decode cX8_changed 18 = .ok (.bipush 97, 2) := by decide +kernel
theorem dX8_changed_20 : decode cX8_changed 20 = .ok (.invokestatic 134, 3) := by decide +kernel
theorem dX8_changed_23 : decode cX8_changed 23 = .ok (.aload_n 0, 1) := by decide +kernel
theorem dX8_changed_24 : decode cX8_changed 24 = .ok (.invokevirtual 144, 3) := by decide +kernel
theorem dX8_changed_27 : decode cX8_changed 27 = .ok (.aload_n 0, 1) := by decide +kernel
theorem dX8_changed_28 : decode cX8_changed 28 = .ok (.aload_n 0, 1) := by decide +kernel
theorem dX8_changed_29 : decode cX8_changed 29 = .ok (.getfield 28, 3) := by decide +kernel
theorem dX8_changed_32 : decode cX8_changed 32 = .ok (.invokevirtual 169, 3) := by decide +kernel
theorem dX8_changed_35 : decode cX8_changed 35 = .ok (.aload_n 0, 1) := by decide +kernel
theorem dX8_changed_36 : decode cX8_changed 36 = .ok (.aload_n 0, 1) := by decide +kernel
theorem dX8_changed_37 : decode cX8_changed 37 = .ok (.getfield 147, 3) := by decide +kernel
theorem dX8_changed_40 : decode cX8_changed 40 = .ok (.putfield 179, 3) := by decide +kernel
theorem dX8_changed_43 : decode cX8_changed 43 = .ok (.aload_n 0, 1) := by decide +kernel
theorem dX8_changed_44 : decode cX8_changed 44 = .ok (.getfield 50, 3) := by decide +kernel
theorem dX8_changed_47 : decode cX8_changed 47 = .ok (.iconst 0, 1) := by decide +kernel
theorem dX8_changed_48 : decode cX8_changed 48 = .ok (.aload_n 0, 1) := by decide +kernel
theorem dX8_changed_49 : decode cX8_changed 49 = .ok (.getfield 53, 3) := by decide +kernel
theorem dX8_changed_52 : decode cX8_changed 52 = .ok (.iconst 0, 1) := by decide +kernel
theorem dX8_changed_53 : decode cX8_changed 53 = .ok (.aload_n 0, 1) := by decide +kernel
theorem dX8_changed_54 : decode cX8_changed 54 = .ok (.getfield 147, 3) := by decide +kernel
theorem dX8_changed_57 : decode cX8_changed 57 = .ok (.invokestatic 134, 3) := by decide +kernel
theorem dX8_changed_60 : decode cX8_changed 60 = .ok (.aload_n 0, 1) := by decide +kernel
theorem dX8_changed_61 : decode cX8_changed 61 = .ok (.aload_n 0, 1) := by decide +kernel
theorem dX8_changed_62 : decode cX8_changed 62 = .ok (.getfield 22, 3) := by decide +kernel
theorem dX8_changed_65 : decode cX8_changed 65 = .ok (.invokevirtual 169, 3) := by decide +kernel
theorem dX8_changed_68 : decode cX8_changed 68 = .ok (.iconst 0, 1) := by decide +kernel
theorem dX8_changed_69 : decode cX8_changed 69 = .ok (.istore_n 1, 1) := by decide +kernel
theorem dX8_changed_70 : decode cX8_changed 70 = .ok (.iload_n 1, 1) := by decide +kernel
theorem dX8_changed_71 : decode cX8_changed 71 = .ok (.aload_n 0, 1) := by decide +kernel
theorem dX8_changed_72 : decode cX8_changed 72 = .ok (.getfield 179, 3) := by decide +kernel
theorem dX8_changed_75 : decode cX8_changed 75 = .ok (.if_icmp .ge 103, 3) := by decide +kernel
theorem dX8_changed_78 : decode cX8_changed 78 = .ok (.aload_n 0, 1) := by decide +kernel
theorem dX8_changed_79 : decode cX8_changed 79 = .ok (.aload_n 0, 1) := by decide +kernel
theorem dX8_changed_80 : decode cX8_changed 80 = .ok (.getfield 53, 3) := by decide +kernel
theorem dX8_changed_83 : decode cX8_changed 83 = .ok (.iload_n 1, 1) := by decide +kernel
theorem dX8_changed_84 : decode cX8_changed 84 = .ok (.iaload, 1) := by decide +kernel
theorem dX8_changed_85 : decode cX8_changed 85 = .ok (.invokevirtual 153, 3) := by decide +kernel
theorem dX8_changed_88 : decode cX8_changed 88 = .ok (.bipush (-9), 2) := by decide +kernel
theorem dX8_changed_90 : decode cX8_changed 90 = .ok (.if_icmp .ne 16, 3) := by decide +kernel
theorem dX8_changed_93 : decode cX8_changed 93 = .ok (.aload_n 0, 1) := by decide +kernel
theorem dX8_changed_94 : decode cX8_changed 94 = .ok (.getfield 44, 3) := by decide +kernel
theorem dX8_changed_97 : decode cX8_changed 97 = .ok (.iconst 1, 1) := by decide +kernel
theorem dX8_changed_98 : decode cX8_changed 98 = .ok (.dup2, 1) := by decide +kernel
theorem dX8_changed_99 : decode cX8_changed 99 = .ok (.iaload, 1) := by decide +kernel
theorem dX8_changed_100 : decode cX8_changed 100 = .ok (.iconst 1, 1) := by decide +kernel
theorem dX8_changed_101 : decode cX8_changed 101 = .ok (.iadd, 1) := by decide +kernel
theorem dX8_changed_102 : decode cX8_changed 102 = .ok (.iastore, 1) := by decide +kernel
theorem dX8_changed_103 : decode cX8_changed 103 = .ok (.goto 69, 3) := by decide +kernel
theorem dX8_changed_106 : decode cX8_changed 106 = .ok (.aload_n 0, 1) := by decide +kernel
theorem dX8_changed_107 : decode cX8_changed 107 = .ok (.getfield 28, 3) := by decide +kernel
theorem dX8_changed_110 : decode cX8_changed 110 = .ok (.aload_n 0, 1) := by decide +kernel
theorem dX8_changed_111 : decode cX8_changed 111 = .ok (.getfield 53, 3) := by decide +kernel
theorem dX8_changed_114 : decode cX8_changed 114 = .ok (.iload_n 1, 1) := by decide +kernel
theorem dX8_changed_115 : decode cX8_changed 115 = .ok (.iaload, 1) := by decide +kernel
theorem dX8_changed_116 : decode cX8_changed 116 = .ok (.invokestatic 173, 3) := by decide +kernel
theorem dX8_changed_119 : decode cX8_changed 119 = .ok (.istore_n 2, 1) := by decide +kernel
theorem dX8_changed_120 : decode cX8_changed 120 = .ok (.aload_n 0, 1) := by decide +kernel
theorem dX8_changed_121 : decode cX8_changed 121 = .ok (.getfield 22, 3) := by decide +kernel
theorem dX8_changed_124 : decode cX8_changed 124 = .ok (.aload_n 0, 1) := by decide +kernel
theorem dX8_changed_125 : decode cX8_changed 125 = .ok (.getfield 53, 3) := by decide +kernel
theorem dX8_changed_128 : decode cX8_changed 128 = .ok (.iload_n 1, 1) := by decide +kernel
theorem dX8_changed_129 : decode cX8_changed 129 = .ok (.iaload, 1) := by decide +kernel
theorem dX8_changed_130 : decode cX8_changed 130 = .ok (.invokestatic 173, 3) := by decide +kernel
theorem dX8_changed_133 : decode cX8_changed 133 = .ok (.istore_n 3, 1) := by decide +kernel
theorem dX8_changed_134 : decode cX8_changed 134 = .ok (.aload_n 0, 1) := by decide +kernel
theorem dX8_changed_135 : decode cX8_changed 135 = .ok (.getfield 44, 3) := by decide +kernel
theorem dX8_changed_138 : decode cX8_changed 138 = .ok (.iconst 2, 1) := by decide +kernel
theorem dX8_changed_139 : decode cX8_changed 139 = .ok (.dup2, 1) := by decide +kernel
theorem dX8_changed_140 : decode cX8_changed 140 = .ok (.iaload, 1) := by decide +kernel
theorem dX8_changed_141 : decode cX8_changed 141 = .ok (.iload_n 3, 1) := by decide +kernel
theorem dX8_changed_142 : decode cX8_changed 142 = .ok (.iload_n 2, 1) := by decide +kernel
theorem dX8_changed_143 : decode cX8_changed 143 = .ok (.if_icmp .le 7, 3) := by decide +kernel
theorem dX8_changed_146 : decode cX8_changed 146 = .ok (.iconst 1, 1) := by decide +kernel
theorem dX8_changed_147 : decode cX8_changed 147 = .ok (.goto 4, 3) := by decide +kernel
theorem dX8_changed_150 : decode cX8_changed 150 = .ok (.iconst 0, 1) := by decide +kernel
theorem dX8_changed_151 : decode cX8_changed 151 = .ok (.iadd, 1) := by decide +kernel
theorem dX8_changed_152 : decode cX8_changed 152 = .ok (.iastore, 1) := by decide +kernel
theorem dX8_changed_153 : decode cX8_changed 153 = .ok (.aload_n 0, 1) := by decide +kernel
theorem dX8_changed_154 : decode cX8_changed 154 = .ok (.getfield 44, 3) := by decide +kernel
theorem dX8_changed_157 : decode cX8_changed 157 = .ok (.iconst 3, 1) := by decide +kernel
theorem dX8_changed_158 : decode cX8_changed 158 = .ok (.dup2, 1) := by decide +kernel
theorem dX8_changed_159 : decode cX8_changed 159 = .ok (.iaload, 1) := by decide +kernel
theorem dX8_changed_160 : decode cX8_changed 160 = .ok (.iload_n 3, 1) := by decide +kernel
theorem dX8_changed_161 : decode cX8_changed 161 = .ok (.iload_n 2, 1) := by decide +kernel
theorem dX8_changed_162 : decode cX8_changed 162 = .ok (.if_icmp .ge 7, 3) := by decide +kernel
theorem dX8_changed_165 : decode cX8_changed 165 = .ok (.iconst 1, 1) := by decide +kernel
theorem dX8_changed_166 : decode cX8_changed 166 = .ok (.goto 4, 3) := by decide +kernel
theorem dX8_changed_169 : decode cX8_changed 169 = .ok (.iconst 0, 1) := by decide +kernel
theorem dX8_changed_170 : decode cX8_changed 170 = .ok (.iadd, 1) := by decide +kernel
theorem dX8_changed_171 : decode cX8_changed 171 = .ok (.iastore, 1) := by decide +kernel
theorem dX8_changed_172 : decode cX8_changed 172 = .ok (.iinc 1 1, 3) := by decide +kernel
theorem dX8_changed_175 : decode cX8_changed 175 = .ok (.goto (-105), 3) := by decide +kernel
theorem dX8_changed_178 : decode cX8_changed 178 = .ok (.aload_n 0, 1) := by decide +kernel
theorem dX8_changed_179 : decode cX8_changed 179 = .ok (.getfield 44, 3) := by decide +kernel
theorem dX8_changed_182 : decode cX8_changed 182 = .ok (.iconst 0, 1) := by decide +kernel
theorem dX8_changed_183 : decode cX8_changed 183 = .ok (.aload_n 0, 1) := by decide +kernel
theorem dX8_changed_184 : decode cX8_changed 184 = .ok (.getfield 147, 3) := by decide +kernel
theorem dX8_changed_187 : decode cX8_changed 187 = .ok (.aload_n 0, 1) := by decide +kernel
theorem dX8_changed_188 : decode cX8_changed 188 = .ok (.getfield 179, 3) := by decide +kernel
theorem dX8_changed_191 : decode cX8_changed 191 = .ok (.isub, 1) := by decide +kernel
theorem dX8_changed_192 : decode cX8_changed 192 = .ok (.aload_n 0, 1) := by decide +kernel
theorem dX8_changed_193 : decode cX8_changed 193 = .ok (.getfield 44, 3) := by decide +kernel
theorem dX8_changed_196 : decode cX8_changed 196 = .ok (.iconst 1, 1) := by decide +kernel
theorem dX8_changed_197 : decode cX8_changed 197 = .ok (.iaload, 1) := by decide +kernel
theorem dX8_changed_198 : decode cX8_changed 198 = .ok (.iadd, 1) := by decide +kernel
theorem dX8_changed_199 : decode cX8_changed 199 = .ok (.iastore, 1) := by decide +kernel
theorem dX8_changed_200 : decode cX8_changed 200 = .ok (.return_, 1) := by decide +kernel
set_option maxRecDepth 20000 in
theorem ggX8_enter_X8_isWord : GoodIn wsX8_enter wsX8_isWord := goodIn_r _ [7, 8, 9, 10, 6, 11] (by decide +kernel) (by decide +kernel)
set_option maxRecDepth 20000 in
theorem gX8_enter_X8_isWord : GoodIn wsX8_enter (va_wsS RX8 182 yX8_isWord wsX8_isWord) := goodIn_app (goodIn_of _ (by decide +kernel)) ggX8_enter_X8_isWord
set_option maxRecDepth 20000 in
theorem ggX8_enter_X8_in : GoodIn wsX8_enter wsX8_in := goodIn_r _ [11] (by decide +kernel) (by decide +kernel)
set_option maxRecDepth 20000 in
theorem gX8_enter_X8_in : GoodIn wsX8_enter (va_wsS RX8 65 yX8_in wsX8_in) := goodIn_app (goodIn_of _ (by decide +kernel)) ggX8_enter_X8_in
set_option maxRecDepth 20000 in
theorem ggX8_enter_X8_word : GoodIn wsX8_enter wsX8_word := goodIn_r _ [14] (by decide +kernel) (by decide +kernel)
set_option maxRecDepth 20000 in
theorem gX8_enter_X8_word : GoodIn wsX8_enter (va_wsS RX8 97 yX8_word wsX8_word) := goodIn_app (goodIn_of _ (by decide +kernel)) ggX8_enter_X8_word
set_option maxRecDepth 20000 in
theorem ggX8_enter_X8_placeOf : GoodIn wsX8_enter wsX8_placeOf := goodIn_r _ [17, 18, 19, 6, 20] (by decide +kernel) (by decide +kernel)
set_option maxRecDepth 20000 in
theorem gX8_enter_X8_placeOf : GoodIn wsX8_enter (va_wsS RX8 104 yX8_placeOf wsX8_placeOf) := goodIn_app (goodIn_of _ (by decide +kernel)) ggX8_enter_X8_placeOf
set_option maxRecDepth 20000 in
theorem ggX8_enter_X8_notes : GoodIn wsX8_enter wsX8_notes := goodIn_r _ [24, 2, 25, 3, 26, 27, 6, 28, 81, 82, 83, 84, 85, 86, 87, 88, 89, 90, 91, 92, 93, 94, 95, 96, 97, 98, 99, 100, 101, 102] (by decide +kernel) (by decide +kernel)
set_option maxRecDepth 20000 in
theorem gX8_enter_X8_notes : GoodIn wsX8_enter (wsV RX8 188 RX8 yX8_notes wsX8_notes) := goodIn_app (goodIn_of _ (by decide +kernel)) ggX8_enter_X8_notes
set_option maxRecDepth 20000 in
theorem ggX8_enter_X8_enters : GoodIn wsX8_enter wsX8_enters := goodIn_r _ [31, 15, 16, 6, 17, 18, 19, 20] (by decide +kernel) (by decide +kernel)
set_option maxRecDepth 20000 in
theorem gX8_enter_X8_enters : GoodIn wsX8_enter (va_wsS RX8 121 yX8_enters wsX8_enters) := goodIn_app (goodIn_of _ (by decide +kernel)) ggX8_enter_X8_enters
set_option maxRecDepth 20000 in
theorem ggX8_enter_X8_changed : GoodIn wsX8_enter wsX8_changed := goodIn_r _ [35, 25, 3, 36, 37, 38, 39, 40, 2, 41, 26, 27, 6, 28, 42, 43, 44, 45, 46, 47, 48, 49, 50, 51, 52, 53, 54, 55, 56, 57, 58, 59, 60, 61, 12, 13, 14, 62, 63, 64, 65, 66, 67, 68, 69, 70, 71, 72, 73, 74, 75, 76, 77, 78, 79, 80, 81, 82, 83, 84, 85, 86, 87, 88, 89, 90, 91, 92, 93, 94, 95, 96, 97, 98, 99, 100, 101, 102] (by decide +kernel) (by decide +kernel)
set_option maxRecDepth 20000 in
theorem gX8_enter_X8_changed : GoodIn wsX8_enter (wsV RX8 191 RX8 yX8_changed wsX8_changed) := goodIn_app (goodIn_of _ (by decide +kernel)) ggX8_enter_X8_changed
theorem dX8_enter_0 : decode cX8_enter 0 = .ok (.iload_n 1, 1) := by decide +kernel
theorem dX8_enter_1 : decode cX8_enter 1 = .ok (.iload_n 2, 1) := by decide +kernel
theorem dX8_enter_2 : decode cX8_enter 2 = .ok (.iconst 1, 1) := by decide +kernel
theorem dX8_enter_3 : decode cX8_enter 3 = .ok (.invokestatic 182, 3) := by decide +kernel
theorem dX8_enter_6 : decode cX8_enter 6 = .ok (.ifCond .eq 15, 3) := by decide +kernel
theorem dX8_enter_9 : decode cX8_enter 9 = .ok (.iload_n 3, 1) := by decide +kernel
theorem dX8_enter_10 : decode cX8_enter 10 = .ok (.i2l, 1) := by decide +kernel
theorem dX8_enter_11 : decode cX8_enter 11 = .ok (.lconst 0, 1) := by decide +kernel
theorem dX8_enter_12 : decode cX8_enter 12 = .ok (.ldc2_w 186, 3) := by decide +kernel
theorem dX8_enter_15 : decode cX8_enter 15 = .ok (.invokestatic 65, 3) := by decide +kernel
theorem dX8_enter_18 : decode cX8_enter 18 = .ok (.ifCond .ne 5, 3) := by decide +kernel
theorem dX8_enter_21 : decode cX8_enter 21 = .ok (.iconst (-1), 1) := by decide +kernel
theorem dX8_enter_22 : decode cX8_enter 22 = .ok (.ireturn, 1) := by decide +kernel
theorem dX8_enter_23 : decode cX8_enter 23 = .ok (.aload_n 0, 1) := by decide +kernel
theorem dX8_enter_24 : decode cX8_enter 24 = .ok (.getfield 22, 3) := by decide +kernel
theorem dX8_enter_27 : decode cX8_enter 27 = .ok (.iload_n 1, 1) := by decide +kernel
theorem dX8_enter_28 : decode cX8_enter 28 = .ok (.iload_n 2, 1) := by decide +kernel
theorem dX8_enter_29 : decode cX8_enter 29 = .ok (.invokestatic 97, 3) := by decide +kernel
theorem dX8_enter_32 : decode cX8_enter 32 = .ok (.invokestatic 104, 3) := by decide +kernel
theorem dX8_enter_35 : decode cX8_enter 35 = .ok (.istore 4, 2) := by decide +kernel
theorem dX8_enter_37 : decode cX8_enter 37 = .ok (.aload_n 0, 1) := by decide +kernel
theorem dX8_enter_38 : decode cX8_enter 38 = .ok (.getfield 138, 3) := by decide +kernel
theorem dX8_enter_41 : decode cX8_enter 41 = .ok (.bipush 40, 2) := by decide +kernel
theorem dX8_enter_43 : decode cX8_enter 43 = .ok (.if_icmp .eq 21, 3) := by decide +kernel
theorem dX8_enter_46 : decode cX8_enter 46 = .ok (.iload 4, 2) := by decide +kernel
theorem dX8_enter_48 : decode cX8_enter 48 = .ok (.bipush (-9), 2) := by decide +kernel
theorem dX8_enter_50 : decode cX8_enter 50 = .ok (.if_icmp .ne 17, 3) := by decide +kernel
theorem dX8_enter_53 : decode cX8_enter 53 = .ok (.aload_n 0, 1) := by decide +kernel
theorem dX8_enter_54 : decode cX8_enter 54 = .ok (.getfield 22, 3) := by decide +kernel
theorem dX8_enter_57 : decode cX8_enter 57 = .ok (.iconst 0, 1) := by decide +kernel
theorem dX8_enter_58 : decode cX8_enter 58 = .ok (.iaload, 1) := by decide +kernel
theorem dX8_enter_59 : decode cX8_enter 59 = .ok (.bipush 48, 2) := by decide +kernel
theorem dX8_enter_61 : decode cX8_enter 61 = .ok (.if_icmp .ne 6, 3) := by decide +kernel
theorem dX8_enter_64 : decode cX8_enter 64 = .ok (.bipush (-2), 2) := by decide +kernel
theorem dX8_enter_66 : decode cX8_enter 66 = .ok (.ireturn, 1) := by decide +kernel
theorem dX8_enter_67 : decode cX8_enter 67 = .ok (.iload 4, 2) := by decide +kernel
theorem dX8_enter_69 : decode cX8_enter 69 = .ok (.bipush (-9), 2) := by decide +kernel
theorem dX8_enter_71 : decode cX8_enter 71 = .ok (.if_icmp .ne 8, 3) := by decide +kernel
theorem dX8_enter_74 : decode cX8_enter 74 = .ok (.bipush (-9), 2) := by decide +kernel
theorem dX8_enter_76 : decode cX8_enter 76 = .ok (.goto 13, 3) := by decide +kernel
theorem dX8_enter_79 : decode cX8_enter 79 = .ok (.aload_n 0, 1) := by decide +kernel
theorem dX8_enter_80 : decode cX8_enter 80 = .ok (.getfield 22, 3) := by decide +kernel
theorem dX8_enter_83 : decode cX8_enter 83 = .ok (.bipush 49, 2) := by decide +kernel
theorem dX8_enter_85 : decode cX8_enter 85 = .ok (.iload 4, 2) := by decide +kernel
theorem dX8_enter_87 : decode cX8_enter 87 = .ok (.iadd, 1) := by decide +kernel
theorem dX8_enter_88 : decode cX8_enter 88 = .ok (.iaload, 1) := by decide +kernel
theorem dX8_enter_89 : decode cX8_enter 89 = .ok (.istore 5, 2) := by decide +kernel
theorem dX8_enter_91 : decode cX8_enter 91 = .ok (.aload_n 0, 1) := by decide +kernel
theorem dX8_enter_92 : decode cX8_enter 92 = .ok (.invokevirtual 188, 3) := by decide +kernel
theorem dX8_enter_95 : decode cX8_enter 95 = .ok (.aload_n 0, 1) := by decide +kernel
theorem dX8_enter_96 : decode cX8_enter 96 = .ok (.getfield 22, 3) := by decide +kernel
theorem dX8_enter_99 : decode cX8_enter 99 = .ok (.iload_n 1, 1) := by decide +kernel
theorem dX8_enter_100 : decode cX8_enter 100 = .ok (.iload_n 2, 1) := by decide +kernel
theorem dX8_enter_101 : decode cX8_enter 101 = .ok (.invokestatic 97, 3) := by decide +kernel
theorem dX8_enter_104 : decode cX8_enter 104 = .ok (.iload_n 3, 1) := by decide +kernel
theorem dX8_enter_105 : decode cX8_enter 105 = .ok (.invokestatic 121, 3) := by decide +kernel
theorem dX8_enter_108 : decode cX8_enter 108 = .ok (.aload_n 0, 1) := by decide +kernel
theorem dX8_enter_109 : decode cX8_enter 109 = .ok (.invokevirtual 191, 3) := by decide +kernel
theorem dX8_enter_112 : decode cX8_enter 112 = .ok (.iload 5, 2) := by decide +kernel
theorem dX8_enter_114 : decode cX8_enter 114 = .ok (.ireturn, 1) := by decide +kernel
set_option maxRecDepth 20000 in
theorem ggX8_take_X8_isWord : GoodIn wsX8_take wsX8_isWord := goodIn_r _ [6, 7, 8, 9, 5, 10] (by decide +kernel) (by decide +kernel)
set_option maxRecDepth 20000 in
theorem gX8_take_X8_isWord : GoodIn wsX8_take (va_wsS RX8 182 yX8_isWord wsX8_isWord) := goodIn_app (goodIn_of _ (by decide +kernel)) ggX8_take_X8_isWord
set_option maxRecDepth 20000 in
theorem ggX8_take_X8_word : GoodIn wsX8_take wsX8_word := goodIn_r _ [13] (by decide +kernel) (by decide +kernel)
set_option maxRecDepth 20000 in
theorem gX8_take_X8_word : GoodIn wsX8_take (va_wsS RX8 97 yX8_word wsX8_word) := goodIn_app (goodIn_of _ (by decide +kernel)) ggX8_take_X8_word
set_option maxRecDepth 20000 in
theorem ggX8_take_X8_placeOf : GoodIn wsX8_take wsX8_placeOf := goodIn_r _ [16, 17, 18, 5, 19] (by decide +kernel) (by decide +kernel)
set_option maxRecDepth 20000 in
theorem gX8_take_X8_placeOf : GoodIn wsX8_take (va_wsS RX8 104 yX8_placeOf wsX8_placeOf) := goodIn_app (goodIn_of _ (by decide +kernel)) ggX8_take_X8_placeOf
set_option maxRecDepth 20000 in
theorem ggX8_take_X8_notes : GoodIn wsX8_take wsX8_notes := goodIn_r _ [23, 1, 24, 2, 25, 26, 5, 27, 80, 81, 82, 83, 84, 85, 86, 87, 88, 89, 90, 91, 92, 93, 94, 95, 96, 97, 98, 99, 100, 101] (by decide +kernel) (by decide +kernel)
set_option maxRecDepth 20000 in
theorem gX8_take_X8_notes : GoodIn wsX8_take (wsV RX8 188 RX8 yX8_notes wsX8_notes) := goodIn_app (goodIn_of _ (by decide +kernel)) ggX8_take_X8_notes
set_option maxRecDepth 20000 in
theorem ggX8_take_X8_leaves : GoodIn wsX8_take wsX8_leaves := goodIn_r _ [30] (by decide +kernel) (by decide +kernel)
set_option maxRecDepth 20000 in
theorem gX8_take_X8_leaves : GoodIn wsX8_take (va_wsS RX8 194 yX8_leaves wsX8_leaves) := goodIn_app (goodIn_of _ (by decide +kernel)) ggX8_take_X8_leaves
set_option maxRecDepth 20000 in
theorem ggX8_take_X8_changed : GoodIn wsX8_take wsX8_changed := goodIn_r _ [34, 24, 2, 35, 36, 37, 38, 39, 1, 40, 25, 26, 5, 27, 41, 42, 43, 44, 45, 46, 47, 48, 49, 50, 51, 52, 53, 54, 55, 56, 57, 58, 59, 60, 11, 12, 13, 61, 62, 63, 64, 65, 66, 67, 68, 69, 70, 71, 72, 73, 74, 75, 76, 77, 78, 79, 80, 81, 82, 83, 84, 85, 86, 87, 88, 89, 90, 91, 92, 93, 94, 95, 96, 97, 98, 99, 100, 101] (by decide +kernel) (by decide +kernel)
set_option maxRecDepth 20000 in
theorem gX8_take_X8_changed : GoodIn wsX8_take (wsV RX8 191 RX8 yX8_changed wsX8_changed) := goodIn_app (goodIn_of _ (by decide +kernel)) ggX8_take_X8_changed
theorem dX8_take_0 : decode cX8_take 0 = .ok (.iload_n 1, 1) := by decide +kernel
theorem dX8_take_1 : decode cX8_take 1 = .ok (.iload_n 2, 1) := by decide +kernel
theorem dX8_take_2 : decode cX8_take 2 = .ok (.iconst 1, 1) := by decide +kernel
theorem dX8_take_3 : decode cX8_take 3 = .ok (.invokestatic 182, 3) := by decide +kernel
theorem dX8_take_6 : decode cX8_take 6 = .ok (.ifCond .ne 5, 3) := by decide +kernel
theorem dX8_take_9 : decode cX8_take 9 = .ok (.iconst (-1), 1) := by decide +kernel
theorem dX8_take_10 : decode cX8_take 10 = .ok (.ireturn, 1) := by decide +kernel
theorem dX8_take_11 : decode cX8_take 11 = .ok (.aload_n 0, 1) := by decide +kernel
theorem dX8_take_12 : decode cX8_take 12 = .ok (.getfield 22, 3) := by decide +kernel
theorem dX8_take_15 : decode cX8_take 15 = .ok (.iload_n 1, 1) := by decide +kernel
theorem dX8_take_16 : decode cX8_take 16 = .ok (.iload_n 2, 1) := by decide +kernel
theorem dX8_take_17 : decode cX8_take 17 = .ok (.invokestatic 97, 3) := by decide +kernel
theorem dX8_take_20 : decode cX8_take 20 = .ok (.invokestatic 104, 3) := by decide +kernel
theorem dX8_take_23 : decode cX8_take 23 = .ok (.istore_n 3, 1) := by decide +kernel
theorem dX8_take_24 : decode cX8_take 24 = .ok (.iload_n 3, 1) := by decide +kernel
theorem dX8_take_25 : decode cX8_take 25 = .ok (.bipush (-9), 2) := by decide +kernel
theorem dX8_take_27 : decode cX8_take 27 = .ok (.if_icmp .ne 6, 3) := by decide +kernel
theorem dX8_take_30 : decode cX8_take 30 = .ok (.bipush (-4), 2) := by decide +kernel
theorem dX8_take_32 : decode cX8_take 32 = .ok (.ireturn, 1) := by decide +kernel
theorem dX8_take_33 : decode cX8_take 33 = .ok (.aload_n 0, 1) := by decide +kernel
theorem dX8_take_34 : decode cX8_take 34 = .ok (.getfield 138, 3) := by decide +kernel
theorem dX8_take_37 : decode cX8_take 37 = .ok (.bipush 40, 2) := by decide +kernel
theorem dX8_take_39 : decode cX8_take 39 = .ok (.if_icmp .ne 6, 3) := by decide +kernel
theorem dX8_take_42 : decode cX8_take 42 = .ok (.bipush (-2), 2) := by decide +kernel
theorem dX8_take_44 : decode cX8_take 44 = .ok (.ireturn, 1) := by decide +kernel
theorem dX8_take_45 : decode cX8_take 45 = .ok (.aload_n 0, 1) := by decide +kernel
theorem dX8_take_46 : decode cX8_take 46 = .ok (.getfield 22, 3) := by decide +kernel
theorem dX8_take_49 : decode cX8_take 49 = .ok (.bipush 49, 2) := by decide +kernel
theorem dX8_take_51 : decode cX8_take 51 = .ok (.iload_n 3, 1) := by decide +kernel
theorem dX8_take_52 : decode cX8_take 52 = .ok (.iadd, 1) := by decide +kernel
theorem dX8_take_53 : decode cX8_take 53 = .ok (.iaload, 1) := by decide +kernel
theorem dX8_take_54 : decode cX8_take 54 = .ok (.istore 4, 2) := by decide +kernel
theorem dX8_take_56 : decode cX8_take 56 = .ok (.aload_n 0, 1) := by decide +kernel
theorem dX8_take_57 : decode cX8_take 57 = .ok (.invokevirtual 188, 3) := by decide +kernel
theorem dX8_take_60 : decode cX8_take 60 = .ok (.aload_n 0, 1) := by decide +kernel
theorem dX8_take_61 : decode cX8_take 61 = .ok (.getfield 22, 3) := by decide +kernel
theorem dX8_take_64 : decode cX8_take 64 = .ok (.iload_n 3, 1) := by decide +kernel
theorem dX8_take_65 : decode cX8_take 65 = .ok (.invokestatic 194, 3) := by decide +kernel
theorem dX8_take_68 : decode cX8_take 68 = .ok (.aload_n 0, 1) := by decide +kernel
theorem dX8_take_69 : decode cX8_take 69 = .ok (.invokevirtual 191, 3) := by decide +kernel
theorem dX8_take_72 : decode cX8_take 72 = .ok (.iload 4, 2) := by decide +kernel
theorem dX8_take_74 : decode cX8_take 74 = .ok (.ireturn, 1) := by decide +kernel
set_option maxRecDepth 20000 in
theorem ggX8_strip_X8_isWord : GoodIn wsX8_strip wsX8_isWord := goodIn_r _ [6, 7, 8, 9, 5, 10] (by decide +kernel) (by decide +kernel)
set_option maxRecDepth 20000 in
theorem gX8_strip_X8_isWord : GoodIn wsX8_strip (va_wsS RX8 182 yX8_isWord wsX8_isWord) := goodIn_app (goodIn_of _ (by decide +kernel)) ggX8_strip_X8_isWord
set_option maxRecDepth 20000 in
theorem ggX8_strip_X8_word : GoodIn wsX8_strip wsX8_word := goodIn_r _ [13] (by decide +kernel) (by decide +kernel)
set_option maxRecDepth 20000 in
theorem gX8_strip_X8_word : GoodIn wsX8_strip (va_wsS RX8 97 yX8_word wsX8_word) := goodIn_app (goodIn_of _ (by decide +kernel)) ggX8_strip_X8_word
set_option maxRecDepth 20000 in
theorem ggX8_strip_X8_under : GoodIn wsX8_strip wsX8_under := goodIn_r _ [16, 17, 18, 5, 19, 20, 21, 22, 23, 24, 25, 26, 27, 28] (by decide +kernel) (by decide +kernel)
set_option maxRecDepth 20000 in
theorem gX8_strip_X8_under : GoodIn wsX8_strip (va_wsS RX8 198 yX8_under wsX8_under) := goodIn_app (goodIn_of _ (by decide +kernel)) ggX8_strip_X8_under
set_option maxRecDepth 20000 in
theorem ggX8_strip_X8_notes : GoodIn wsX8_strip wsX8_notes := goodIn_r _ [32, 1, 33, 2, 34, 35, 5, 36, 77, 78, 79, 80, 81, 82, 83, 84, 85, 86, 87, 88, 89, 90, 91, 92, 93, 94, 95, 96, 97, 98] (by decide +kernel) (by decide +kernel)
set_option maxRecDepth 20000 in
theorem gX8_strip_X8_notes : GoodIn wsX8_strip (wsV RX8 188 RX8 yX8_notes wsX8_notes) := goodIn_app (goodIn_of _ (by decide +kernel)) ggX8_strip_X8_notes
set_option maxRecDepth 20000 in
theorem ggX8_strip_X8_begins : GoodIn wsX8_strip wsX8_begins := goodIn_r _ [19, 20, 21, 5, 22, 23, 24, 25, 26, 27, 28] (by decide +kernel) (by decide +kernel)
set_option maxRecDepth 20000 in
theorem gX8_strip_X8_begins : GoodIn wsX8_strip (va_wsS RX8 156 yX8_begins wsX8_begins) := goodIn_app (goodIn_of _ (by decide +kernel)) ggX8_strip_X8_begins
set_option maxRecDepth 20000 in
theorem ggX8_strip_X8_leaves : GoodIn wsX8_strip wsX8_leaves := goodIn_r _ [39] (by decide +kernel) (by decide +kernel)
set_option maxRecDepth 20000 in
theorem gX8_strip_X8_leaves : GoodIn wsX8_strip (va_wsS RX8 194 yX8_leaves wsX8_leaves) := goodIn_app (goodIn_of _ (by decide +kernel)) ggX8_strip_X8_leaves
set_option maxRecDepth 20000 in
theorem ggX8_strip_X8_changed : GoodIn wsX8_strip wsX8_changed := goodIn_r _ [43, 33, 2, 44, 45, 46, 47, 48, 1, 49, 34, 35, 5, 36, 50, 51, 52, 53, 54, 55, 56, 57, 20, 21, 22, 23, 24, 25, 26, 27, 28, 58, 59, 60, 11, 12, 13, 61, 62, 63, 64, 65, 66, 67, 68, 69, 70, 17, 18, 19, 71, 72, 73, 74, 75, 76, 77, 78, 79, 80, 81, 82, 83, 84, 85, 86, 87, 88, 89, 90, 91, 92, 93, 94, 95, 96, 97, 98] (by decide +kernel) (by decide +kernel)
set_option maxRecDepth 20000 in
theorem gX8_strip_X8_changed : GoodIn wsX8_strip (wsV RX8 191 RX8 yX8_changed wsX8_changed) := goodIn_app (goodIn_of _ (by decide +kernel)) ggX8_strip_X8_changed
theorem dX8_strip_0 : decode cX8_strip 0 = .ok (.iload_n 1, 1) := by decide +kernel
theorem dX8_strip_1 : decode cX8_strip 1 = .ok (.iload_n 2, 1) := by decide +kernel
theorem dX8_strip_2 : decode cX8_strip 2 = .ok (.iconst 1, 1) := by decide +kernel
theorem dX8_strip_3 : decode cX8_strip 3 = .ok (.invokestatic 182, 3) := by decide +kernel
theorem dX8_strip_6 : decode cX8_strip 6 = .ok (.ifCond .ne 5, 3) := by decide +kernel
theorem dX8_strip_9 : decode cX8_strip 9 = .ok (.iconst (-1), 1) := by decide +kernel
theorem dX8_strip_10 : decode cX8_strip 10 = .ok (.ireturn, 1) := by decide +kernel
theorem dX8_strip_11 : decode cX8_strip 11 = .ok (.iload_n 1, 1) := by decide +kernel
theorem dX8_strip_12 : decode cX8_strip 12 = .ok (.iload_n 2, 1) := by decide +kernel
theorem dX8_strip_13 : decode cX8_strip 13 = .ok (.invokestatic 97, 3) := by decide +kernel
theorem dX8_strip_16 : decode cX8_strip 16 = .ok (.istore_n 3, 1) := by decide +kernel
theorem dX8_strip_17 : decode cX8_strip 17 = .ok (.aload_n 0, 1) := by decide +kernel
theorem dX8_strip_18 : decode cX8_strip 18 = .ok (.getfield 22, 3) := by decide +kernel
theorem dX8_strip_21 : decode cX8_strip 21 = .ok (.iload_n 3, 1) := by decide +kernel
theorem dX8_strip_22 : decode cX8_strip 22 = .ok (.invokestatic 198, 3) := by decide +kernel
theorem dX8_strip_25 : decode cX8_strip 25 = .ok (.istore 4, 2) := by decide +kernel
theorem dX8_strip_27 : decode cX8_strip 27 = .ok (.iload 4, 2) := by decide +kernel
theorem dX8_strip_29 : decode cX8_strip 29 = .ok (.ifCond .ne 6, 3) := by decide +kernel
theorem dX8_strip_32 : decode cX8_strip 32 = .ok (.bipush (-4), 2) := by decide +kernel
theorem dX8_strip_34 : decode cX8_strip 34 = .ok (.ireturn, 1) := by decide +kernel
theorem dX8_strip_35 : decode cX8_strip 35 = .ok (.aload_n 0, 1) := by decide +kernel
theorem dX8_strip_36 : decode cX8_strip 36 = .ok (.getfield 138, 3) := by decide +kernel
theorem dX8_strip_39 : decode cX8_strip 39 = .ok (.bipush 40, 2) := by decide +kernel
theorem dX8_strip_41 : decode cX8_strip 41 = .ok (.if_icmp .ne 6, 3) := by decide +kernel
theorem dX8_strip_44 : decode cX8_strip 44 = .ok (.bipush (-2), 2) := by decide +kernel
theorem dX8_strip_46 : decode cX8_strip 46 = .ok (.ireturn, 1) := by decide +kernel
theorem dX8_strip_47 : decode cX8_strip 47 = .ok (.aload_n 0, 1) := by decide +kernel
theorem dX8_strip_48 : decode cX8_strip 48 = .ok (.invokevirtual 188, 3) := by decide +kernel
theorem dX8_strip_51 : decode cX8_strip 51 = .ok (.aload_n 0, 1) := by decide +kernel
theorem dX8_strip_52 : decode cX8_strip 52 = .ok (.getfield 22, 3) := by decide +kernel
theorem dX8_strip_55 : decode cX8_strip 55 = .ok (.iconst 0, 1) := by decide +kernel
theorem dX8_strip_56 : decode cX8_strip 56 = .ok (.iaload, 1) := by decide +kernel
theorem dX8_strip_57 : decode cX8_strip 57 = .ok (.iconst 1, 1) := by decide +kernel
theorem dX8_strip_58 : decode cX8_strip 58 = .ok (.isub, 1) := by decide +kernel
theorem dX8_strip_59 : decode cX8_strip 59 = .ok (.istore 5, 2) := by decide +kernel
theorem dX8_strip_61 : decode cX8_strip 61 = .ok (.iload 5, 2) := by decide +kernel
theorem dX8_strip_63 : decode cX8_strip 63 = .ok (.ifCond .lt 34, 3) := by decide +kernel
theorem dX8_strip_66 : decode cX8_strip 66 = .ok (.aload_n 0, 1) := by decide +kernel
theorem dX8_strip_67 : decode cX8_strip 67 = .ok (.getfield 22, 3) := by decide +kernel
theorem dX8_strip_70 : decode cX8_strip 70 = .ok (.iconst 1, 1) := by decide +kernel
theorem dX8_strip_71 : decode cX8_strip 71 = .ok (.iload 5, 2) := by decide +kernel
theorem dX8_strip_73 : decode cX8_strip 73 = .ok (.iadd, 1) := by decide +kernel
theorem dX8_strip_74 : decode cX8_strip 74 = .ok (.iaload, 1) := by decide +kernel
theorem dX8_strip_75 : decode cX8_strip 75 = .ok (.iload_n 3, 1) := by decide +kernel
theorem dX8_strip_76 : decode cX8_strip 76 = .ok (.invokestatic 156, 3) := by decide +kernel
theorem dX8_strip_79 : decode cX8_strip 79 = .ok (.ifCond .eq 12, 3) := by decide +kernel
theorem dX8_strip_82 : decode cX8_strip 82 = .ok (.aload_n 0, 1) := by decide +kernel
theorem dX8_strip_83 : decode cX8_strip 83 = .ok (.getfield 22, 3) := by decide +kernel
theorem dX8_strip_86 : decode cX8_strip 86 = .ok (.iload 5, 2) := by decide +kernel
theorem dX8_strip_88 : decode cX8_strip 88 = .ok (.invokestatic 194, 3) := by decide +kernel
theorem dX8_strip_91 : decode cX8_strip 91 = .ok (.iinc 5 (-1), 3) := by decide +kernel
theorem dX8_strip_94 : decode cX8_strip 94 = .ok (.goto (-33), 3) := by decide +kernel
theorem dX8_strip_97 : decode cX8_strip 97 = .ok (.aload_n 0, 1) := by decide +kernel
theorem dX8_strip_98 : decode cX8_strip 98 = .ok (.invokevirtual 191, 3) := by decide +kernel
theorem dX8_strip_101 : decode cX8_strip 101 = .ok (.iload 4, 2) := by decide +kernel
theorem dX8_strip_103 : decode cX8_strip 103 = .ok (.ireturn, 1) := by decide +kernel
set_option maxRecDepth 20000 in
theorem ggX8_change_X8_in : GoodIn wsX8_change wsX8_in := goodIn_r _ [6] (by decide +kernel) (by decide +kernel)
set_option maxRecDepth 20000 in
theorem gX8_change_X8_in : GoodIn wsX8_change (va_wsS RX8 65 yX8_in wsX8_in) := goodIn_app (goodIn_of _ (by decide +kernel)) ggX8_change_X8_in
theorem dX8_change_0 : decode cX8_change 0 = .ok (.iload_n 1, 1) := by decide +kernel
theorem dX8_change_1 : decode cX8_change 1 = .ok (.i2l, 1) := by decide +kernel
theorem dX8_change_2 : decode cX8_change 2 = .ok (.lconst 0, 1) := by decide +kernel
theorem dX8_change_3 : decode cX8_change 3 = .ok (.ldc2_w 69, 3) := by decide +kernel
theorem dX8_change_6 : decode cX8_change 6 = .ok (.invokestatic 65, 3) := by decide +kernel
theorem dX8_change_9 : decode cX8_change 9 = .ok (.ifCond .eq 12, 3) := by decide +kernel
theorem dX8_change_12 : decode cX8_change 12 = .ok (.aload_n 0, 1) := by decide +kernel
theorem dX8_change_13 : decode cX8_change 13 = .ok (.getfield 44, 3) := by decide +kernel
theorem dX8_change_16 : decode cX8_change 16 = .ok (.iload_n 1, 1) := by decide +kernel
theorem dX8_change_17 : decode cX8_change 17 = .ok (.iaload, 1) := by decide +kernel
theorem dX8_change_18 : decode cX8_change 18 = .ok (.goto 4, 3) := by decide +kernel
theorem dX8_change_21 : decode cX8_change 21 = .ok (.iconst (-1), 1) := by decide +kernel
theorem dX8_change_22 : decode cX8_change 22 = .ok (.ireturn, 1) := by decide +kernel
set_option maxRecDepth 20000 in
theorem ggX8_undo_X8_in : GoodIn wsX8_undo wsX8_in := goodIn_r _ [7] (by decide +kernel) (by decide +kernel)
set_option maxRecDepth 20000 in
theorem gX8_undo_X8_in : GoodIn wsX8_undo (va_wsS RX8 65 yX8_in wsX8_in) := goodIn_app (goodIn_of _ (by decide +kernel)) ggX8_undo_X8_in
set_option maxRecDepth 20000 in
theorem ggX8_undo_X8_copies : GoodIn wsX8_undo wsX8_copies := goodIn_r _ [10] (by decide +kernel) (by decide +kernel)
set_option maxRecDepth 20000 in
theorem gX8_undo_X8_copies : GoodIn wsX8_undo (va_wsS RX8 134 yX8_copies wsX8_copies) := goodIn_app (goodIn_of _ (by decide +kernel)) ggX8_undo_X8_copies
set_option maxRecDepth 20000 in
theorem ggX8_undo_X8_noChange : GoodIn wsX8_undo wsX8_noChange := goodIn_r _ [14, 15, 16, 17, 18, 19, 20, 21, 22, 23, 24, 25, 26, 27, 28, 29, 30, 31, 32, 33, 34, 35, 36, 37] (by decide +kernel) (by decide +kernel)
set_option maxRecDepth 20000 in
theorem gX8_undo_X8_noChange : GoodIn wsX8_undo (wsV RX8 144 RX8 yX8_noChange wsX8_noChange) := goodIn_app (goodIn_of _ (by decide +kernel)) ggX8_undo_X8_noChange
theorem dX8_undo_0 : decode cX8_undo 0 = .ok (.iload_n 1, 1) := by decide +kernel
theorem dX8_undo_1 : decode cX8_undo 1 = .ok (.i2l, 1) := by decide +kernel
theorem dX8_undo_2 : decode cX8_undo 2 = .ok (.lconst 0, 1) := by decide +kernel
theorem dX8_undo_3 : decode cX8_undo 3 = .ok (.aload_n 0, 1) := by decide +kernel
theorem dX8_undo_4 : decode cX8_undo 4 = .ok (.getfield 138, 3) := by decide +kernel
theorem dX8_undo_7 : decode cX8_undo 7 = .ok (.i2l, 1) := by decide +kernel
theorem dX8_undo_8 : decode cX8_undo 8 = .ok (.invokestatic 65, 3) := by decide +kernel
theorem dX8_undo_11 : decode cX8_undo 11 = .ok (.ifCond .ne 5, 3) := by decide +kernel
theorem dX8_undo_14 : decode cX8_undo 14 = .ok (.iconst (-1), 1) := by decide +kernel
theorem dX8_undo_15 : decode cX8_undo 15 = .ok (.ireturn, 1) := by decide +kernel
theorem dX8_undo_16 : decode cX8_undo 16 = .ok (.aload_n 0, 1) := by decide +kernel
theorem dX8_undo_17 : decode cX8_undo 17 = .ok (.getfield 138, 3) := by decide +kernel
theorem dX8_undo_20 : decode cX8_undo 20 = .ok (.iload_n 1, 1) := by decide +kernel
theorem dX8_undo_21 : decode cX8_undo 21 = .ok (.isub, 1) := by decide +kernel
theorem dX8_undo_22 : decode cX8_undo 22 = .ok (.istore_n 2, 1) := by decide +kernel
theorem dX8_undo_23 : decode cX8_undo 23 = .ok (.iload_n 2, 1) := by decide +kernel
theorem dX8_undo_24 : decode cX8_undo 24 = .ok (.ifCond .le 21, 3) := by decide +kernel
theorem dX8_undo_27 : decode cX8_undo 27 = .ok (.aload_n 0, 1) := by decide +kernel
theorem dX8_undo_28 : decode cX8_undo 28 = .ok (.getfield 31, 3) := by decide +kernel
theorem dX8_undo_31 : decode cX8_undo 31 = .ok (.bipush 97, 2) := by decide +kernel
theorem dX8_undo_33 : decode cX8_undo 33 = .ok (.iload_n 1, 1) := by decide +kernel
theorem dX8_undo_34 : decode cX8_undo 34 = .ok (.imul, 1) := by decide +kernel
theorem dX8_undo_35 : decode cX8_undo 35 = .ok (.aload_n 0, 1) := by decide +kernel
theorem dX8_undo_36 : decode cX8_undo 36 = .ok (.getfield 22, 3) := by decide +kernel
theorem dX8_undo_39 : decode cX8_undo 39 = .ok (.iconst 0, 1) := by decide +kernel
theorem dX8_undo_40 : decode cX8_undo 40 = .ok (.bipush 97, 2) := by decide +kernel
theorem dX8_undo_42 : decode cX8_undo 42 = .ok (.invokestatic 134, 3) := by decide +kernel
theorem dX8_undo_45 : decode cX8_undo 45 = .ok (.aload_n 0, 1) := by decide +kernel
theorem dX8_undo_46 : decode cX8_undo 46 = .ok (.iload_n 1, 1) := by decide +kernel
theorem dX8_undo_47 : decode cX8_undo 47 = .ok (.putfield 138, 3) := by decide +kernel
theorem dX8_undo_50 : decode cX8_undo 50 = .ok (.aload_n 0, 1) := by decide +kernel
theorem dX8_undo_51 : decode cX8_undo 51 = .ok (.invokevirtual 144, 3) := by decide +kernel
theorem dX8_undo_54 : decode cX8_undo 54 = .ok (.iload_n 2, 1) := by decide +kernel
theorem dX8_undo_55 : decode cX8_undo 55 = .ok (.ireturn, 1) := by decide +kernel
set_option maxRecDepth 20000 in
theorem ggX8_isPlace_X8_in : GoodIn wsX8_isPlace wsX8_in := goodIn_r _ [5] (by decide +kernel) (by decide +kernel)
set_option maxRecDepth 20000 in
theorem gX8_isPlace_X8_in : GoodIn wsX8_isPlace (va_wsS RX8 65 yX8_in wsX8_in) := goodIn_app (goodIn_of _ (by decide +kernel)) ggX8_isPlace_X8_in
theorem dX8_isPlace_0 : decode cX8_isPlace 0 = .ok (.iload_n 0, 1) := by decide +kernel
theorem dX8_isPlace_1 : decode cX8_isPlace 1 = .ok (.i2l, 1) := by decide +kernel
theorem dX8_isPlace_2 : decode cX8_isPlace 2 = .ok (.lconst 0, 1) := by decide +kernel
theorem dX8_isPlace_3 : decode cX8_isPlace 3 = .ok (.ldc2_w 201, 3) := by decide +kernel
theorem dX8_isPlace_6 : decode cX8_isPlace 6 = .ok (.invokestatic 65, 3) := by decide +kernel
theorem dX8_isPlace_9 : decode cX8_isPlace 9 = .ok (.ireturn, 1) := by decide +kernel
set_option maxRecDepth 20000 in
theorem ggX8_keep_X8_isPlace : GoodIn wsX8_keep wsX8_isPlace := goodIn_r _ [9, 10, 11, 12, 8, 13] (by decide +kernel) (by decide +kernel)
set_option maxRecDepth 20000 in
theorem gX8_keep_X8_isPlace : GoodIn wsX8_keep (va_wsS RX8 203 yX8_isPlace wsX8_isPlace) := goodIn_app (goodIn_of _ (by decide +kernel)) ggX8_keep_X8_isPlace
set_option maxRecDepth 20000 in
theorem ggX8_keep_X8_copies : GoodIn wsX8_keep wsX8_copies := goodIn_r _ [16] (by decide +kernel) (by decide +kernel)
set_option maxRecDepth 20000 in
theorem gX8_keep_X8_copies : GoodIn wsX8_keep (va_wsS RX8 134 yX8_copies wsX8_copies) := goodIn_app (goodIn_of _ (by decide +kernel)) ggX8_keep_X8_copies
theorem dX8_keep_0 : decode cX8_keep 0 = .ok (.iload_n 1, 1) := by decide +kernel
theorem dX8_keep_1 : decode cX8_keep 1 = .ok (.invokestatic 203, 3) := by decide +kernel
theorem dX8_keep_4 : decode cX8_keep 4 = .ok (.ifCond .ne 5, 3) := by decide +kernel
theorem dX8_keep_7 : decode cX8_keep 7 = .ok (.iconst (-1), 1) := by decide +kernel
theorem dX8_keep_8 : decode cX8_keep 8 = .ok (.ireturn, 1) := by decide +kernel
theorem dX8_keep_9 : decode cX8_keep 9 = .ok (.aload_n 0, 1) := by decide +kernel
theorem dX8_keep_10 : decode cX8_keep 10 = .ok (.getfield 22, 3) := by decide +kernel
theorem dX8_keep_13 : decode cX8_keep 13 = .ok (.iconst 0, 1) := by decide +kernel
theorem dX8_keep_14 : decode cX8_keep 14 = .ok (.aload_n 0, 1) := by decide +kernel
theorem dX8_keep_15 : decode cX8_keep 15 = .ok (.getfield 34, 3) := by decide +kernel
theorem dX8_keep_18 : decode cX8_keep 18 = .ok (.sipush 3978, 3) := by decide +kernel
theorem dX8_keep_21 : decode cX8_keep 21 = .ok (.iload_n 1, 1) := by decide +kernel
theorem dX8_keep_22 : decode cX8_keep 22 = .ok (.imul, 1) := by decide +kernel
theorem dX8_keep_23 : decode cX8_keep 23 = .ok (.bipush 97, 2) := by decide +kernel
theorem dX8_keep_25 : decode cX8_keep 25 = .ok (.invokestatic 134, 3) := by decide +kernel
theorem dX8_keep_28 : decode cX8_keep 28 = .ok (.aload_n 0, 1) := by decide +kernel
theorem dX8_keep_29 : decode cX8_keep 29 = .ok (.getfield 34, 3) := by decide +kernel
theorem dX8_keep_32 : decode cX8_keep 32 = .ok (.sipush 3978, 3) := by decide +kernel
theorem dX8_keep_35 : decode cX8_keep 35 = .ok (.iload_n 1, 1) := by decide +kernel
theorem dX8_keep_36 : decode cX8_keep 36 = .ok (.imul, 1) := by decide +kernel
theorem dX8_keep_37 : decode cX8_keep 37 = .ok (.bipush 97, 2) := by decide +kernel
theorem dX8_keep_39 : decode cX8_keep 39 = .ok (.iadd, 1) := by decide +kernel
theorem dX8_keep_40 : decode cX8_keep 40 = .ok (.aload_n 0, 1) := by decide +kernel
theorem dX8_keep_41 : decode cX8_keep 41 = .ok (.getfield 138, 3) := by decide +kernel
theorem dX8_keep_44 : decode cX8_keep 44 = .ok (.iastore, 1) := by decide +kernel
theorem dX8_keep_45 : decode cX8_keep 45 = .ok (.aload_n 0, 1) := by decide +kernel
theorem dX8_keep_46 : decode cX8_keep 46 = .ok (.getfield 31, 3) := by decide +kernel
theorem dX8_keep_49 : decode cX8_keep 49 = .ok (.iconst 0, 1) := by decide +kernel
theorem dX8_keep_50 : decode cX8_keep 50 = .ok (.aload_n 0, 1) := by decide +kernel
theorem dX8_keep_51 : decode cX8_keep 51 = .ok (.getfield 34, 3) := by decide +kernel
theorem dX8_keep_54 : decode cX8_keep 54 = .ok (.sipush 3978, 3) := by decide +kernel
theorem dX8_keep_57 : decode cX8_keep 57 = .ok (.iload_n 1, 1) := by decide +kernel
theorem dX8_keep_58 : decode cX8_keep 58 = .ok (.imul, 1) := by decide +kernel
theorem dX8_keep_59 : decode cX8_keep 59 = .ok (.bipush 97, 2) := by decide +kernel
theorem dX8_keep_61 : decode cX8_keep 61 = .ok (.iadd, 1) := by decide +kernel
theorem dX8_keep_62 : decode cX8_keep 62 = .ok (.iconst 1, 1) := by decide +kernel
theorem dX8_keep_63 : decode cX8_keep 63 = .ok (.iadd, 1) := by decide +kernel
theorem dX8_keep_64 : decode cX8_keep 64 = .ok (.sipush 3880, 3) := by decide +kernel
theorem dX8_keep_67 : decode cX8_keep 67 = .ok (.invokestatic 134, 3) := by decide +kernel
theorem dX8_keep_70 : decode cX8_keep 70 = .ok (.aload_n 0, 1) := by decide +kernel
theorem dX8_keep_71 : decode cX8_keep 71 = .ok (.getfield 37, 3) := by decide +kernel
theorem dX8_keep_74 : decode cX8_keep 74 = .ok (.iload_n 1, 1) := by decide +kernel
theorem dX8_keep_75 : decode cX8_keep 75 = .ok (.iconst 1, 1) := by decide +kernel
theorem dX8_keep_76 : decode cX8_keep 76 = .ok (.bastore, 1) := by decide +kernel
theorem dX8_keep_77 : decode cX8_keep 77 = .ok (.aload_n 0, 1) := by decide +kernel
theorem dX8_keep_78 : decode cX8_keep 78 = .ok (.getfield 138, 3) := by decide +kernel
theorem dX8_keep_81 : decode cX8_keep 81 = .ok (.ireturn, 1) := by decide +kernel
set_option maxRecDepth 20000 in
theorem ggX8_on_X8_isPlace : GoodIn wsX8_on wsX8_isPlace := goodIn_r _ [9, 10, 11, 12, 8, 13] (by decide +kernel) (by decide +kernel)
set_option maxRecDepth 20000 in
theorem gX8_on_X8_isPlace : GoodIn wsX8_on (va_wsS RX8 203 yX8_isPlace wsX8_isPlace) := goodIn_app (goodIn_of _ (by decide +kernel)) ggX8_on_X8_isPlace
set_option maxRecDepth 20000 in
theorem ggX8_on_X8_found : GoodIn wsX8_on wsX8_found := goodIn_r _ [17, 18, 19, 28, 29, 30, 31, 32, 33, 34, 35, 36, 37, 38, 39, 40, 41, 42, 43, 44, 45, 46, 47, 48, 49] (by decide +kernel) (by decide +kernel)
set_option maxRecDepth 20000 in
theorem gX8_on_X8_found : GoodIn wsX8_on (wsV RX8 75 RX8 yX8_found wsX8_found) := goodIn_app (goodIn_of _ (by decide +kernel)) ggX8_on_X8_found
set_option maxRecDepth 20000 in
theorem ggX8_on_X8_copies : GoodIn wsX8_on wsX8_copies := goodIn_r _ [22] (by decide +kernel) (by decide +kernel)
set_option maxRecDepth 20000 in
theorem gX8_on_X8_copies : GoodIn wsX8_on (va_wsS RX8 134 yX8_copies wsX8_copies) := goodIn_app (goodIn_of _ (by decide +kernel)) ggX8_on_X8_copies
set_option maxRecDepth 20000 in
theorem ggX8_on_X8_noChange : GoodIn wsX8_on wsX8_noChange := goodIn_r _ [26, 27, 28, 29, 30, 31, 32, 33, 34, 35, 36, 37, 38, 39, 40, 41, 42, 43, 44, 45, 46, 47, 48, 49] (by decide +kernel) (by decide +kernel)
set_option maxRecDepth 20000 in
theorem gX8_on_X8_noChange : GoodIn wsX8_on (wsV RX8 144 RX8 yX8_noChange wsX8_noChange) := goodIn_app (goodIn_of _ (by decide +kernel)) ggX8_on_X8_noChange
theorem dX8_on_0 : decode cX8_on 0 = .ok (.iload_n 1, 1) := by decide +kernel
theorem dX8_on_1 : decode cX8_on 1 = .ok (.invokestatic 203, 3) := by decide +kernel
theorem dX8_on_4 : decode cX8_on 4 = .ok (.ifCond .ne 5, 3) := by decide +kernel
theorem dX8_on_7 : decode cX8_on 7 = .ok (.iconst (-1), 1) := by decide +kernel
theorem dX8_on_8 : decode cX8_on 8 = .ok (.ireturn, 1) := by decide +kernel
theorem dX8_on_9 : decode cX8_on 9 = .ok (.aload_n 0, 1) := by decide +kernel
theorem dX8_on_10 : decode cX8_on 10 = .ok (.getfield 37, 3) := by decide +kernel
theorem dX8_on_13 : decode cX8_on 13 = .ok (.iload_n 1, 1) := by decide +kernel
theorem dX8_on_14 : decode cX8_on 14 = .ok (.baload, 1) := by decide +kernel
theorem dX8_on_15 : decode cX8_on 15 = .ok (.ifCond .ne 9, 3) := by decide +kernel
theorem dX8_on_18 : decode cX8_on 18 = .ok (.aload_n 0, 1) := by decide +kernel
theorem dX8_on_19 : decode cX8_on 19 = .ok (.iconst 1, 1) := by decide +kernel
theorem dX8_on_20 : decode cX8_on 20 = .ok (.invokevirtual 75, 3) := by decide +kernel
theorem dX8_on_23 : decode cX8_on 23 = .ok (.ireturn, 1) := by decide +kernel
theorem dX8_on_24 : decode cX8_on 24 = .ok (.aload_n 0, 1) := by decide +kernel
theorem dX8_on_25 : decode cX8_on 25 = .ok (.getfield 34, 3) := by decide +kernel
theorem dX8_on_28 : decode cX8_on 28 = .ok (.sipush 3978, 3) := by decide +kernel
theorem dX8_on_31 : decode cX8_on 31 = .ok (.iload_n 1, 1) := by decide +kernel
theorem dX8_on_32 : decode cX8_on 32 = .ok (.imul, 1) := by decide +kernel
theorem dX8_on_33 : decode cX8_on 33 = .ok (.aload_n 0, 1) := by decide +kernel
theorem dX8_on_34 : decode cX8_on 34 = .ok (.getfield 22, 3) := by decide +kernel
theorem dX8_on_37 : decode cX8_on 37 = .ok (.iconst 0, 1) := by decide +kernel
theorem dX8_on_38 : decode cX8_on 38 = .ok (.bipush 97, 2) := by decide +kernel
theorem dX8_on_40 : decode cX8_on 40 = .ok (.invokestatic 134, 3) := by decide +kernel
theorem dX8_on_43 : decode cX8_on 43 = .ok (.aload_n 0, 1) := by decide +kernel
theorem dX8_on_44 : decode cX8_on 44 = .ok (.aload_n 0, 1) := by decide +kernel
theorem dX8_on_45 : decode cX8_on 45 = .ok (.getfield 34, 3) := by decide +kernel
theorem dX8_on_48 : decode cX8_on 48 = .ok (.sipush 3978, 3) := by decide +kernel
theorem dX8_on_51 : decode cX8_on 51 = .ok (.iload_n 1, 1) := by decide +kernel
theorem dX8_on_52 : decode cX8_on 52 = .ok (.imul, 1) := by decide +kernel
theorem dX8_on_53 : decode cX8_on 53 = .ok (.bipush 97, 2) := by decide +kernel
theorem dX8_on_55 : decode cX8_on 55 = .ok (.iadd, 1) := by decide +kernel
theorem dX8_on_56 : decode cX8_on 56 = .ok (.iaload, 1) := by decide +kernel
theorem dX8_on_57 : decode cX8_on 57 = .ok (.putfield 138, 3) := by decide +kernel
theorem dX8_on_60 : decode cX8_on 60 = .ok (.aload_n 0, 1) := by decide +kernel
theorem dX8_on_61 : decode cX8_on 61 = .ok (.getfield 34, 3) := by decide +kernel
theorem dX8_on_64 : decode cX8_on 64 = .ok (.sipush 3978, 3) := by decide +kernel
theorem dX8_on_67 : decode cX8_on 67 = .ok (.iload_n 1, 1) := by decide +kernel
theorem dX8_on_68 : decode cX8_on 68 = .ok (.imul, 1) := by decide +kernel
theorem dX8_on_69 : decode cX8_on 69 = .ok (.bipush 97, 2) := by decide +kernel
theorem dX8_on_71 : decode cX8_on 71 = .ok (.iadd, 1) := by decide +kernel
theorem dX8_on_72 : decode cX8_on 72 = .ok (.iconst 1, 1) := by decide +kernel
theorem dX8_on_73 : decode cX8_on 73 = .ok (.iadd, 1) := by decide +kernel
theorem dX8_on_74 : decode cX8_on 74 = .ok (.aload_n 0, 1) := by decide +kernel
theorem dX8_on_75 : decode cX8_on 75 = .ok (.getfield 31, 3) := by decide +kernel
theorem dX8_on_78 : decode cX8_on 78 = .ok (.iconst 0, 1) := by decide +kernel
theorem dX8_on_79 : decode cX8_on 79 = .ok (.sipush 3880, 3) := by decide +kernel
theorem dX8_on_82 : decode cX8_on 82 = .ok (.invokestatic 134, 3) := by decide +kernel
theorem dX8_on_85 : decode cX8_on 85 = .ok (.aload_n 0, 1) := by decide +kernel
theorem dX8_on_86 : decode cX8_on 86 = .ok (.invokevirtual 144, 3) := by decide +kernel
theorem dX8_on_89 : decode cX8_on 89 = .ok (.aload_n 0, 1) := by decide +kernel
theorem dX8_on_90 : decode cX8_on 90 = .ok (.getfield 138, 3) := by decide +kernel
theorem dX8_on_93 : decode cX8_on 93 = .ok (.ireturn, 1) := by decide +kernel
theorem dX8_isAsked_0 : decode cX8_isAsked 0 = .ok (.iconst 0, 1) := by decide +kernel
theorem dX8_isAsked_1 : decode cX8_isAsked 1 = .ok (.istore_n 2, 1) := by decide +kernel
theorem dX8_isAsked_2 : decode cX8_isAsked 2 = .ok (.iload_n 2, 1) := by decide +kernel
theorem dX8_isAsked_3 : decode cX8_isAsked 3 = .ok (.aload_n 0, 1) := by decide +kernel
theorem dX8_isAsked_4 : decode cX8_isAsked 4 = .ok (.getfield 141, 3) := by decide +kernel
theorem dX8_isAsked_7 : decode cX8_isAsked 7 = .ok (.if_icmp .ge 19, 3) := by decide +kernel
theorem dX8_isAsked_10 : decode cX8_isAsked 10 = .ok (.aload_n 0, 1) := by decide +kernel
theorem dX8_isAsked_11 : decode cX8_isAsked 11 = .ok (.getfield 41, 3) := by decide +kernel
theorem dX8_isAsked_14 : decode cX8_isAsked 14 = .ok (.iload_n 2, 1) := by decide +kernel
theorem dX8_isAsked_15 : decode cX8_isAsked 15 = .ok (.iaload, 1) := by decide +kernel
theorem dX8_isAsked_16 : decode cX8_isAsked 16 = .ok (.iload_n 1, 1) := by decide +kernel
theorem dX8_isAsked_17 : decode cX8_isAsked 17 = .ok (.if_icmp .eq 9, 3) := by decide +kernel
theorem dX8_isAsked_20 : decode cX8_isAsked 20 = .ok (.iinc 2 1, 3) := by decide +kernel
theorem dX8_isAsked_23 : decode cX8_isAsked 23 = .ok (.goto (-21), 3) := by decide +kernel
theorem dX8_isAsked_26 : decode cX8_isAsked 26 = .ok (.aload_n 0, 1) := by decide +kernel
theorem dX8_isAsked_27 : decode cX8_isAsked 27 = .ok (.dup, 1) := by decide +kernel
theorem dX8_isAsked_28 : decode cX8_isAsked 28 = .ok (.getfield 141, 3) := by decide +kernel
theorem dX8_isAsked_31 : decode cX8_isAsked 31 = .ok (.iload_n 2, 1) := by decide +kernel
theorem dX8_isAsked_32 : decode cX8_isAsked 32 = .ok (.aload_n 0, 1) := by decide +kernel
theorem dX8_isAsked_33 : decode cX8_isAsked 33 = .ok (.getfield 141, 3) := by decide +kernel
theorem dX8_isAsked_36 : decode cX8_isAsked 36 = .ok (.if_icmp .ne 16, 3) := by decide +kernel
theorem dX8_isAsked_39 : decode cX8_isAsked 39 = .ok (.aload_n 0, 1) := by decide +kernel
theorem dX8_isAsked_40 : decode cX8_isAsked 40 = .ok (.getfield 141, 3) := by decide +kernel
theorem dX8_isAsked_43 : decode cX8_isAsked 43 = .ok (.bipush 6, 2) := by decide +kernel
theorem dX8_isAsked_45 : decode cX8_isAsked 45 = .ok (.if_icmp .ge 7, 3) := by decide +kernel
theorem dX8_isAsked_48 : decode cX8_isAsked 48 = .ok (.iconst 1, 1) := by decide +kernel
theorem dX8_isAsked_49 : decode cX8_isAsked 49 = .ok (.goto 4, 3) := by decide +kernel
theorem dX8_isAsked_52 : decode cX8_isAsked 52 = .ok (.iconst 0, 1) := by decide +kernel
theorem dX8_isAsked_53 : decode cX8_isAsked 53 = .ok (.iadd, 1) := by decide +kernel
theorem dX8_isAsked_54 : decode cX8_isAsked 54 = .ok (.putfield 141, 3) := by decide +kernel
theorem dX8_isAsked_57 : decode cX8_isAsked 57 = .ok (.iload_n 2, 1) := by decide +kernel
theorem dX8_isAsked_58 : decode cX8_isAsked 58 = .ok (.bipush 6, 2) := by decide +kernel
theorem dX8_isAsked_60 : decode cX8_isAsked 60 = .ok (.if_icmp .ge 7, 3) := by decide +kernel
theorem dX8_isAsked_63 : decode cX8_isAsked 63 = .ok (.iload_n 2, 1) := by decide +kernel
theorem dX8_isAsked_64 : decode cX8_isAsked 64 = .ok (.goto 4, 3) := by decide +kernel
theorem dX8_isAsked_67 : decode cX8_isAsked 67 = .ok (.iconst 5, 1) := by decide +kernel
theorem dX8_isAsked_68 : decode cX8_isAsked 68 = .ok (.istore_n 3, 1) := by decide +kernel
theorem dX8_isAsked_69 : decode cX8_isAsked 69 = .ok (.iload_n 3, 1) := by decide +kernel
theorem dX8_isAsked_70 : decode cX8_isAsked 70 = .ok (.ifCond .le 23, 3) := by decide +kernel
theorem dX8_isAsked_73 : decode cX8_isAsked 73 = .ok (.aload_n 0, 1) := by decide +kernel
theorem dX8_isAsked_74 : decode cX8_isAsked 74 = .ok (.getfield 41, 3) := by decide +kernel
theorem dX8_isAsked_77 : decode cX8_isAsked 77 = .ok (.iload_n 3, 1) := by decide +kernel
theorem dX8_isAsked_78 : decode cX8_isAsked 78 = .ok (.aload_n 0, 1) := by decide +kernel
theorem dX8_isAsked_79 : decode cX8_isAsked 79 = .ok (.getfield 41, 3) := by decide +kernel
theorem dX8_isAsked_82 : decode cX8_isAsked 82 = .ok (.iload_n 3, 1) := by decide +kernel
theorem dX8_isAsked_83 : decode cX8_isAsked 83 = .ok (.iconst 1, 1) := by decide +kernel
theorem dX8_isAsked_84 : decode cX8_isAsked 84 = .ok (.isub, 1) := by decide +kernel
theorem dX8_isAsked_85 : decode cX8_isAsked 85 = .ok (.iaload, 1) := by decide +kernel
theorem dX8_isAsked_86 : decode cX8_isAsked 86 = .ok (.iastore, 1) := by decide +kernel
theorem dX8_isAsked_87 : decode cX8_isAsked 87 = .ok (.iinc 3 (-1), 3) := by decide +kernel
theorem dX8_isAsked_90 : decode cX8_isAsked 90 = .ok (.goto (-21), 3) := by decide +kernel
theorem dX8_isAsked_93 : decode cX8_isAsked 93 = .ok (.aload_n 0, 1) := by decide +kernel
theorem dX8_isAsked_94 : decode cX8_isAsked 94 = .ok (.getfield 41, 3) := by decide +kernel
theorem dX8_isAsked_97 : decode cX8_isAsked 97 = .ok (.iconst 0, 1) := by decide +kernel
theorem dX8_isAsked_98 : decode cX8_isAsked 98 = .ok (.iload_n 1, 1) := by decide +kernel
theorem dX8_isAsked_99 : decode cX8_isAsked 99 = .ok (.iastore, 1) := by decide +kernel
theorem dX8_isAsked_100 : decode cX8_isAsked 100 = .ok (.return_, 1) := by decide +kernel
set_option maxRecDepth 20000 in
theorem ggX8_find_X8_isWord : GoodIn wsX8_find wsX8_isWord := goodIn_r _ [5, 6, 7, 8, 4, 9] (by decide +kernel) (by decide +kernel)
set_option maxRecDepth 20000 in
theorem gX8_find_X8_isWord : GoodIn wsX8_find (va_wsS RX8 182 yX8_isWord wsX8_isWord) := goodIn_app (goodIn_of _ (by decide +kernel)) ggX8_find_X8_isWord
set_option maxRecDepth 20000 in
theorem ggX8_find_X8_word : GoodIn wsX8_find wsX8_word := goodIn_r _ [12] (by decide +kernel) (by decide +kernel)
set_option maxRecDepth 20000 in
theorem gX8_find_X8_word : GoodIn wsX8_find (va_wsS RX8 97 yX8_word wsX8_word) := goodIn_app (goodIn_of _ (by decide +kernel)) ggX8_find_X8_word
set_option maxRecDepth 20000 in
theorem ggX8_find_X8_isAsked : GoodIn wsX8_find wsX8_isAsked := goodIn_r _ [16, 17, 18, 59, 60, 61, 62, 63, 64, 65, 66, 67, 68, 69, 70, 71, 72, 73, 74, 75, 76, 77, 78, 79, 80] (by decide +kernel) (by decide +kernel)
set_option maxRecDepth 20000 in
theorem gX8_find_X8_isAsked : GoodIn wsX8_find (wsV RX8 206 RX8 yX8_isAsked wsX8_isAsked) := goodIn_app (goodIn_of _ (by decide +kernel)) ggX8_find_X8_isAsked
set_option maxRecDepth 20000 in
theorem ggX8_find_X8_findsNodes : GoodIn wsX8_find wsX8_findsNodes := goodIn_r _ [22, 23, 24, 25, 26, 4, 27, 28, 29, 30, 31, 32, 33, 34, 35, 36, 10, 11, 12, 37, 38, 39, 40, 59, 60, 61, 62, 63, 64, 65, 66, 67, 68, 69, 70, 71, 72, 73, 74, 75, 76, 77, 78, 79, 80] (by decide +kernel) (by decide +kernel)
set_option maxRecDepth 20000 in
theorem gX8_find_X8_findsNodes : GoodIn wsX8_find (wsV RX8 169 RX8 yX8_findsNodes wsX8_findsNodes) := goodIn_app (goodIn_of _ (by decide +kernel)) ggX8_find_X8_findsNodes
set_option maxRecDepth 20000 in
theorem ggX8_find_X8_placeOf : GoodIn wsX8_find wsX8_placeOf := goodIn_r _ [43, 44, 45, 4, 46] (by decide +kernel) (by decide +kernel)
set_option maxRecDepth 20000 in
theorem gX8_find_X8_placeOf : GoodIn wsX8_find (va_wsS RX8 104 yX8_placeOf wsX8_placeOf) := goodIn_app (goodIn_of _ (by decide +kernel)) ggX8_find_X8_placeOf
set_option maxRecDepth 20000 in
theorem ggX8_find_X8_headsOf : GoodIn wsX8_find wsX8_headsOf := goodIn_r _ [50, 23, 24, 51, 52, 4, 53, 25, 26, 27, 28, 29, 30, 31, 32, 33, 59, 60, 61, 62, 63, 64, 65, 66, 67, 68, 69, 70, 71, 72, 73, 74, 75, 76, 77, 78, 79, 80] (by decide +kernel) (by decide +kernel)
set_option maxRecDepth 20000 in
theorem gX8_find_X8_headsOf : GoodIn wsX8_find (wsV RX8 210 RX8 yX8_headsOf wsX8_headsOf) := goodIn_app (goodIn_of _ (by decide +kernel)) ggX8_find_X8_headsOf
set_option maxRecDepth 20000 in
theorem ggX8_find_X8_answer : GoodIn wsX8_find wsX8_answer := goodIn_r _ [57, 58, 59, 60, 61, 62, 63, 64, 65, 66, 67, 68, 69, 70, 71, 72, 73, 74, 75, 76, 77, 78, 79, 80] (by decide +kernel) (by decide +kernel)
set_option maxRecDepth 20000 in
theorem gX8_find_X8_answer : GoodIn wsX8_find (wsV RX8 213 RX8 yX8_answer wsX8_answer) := goodIn_app (goodIn_of _ (by decide +kernel)) ggX8_find_X8_answer
theorem dX8_find_0 : decode cX8_find 0 = .ok (.iload_n 1, 1) := by decide +kernel
theorem dX8_find_1 : decode cX8_find 1 = .ok (.iload_n 2, 1) := by decide +kernel
theorem dX8_find_2 : decode cX8_find 2 = .ok (.iconst 1, 1) := by decide +kernel
theorem dX8_find_3 : decode cX8_find 3 = .ok (.invokestatic 182, 3) := by decide +kernel
theorem dX8_find_6 : decode cX8_find 6 = .ok (.ifCond .ne 5, 3) := by decide +kernel
theorem dX8_find_9 : decode cX8_find 9 = .ok (.iconst (-1), 1) := by decide +kernel
theorem dX8_find_10 : decode cX8_find 10 = .ok (.ireturn, 1) := by decide +kernel
theorem dX8_find_11 : decode cX8_find 11 = .ok (.iload_n 1, 1) := by decide +kernel
theorem dX8_find_12 : decode cX8_find 12 = .ok (.iload_n 2, 1) := by decide +kernel
theorem dX8_find_13 : decode cX8_find 13 = .ok (.invokestatic 97, 3) := by decide +kernel
theorem dX8_find_16 : decode cX8_find 16 = .ok (.istore_n 3, 1) := by decide +kernel
theorem dX8_find_17 : decode cX8_find 17 = .ok (.aload_n 0, 1) := by decide +kernel
theorem dX8_find_18 : decode cX8_find 18 = .ok (.iload_n 3, 1) := by decide +kernel
theorem dX8_find_19 : decode cX8_find 19 = .ok (.invokevirtual 206, 3) := by decide +kernel
theorem dX8_find_22 : decode cX8_find 22 = .ok (.aload_n 0, 1) := by decide +kernel
theorem dX8_find_23 : decode cX8_find 23 = .ok (.aload_n 0, 1) := by decide +kernel
theorem dX8_find_24 : decode cX8_find 24 = .ok (.getfield 22, 3) := by decide +kernel
theorem dX8_find_27 : decode cX8_find 27 = .ok (.invokevirtual 169, 3) := by decide +kernel
theorem dX8_find_30 : decode cX8_find 30 = .ok (.aload_n 0, 1) := by decide +kernel
theorem dX8_find_31 : decode cX8_find 31 = .ok (.getfield 22, 3) := by decide +kernel
theorem dX8_find_34 : decode cX8_find 34 = .ok (.iload_n 3, 1) := by decide +kernel
theorem dX8_find_35 : decode cX8_find 35 = .ok (.invokestatic 104, 3) := by decide +kernel
theorem dX8_find_38 : decode cX8_find 38 = .ok (.istore 4, 2) := by decide +kernel
theorem dX8_find_40 : decode cX8_find 40 = .ok (.aload_n 0, 1) := by decide +kernel
theorem dX8_find_41 : decode cX8_find 41 = .ok (.iload 4, 2) := by decide +kernel
theorem dX8_find_43 : decode cX8_find 43 = .ok (.bipush (-9), 2) := by decide +kernel
theorem dX8_find_45 : decode cX8_find 45 = .ok (.if_icmp .ne 8, 3) := by decide +kernel
theorem dX8_find_48 : decode cX8_find 48 = .ok (.bipush (-9), 2) := by decide +kernel
theorem dX8_find_50 : decode cX8_find 50 = .ok (.goto 13, 3) := by decide +kernel
theorem dX8_find_53 : decode cX8_find 53 = .ok (.aload_n 0, 1) := by decide +kernel
theorem dX8_find_54 : decode cX8_find 54 = .ok (.getfield 22, 3) := by decide +kernel
theorem dX8_find_57 : decode cX8_find 57 = .ok (.bipush 49, 2) := by decide +kernel
theorem dX8_find_59 : decode cX8_find 59 = .ok (.iload 4, 2) := by decide +kernel
theorem dX8_find_61 : decode cX8_find 61 = .ok (.iadd, 1) := by decide +kernel
theorem dX8_find_62 : decode cX8_find 62 = .ok (.iaload, 1) := by decide +kernel
theorem dX8_find_63 : decode cX8_find 63 = .ok (.aload_n 0, 1) := by decide +kernel
theorem dX8_find_64 : decode cX8_find 64 = .ok (.iload_n 3, 1) := by decide +kernel
theorem dX8_find_65 : decode cX8_find 65 = .ok (.invokevirtual 210, 3) := by decide +kernel
theorem dX8_find_68 : decode cX8_find 68 = .ok (.invokevirtual 213, 3) := by decide +kernel
theorem dX8_find_71 : decode cX8_find 71 = .ok (.ireturn, 1) := by decide +kernel
set_option maxRecDepth 20000 in
theorem ggX8_longest_X8_isWord : GoodIn wsX8_longest wsX8_isWord := goodIn_r _ [5, 6, 7, 8, 4, 9] (by decide +kernel) (by decide +kernel)
set_option maxRecDepth 20000 in
theorem gX8_longest_X8_isWord : GoodIn wsX8_longest (va_wsS RX8 182 yX8_isWord wsX8_isWord) := goodIn_app (goodIn_of _ (by decide +kernel)) ggX8_longest_X8_isWord
set_option maxRecDepth 20000 in
theorem ggX8_longest_X8_word : GoodIn wsX8_longest wsX8_word := goodIn_r _ [12] (by decide +kernel) (by decide +kernel)
set_option maxRecDepth 20000 in
theorem gX8_longest_X8_word : GoodIn wsX8_longest (va_wsS RX8 97 yX8_word wsX8_word) := goodIn_app (goodIn_of _ (by decide +kernel)) ggX8_longest_X8_word
set_option maxRecDepth 20000 in
theorem ggX8_longest_X8_begins : GoodIn wsX8_longest wsX8_begins := goodIn_r _ [15, 16, 17, 4, 18, 19, 20, 21, 22, 23, 24] (by decide +kernel) (by decide +kernel)
set_option maxRecDepth 20000 in
theorem gX8_longest_X8_begins : GoodIn wsX8_longest (va_wsS RX8 156 yX8_begins wsX8_begins) := goodIn_app (goodIn_of _ (by decide +kernel)) ggX8_longest_X8_begins
set_option maxRecDepth 20000 in
theorem ggX8_longest_X8_sizeOf : GoodIn wsX8_longest wsX8_sizeOf := goodIn_r _ [21] (by decide +kernel) (by decide +kernel)
set_option maxRecDepth 20000 in
theorem gX8_longest_X8_sizeOf : GoodIn wsX8_longest (va_wsS RX8 87 yX8_sizeOf wsX8_sizeOf) := goodIn_app (goodIn_of _ (by decide +kernel)) ggX8_longest_X8_sizeOf
set_option maxRecDepth 20000 in
theorem ggX8_longest_X8_answer : GoodIn wsX8_longest wsX8_answer := goodIn_r _ [28, 29, 30, 31, 32, 33, 34, 35, 36, 37, 38, 39, 40, 41, 42, 43, 44, 45, 46, 47, 48, 49, 50, 51] (by decide +kernel) (by decide +kernel)
set_option maxRecDepth 20000 in
theorem gX8_longest_X8_answer : GoodIn wsX8_longest (wsV RX8 213 RX8 yX8_answer wsX8_answer) := goodIn_app (goodIn_of _ (by decide +kernel)) ggX8_longest_X8_answer
theorem dX8_longest_0 : decode cX8_longest 0 = .ok (.iload_n 1, 1) := by decide +kernel
theorem dX8_longest_1 : decode cX8_longest 1 = .ok (.iload_n 2, 1) := by decide +kernel
theorem dX8_longest_2 : decode cX8_longest 2 = .ok (.iconst 1, 1) := by decide +kernel
theorem dX8_longest_3 : decode cX8_longest 3 = .ok (.invokestatic 182, 3) := by decide +kernel
theorem dX8_longest_6 : decode cX8_longest 6 = .ok (.ifCond .ne 5, 3) := by decide +kernel
theorem dX8_longest_9 : decode cX8_longest 9 = .ok (.iconst (-1), 1) := by decide +kernel
theorem dX8_longest_10 : decode cX8_longest 10 = .ok (.ireturn, 1) := by decide +kernel
theorem dX8_longest_11 : decode cX8_longest 11 = .ok (.bipush (-9), 2) := by decide +kernel
theorem dX8_longest_13 : decode cX8_longest 13 = .ok (.istore_n 3, 1) := by decide +kernel
theorem dX8_longest_14 : decode cX8_longest 14 = .ok (.iconst 0, 1) := by decide +kernel
theorem dX8_longest_15 : decode cX8_longest 15 = .ok (.istore 4, 2) := by decide +kernel
theorem dX8_longest_17 : decode cX8_longest 17 = .ok (.iload 4, 2) := by decide +kernel
theorem dX8_longest_19 : decode cX8_longest 19 = .ok (.aload_n 0, 1) := by decide +kernel
theorem dX8_longest_20 : decode cX8_longest 20 = .ok (.getfield 22, 3) := by decide +kernel
theorem dX8_longest_23 : decode cX8_longest 23 = .ok (.iconst 0, 1) := by decide +kernel
theorem dX8_longest_24 : decode cX8_longest 24 = .ok (.iaload, 1) := by decide +kernel
theorem dX8_longest_25 : decode cX8_longest 25 = .ok (.if_icmp .ge 72, 3) := by decide +kernel
theorem dX8_longest_28 : decode cX8_longest 28 = .ok (.iload_n 1, 1) := by decide +kernel
theorem dX8_longest_29 : decode cX8_longest 29 = .ok (.iload_n 2, 1) := by decide +kernel
theorem dX8_longest_30 : decode cX8_longest 30 = .ok (.invokestatic 97, 3) := by decide +kernel
theorem dX8_longest_33 : decode cX8_longest 33 = .ok (.aload_n 0, 1) := by decide +kernel
theorem dX8_longest_34 : decode cX8_longest 34 = .ok (.getfield 22, 3) := by decide +kernel
theorem dX8_longest_37 : decode cX8_longest 37 = .ok (.iconst 1, 1) := by decide +kernel
theorem dX8_longest_38 : decode cX8_longest 38 = .ok (.iload 4, 2) := by decide +kernel
theorem dX8_longest_40 : decode cX8_longest 40 = .ok (.iadd, 1) := by decide +kernel
theorem dX8_longest_41 : decode cX8_longest 41 = .ok (.iaload, 1) := by decide +kernel
theorem dX8_longest_42 : decode cX8_longest 42 = .ok (.invokestatic 156, 3) := by decide +kernel
theorem dX8_longest_45 : decode cX8_longest 45 = .ok (.istore 5, 2) := by decide +kernel
theorem dX8_longest_47 : decode cX8_longest 47 = .ok (.iload 5, 2) := by decide +kernel
theorem dX8_longest_49 : decode cX8_longest 49 = .ok (.ifCond .eq 40, 3) := by decide +kernel
theorem dX8_longest_52 : decode cX8_longest 52 = .ok (.iload_n 3, 1) := by decide +kernel
theorem dX8_longest_53 : decode cX8_longest 53 = .ok (.bipush (-9), 2) := by decide +kernel
theorem dX8_longest_55 : decode cX8_longest 55 = .ok (.if_icmp .eq 29, 3) := by decide +kernel
theorem dX8_longest_58 : decode cX8_longest 58 = .ok (.aload_n 0, 1) := by decide +kernel
theorem dX8_longest_59 : decode cX8_longest 59 = .ok (.getfield 22, 3) := by decide +kernel
theorem dX8_longest_62 : decode cX8_longest 62 = .ok (.iconst 1, 1) := by decide +kernel
theorem dX8_longest_63 : decode cX8_longest 63 = .ok (.iload 4, 2) := by decide +kernel
theorem dX8_longest_65 : decode cX8_longest 65 = .ok (.iadd, 1) := by decide +kernel
theorem dX8_longest_66 : decode cX8_longest 66 = .ok (.iaload, 1) := by decide +kernel
theorem dX8_longest_67 : decode cX8_longest 67 = .ok (.invokestatic 87, 3) := by decide +kernel
theorem dX8_longest_70 : decode cX8_longest 70 = .ok (.aload_n 0, 1) := by decide +kernel
theorem dX8_longest_71 : decode cX8_longest 71 = .ok (.getfield 22, 3) := by decide +kernel
theorem dX8_longest_74 : decode cX8_longest 74 = .ok (.iconst 1, 1) := by decide +kernel
theorem dX8_longest_75 : decode cX8_longest 75 = .ok (.iload_n 3, 1) := by decide +kernel
theorem dX8_longest_76 : decode cX8_longest 76 = .ok (.iadd, 1) := by decide +kernel
theorem dX8_longest_77 : decode cX8_longest 77 = .ok (.iaload, 1) := by decide +kernel
theorem dX8_longest_78 : decode cX8_longest 78 = .ok (.invokestatic 87, 3) := by decide +kernel
theorem dX8_longest_81 : decode cX8_longest 81 = .ok (.if_icmp .le 8, 3) := by decide +kernel
theorem dX8_longest_84 : decode cX8_longest 84 = .ok (.iload 4, 2) := by decide +kernel
theorem dX8_longest_86 : decode cX8_longest 86 = .ok (.goto 4, 3) := by decide +kernel
theorem dX8_longest_89 : decode cX8_longest 89 = .ok (.iload_n 3, 1) := by decide +kernel
theorem dX8_longest_90 : decode cX8_longest 90 = .ok (.istore_n 3, 1) := by decide +kernel
theorem dX8_longest_91 : decode cX8_longest 91 = .ok (.iinc 4 1, 3) := by decide +kernel
theorem dX8_longest_94 : decode cX8_longest 94 = .ok (.goto (-77), 3) := by decide +kernel
theorem dX8_longest_97 : decode cX8_longest 97 = .ok (.iload_n 3, 1) := by decide +kernel
theorem dX8_longest_98 : decode cX8_longest 98 = .ok (.bipush (-9), 2) := by decide +kernel
theorem dX8_longest_100 : decode cX8_longest 100 = .ok (.if_icmp .ne 8, 3) := by decide +kernel
theorem dX8_longest_103 : decode cX8_longest 103 = .ok (.bipush (-9), 2) := by decide +kernel
theorem dX8_longest_105 : decode cX8_longest 105 = .ok (.goto 27, 3) := by decide +kernel
theorem dX8_longest_108 : decode cX8_longest 108 = .ok (.aload_n 0, 1) := by decide +kernel
theorem dX8_longest_109 : decode cX8_longest 109 = .ok (.aload_n 0, 1) := by decide +kernel
theorem dX8_longest_110 : decode cX8_longest 110 = .ok (.getfield 22, 3) := by decide +kernel
theorem dX8_longest_113 : decode cX8_longest 113 = .ok (.iconst 1, 1) := by decide +kernel
theorem dX8_longest_114 : decode cX8_longest 114 = .ok (.iload_n 3, 1) := by decide +kernel
theorem dX8_longest_115 : decode cX8_longest 115 = .ok (.iadd, 1) := by decide +kernel
theorem dX8_longest_116 : decode cX8_longest 116 = .ok (.iaload, 1) := by decide +kernel
theorem dX8_longest_117 : decode cX8_longest 117 = .ok (.invokestatic 87, 3) := by decide +kernel
theorem dX8_longest_120 : decode cX8_longest 120 = .ok (.aload_n 0, 1) := by decide +kernel
theorem dX8_longest_121 : decode cX8_longest 121 = .ok (.getfield 22, 3) := by decide +kernel
theorem dX8_longest_124 : decode cX8_longest 124 = .ok (.bipush 49, 2) := by decide +kernel
theorem dX8_longest_126 : decode cX8_longest 126 = .ok (.iload_n 3, 1) := by decide +kernel
theorem dX8_longest_127 : decode cX8_longest 127 = .ok (.iadd, 1) := by decide +kernel
theorem dX8_longest_128 : decode cX8_longest 128 = .ok (.iaload, 1) := by decide +kernel
theorem dX8_longest_129 : decode cX8_longest 129 = .ok (.invokevirtual 213, 3) := by decide +kernel
theorem dX8_longest_132 : decode cX8_longest 132 = .ok (.ireturn, 1) := by decide +kernel
set_option maxRecDepth 20000 in
theorem ggX8_tellsKey_X8_numberOf : GoodIn wsX8_tellsKey wsX8_numberOf := goodIn_r _ [5, 6, 7, 4, 8] (by decide +kernel) (by decide +kernel)
set_option maxRecDepth 20000 in
theorem gX8_tellsKey_X8_numberOf : GoodIn wsX8_tellsKey (va_wsS RX8 216 yX8_numberOf wsX8_numberOf) := goodIn_app (goodIn_of _ (by decide +kernel)) ggX8_tellsKey_X8_numberOf
set_option maxRecDepth 20000 in
theorem ggX8_tellsKey_X8_sizeOf : GoodIn wsX8_tellsKey wsX8_sizeOf := goodIn_r _ [8] (by decide +kernel) (by decide +kernel)
set_option maxRecDepth 20000 in
theorem gX8_tellsKey_X8_sizeOf : GoodIn wsX8_tellsKey (va_wsS RX8 87 yX8_sizeOf wsX8_sizeOf) := goodIn_app (goodIn_of _ (by decide +kernel)) ggX8_tellsKey_X8_sizeOf
set_option maxRecDepth 20000 in
theorem ggX8_tellsKey_X8_answer : GoodIn wsX8_tellsKey wsX8_answer := goodIn_r _ [12, 13, 14, 15, 16, 17, 18, 19, 20, 21, 22, 23, 24, 25, 26, 27, 28, 29, 30, 31, 32, 33, 34, 35] (by decide +kernel) (by decide +kernel)
set_option maxRecDepth 20000 in
theorem gX8_tellsKey_X8_answer : GoodIn wsX8_tellsKey (wsV RX8 213 RX8 yX8_answer wsX8_answer) := goodIn_app (goodIn_of _ (by decide +kernel)) ggX8_tellsKey_X8_answer
theorem dX8_tellsKey_0 : decode cX8_tellsKey 0 = .ok (.aload_n 0, 1) := by decide +kernel
theorem dX8_tellsKey_1 : decode cX8_tellsKey 1 = .ok (.aload_n 0, 1) := by decide +kernel
theorem dX8_tellsKey_2 : decode cX8_tellsKey 2 = .ok (.getfield 22, 3) := by decide +kernel
theorem dX8_tellsKey_5 : decode cX8_tellsKey 5 = .ok (.iconst 1, 1) := by decide +kernel
theorem dX8_tellsKey_6 : decode cX8_tellsKey 6 = .ok (.iload_n 1, 1) := by decide +kernel
theorem dX8_tellsKey_7 : decode cX8_tellsKey 7 = .ok (.iadd, 1) := by decide +kernel
theorem dX8_tellsKey_8 : decode cX8_tellsKey 8 = .ok (.iaload, 1) := by decide +kernel
theorem dX8_tellsKey_9 : decode cX8_tellsKey 9 = .ok (.invokestatic 216, 3) := by decide +kernel
theorem dX8_tellsKey_12 : decode cX8_tellsKey 12 = .ok (.aload_n 0, 1) := by decide +kernel
theorem dX8_tellsKey_13 : decode cX8_tellsKey 13 = .ok (.getfield 22, 3) := by decide +kernel
theorem dX8_tellsKey_16 : decode cX8_tellsKey 16 = .ok (.iconst 1, 1) := by decide +kernel
theorem dX8_tellsKey_17 : decode cX8_tellsKey 17 = .ok (.iload_n 1, 1) := by decide +kernel
theorem dX8_tellsKey_18 : decode cX8_tellsKey 18 = .ok (.iadd, 1) := by decide +kernel
theorem dX8_tellsKey_19 : decode cX8_tellsKey 19 = .ok (.iaload, 1) := by decide +kernel
theorem dX8_tellsKey_20 : decode cX8_tellsKey 20 = .ok (.invokestatic 87, 3) := by decide +kernel
theorem dX8_tellsKey_23 : decode cX8_tellsKey 23 = .ok (.invokevirtual 213, 3) := by decide +kernel
theorem dX8_tellsKey_26 : decode cX8_tellsKey 26 = .ok (.ireturn, 1) := by decide +kernel
set_option maxRecDepth 20000 in
theorem ggX8_next_X8_isWord : GoodIn wsX8_next wsX8_isWord := goodIn_r _ [5, 6, 7, 8, 4, 9] (by decide +kernel) (by decide +kernel)
set_option maxRecDepth 20000 in
theorem gX8_next_X8_isWord : GoodIn wsX8_next (va_wsS RX8 182 yX8_isWord wsX8_isWord) := goodIn_app (goodIn_of _ (by decide +kernel)) ggX8_next_X8_isWord
set_option maxRecDepth 20000 in
theorem ggX8_next_X8_word : GoodIn wsX8_next wsX8_word := goodIn_r _ [12] (by decide +kernel) (by decide +kernel)
set_option maxRecDepth 20000 in
theorem gX8_next_X8_word : GoodIn wsX8_next (va_wsS RX8 97 yX8_word wsX8_word) := goodIn_app (goodIn_of _ (by decide +kernel)) ggX8_next_X8_word
set_option maxRecDepth 20000 in
theorem ggX8_next_X8_aheadOf : GoodIn wsX8_next wsX8_aheadOf := goodIn_r _ [15] (by decide +kernel) (by decide +kernel)
set_option maxRecDepth 20000 in
theorem gX8_next_X8_aheadOf : GoodIn wsX8_next (va_wsS RX8 100 yX8_aheadOf wsX8_aheadOf) := goodIn_app (goodIn_of _ (by decide +kernel)) ggX8_next_X8_aheadOf
set_option maxRecDepth 20000 in
theorem ggX8_next_X8_tellsKey : GoodIn wsX8_next wsX8_tellsKey := goodIn_r _ [19, 1, 20, 21, 4, 22, 23, 24, 25, 26, 27, 28, 29, 30, 31, 32, 33, 34, 35, 36, 37, 38, 39, 40, 41, 42, 43, 44, 45, 46, 47, 48, 49, 50, 51, 52] (by decide +kernel) (by decide +kernel)
set_option maxRecDepth 20000 in
theorem gX8_next_X8_tellsKey : GoodIn wsX8_next (wsV RX8 219 RX8 yX8_tellsKey wsX8_tellsKey) := goodIn_app (goodIn_of _ (by decide +kernel)) ggX8_next_X8_tellsKey
theorem dX8_next_0 : decode cX8_next 0 = .ok (.iload_n 1, 1) := by decide +kernel
theorem dX8_next_1 : decode cX8_next 1 = .ok (.iload_n 2, 1) := by decide +kernel
theorem dX8_next_2 : decode cX8_next 2 = .ok (.iconst 1, 1) := by decide +kernel
theorem dX8_next_3 : decode cX8_next 3 = .ok (.invokestatic 182, 3) := by decide +kernel
theorem dX8_next_6 : decode cX8_next 6 = .ok (.ifCond .ne 5, 3) := by decide +kernel
theorem dX8_next_9 : decode cX8_next 9 = .ok (.iconst (-1), 1) := by decide +kernel
theorem dX8_next_10 : decode cX8_next 10 = .ok (.ireturn, 1) := by decide +kernel
theorem dX8_next_11 : decode cX8_next 11 = .ok (.aload_n 0, 1) := by decide +kernel
theorem dX8_next_12 : decode cX8_next 12 = .ok (.getfield 22, 3) := by decide +kernel
theorem dX8_next_15 : decode cX8_next 15 = .ok (.iload_n 1, 1) := by decide +kernel
theorem dX8_next_16 : decode cX8_next 16 = .ok (.iload_n 2, 1) := by decide +kernel
theorem dX8_next_17 : decode cX8_next 17 = .ok (.invokestatic 97, 3) := by decide +kernel
theorem dX8_next_20 : decode cX8_next 20 = .ok (.iconst 1, 1) := by decide +kernel
theorem dX8_next_21 : decode cX8_next 21 = .ok (.iadd, 1) := by decide +kernel
theorem dX8_next_22 : decode cX8_next 22 = .ok (.invokestatic 100, 3) := by decide +kernel
theorem dX8_next_25 : decode cX8_next 25 = .ok (.istore_n 3, 1) := by decide +kernel
theorem dX8_next_26 : decode cX8_next 26 = .ok (.iload_n 3, 1) := by decide +kernel
theorem dX8_next_27 : decode cX8_next 27 = .ok (.aload_n 0, 1) := by decide +kernel
theorem dX8_next_28 : decode cX8_next 28 = .ok (.getfield 22, 3) := by decide +kernel
theorem dX8_next_31 : decode cX8_next 31 = .ok (.iconst 0, 1) := by decide +kernel
theorem dX8_next_32 : decode cX8_next 32 = .ok (.iaload, 1) := by decide +kernel
theorem dX8_next_33 : decode cX8_next 33 = .ok (.if_icmp .ne 8, 3) := by decide +kernel
theorem dX8_next_36 : decode cX8_next 36 = .ok (.bipush (-9), 2) := by decide +kernel
theorem dX8_next_38 : decode cX8_next 38 = .ok (.goto 8, 3) := by decide +kernel
theorem dX8_next_41 : decode cX8_next 41 = .ok (.aload_n 0, 1) := by decide +kernel
theorem dX8_next_42 : decode cX8_next 42 = .ok (.iload_n 3, 1) := by decide +kernel
theorem dX8_next_43 : decode cX8_next 43 = .ok (.invokevirtual 219, 3) := by decide +kernel
theorem dX8_next_46 : decode cX8_next 46 = .ok (.ireturn, 1) := by decide +kernel
set_option maxRecDepth 20000 in
theorem ggX8_nth_X8_in : GoodIn wsX8_nth wsX8_in := goodIn_r _ [5] (by decide +kernel) (by decide +kernel)
set_option maxRecDepth 20000 in
theorem gX8_nth_X8_in : GoodIn wsX8_nth (va_wsS RX8 65 yX8_in wsX8_in) := goodIn_app (goodIn_of _ (by decide +kernel)) ggX8_nth_X8_in
set_option maxRecDepth 20000 in
theorem ggX8_nth_X8_tellsKey : GoodIn wsX8_nth wsX8_tellsKey := goodIn_r _ [9, 1, 10, 11, 4, 12, 13, 14, 15, 16, 17, 18, 19, 20, 21, 22, 23, 24, 25, 26, 27, 28, 29, 30, 31, 32, 33, 34, 35, 36, 37, 38, 39, 40, 41, 42] (by decide +kernel) (by decide +kernel)
set_option maxRecDepth 20000 in
theorem gX8_nth_X8_tellsKey : GoodIn wsX8_nth (wsV RX8 219 RX8 yX8_tellsKey wsX8_tellsKey) := goodIn_app (goodIn_of _ (by decide +kernel)) ggX8_nth_X8_tellsKey
