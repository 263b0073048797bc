theorem dX0_init_0 : decode cX0_init 0 = .ok (.aload_n 0, 1) := by decide +kernel
theorem dX0_init_1 : decode cX0_init 1 = .ok (.invokespecial 3, 3) := by decide +kernel
theorem dX0_init_4 : decode cX0_init 4 = .ok (.aload_n 0, 1) := by decide +kernel
theorem dX0_init_5 : decode cX0_init 5 = .ok (.iconst 0, 1) := by decide +kernel
theorem dX0_init_6 : decode cX0_init 6 = .ok (.putfield 9, 3) := by decide +kernel
theorem dX0_init_9 : decode cX0_init 9 = .ok (.aload_n 0, 1) := by decide +kernel
theorem dX0_init_10 : decode cX0_init 10 = .ok (.bipush 40, 2) := by decide +kernel
theorem dX0_init_12 : decode cX0_init 12 = .ok (.newarray .int, 2) := by decide +kernel
theorem dX0_init_14 : decode cX0_init 14 = .ok (.putfield 15, 3) := by decide +kernel
theorem dX0_init_17 : decode cX0_init 17 = .ok (.aload_n 0, 1) := by decide +kernel
theorem dX0_init_18 : decode cX0_init 18 = .ok (.bipush 40, 2) := by decide +kernel
theorem dX0_init_20 : decode cX0_init 20 = .ok (.newarray .int, 2) := by decide +kernel
theorem dX0_init_22 : decode cX0_init 22 = .ok (.putfield 19, 3) := by decide +kernel
theorem dX0_init_25 : decode cX0_init 25 = .ok (.aload_n 0, 1) := by decide +kernel
theorem dX0_init_26 : decode cX0_init 26 = .ok (.bipush 40, 2) := by decide +kernel
theorem dX0_init_28 : decode cX0_init 28 = .ok (.newarray .int, 2) := by decide +kernel
theorem dX0_init_30 : decode cX0_init 30 = .ok (.putfield 22, 3) := by decide +kernel
theorem dX0_init_33 : decode cX0_init 33 = .ok (.return_, 1) := by decide +kernel
theorem dX0_forget_0 : decode cX0_forget 0 = .ok (.aload_n 0, 1) := by decide +kernel
theorem dX0_forget_1 : decode cX0_forget 1 = .ok (.iconst (-1), 1) := by decide +kernel
theorem dX0_forget_2 : decode cX0_forget 2 = .ok (.putfield 9, 3) := by decide +kernel
theorem dX0_forget_5 : decode cX0_forget 5 = .ok (.return_, 1) := by decide +kernel
theorem dX0_cutTo_0 : decode cX0_cutTo 0 = .ok (.iload_n 1, 1) := by decide +kernel
theorem dX0_cutTo_1 : decode cX0_cutTo 1 = .ok (.ifCond .lt 16, 3) := by decide +kernel
theorem dX0_cutTo_4 : decode cX0_cutTo 4 = .ok (.iload_n 1, 1) := by decide +kernel
theorem dX0_cutTo_5 : decode cX0_cutTo 5 = .ok (.aload_n 0, 1) := by decide +kernel
theorem dX0_cutTo_6 : decode cX0_cutTo 6 = .ok (.getfield 9, 3) := by decide +kernel
theorem dX0_cutTo_9 : decode cX0_cutTo 9 = .ok (.if_icmp .gt 8, 3) := by decide +kernel
theorem dX0_cutTo_12 : decode cX0_cutTo 12 = .ok (.aload_n 0, 1) := by decide +kernel
theorem dX0_cutTo_13 : decode cX0_cutTo 13 = .ok (.iload_n 1, 1) := by decide +kernel
theorem dX0_cutTo_14 : decode cX0_cutTo 14 = .ok (.putfield 9, 3) := by decide +kernel
theorem dX0_cutTo_17 : decode cX0_cutTo 17 = .ok (.return_, 1) := by decide +kernel
theorem dX0_add_0 : decode cX0_add 0 = .ok (.aload_n 0, 1) := by decide +kernel
theorem dX0_add_1 : decode cX0_add 1 = .ok (.getfield 9, 3) := by decide +kernel
theorem dX0_add_4 : decode cX0_add 4 = .ok (.ifCond .lt 12, 3) := by decide +kernel
theorem dX0_add_7 : decode cX0_add 7 = .ok (.aload_n 0, 1) := by decide +kernel
theorem dX0_add_8 : decode cX0_add 8 = .ok (.getfield 9, 3) := by decide +kernel
theorem dX0_add_11 : decode cX0_add 11 = .ok (.bipush 40, 2) := by decide +kernel
theorem dX0_add_13 : decode cX0_add 13 = .ok (.if_icmp .lt 4, 3) := by decide +kernel
theorem dX0_add_16 : decode cX0_add 16 = .ok (.return_, 1) := by decide +kernel
theorem dX0_add_17 : decode cX0_add 17 = .ok (.aload_n 0, 1) := by decide +kernel
theorem dX0_add_18 : decode cX0_add 18 = .ok (.getfield 15, 3) := by decide +kernel
theorem dX0_add_21 : decode cX0_add 21 = .ok (.aload_n 0, 1) := by decide +kernel
theorem dX0_add_22 : decode cX0_add 22 = .ok (.getfield 9, 3) := by decide +kernel
theorem dX0_add_25 : decode cX0_add 25 = .ok (.iload_n 1, 1) := by decide +kernel
theorem dX0_add_26 : decode cX0_add 26 = .ok (.iastore, 1) := by decide +kernel
theorem dX0_add_27 : decode cX0_add 27 = .ok (.aload_n 0, 1) := by decide +kernel
theorem dX0_add_28 : decode cX0_add 28 = .ok (.getfield 19, 3) := by decide +kernel
theorem dX0_add_31 : decode cX0_add 31 = .ok (.aload_n 0, 1) := by decide +kernel
theorem dX0_add_32 : decode cX0_add 32 = .ok (.getfield 9, 3) := by decide +kernel
theorem dX0_add_35 : decode cX0_add 35 = .ok (.iload_n 2, 1) := by decide +kernel
theorem dX0_add_36 : decode cX0_add 36 = .ok (.iastore, 1) := by decide +kernel
theorem dX0_add_37 : decode cX0_add 37 = .ok (.aload_n 0, 1) := by decide +kernel
theorem dX0_add_38 : decode cX0_add 38 = .ok (.getfield 22, 3) := by decide +kernel
theorem dX0_add_41 : decode cX0_add 41 = .ok (.aload_n 0, 1) := by decide +kernel
theorem dX0_add_42 : decode cX0_add 42 = .ok (.getfield 9, 3) := by decide +kernel
theorem dX0_add_45 : decode cX0_add 45 = .ok (.iload_n 3, 1) := by decide +kernel
theorem dX0_add_46 : decode cX0_add 46 = .ok (.iastore, 1) := by decide +kernel
theorem dX0_add_47 : decode cX0_add 47 = .ok (.aload_n 0, 1) := by decide +kernel
theorem dX0_add_48 : decode cX0_add 48 = .ok (.dup, 1) := by decide +kernel
theorem dX0_add_49 : decode cX0_add 49 = .ok (.getfield 9, 3) := by decide +kernel
theorem dX0_add_52 : decode cX0_add 52 = .ok (.iconst 1, 1) := by decide +kernel
theorem dX0_add_53 : decode cX0_add 53 = .ok (.iadd, 1) := by decide +kernel
theorem dX0_add_54 : decode cX0_add 54 = .ok (.putfield 9, 3) := by decide +kernel
theorem dX0_add_57 : decode cX0_add 57 = .ok (.return_, 1) := by decide +kernel
theorem dX0_become_0 : decode cX0_become 0 = .ok (.aload_n 1, 1) := by decide +kernel
theorem dX0_become_1 : decode cX0_become 1 = .ok (.getfield 15, 3) := by decide +kernel
theorem dX0_become_4 : decode cX0_become 4 = .ok (.iconst 0, 1) := by decide +kernel
theorem dX0_become_5 : decode cX0_become 5 = .ok (.aload_n 0, 1) := by decide +kernel
theorem dX0_become_6 : decode cX0_become 6 = .ok (.getfield 15, 3) := by decide +kernel
theorem dX0_become_9 : decode cX0_become 9 = .ok (.iconst 0, 1) := by decide +kernel
theorem dX0_become_10 : decode cX0_become 10 = .ok (.bipush 40, 2) := by decide +kernel
theorem dX0_become_12 : decode cX0_become 12 = .ok (.invokestatic 25, 3) := by decide +kernel
theorem dX0_become_15 : decode cX0_become 15 = .ok (.aload_n 1, 1) := by decide +kernel
theorem dX0_become_16 : decode cX0_become 16 = .ok (.getfield 19, 3) := by decide +kernel
theorem dX0_become_19 : decode cX0_become 19 = .ok (.iconst 0, 1) := by decide +kernel
theorem dX0_become_20 : decode cX0_become 20 = .ok (.aload_n 0, 1) := by decide +kernel
theorem dX0_become_21 : decode cX0_become 21 = .ok (.getfield 19, 3) := by decide +kernel
theorem dX0_become_24 : decode cX0_become 24 = .ok (.iconst 0, 1) := by decide +kernel
theorem dX0_become_25 : decode cX0_become 25 = .ok (.bipush 40, 2) := by decide +kernel
theorem dX0_become_27 : decode cX0_become 27 = .ok (.invokestatic 25, 3) := by decide +kernel
theorem dX0_become_30 : decode cX0_become 30 = .ok (.aload_n 1, 1) := by decide +kernel
theorem dX0_become_31 : decode cX0_become 31 = .ok (.getfield 22, 3) := by decide +kernel
theorem dX0_become_34 : decode cX0_become 34 = .ok (.iconst 0, 1) := by decide +kernel
theorem dX0_become_35 : decode cX0_become 35 = .ok (.aload_n 0, 1) := by decide +kernel
theorem dX0_become_36 : decode cX0_become 36 = .ok (.getfield 22, 3) := by decide +kernel
theorem dX0_become_39 : decode cX0_become 39 = .ok (.iconst 0, 1) := by decide +kernel
theorem dX0_become_40 : decode cX0_become 40 = .ok (.bipush 40, 2) := by decide +kernel
theorem dX0_become_42 : decode cX0_become 42 = .ok (.invokestatic 25, 3) := by decide +kernel
theorem dX0_become_45 : decode cX0_become 45 = .ok (.aload_n 0, 1) := by decide +kernel
theorem dX0_become_46 : decode cX0_become 46 = .ok (.aload_n 1, 1) := by decide +kernel
theorem dX0_become_47 : decode cX0_become 47 = .ok (.getfield 9, 3) := by decide +kernel
theorem dX0_become_50 : decode cX0_become 50 = .ok (.putfield 9, 3) := by decide +kernel
theorem dX0_become_53 : decode cX0_become 53 = .ok (.return_, 1) := by decide +kernel
set_option maxRecDepth 20000 in
theorem ggX0_replayOn_X1_apply : GoodIn wsX0_replayOn wsX1_apply := goodIn_r _ [9, 10, 11, 12, 8, 13, 14, 15, 16, 17, 18, 19, 20, 21, 22, 23, 24, 25, 26, 27, 28, 29, 30, 31, 32, 33, 34, 35, 36, 37, 38, 39, 40, 41, 42, 47, 48, 49] (by decide +kernel) (by decide +kernel)
set_option maxRecDepth 20000 in
theorem gX0_replayOn_X1_apply : GoodIn wsX0_replayOn (wsV RX0 31 RX1 yX1_apply wsX1_apply) := goodIn_app (goodIn_of _ (by decide +kernel)) ggX0_replayOn_X1_apply
theorem dX0_replayOn_0 : decode cX0_replayOn 0 = .ok (.iconst 0, 1) := by decide +kernel
theorem dX0_replayOn_1 : decode cX0_replayOn 1 = .ok (.istore_n 2, 1) := by decide +kernel
theorem dX0_replayOn_2 : decode cX0_replayOn 2 = .ok (.iload_n 2, 1) := by decide +kernel
theorem dX0_replayOn_3 : decode cX0_replayOn 3 = .ok (.aload_n 0, 1) := by decide +kernel
theorem dX0_replayOn_4 : decode cX0_replayOn 4 = .ok (.getfield 9, 3) := by decide +kernel
theorem dX0_replayOn_7 : decode cX0_replayOn 7 = .ok (.if_icmp .ge 31, 3) := by decide +kernel
theorem dX0_replayOn_10 : decode cX0_replayOn 10 = .ok (.aload_n 1, 1) := by decide +kernel
theorem dX0_replayOn_11 : decode cX0_replayOn 11 = .ok (.aload_n 0, 1) := by decide +kernel
theorem dX0_replayOn_12 : decode cX0_replayOn 12 = .ok (.getfield 15, 3) := by decide +kernel
theorem dX0_replayOn_15 : decode cX0_replayOn 15 = .ok (.iload_n 2, 1) := by decide +kernel
theorem dX0_replayOn_16 : decode cX0_replayOn 16 = .ok (.iaload, 1) := by decide +kernel
theorem dX0_replayOn_17 : decode cX0_replayOn 17 = .ok (.aload_n 0, 1) := by decide +kernel
theorem dX0_replayOn_18 : decode cX0_replayOn 18 = .ok (.getfield 19, 3) := by decide +kernel
theorem dX0_replayOn_21 : decode cX0_replayOn 21 = .ok (.iload_n 2, 1) := by decide +kernel
theorem dX0_replayOn_22 : decode cX0_replayOn 22 = .ok (.iaload, 1) := by decide +kernel
theorem dX0_replayOn_23 : decode cX0_replayOn 23 = .ok (.aload_n 0, 1) := by decide +kernel
theorem dX0_replayOn_24 : decode cX0_replayOn 24 = .ok (.getfield 22, 3) := by decide +kernel
theorem dX0_replayOn_27 : decode cX0_replayOn 27 = .ok (.iload_n 2, 1) := by decide +kernel
theorem dX0_replayOn_28 : decode cX0_replayOn 28 = .ok (.iaload, 1) := by decide +kernel
theorem dX0_replayOn_29 : decode cX0_replayOn 29 = .ok (.invokevirtual 31, 3) := by decide +kernel
theorem dX0_replayOn_32 : decode cX0_replayOn 32 = .ok (.iinc 2 1, 3) := by decide +kernel
theorem dX0_replayOn_35 : decode cX0_replayOn 35 = .ok (.goto (-33), 3) := by decide +kernel
theorem dX0_replayOn_38 : decode cX0_replayOn 38 = .ok (.return_, 1) := by decide +kernel
theorem dX1_init_0 : decode cX1_init 0 = .ok (.aload_n 0, 1) := by decide +kernel
theorem dX1_init_1 : decode cX1_init 1 = .ok (.invokespecial 3, 3) := by decide +kernel
theorem dX1_init_4 : decode cX1_init 4 = .ok (.aload_n 0, 1) := by decide +kernel
theorem dX1_init_5 : decode cX1_init 5 = .ok (.iconst 0, 1) := by decide +kernel
theorem dX1_init_6 : decode cX1_init 6 = .ok (.putfield 9, 3) := by decide +kernel
theorem dX1_init_9 : decode cX1_init 9 = .ok (.aload_n 0, 1) := by decide +kernel
theorem dX1_init_10 : decode cX1_init 10 = .ok (.bipush 48, 2) := by decide +kernel
theorem dX1_init_12 : decode cX1_init 12 = .ok (.newarray .int, 2) := by decide +kernel
theorem dX1_init_14 : decode cX1_init 14 = .ok (.putfield 15, 3) := by decide +kernel
theorem dX1_init_17 : decode cX1_init 17 = .ok (.aload_n 0, 1) := by decide +kernel
theorem dX1_init_18 : decode cX1_init 18 = .ok (.bipush 48, 2) := by decide +kernel
theorem dX1_init_20 : decode cX1_init 20 = .ok (.newarray .int, 2) := by decide +kernel
theorem dX1_init_22 : decode cX1_init 22 = .ok (.putfield 19, 3) := by decide +kernel
theorem dX1_init_25 : decode cX1_init 25 = .ok (.return_, 1) := by decide +kernel
theorem dX1_empty_0 : decode cX1_empty 0 = .ok (.aload_n 0, 1) := by decide +kernel
theorem dX1_empty_1 : decode cX1_empty 1 = .ok (.iconst 0, 1) := by decide +kernel
theorem dX1_empty_2 : decode cX1_empty 2 = .ok (.putfield 9, 3) := by decide +kernel
theorem dX1_empty_5 : decode cX1_empty 5 = .ok (.return_, 1) := by decide +kernel
theorem dX1_become_0 : decode cX1_become 0 = .ok (.aload_n 1, 1) := by decide +kernel
theorem dX1_become_1 : decode cX1_become 1 = .ok (.getfield 15, 3) := by decide +kernel
theorem dX1_become_4 : decode cX1_become 4 = .ok (.iconst 0, 1) := by decide +kernel
theorem dX1_become_5 : decode cX1_become 5 = .ok (.aload_n 0, 1) := by decide +kernel
theorem dX1_become_6 : decode cX1_become 6 = .ok (.getfield 15, 3) := by decide +kernel
theorem dX1_become_9 : decode cX1_become 9 = .ok (.iconst 0, 1) := by decide +kernel
theorem dX1_become_10 : decode cX1_become 10 = .ok (.bipush 48, 2) := by decide +kernel
theorem dX1_become_12 : decode cX1_become 12 = .ok (.invokestatic 22, 3) := by decide +kernel
theorem dX1_become_15 : decode cX1_become 15 = .ok (.aload_n 1, 1) := by decide +kernel
theorem dX1_become_16 : decode cX1_become 16 = .ok (.getfield 19, 3) := by decide +kernel
theorem dX1_become_19 : decode cX1_become 19 = .ok (.iconst 0, 1) := by decide +kernel
theorem dX1_become_20 : decode cX1_become 20 = .ok (.aload_n 0, 1) := by decide +kernel
theorem dX1_become_21 : decode cX1_become 21 = .ok (.getfield 19, 3) := by decide +kernel
theorem dX1_become_24 : decode cX1_become 24 = .ok (.iconst 0, 1) := by decide +kernel
theorem dX1_become_25 : decode cX1_become 25 = .ok (.bipush 48, 2) := by decide +kernel
theorem dX1_become_27 : decode cX1_become 27 = .ok (.invokestatic 22, 3) := by decide +kernel
theorem dX1_become_30 : decode cX1_become 30 = .ok (.aload_n 0, 1) := by decide +kernel
theorem dX1_become_31 : decode cX1_become 31 = .ok (.aload_n 1, 1) := by decide +kernel
theorem dX1_become_32 : decode cX1_become 32 = .ok (.getfield 9, 3) := by decide +kernel
theorem dX1_become_35 : decode cX1_become 35 = .ok (.putfield 9, 3) := by decide +kernel
theorem dX1_become_38 : decode cX1_become 38 = .ok (.return_, 1) := by decide +kernel
theorem dX1_word_0 : decode cX1_word 0 = .ok (.iload_n 1, 1) := by decide +kernel
theorem dX1_word_1 : decode cX1_word 1 = .ok (.ifCond .lt 20, 3) := by decide +kernel
theorem dX1_word_4 : decode cX1_word 4 = .ok (.iload_n 1, 1) := by decide +kernel
theorem dX1_word_5 : decode cX1_word 5 = .ok (.aload_n 0, 1) := by decide +kernel
theorem dX1_word_6 : decode cX1_word 6 = .ok (.getfield 9, 3) := by decide +kernel
theorem dX1_word_9 : decode cX1_word 9 = .ok (.if_icmp .ge 12, 3) := by decide +kernel
theorem dX1_word_12 : decode cX1_word 12 = .ok (.aload_n 0, 1) := by decide +kernel
theorem dX1_word_13 : decode cX1_word 13 = .ok (.getfield 15, 3) := by decide +kernel
theorem dX1_word_16 : decode cX1_word 16 = .ok (.iload_n 1, 1) := by decide +kernel
theorem dX1_word_17 : decode cX1_word 17 = .ok (.iaload, 1) := by decide +kernel
theorem dX1_word_18 : decode cX1_word 18 = .ok (.goto 4, 3) := by decide +kernel
theorem dX1_word_21 : decode cX1_word 21 = .ok (.iconst 0, 1) := by decide +kernel
theorem dX1_word_22 : decode cX1_word 22 = .ok (.ireturn, 1) := by decide +kernel
theorem dX1_value_0 : decode cX1_value 0 = .ok (.iload_n 1, 1) := by decide +kernel
theorem dX1_value_1 : decode cX1_value 1 = .ok (.ifCond .lt 20, 3) := by decide +kernel
theorem dX1_value_4 : decode cX1_value 4 = .ok (.iload_n 1, 1) := by decide +kernel
theorem dX1_value_5 : decode cX1_value 5 = .ok (.aload_n 0, 1) := by decide +kernel
theorem dX1_value_6 : decode cX1_value 6 = .ok (.getfield 9, 3) := by decide +kernel
theorem dX1_value_9 : decode cX1_value 9 = .ok (.if_icmp .ge 12, 3) := by decide +kernel
theorem dX1_value_12 : decode cX1_value 12 = .ok (.aload_n 0, 1) := by decide +kernel
theorem dX1_value_13 : decode cX1_value 13 = .ok (.getfield 19, 3) := by decide +kernel
theorem dX1_value_16 : decode cX1_value 16 = .ok (.iload_n 1, 1) := by decide +kernel
theorem dX1_value_17 : decode cX1_value 17 = .ok (.iaload, 1) := by decide +kernel
theorem dX1_value_18 : decode cX1_value 18 = .ok (.goto 5, 3) := by decide +kernel
theorem dX1_value_21 : decode cX1_value 21 = .ok (.bipush (-9), 2) := by decide +kernel
theorem dX1_value_23 : decode cX1_value 23 = .ok (.ireturn, 1) := by decide +kernel
theorem dX1_aheadOf_0 : decode cX1_aheadOf 0 = .ok (.iconst 0, 1) := by decide +kernel
theorem dX1_aheadOf_1 : decode cX1_aheadOf 1 = .ok (.istore_n 2, 1) := by decide +kernel
theorem dX1_aheadOf_2 : decode cX1_aheadOf 2 = .ok (.iload_n 2, 1) := by decide +kernel
theorem dX1_aheadOf_3 : decode cX1_aheadOf 3 = .ok (.aload_n 0, 1) := by decide +kernel
theorem dX1_aheadOf_4 : decode cX1_aheadOf 4 = .ok (.getfield 9, 3) := by decide +kernel
theorem dX1_aheadOf_7 : decode cX1_aheadOf 7 = .ok (.if_icmp .ge 19, 3) := by decide +kernel
theorem dX1_aheadOf_10 : decode cX1_aheadOf 10 = .ok (.aload_n 0, 1) := by decide +kernel
theorem dX1_aheadOf_11 : decode cX1_aheadOf 11 = .ok (.getfield 15, 3) := by decide +kernel
theorem dX1_aheadOf_14 : decode cX1_aheadOf 14 = .ok (.iload_n 2, 1) := by decide +kernel
theorem dX1_aheadOf_15 : decode cX1_aheadOf 15 = .ok (.iaload, 1) := by decide +kernel
theorem dX1_aheadOf_16 : decode cX1_aheadOf 16 = .ok (.iload_n 1, 1) := by decide +kernel
theorem dX1_aheadOf_17 : decode cX1_aheadOf 17 = .ok (.if_icmp .ge 9, 3) := by decide +kernel
theorem dX1_aheadOf_20 : decode cX1_aheadOf 20 = .ok (.iinc 2 1, 3) := by decide +kernel
theorem dX1_aheadOf_23 : decode cX1_aheadOf 23 = .ok (.goto (-21), 3) := by decide +kernel
theorem dX1_aheadOf_26 : decode cX1_aheadOf 26 = .ok (.iload_n 2, 1) := by decide +kernel
theorem dX1_aheadOf_27 : decode cX1_aheadOf 27 = .ok (.ireturn, 1) := by decide +kernel
set_option maxRecDepth 20000 in
theorem ggX1_has_X1_aheadOf : GoodIn wsX1_has wsX1_aheadOf := goodIn_r _ [7, 1, 2, 8, 9, 10] (by decide +kernel) (by decide +kernel)
set_option maxRecDepth 20000 in
theorem gX1_has_X1_aheadOf : GoodIn wsX1_has (wsV RX1 28 RX1 yX1_aheadOf wsX1_aheadOf) := goodIn_app (goodIn_of _ (by decide +kernel)) ggX1_has_X1_aheadOf
theorem dX1_has_0 : decode cX1_has 0 = .ok (.aload_n 0, 1) := by decide +kernel
theorem dX1_has_1 : decode cX1_has 1 = .ok (.iload_n 1, 1) := by decide +kernel
theorem dX1_has_2 : decode cX1_has 2 = .ok (.invokevirtual 28, 3) := by decide +kernel
theorem dX1_has_5 : decode cX1_has 5 = .ok (.istore_n 2, 1) := by decide +kernel
theorem dX1_has_6 : decode cX1_has 6 = .ok (.iload_n 2, 1) := by decide +kernel
theorem dX1_has_7 : decode cX1_has 7 = .ok (.aload_n 0, 1) := by decide +kernel
theorem dX1_has_8 : decode cX1_has 8 = .ok (.getfield 9, 3) := by decide +kernel
theorem dX1_has_11 : decode cX1_has 11 = .ok (.if_icmp .ge 17, 3) := by decide +kernel
theorem dX1_has_14 : decode cX1_has 14 = .ok (.aload_n 0, 1) := by decide +kernel
theorem dX1_has_15 : decode cX1_has 15 = .ok (.getfield 15, 3) := by decide +kernel
theorem dX1_has_18 : decode cX1_has 18 = .ok (.iload_n 2, 1) := by decide +kernel
theorem dX1_has_19 : decode cX1_has 19 = .ok (.iaload, 1) := by decide +kernel
theorem dX1_has_20 : decode cX1_has 20 = .ok (.iload_n 1, 1) := by decide +kernel
theorem dX1_has_21 : decode cX1_has 21 = .ok (.if_icmp .ne 7, 3) := by decide +kernel
theorem dX1_has_24 : decode cX1_has 24 = .ok (.iconst 1, 1) := by decide +kernel
theorem dX1_has_25 : decode cX1_has 25 = .ok (.goto 4, 3) := by decide +kernel
theorem dX1_has_28 : decode cX1_has 28 = .ok (.iconst 0, 1) := by decide +kernel
theorem dX1_has_29 : decode cX1_has 29 = .ok (.ireturn, 1) := by decide +kernel
set_option maxRecDepth 20000 in
theorem ggX1_valueOf_X1_has : GoodIn wsX1_valueOf wsX1_has := goodIn_r _ [5, 6, 7, 8, 9, 10, 4, 11, 17, 18, 19] (by decide +kernel) (by decide +kernel)
set_option maxRecDepth 20000 in
theorem gX1_valueOf_X1_has : GoodIn wsX1_valueOf (wsV RX1 32 RX1 yX1_has wsX1_has) := goodIn_app (goodIn_of _ (by decide +kernel)) ggX1_valueOf_X1_has
set_option maxRecDepth 20000 in
theorem ggX1_valueOf_X1_aheadOf : GoodIn wsX1_valueOf wsX1_aheadOf := goodIn_r _ [11, 6, 7, 17, 18, 19] (by decide +kernel) (by decide +kernel)
set_option maxRecDepth 20000 in
theorem gX1_valueOf_X1_aheadOf : GoodIn wsX1_valueOf (wsV RX1 28 RX1 yX1_aheadOf wsX1_aheadOf) := goodIn_app (goodIn_of _ (by decide +kernel)) ggX1_valueOf_X1_aheadOf
set_option maxRecDepth 20000 in
theorem ggX1_valueOf_X1_value : GoodIn wsX1_valueOf wsX1_value := goodIn_r _ [15, 6, 16, 17, 18, 19] (by decide +kernel) (by decide +kernel)
set_option maxRecDepth 20000 in
theorem gX1_valueOf_X1_value : GoodIn wsX1_valueOf (wsV RX1 36 RX1 yX1_value wsX1_value) := goodIn_app (goodIn_of _ (by decide +kernel)) ggX1_valueOf_X1_value
theorem dX1_valueOf_0 : decode cX1_valueOf 0 = .ok (.aload_n 0, 1) := by decide +kernel
theorem dX1_valueOf_1 : decode cX1_valueOf 1 = .ok (.iload_n 1, 1) := by decide +kernel
theorem dX1_valueOf_2 : decode cX1_valueOf 2 = .ok (.invokevirtual 32, 3) := by decide +kernel
theorem dX1_valueOf_5 : decode cX1_valueOf 5 = .ok (.ifCond .eq 15, 3) := by decide +kernel
theorem dX1_valueOf_8 : decode cX1_valueOf 8 = .ok (.aload_n 0, 1) := by decide +kernel
theorem dX1_valueOf_9 : decode cX1_valueOf 9 = .ok (.aload_n 0, 1) := by decide +kernel
theorem dX1_valueOf_10 : decode cX1_valueOf 10 = .ok (.iload_n 1, 1) := by decide +kernel
theorem dX1_valueOf_11 : decode cX1_valueOf 11 = .ok (.invokevirtual 28, 3) := by decide +kernel
theorem dX1_valueOf_14 : decode cX1_valueOf 14 = .ok (.invokevirtual 36, 3) := by decide +kernel
theorem dX1_valueOf_17 : decode cX1_valueOf 17 = .ok (.goto 5, 3) := by decide +kernel
theorem dX1_valueOf_20 : decode cX1_valueOf 20 = .ok (.bipush (-9), 2) := by decide +kernel
theorem dX1_valueOf_22 : decode cX1_valueOf 22 = .ok (.ireturn, 1) := by decide +kernel
set_option maxRecDepth 20000 in
theorem ggX1_hasRoomFor_X1_has : GoodIn wsX1_hasRoomFor wsX1_has := goodIn_r _ [6, 1, 7, 8, 9, 10, 5, 11, 12, 13, 14] (by decide +kernel) (by decide +kernel)
set_option maxRecDepth 20000 in
theorem gX1_hasRoomFor_X1_has : GoodIn wsX1_hasRoomFor (wsV RX1 32 RX1 yX1_has wsX1_has) := goodIn_app (goodIn_of _ (by decide +kernel)) ggX1_hasRoomFor_X1_has
theorem dX1_hasRoomFor_0 : decode cX1_hasRoomFor 0 = .ok (.aload_n 0, 1) := by decide +kernel
theorem dX1_hasRoomFor_1 : decode cX1_hasRoomFor 1 = .ok (.getfield 9, 3) := by decide +kernel
theorem dX1_hasRoomFor_4 : decode cX1_hasRoomFor 4 = .ok (.bipush 48, 2) := by decide +kernel
theorem dX1_hasRoomFor_6 : decode cX1_hasRoomFor 6 = .ok (.if_icmp .lt 11, 3) := by decide +kernel
theorem dX1_hasRoomFor_9 : decode cX1_hasRoomFor 9 = .ok (.aload_n 0, 1) := by decide +kernel
theorem dX1_hasRoomFor_10 : decode cX1_hasRoomFor 10 = .ok (.iload_n 1, 1) := by decide +kernel
theorem dX1_hasRoomFor_11 : decode cX1_hasRoomFor 11 = .ok (.invokevirtual 32, 3) := by decide +kernel
theorem dX1_hasRoomFor_14 : decode cX1_hasRoomFor 14 = .ok (.ifCond .eq 7, 3) := by decide +kernel
theorem dX1_hasRoomFor_17 : decode cX1_hasRoomFor 17 = .ok (.iconst 1, 1) := by decide +kernel
theorem dX1_hasRoomFor_18 : decode cX1_hasRoomFor 18 = .ok (.goto 4, 3) := by decide +kernel
theorem dX1_hasRoomFor_21 : decode cX1_hasRoomFor 21 = .ok (.iconst 0, 1) := by decide +kernel
theorem dX1_hasRoomFor_22 : decode cX1_hasRoomFor 22 = .ok (.ireturn, 1) := by decide +kernel
set_option maxRecDepth 20000 in
theorem ggX1_beginningWith_X1_aheadOf : GoodIn wsX1_beginningWith wsX1_aheadOf := goodIn_r _ [7, 1, 2, 18, 19, 20] (by decide +kernel) (by decide +kernel)
set_option maxRecDepth 20000 in
theorem gX1_beginningWith_X1_aheadOf : GoodIn wsX1_beginningWith (wsV RX1 28 RX1 yX1_aheadOf wsX1_aheadOf) := goodIn_app (goodIn_of _ (by decide +kernel)) ggX1_beginningWith_X1_aheadOf
set_option maxRecDepth 20000 in
theorem ggX1_beginningWith_X6_isHeadOf : GoodIn wsX1_beginningWith wsX6_isHeadOf := goodIn_r _ [11, 12, 13, 10, 14, 15, 16, 17] (by decide +kernel) (by decide +kernel)
set_option maxRecDepth 20000 in
theorem gX1_beginningWith_X6_isHeadOf : GoodIn wsX1_beginningWith (va_wsS RX1 39 yX6_isHeadOf wsX6_isHeadOf) := goodIn_app (goodIn_of _ (by decide +kernel)) ggX1_beginningWith_X6_isHeadOf
theorem dX1_beginningWith_0 : decode cX1_beginningWith 0 = .ok (.aload_n 0, 1) := by decide +kernel
theorem dX1_beginningWith_1 : decode cX1_beginningWith 1 = .ok (.iload_n 1, 1) := by decide +kernel
theorem dX1_beginningWith_2 : decode cX1_beginningWith 2 = .ok (.invokevirtual 28, 3) := by decide +kernel
theorem dX1_beginningWith_5 : decode cX1_beginningWith 5 = .ok (.istore_n 2, 1) := by decide +kernel
theorem dX1_beginningWith_6 : decode cX1_beginningWith 6 = .ok (.iload_n 2, 1) := by decide +kernel
theorem dX1_beginningWith_7 : decode cX1_beginningWith 7 = .ok (.istore_n 3, 1) := by decide +kernel
theorem dX1_beginningWith_8 : decode cX1_beginningWith 8 = .ok (.iload_n 3, 1) := by decide +kernel
theorem dX1_beginningWith_9 : decode cX1_beginningWith 9 = .ok (.aload_n 0, 1) := by decide +kernel
theorem dX1_beginningWith_10 : decode cX1_beginningWith 10 = .ok (.getfield 9, 3) := by decide +kernel
theorem dX1_beginningWith_13 : decode cX1_beginningWith 13 = .ok (.if_icmp .ge 22, 3) := by decide +kernel
theorem dX1_beginningWith_16 : decode cX1_beginningWith 16 = .ok (.iload_n 1, 1) := by decide +kernel
theorem dX1_beginningWith_17 : decode cX1_beginningWith 17 = .ok (.aload_n 0, 1) := by decide +kernel
theorem dX1_beginningWith_18 : decode cX1_beginningWith 18 = .ok (.getfield 15, 3) := by decide +kernel
theorem dX1_beginningWith_21 : decode cX1_beginningWith 21 = .ok (.iload_n 3, 1) := by decide +kernel
theorem dX1_beginningWith_22 : decode cX1_beginningWith 22 = .ok (.iaload, 1) := by decide +kernel
theorem dX1_beginningWith_23 : decode cX1_beginningWith 23 = .ok (.invokestatic 39, 3) := by decide +kernel
theorem dX1_beginningWith_26 : decode cX1_beginningWith 26 = .ok (.ifCond .eq 9, 3) := by decide +kernel
theorem dX1_beginningWith_29 : decode cX1_beginningWith 29 = .ok (.iinc 3 1, 3) := by decide +kernel
theorem dX1_beginningWith_32 : decode cX1_beginningWith 32 = .ok (.goto (-24), 3) := by decide +kernel
theorem dX1_beginningWith_35 : decode cX1_beginningWith 35 = .ok (.iload_n 3, 1) := by decide +kernel
theorem dX1_beginningWith_36 : decode cX1_beginningWith 36 = .ok (.iload_n 2, 1) := by decide +kernel
theorem dX1_beginningWith_37 : decode cX1_beginningWith 37 = .ok (.isub, 1) := by decide +kernel
theorem dX1_beginningWith_38 : decode cX1_beginningWith 38 = .ok (.ireturn, 1) := by decide +kernel
set_option maxRecDepth 20000 in
theorem ggX1_valueSum_X1_value : GoodIn wsX1_valueSum wsX1_value := goodIn_r _ [5, 6, 7, 8, 9, 10] (by decide +kernel) (by decide +kernel)
set_option maxRecDepth 20000 in
theorem gX1_valueSum_X1_value : GoodIn wsX1_valueSum (wsV RX1 36 RX1 yX1_value wsX1_value) := goodIn_app (goodIn_of _ (by decide +kernel)) ggX1_valueSum_X1_value
theorem dX1_valueSum_0 : decode cX1_valueSum 0 = .ok (.iconst 0, 1) := by decide +kernel
theorem dX1_valueSum_1 : decode cX1_valueSum 1 = .ok (.istore_n 3, 1) := by decide +kernel
theorem dX1_valueSum_2 : decode cX1_valueSum 2 = .ok (.iload_n 1, 1) := by decide +kernel
theorem dX1_valueSum_3 : decode cX1_valueSum 3 = .ok (.istore 4, 2) := by decide +kernel
theorem dX1_valueSum_5 : decode cX1_valueSum 5 = .ok (.iload 4, 2) := by decide +kernel
theorem dX1_valueSum_7 : decode cX1_valueSum 7 = .ok (.iload_n 2, 1) := by decide +kernel
theorem dX1_valueSum_8 : decode cX1_valueSum 8 = .ok (.if_icmp .ge 18, 3) := by decide +kernel
theorem dX1_valueSum_11 : decode cX1_valueSum 11 = .ok (.iload_n 3, 1) := by decide +kernel
theorem dX1_valueSum_12 : decode cX1_valueSum 12 = .ok (.aload_n 0, 1) := by decide +kernel
theorem dX1_valueSum_13 : decode cX1_valueSum 13 = .ok (.iload 4, 2) := by decide +kernel
theorem dX1_valueSum_15 : decode cX1_valueSum 15 = .ok (.invokevirtual 36, 3) := by decide +kernel
theorem dX1_valueSum_18 : decode cX1_valueSum 18 = .ok (.iadd, 1) := by decide +kernel
theorem dX1_valueSum_19 : decode cX1_valueSum 19 = .ok (.istore_n 3, 1) := by decide +kernel
theorem dX1_valueSum_20 : decode cX1_valueSum 20 = .ok (.iinc 4 1, 3) := by decide +kernel
theorem dX1_valueSum_23 : decode cX1_valueSum 23 = .ok (.goto (-18), 3) := by decide +kernel
theorem dX1_valueSum_26 : decode cX1_valueSum 26 = .ok (.iload_n 3, 1) := by decide +kernel
theorem dX1_valueSum_27 : decode cX1_valueSum 27 = .ok (.ireturn, 1) := by decide +kernel
set_option maxRecDepth 20000 in
theorem ggX1_apply_X1_insert : GoodIn wsX1_apply wsX1_insert := goodIn_r _ [5, 6, 7, 8, 9, 10, 11, 4, 12, 35, 36, 37] (by decide +kernel) (by decide +kernel)
set_option maxRecDepth 20000 in
theorem gX1_apply_X1_insert : GoodIn wsX1_apply (wsV RX1 45 RX1 yX1_insert wsX1_insert) := goodIn_app (goodIn_of _ (by decide +kernel)) ggX1_apply_X1_insert
set_option maxRecDepth 20000 in
theorem ggX1_apply_X1_aheadOf : GoodIn wsX1_apply wsX1_aheadOf := goodIn_r _ [12, 6, 7, 35, 36, 37] (by decide +kernel) (by decide +kernel)
set_option maxRecDepth 20000 in
theorem gX1_apply_X1_aheadOf : GoodIn wsX1_apply (wsV RX1 28 RX1 yX1_aheadOf wsX1_aheadOf) := goodIn_app (goodIn_of _ (by decide +kernel)) ggX1_apply_X1_aheadOf
set_option maxRecDepth 20000 in
theorem ggX1_apply_X1_has : GoodIn wsX1_apply wsX1_has := goodIn_r _ [16, 6, 7, 9, 10, 11, 4, 12, 35, 36, 37] (by decide +kernel) (by decide +kernel)
set_option maxRecDepth 20000 in
theorem gX1_apply_X1_has : GoodIn wsX1_apply (wsV RX1 32 RX1 yX1_has wsX1_has) := goodIn_app (goodIn_of _ (by decide +kernel)) ggX1_apply_X1_has
set_option maxRecDepth 20000 in
theorem ggX1_apply_X1_remove : GoodIn wsX1_apply wsX1_remove := goodIn_r _ [20, 6, 7, 8, 35, 36, 37] (by decide +kernel) (by decide +kernel)
set_option maxRecDepth 20000 in
theorem gX1_apply_X1_remove : GoodIn wsX1_apply (wsV RX1 49 RX1 yX1_remove wsX1_remove) := goodIn_app (goodIn_of _ (by decide +kernel)) ggX1_apply_X1_remove
set_option maxRecDepth 20000 in
theorem ggX1_apply_X1_beginningWith : GoodIn wsX1_apply wsX1_beginningWith := goodIn_r _ [24, 6, 7, 9, 10, 11, 4, 12, 25, 26, 27, 28, 29, 30, 31, 32, 33, 34, 35, 36, 37] (by decide +kernel) (by decide +kernel)
set_option maxRecDepth 20000 in
theorem gX1_apply_X1_beginningWith : GoodIn wsX1_apply (wsV RX1 52 RX1 yX1_beginningWith wsX1_beginningWith) := goodIn_app (goodIn_of _ (by decide +kernel)) ggX1_apply_X1_beginningWith
theorem dX1_apply_0 : decode cX1_apply 0 = .ok (.iload_n 1, 1) := by decide +kernel
theorem dX1_apply_1 : decode cX1_apply 1 = .ok (.tableswitch 78 1 3 #[27, 36, 61], 27) := by decide +kernel
theorem dX1_apply_28 : decode cX1_apply 28 = .ok (.aload_n 0, 1) := by decide +kernel
theorem dX1_apply_29 : decode cX1_apply 29 = .ok (.iload_n 2, 1) := by decide +kernel
theorem dX1_apply_30 : decode cX1_apply 30 = .ok (.iload_n 3, 1) := by decide +kernel
theorem dX1_apply_31 : decode cX1_apply 31 = .ok (.invokevirtual 45, 3) := by decide +kernel
theorem dX1_apply_34 : decode cX1_apply 34 = .ok (.goto 45, 3) := by decide +kernel
theorem dX1_apply_37 : decode cX1_apply 37 = .ok (.aload_n 0, 1) := by decide +kernel
theorem dX1_apply_38 : decode cX1_apply 38 = .ok (.aload_n 0, 1) := by decide +kernel
theorem dX1_apply_39 : decode cX1_apply 39 = .ok (.iload_n 2, 1) := by decide +kernel
theorem dX1_apply_40 : decode cX1_apply 40 = .ok (.invokevirtual 28, 3) := by decide +kernel
theorem dX1_apply_43 : decode cX1_apply 43 = .ok (.aload_n 0, 1) := by decide +kernel
theorem dX1_apply_44 : decode cX1_apply 44 = .ok (.iload_n 2, 1) := by decide +kernel
theorem dX1_apply_45 : decode cX1_apply 45 = .ok (.invokevirtual 32, 3) := by decide +kernel
theorem dX1_apply_48 : decode cX1_apply 48 = .ok (.ifCond .eq 7, 3) := by decide +kernel
theorem dX1_apply_51 : decode cX1_apply 51 = .ok (.iconst 1, 1) := by decide +kernel
theorem dX1_apply_52 : decode cX1_apply 52 = .ok (.goto 4, 3) := by decide +kernel
theorem dX1_apply_55 : decode cX1_apply 55 = .ok (.iconst 0, 1) := by decide +kernel
theorem dX1_apply_56 : decode cX1_apply 56 = .ok (.invokevirtual 49, 3) := by decide +kernel
theorem dX1_apply_59 : decode cX1_apply 59 = .ok (.goto 20, 3) := by decide +kernel
theorem dX1_apply_62 : decode cX1_apply 62 = .ok (.aload_n 0, 1) := by decide +kernel
theorem dX1_apply_63 : decode cX1_apply 63 = .ok (.aload_n 0, 1) := by decide +kernel
theorem dX1_apply_64 : decode cX1_apply 64 = .ok (.iload_n 2, 1) := by decide +kernel
theorem dX1_apply_65 : decode cX1_apply 65 = .ok (.invokevirtual 28, 3) := by decide +kernel
theorem dX1_apply_68 : decode cX1_apply 68 = .ok (.aload_n 0, 1) := by decide +kernel
theorem dX1_apply_69 : decode cX1_apply 69 = .ok (.iload_n 2, 1) := by decide +kernel
theorem dX1_apply_70 : decode cX1_apply 70 = .ok (.invokevirtual 52, 3) := by decide +kernel
theorem dX1_apply_73 : decode cX1_apply 73 = .ok (.invokevirtual 49, 3) := by decide +kernel
theorem dX1_apply_76 : decode cX1_apply 76 = .ok (.goto 3, 3) := by decide +kernel
theorem dX1_apply_79 : decode cX1_apply 79 = .ok (.return_, 1) := by decide +kernel
set_option maxRecDepth 20000 in
theorem ggX1_insert_X1_aheadOf : GoodIn wsX1_insert wsX1_aheadOf := goodIn_r _ [8, 1, 2, 9, 10, 11] (by decide +kernel) (by decide +kernel)
set_option maxRecDepth 20000 in
theorem gX1_insert_X1_aheadOf : GoodIn wsX1_insert (wsV RX1 28 RX1 yX1_aheadOf wsX1_aheadOf) := goodIn_app (goodIn_of _ (by decide +kernel)) ggX1_insert_X1_aheadOf
theorem dX1_insert_0 : decode cX1_insert 0 = .ok (.aload_n 0, 1) := by decide +kernel
theorem dX1_insert_1 : decode cX1_insert 1 = .ok (.iload_n 1, 1) := by decide +kernel
theorem dX1_insert_2 : decode cX1_insert 2 = .ok (.invokevirtual 28, 3) := by decide +kernel
theorem dX1_insert_5 : decode cX1_insert 5 = .ok (.istore_n 3, 1) := by decide +kernel
theorem dX1_insert_6 : decode cX1_insert 6 = .ok (.iload_n 3, 1) := by decide +kernel
theorem dX1_insert_7 : decode cX1_insert 7 = .ok (.aload_n 0, 1) := by decide +kernel
theorem dX1_insert_8 : decode cX1_insert 8 = .ok (.getfield 9, 3) := by decide +kernel
theorem dX1_insert_11 : decode cX1_insert 11 = .ok (.if_icmp .ge 13, 3) := by decide +kernel
theorem dX1_insert_14 : decode cX1_insert 14 = .ok (.aload_n 0, 1) := by decide +kernel
theorem dX1_insert_15 : decode cX1_insert 15 = .ok (.getfield 15, 3) := by decide +kernel
theorem dX1_insert_18 : decode cX1_insert 18 = .ok (.iload_n 3, 1) := by decide +kernel
theorem dX1_insert_19 : decode cX1_insert 19 = .ok (.iaload, 1) := by decide +kernel
theorem dX1_insert_20 : decode cX1_insert 20 = .ok (.iload_n 1, 1) := by decide +kernel
theorem dX1_insert_21 : decode cX1_insert 21 = .ok (.if_icmp .eq 7, 3) := by decide +kernel
theorem dX1_insert_24 : decode cX1_insert 24 = .ok (.iconst 1, 1) := by decide +kernel
theorem dX1_insert_25 : decode cX1_insert 25 = .ok (.goto 4, 3) := by decide +kernel
theorem dX1_insert_28 : decode cX1_insert 28 = .ok (.iconst 0, 1) := by decide +kernel
theorem dX1_insert_29 : decode cX1_insert 29 = .ok (.istore 4, 2) := by decide +kernel
theorem dX1_insert_31 : decode cX1_insert 31 = .ok (.iload 4, 2) := by decide +kernel
theorem dX1_insert_33 : decode cX1_insert 33 = .ok (.ifCond .eq 13, 3) := by decide +kernel
theorem dX1_insert_36 : decode cX1_insert 36 = .ok (.aload_n 0, 1) := by decide +kernel
theorem dX1_insert_37 : decode cX1_insert 37 = .ok (.getfield 9, 3) := by decide +kernel
theorem dX1_insert_40 : decode cX1_insert 40 = .ok (.bipush 48, 2) := by decide +kernel
theorem dX1_insert_42 : decode cX1_insert 42 = .ok (.if_icmp .lt 4, 3) := by decide +kernel
theorem dX1_insert_45 : decode cX1_insert 45 = .ok (.return_, 1) := by decide +kernel
theorem dX1_insert_46 : decode cX1_insert 46 = .ok (.iload 4, 2) := by decide +kernel
theorem dX1_insert_48 : decode cX1_insert 48 = .ok (.ifCond .eq 63, 3) := by decide +kernel
theorem dX1_insert_51 : decode cX1_insert 51 = .ok (.aload_n 0, 1) := by decide +kernel
theorem dX1_insert_52 : decode cX1_insert 52 = .ok (.getfield 9, 3) := by decide +kernel
theorem dX1_insert_55 : decode cX1_insert 55 = .ok (.istore 5, 2) := by decide +kernel
theorem dX1_insert_57 : decode cX1_insert 57 = .ok (.iload 5, 2) := by decide +kernel
theorem dX1_insert_59 : decode cX1_insert 59 = .ok (.iload_n 3, 1) := by decide +kernel
theorem dX1_insert_60 : decode cX1_insert 60 = .ok (.if_icmp .le 41, 3) := by decide +kernel
theorem dX1_insert_63 : decode cX1_insert 63 = .ok (.aload_n 0, 1) := by decide +kernel
theorem dX1_insert_64 : decode cX1_insert 64 = .ok (.getfield 15, 3) := by decide +kernel
theorem dX1_insert_67 : decode cX1_insert 67 = .ok (.iload 5, 2) := by decide +kernel
theorem dX1_insert_69 : decode cX1_insert 69 = .ok (.aload_n 0, 1) := by decide +kernel
theorem dX1_insert_70 : decode cX1_insert 70 = .ok (.getfield 15, 3) := by decide +kernel
theorem dX1_insert_73 : decode cX1_insert 73 = .ok (.iload 5, 2) := by decide +kernel
theorem dX1_insert_75 : decode cX1_insert 75 = .ok (.iconst 1, 1) := by decide +kernel
theorem dX1_insert_76 : decode cX1_insert 76 = .ok (.isub, 1) := by decide +kernel
theorem dX1_insert_77 : decode cX1_insert 77 = .ok (.iaload, 1) := by decide +kernel
theorem dX1_insert_78 : decode cX1_insert 78 = .ok (.iastore, 1) := by decide +kernel
theorem dX1_insert_79 : decode cX1_insert 79 = .ok (.aload_n 0, 1) := by decide +kernel
theorem dX1_insert_80 : decode cX1_insert 80 = .ok (.getfield 19, 3) := by decide +kernel
theorem dX1_insert_83 : decode cX1_insert 83 = .ok (.iload 5, 2) := by decide +kernel
theorem dX1_insert_85 : decode cX1_insert 85 = .ok (.aload_n 0, 1) := by decide +kernel
theorem dX1_insert_86 : decode cX1_insert 86 = .ok (.getfield 19, 3) := by decide +kernel
theorem dX1_insert_89 : decode cX1_insert 89 = .ok (.iload 5, 2) := by decide +kernel
theorem dX1_insert_91 : decode cX1_insert 91 = .ok (.iconst 1, 1) := by decide +kernel
theorem dX1_insert_92 : decode cX1_insert 92 = .ok (.isub, 1) := by decide +kernel
theorem dX1_insert_93 : decode cX1_insert 93 = .ok (.iaload, 1) := by decide +kernel
theorem dX1_insert_94 : decode cX1_insert 94 = .ok (.iastore, 1) := by decide +kernel
theorem dX1_insert_95 : decode cX1_insert 95 = .ok (.iinc 5 (-1), 3) := by decide +kernel
theorem dX1_insert_98 : decode cX1_insert 98 = .ok (.goto (-41), 3) := by decide +kernel
theorem dX1_insert_101 : decode cX1_insert 101 = .ok (.aload_n 0, 1) := by decide +kernel
theorem dX1_insert_102 : decode cX1_insert 102 = .ok (.dup, 1) := by decide +kernel
theorem dX1_insert_103 : decode cX1_insert 103 = .ok (.getfield 9, 3) := by decide +kernel
theorem dX1_insert_106 : decode cX1_insert 106 = .ok (.iconst 1, 1) := by decide +kernel
theorem dX1_insert_107 : decode cX1_insert 107 = .ok (.iadd, 1) := by decide +kernel
theorem dX1_insert_108 : decode cX1_insert 108 = .ok (.putfield 9, 3) := by decide +kernel
theorem dX1_insert_111 : decode cX1_insert 111 = .ok (.aload_n 0, 1) := by decide +kernel
theorem dX1_insert_112 : decode cX1_insert 112 = .ok (.getfield 15, 3) := by decide +kernel
theorem dX1_insert_115 : decode cX1_insert 115 = .ok (.iload_n 3, 1) := by decide +kernel
theorem dX1_insert_116 : decode cX1_insert 116 = .ok (.iload_n 1, 1) := by decide +kernel
theorem dX1_insert_117 : decode cX1_insert 117 = .ok (.iastore, 1) := by decide +kernel
theorem dX1_insert_118 : decode cX1_insert 118 = .ok (.aload_n 0, 1) := by decide +kernel
theorem dX1_insert_119 : decode cX1_insert 119 = .ok (.getfield 19, 3) := by decide +kernel
theorem dX1_insert_122 : decode cX1_insert 122 = .ok (.iload_n 3, 1) := by decide +kernel
theorem dX1_insert_123 : decode cX1_insert 123 = .ok (.iload_n 2, 1) := by decide +kernel
theorem dX1_insert_124 : decode cX1_insert 124 = .ok (.iastore, 1) := by decide +kernel
theorem dX1_insert_125 : decode cX1_insert 125 = .ok (.return_, 1) := by decide +kernel
theorem dX1_remove_0 : decode cX1_remove 0 = .ok (.iload_n 1, 1) := by decide +kernel
theorem dX1_remove_1 : decode cX1_remove 1 = .ok (.istore_n 3, 1) := by decide +kernel
theorem dX1_remove_2 : decode cX1_remove 2 = .ok (.iload_n 3, 1) := by decide +kernel
theorem dX1_remove_3 : decode cX1_remove 3 = .ok (.iload_n 2, 1) := by decide +kernel
theorem dX1_remove_4 : decode cX1_remove 4 = .ok (.iadd, 1) := by decide +kernel
theorem dX1_remove_5 : decode cX1_remove 5 = .ok (.aload_n 0, 1) := by decide +kernel
theorem dX1_remove_6 : decode cX1_remove 6 = .ok (.getfield 9, 3) := by decide +kernel
theorem dX1_remove_9 : decode cX1_remove 9 = .ok (.if_icmp .ge 37, 3) := by decide +kernel
theorem dX1_remove_12 : decode cX1_remove 12 = .ok (.aload_n 0, 1) := by decide +kernel
theorem dX1_remove_13 : decode cX1_remove 13 = .ok (.getfield 15, 3) := by decide +kernel
theorem dX1_remove_16 : decode cX1_remove 16 = .ok (.iload_n 3, 1) := by decide +kernel
theorem dX1_remove_17 : decode cX1_remove 17 = .ok (.aload_n 0, 1) := by decide +kernel
theorem dX1_remove_18 : decode cX1_remove 18 = .ok (.getfield 15, 3) := by decide +kernel
theorem dX1_remove_21 : decode cX1_remove 21 = .ok (.iload_n 3, 1) := by decide +kernel
theorem dX1_remove_22 : decode cX1_remove 22 = .ok (.iload_n 2, 1) := by decide +kernel
theorem dX1_remove_23 : decode cX1_remove 23 = .ok (.iadd, 1) := by decide +kernel
theorem dX1_remove_24 : decode cX1_remove 24 = .ok (.iaload, 1) := by decide +kernel
theorem dX1_remove_25 : decode cX1_remove 25 = .ok (.iastore, 1) := by decide +kernel
theorem dX1_remove_26 : decode cX1_remove 26 = .ok (.aload_n 0, 1) := by decide +kernel
theorem dX1_remove_27 : decode cX1_remove 27 = .ok (.getfield 19, 3) := by decide +kernel
theorem dX1_remove_30 : decode cX1_remove 30 = .ok (.iload_n 3, 1) := by decide +kernel
theorem dX1_remove_31 : decode cX1_remove 31 = .ok (.aload_n 0, 1) := by decide +kernel
theorem dX1_remove_32 : decode cX1_remove 32 = .ok (.getfield 19, 3) := by decide +kernel
theorem dX1_remove_35 : decode cX1_remove 35 = .ok (.iload_n 3, 1) := by decide +kernel
theorem dX1_remove_36 : decode cX1_remove 36 = .ok (.iload_n 2, 1) := by decide +kernel
theorem dX1_remove_37 : decode cX1_remove 37 = .ok (.iadd, 1) := by decide +kernel
theorem dX1_remove_38 : decode cX1_remove 38 = .ok (.iaload, 1) := by decide +kernel
theorem dX1_remove_39 : decode cX1_remove 39 = .ok (.iastore, 1) := by decide +kernel
theorem dX1_remove_40 : decode cX1_remove 40 = .ok (.iinc 3 1, 3) := by decide +kernel
theorem dX1_remove_43 : decode cX1_remove 43 = .ok (.goto (-41), 3) := by decide +kernel
theorem dX1_remove_46 : decode cX1_remove 46 = .ok (.aload_n 0, 1) := by decide +kernel
theorem dX1_remove_47 : decode cX1_remove 47 = .ok (.dup, 1) := by decide +kernel
theorem dX1_remove_48 : decode cX1_remove 48 = .ok (.getfield 9, 3) := by decide +kernel
theorem dX1_remove_51 : decode cX1_remove 51 = .ok (.iload_n 2, 1) := by decide +kernel
theorem dX1_remove_52 : decode cX1_remove 52 = .ok (.isub, 1) := by decide +kernel
theorem dX1_remove_53 : decode cX1_remove 53 = .ok (.putfield 9, 3) := by decide +kernel
theorem dX1_remove_56 : decode cX1_remove 56 = .ok (.return_, 1) := by decide +kernel
set_option maxRecDepth 20000 in
theorem ggX1_mixInto_X6_figures : GoodIn wsX1_mixInto wsX6_figures := goodIn_r _ [8, 9, 10, 7, 11, 12, 13, 14] (by decide +kernel) (by decide +kernel)
set_option maxRecDepth 20000 in
theorem gX1_mixInto_X6_figures : GoodIn wsX1_mixInto (va_wsS RX1 57 yX6_figures wsX6_figures) := goodIn_app (goodIn_of _ (by decide +kernel)) ggX1_mixInto_X6_figures
set_option maxRecDepth 20000 in
theorem ggX1_mixInto_X6_length : GoodIn wsX1_mixInto wsX6_length := goodIn_r _ [11] (by decide +kernel) (by decide +kernel)
set_option maxRecDepth 20000 in
theorem gX1_mixInto_X6_length : GoodIn wsX1_mixInto (va_wsS RX1 60 yX6_length wsX6_length) := goodIn_app (goodIn_of _ (by decide +kernel)) ggX1_mixInto_X6_length
theorem dX1_mixInto_0 : decode cX1_mixInto 0 = .ok (.iconst 0, 1) := by decide +kernel
theorem dX1_mixInto_1 : decode cX1_mixInto 1 = .ok (.istore_n 3, 1) := by decide +kernel
theorem dX1_mixInto_2 : decode cX1_mixInto 2 = .ok (.iload_n 3, 1) := by decide +kernel
theorem dX1_mixInto_3 : decode cX1_mixInto 3 = .ok (.aload_n 0, 1) := by decide +kernel
theorem dX1_mixInto_4 : decode cX1_mixInto 4 = .ok (.getfield 9, 3) := by decide +kernel
theorem dX1_mixInto_7 : decode cX1_mixInto 7 = .ok (.if_icmp .ge 57, 3) := by decide +kernel
theorem dX1_mixInto_10 : decode cX1_mixInto 10 = .ok (.ldc2_w 55, 3) := by decide +kernel
theorem dX1_mixInto_13 : decode cX1_mixInto 13 = .ok (.lload_n 1, 1) := by decide +kernel
theorem dX1_mixInto_14 : decode cX1_mixInto 14 = .ok (.lmul, 1) := by decide +kernel
theorem dX1_mixInto_15 : decode cX1_mixInto 15 = .ok (.aload_n 0, 1) := by decide +kernel
theorem dX1_mixInto_16 : decode cX1_mixInto 16 = .ok (.getfield 15, 3) := by decide +kernel
theorem dX1_mixInto_19 : decode cX1_mixInto 19 = .ok (.iload_n 3, 1) := by decide +kernel
theorem dX1_mixInto_20 : decode cX1_mixInto 20 = .ok (.iaload, 1) := by decide +kernel
theorem dX1_mixInto_21 : decode cX1_mixInto 21 = .ok (.invokestatic 57, 3) := by decide +kernel
theorem dX1_mixInto_24 : decode cX1_mixInto 24 = .ok (.i2l, 1) := by decide +kernel
theorem dX1_mixInto_25 : decode cX1_mixInto 25 = .ok (.ladd, 1) := by decide +kernel
theorem dX1_mixInto_26 : decode cX1_mixInto 26 = .ok (.lstore_n 1, 1) := by decide +kernel
theorem dX1_mixInto_27 : decode cX1_mixInto 27 = .ok (.ldc2_w 55, 3) := by decide +kernel
theorem dX1_mixInto_30 : decode cX1_mixInto 30 = .ok (.lload_n 1, 1) := by decide +kernel
theorem dX1_mixInto_31 : decode cX1_mixInto 31 = .ok (.lmul, 1) := by decide +kernel
theorem dX1_mixInto_32 : decode cX1_mixInto 32 = .ok (.aload_n 0, 1) := by decide +kernel
theorem dX1_mixInto_33 : decode cX1_mixInto 33 = .ok (.getfield 15, 3) := by decide +kernel
theorem dX1_mixInto_36 : decode cX1_mixInto 36 = .ok (.iload_n 3, 1) := by decide +kernel
theorem dX1_mixInto_37 : decode cX1_mixInto 37 = .ok (.iaload, 1) := by decide +kernel
theorem dX1_mixInto_38 : decode cX1_mixInto 38 = .ok (.invokestatic 60, 3) := by decide +kernel
theorem dX1_mixInto_41 : decode cX1_mixInto 41 = .ok (.i2l, 1) := by decide +kernel
theorem dX1_mixInto_42 : decode cX1_mixInto 42 = .ok (.ladd, 1) := by decide +kernel
theorem dX1_mixInto_43 : decode cX1_mixInto 43 = .ok (.lstore_n 1, 1) := by decide +kernel
theorem dX1_mixInto_44 : decode cX1_mixInto 44 = .ok (.ldc2_w 55, 3) := by decide +kernel
theorem dX1_mixInto_47 : decode cX1_mixInto 47 = .ok (.lload_n 1, 1) := by decide +kernel
theorem dX1_mixInto_48 : decode cX1_mixInto 48 = .ok (.lmul, 1) := by decide +kernel
theorem dX1_mixInto_49 : decode cX1_mixInto 49 = .ok (.aload_n 0, 1) := by decide +kernel
theorem dX1_mixInto_50 : decode cX1_mixInto 50 = .ok (.getfield 19, 3) := by decide +kernel
theorem dX1_mixInto_53 : decode cX1_mixInto 53 = .ok (.iload_n 3, 1) := by decide +kernel
theorem dX1_mixInto_54 : decode cX1_mixInto 54 = .ok (.iaload, 1) := by decide +kernel
theorem dX1_mixInto_55 : decode cX1_mixInto 55 = .ok (.i2l, 1) := by decide +kernel
theorem dX1_mixInto_56 : decode cX1_mixInto 56 = .ok (.ladd, 1) := by decide +kernel
theorem dX1_mixInto_57 : decode cX1_mixInto 57 = .ok (.lstore_n 1, 1) := by decide +kernel
theorem dX1_mixInto_58 : decode cX1_mixInto 58 = .ok (.iinc 3 1, 3) := by decide +kernel
theorem dX1_mixInto_61 : decode cX1_mixInto 61 = .ok (.goto (-59), 3) := by decide +kernel
theorem dX1_mixInto_64 : decode cX1_mixInto 64 = .ok (.lload_n 1, 1) := by decide +kernel
theorem dX1_mixInto_65 : decode cX1_mixInto 65 = .ok (.lreturn, 1) := by decide +kernel
theorem dX2_init_0 : decode cX2_init 0 = .ok (.aload_n 0, 1) := by decide +kernel
theorem dX2_init_1 : decode cX2_init 1 = .ok (.invokespecial 3, 3) := by decide +kernel
theorem dX2_init_4 : decode cX2_init 4 = .ok (.aload_n 0, 1) := by decide +kernel
theorem dX2_init_5 : decode cX2_init 5 = .ok (.iconst 0, 1) := by decide +kernel
theorem dX2_init_6 : decode cX2_init 6 = .ok (.putfield 9, 3) := by decide +kernel
theorem dX2_init_9 : decode cX2_init 9 = .ok (.aload_n 0, 1) := by decide +kernel
theorem dX2_init_10 : decode cX2_init 10 = .ok (.bipush 6, 2) := by decide +kernel
theorem dX2_init_12 : decode cX2_init 12 = .ok (.newarray .int, 2) := by decide +kernel
theorem dX2_init_14 : decode cX2_init 14 = .ok (.putfield 15, 3) := by decide +kernel
theorem dX2_init_17 : decode cX2_init 17 = .ok (.return_, 1) := by decide +kernel
theorem dX2_empty_0 : decode cX2_empty 0 = .ok (.aload_n 0, 1) := by decide +kernel
theorem dX2_empty_1 : decode cX2_empty 1 = .ok (.iconst 0, 1) := by decide +kernel
theorem dX2_empty_2 : decode cX2_empty 2 = .ok (.putfield 9, 3) := by decide +kernel
theorem dX2_empty_5 : decode cX2_empty 5 = .ok (.return_, 1) := by decide +kernel
theorem dX2_word_0 : decode cX2_word 0 = .ok (.iload_n 1, 1) := by decide +kernel
theorem dX2_word_1 : decode cX2_word 1 = .ok (.ifCond .lt 20, 3) := by decide +kernel
theorem dX2_word_4 : decode cX2_word 4 = .ok (.iload_n 1, 1) := by decide +kernel
theorem dX2_word_5 : decode cX2_word 5 = .ok (.aload_n 0, 1) := by decide +kernel
theorem dX2_word_6 : decode cX2_word 6 = .ok (.getfield 9, 3) := by decide +kernel
theorem dX2_word_9 : decode cX2_word 9 = .ok (.if_icmp .ge 12, 3) := by decide +kernel
theorem dX2_word_12 : decode cX2_word 12 = .ok (.aload_n 0, 1) := by decide +kernel
theorem dX2_word_13 : decode cX2_word 13 = .ok (.getfield 15, 3) := by decide +kernel
theorem dX2_word_16 : decode cX2_word 16 = .ok (.iload_n 1, 1) := by decide +kernel
theorem dX2_word_17 : decode cX2_word 17 = .ok (.iaload, 1) := by decide +kernel
theorem dX2_word_18 : decode cX2_word 18 = .ok (.goto 4, 3) := by decide +kernel
theorem dX2_word_21 : decode cX2_word 21 = .ok (.iconst 0, 1) := by decide +kernel
theorem dX2_word_22 : decode cX2_word 22 = .ok (.ireturn, 1) := by decide +kernel
theorem dX2_remember_0 : decode cX2_remember 0 = .ok (.iconst 0, 1) := by decide +kernel
theorem dX2_remember_1 : decode cX2_remember 1 = .ok (.istore_n 2, 1) := by decide +kernel
theorem dX2_remember_2 : decode cX2_remember 2 = .ok (.iload_n 2, 1) := by decide +kernel
theorem dX2_remember_3 : decode cX2_remember 3 = .ok (.aload_n 0, 1) := by decide +kernel
theorem dX2_remember_4 : decode cX2_remember 4 = .ok (.getfield 9, 3) := by decide +kernel
theorem dX2_remember_7 : decode cX2_remember 7 = .ok (.if_icmp .ge 19, 3) := by decide +kernel
theorem dX2_remember_10 : decode cX2_remember 10 = .ok (.aload_n 0, 1) := by decide +kernel
theorem dX2_remember_11 : decode cX2_remember 11 = .ok (.getfield 15, 3) := by decide +kernel
theorem dX2_remember_14 : decode cX2_remember 14 = .ok (.iload_n 2, 1) := by decide +kernel
theorem dX2_remember_15 : decode cX2_remember 15 = .ok (.iaload, 1) := by decide +kernel
theorem dX2_remember_16 : decode cX2_remember 16 = .ok (.iload_n 1, 1) := by decide +kernel
theorem dX2_remember_17 : decode cX2_remember 17 = .ok (.if_icmp .eq 9, 3) := by decide +kernel
theorem dX2_remember_20 : decode cX2_remember 20 = .ok (.iinc 2 1, 3) := by decide +kernel
theorem dX2_remember_23 : decode cX2_remember 23 = .ok (.goto (-21), 3) := by decide +kernel
theorem dX2_remember_26 : decode cX2_remember 26 = .ok (.iload_n 2, 1) := by decide +kernel
theorem dX2_remember_27 : decode cX2_remember 27 = .ok (.aload_n 0, 1) := by decide +kernel
theorem dX2_remember_28 : decode cX2_remember 28 = .ok (.getfield 9, 3) := by decide +kernel
theorem dX2_remember_31 : decode cX2_remember 31 = .ok (.if_icmp .ne 22, 3) := by decide +kernel
theorem dX2_remember_34 : decode cX2_remember 34 = .ok (.aload_n 0, 1) := by decide +kernel
theorem dX2_remember_35 : decode cX2_remember 35 = .ok (.getfield 9, 3) := by decide +kernel
theorem dX2_remember_38 : decode cX2_remember 38 = .ok (.bipush 6, 2) := by decide +kernel
theorem dX2_remember_40 : decode cX2_remember 40 = .ok (.if_icmp .ge 13, 3) := by decide +kernel
theorem dX2_remember_43 : decode cX2_remember 43 = .ok (.aload_n 0, 1) := by decide +kernel
theorem dX2_remember_44 : decode cX2_remember 44 = .ok (.dup, 1) := by decide +kernel
theorem dX2_remember_45 : decode cX2_remember 45 = .ok (.getfield 9, 3) := by decide +kernel
theorem dX2_remember_48 : decode cX2_remember 48 = .ok (.iconst 1, 1) := by decide +kernel
theorem dX2_remember_49 : decode cX2_remember 49 = .ok (.iadd, 1) := by decide +kernel
theorem dX2_remember_50 : decode cX2_remember 50 = .ok (.putfield 9, 3) := by decide +kernel
theorem dX2_remember_53 : decode cX2_remember 53 = .ok (.iload_n 2, 1) := by decide +kernel
theorem dX2_remember_54 : decode cX2_remember 54 = .ok (.iconst 5, 1) := by decide +kernel
theorem dX2_remember_55 : decode cX2_remember 55 = .ok (.invokestatic 19, 3) := by decide +kernel
theorem dX2_remember_58 : decode cX2_remember 58 = .ok (.istore_n 3, 1) := by decide +kernel
theorem dX2_remember_59 : decode cX2_remember 59 = .ok (.iload_n 3, 1) := by decide +kernel
theorem dX2_remember_60 : decode cX2_remember 60 = .ok (.ifCond .le 23, 3) := by decide +kernel
theorem dX2_remember_63 : decode cX2_remember 63 = .ok (.aload_n 0, 1) := by decide +kernel
theorem dX2_remember_64 : decode cX2_remember 64 = .ok (.getfield 15, 3) := by decide +kernel
theorem dX2_remember_67 : decode cX2_remember 67 = .ok (.iload_n 3, 1) := by decide +kernel
theorem dX2_remember_68 : decode cX2_remember 68 = .ok (.aload_n 0, 1) := by decide +kernel
theorem dX2_remember_69 : decode cX2_remember 69 = .ok (.getfield 15, 3) := by decide +kernel
theorem dX2_remember_72 : decode cX2_remember 72 = .ok (.iload_n 3, 1) := by decide +kernel
theorem dX2_remember_73 : decode cX2_remember 73 = .ok (.iconst 1, 1) := by decide +kernel
theorem dX2_remember_74 : decode cX2_remember 74 = .ok (.isub, 1) := by decide +kernel
theorem dX2_remember_75 : decode cX2_remember 75 = .ok (.iaload, 1) := by decide +kernel
theorem dX2_remember_76 : decode cX2_remember 76 = .ok (.iastore, 1) := by decide +kernel
theorem dX2_remember_77 : decode cX2_remember 77 = .ok (.iinc 3 (-1), 3) := by decide +kernel
theorem dX2_remember_80 : decode cX2_remember 80 = .ok (.goto (-21), 3) := by decide +kernel
theorem dX2_remember_83 : decode cX2_remember 83 = .ok (.aload_n 0, 1) := by decide +kernel
theorem dX2_remember_84 : decode cX2_remember 84 = .ok (.getfield 15, 3) := by decide +kernel
theorem dX2_remember_87 : decode cX2_remember 87 = .ok (.iconst 0, 1) := by decide +kernel
theorem dX2_remember_88 : decode cX2_remember 88 = .ok (.iload_n 1, 1) := by decide +kernel
theorem dX2_remember_89 : decode cX2_remember 89 = .ok (.iastore, 1) := by decide +kernel
theorem dX2_remember_90 : decode cX2_remember 90 = .ok (.return_, 1) := by decide +kernel
set_option maxRecDepth 20000 in
theorem ggX2_mixInto_X6_figures : GoodIn wsX2_mixInto wsX6_figures := goodIn_r _ [7, 8, 9, 6, 10, 11, 12, 13] (by decide +kernel) (by decide +kernel)
set_option maxRecDepth 20000 in
theorem gX2_mixInto_X6_figures : GoodIn wsX2_mixInto (va_wsS RX2 27 yX6_figures wsX6_figures) := goodIn_app (goodIn_of _ (by decide +kernel)) ggX2_mixInto_X6_figures
set_option maxRecDepth 20000 in
theorem ggX2_mixInto_X6_length : GoodIn wsX2_mixInto wsX6_length := goodIn_r _ [10] (by decide +kernel) (by decide +kernel)
set_option maxRecDepth 20000 in
theorem gX2_mixInto_X6_length : GoodIn wsX2_mixInto (va_wsS RX2 33 yX6_length wsX6_length) := goodIn_app (goodIn_of _ (by decide +kernel)) ggX2_mixInto_X6_length
theorem dX2_mixInto_0 : decode cX2_mixInto 0 = .ok (.iconst 0, 1) := by decide +kernel
theorem dX2_mixInto_1 : decode cX2_mixInto 1 = .ok (.istore_n 3, 1) := by decide +kernel
theorem dX2_mixInto_2 : decode cX2_mixInto 2 = .ok (.iload_n 3, 1) := by decide +kernel
theorem dX2_mixInto_3 : decode cX2_mixInto 3 = .ok (.aload_n 0, 1) := by decide +kernel
theorem dX2_mixInto_4 : decode cX2_mixInto 4 = .ok (.getfield 9, 3) := by decide +kernel
theorem dX2_mixInto_7 : decode cX2_mixInto 7 = .ok (.if_icmp .ge 43, 3) := by decide +kernel
theorem dX2_mixInto_10 : decode cX2_mixInto 10 = .ok (.ldc2_w 25, 3) := by decide +kernel
theorem dX2_mixInto_13 : decode cX2_mixInto 13 = .ok (.lload_n 1, 1) := by decide +kernel
theorem dX2_mixInto_14 : decode cX2_mixInto 14 = .ok (.lmul, 1) := by decide +kernel
theorem dX2_mixInto_15 : decode cX2_mixInto 15 = .ok (.aload_n 0, 1) := by decide +kernel
theorem dX2_mixInto_16 : decode cX2_mixInto 16 = .ok (.getfield 15, 3) := by decide +kernel
theorem dX2_mixInto_19 : decode cX2_mixInto 19 = .ok (.iload_n 3, 1) := by decide +kernel
theorem dX2_mixInto_20 : decode cX2_mixInto 20 = .ok (.iaload, 1) := by decide +kernel
theorem dX2_mixInto_21 : decode cX2_mixInto 21 = .ok (.invokestatic 27, 3) := by decide +kernel
theorem dX2_mixInto_24 : decode cX2_mixInto 24 = .ok (.i2l, 1) := by decide +kernel
theorem dX2_mixInto_25 : decode cX2_mixInto 25 = .ok (.ladd, 1) := by decide +kernel
theorem dX2_mixInto_26 : decode cX2_mixInto 26 = .ok (.lstore_n 1, 1) := by decide +kernel
theorem dX2_mixInto_27 : decode cX2_mixInto 27 = .ok (.ldc2_w 25, 3) := by decide +kernel
theorem dX2_mixInto_30 : decode cX2_mixInto 30 = .ok (.lload_n 1, 1) := by decide +kernel
theorem dX2_mixInto_31 : decode cX2_mixInto 31 = .ok (.lmul, 1) := by decide +kernel
theorem dX2_mixInto_32 : decode cX2_mixInto 32 = .ok (.aload_n 0, 1) := by decide +kernel
theorem dX2_mixInto_33 : decode cX2_mixInto 33 = .ok (.getfield 15, 3) := by decide +kernel
theorem dX2_mixInto_36 : decode cX2_mixInto 36 = .ok (.iload_n 3, 1) := by decide +kernel
theorem dX2_mixInto_37 : decode cX2_mixInto 37 = .ok (.iaload, 1) := by decide +kernel
theorem dX2_mixInto_38 : decode cX2_mixInto 38 = .ok (.invokestatic 33, 3) := by decide +kernel
theorem dX2_mixInto_41 : decode cX2_mixInto 41 = .ok (.i2l, 1) := by decide +kernel
theorem dX2_mixInto_42 : decode cX2_mixInto 42 = .ok (.ladd, 1) := by decide +kernel
theorem dX2_mixInto_43 : decode cX2_mixInto 43 = .ok (.lstore_n 1, 1) := by decide +kernel
theorem dX2_mixInto_44 : decode cX2_mixInto 44 = .ok (.iinc 3 1, 3) := by decide +kernel
theorem dX2_mixInto_47 : decode cX2_mixInto 47 = .ok (.goto (-45), 3) := by decide +kernel
theorem dX2_mixInto_50 : decode cX2_mixInto 50 = .ok (.lload_n 1, 1) := by decide +kernel
theorem dX2_mixInto_51 : decode cX2_mixInto 51 = .ok (.lreturn, 1) := by decide +kernel
theorem dX3_init_0 : decode cX3_init 0 = .ok (.aload_n 0, 1) := by decide +kernel
theorem dX3_init_1 : decode cX3_init 1 = .ok (.invokespecial 3, 3) := by decide +kernel
theorem dX3_init_4 : decode cX3_init 4 = .ok (.aload_n 0, 1) := by decide +kernel
theorem dX3_init_5 : decode cX3_init 5 = .ok (.iconst 0, 1) := by decide +kernel
theorem dX3_init_6 : decode cX3_init 6 = .ok (.putfield 9, 3) := by decide +kernel
theorem dX3_init_9 : decode cX3_init 9 = .ok (.aload_n 0, 1) := by decide +kernel
theorem dX3_init_10 : decode cX3_init 10 = .ok (.bipush 48, 2) := by decide +kernel
theorem dX3_init_12 : decode cX3_init 12 = .ok (.newarray .int, 2) := by decide +kernel
theorem dX3_init_14 : decode cX3_init 14 = .ok (.putfield 15, 3) := by decide +kernel
theorem dX3_init_17 : decode cX3_init 17 = .ok (.aload_n 0, 1) := by decide +kernel
theorem dX3_init_18 : decode cX3_init 18 = .ok (.bipush 48, 2) := by decide +kernel
theorem dX3_init_20 : decode cX3_init 20 = .ok (.newarray .int, 2) := by decide +kernel
theorem dX3_init_22 : decode cX3_init 22 = .ok (.putfield 19, 3) := by decide +kernel
theorem dX3_init_25 : decode cX3_init 25 = .ok (.aload_n 0, 1) := by decide +kernel
theorem dX3_init_26 : decode cX3_init 26 = .ok (.bipush 48, 2) := by decide +kernel
theorem dX3_init_28 : decode cX3_init 28 = .ok (.newarray .int, 2) := by decide +kernel
theorem dX3_init_30 : decode cX3_init 30 = .ok (.putfield 22, 3) := by decide +kernel
theorem dX3_init_33 : decode cX3_init 33 = .ok (.aload_n 0, 1) := by decide +kernel
theorem dX3_init_34 : decode cX3_init 34 = .ok (.bipush 48, 2) := by decide +kernel
theorem dX3_init_36 : decode cX3_init 36 = .ok (.newarray .int, 2) := by decide +kernel
theorem dX3_init_38 : decode cX3_init 38 = .ok (.putfield 25, 3) := by decide +kernel
theorem dX3_init_41 : decode cX3_init 41 = .ok (.aload_n 0, 1) := by decide +kernel
theorem dX3_init_42 : decode cX3_init 42 = .ok (.bipush 48, 2) := by decide +kernel
theorem dX3_init_44 : decode cX3_init 44 = .ok (.newarray .int, 2) := by decide +kernel
theorem dX3_init_46 : decode cX3_init 46 = .ok (.putfield 28, 3) := by decide +kernel
theorem dX3_init_49 : decode cX3_init 49 = .ok (.aload_n 0, 1) := by decide +kernel
theorem dX3_init_50 : decode cX3_init 50 = .ok (.bipush 48, 2) := by decide +kernel
theorem dX3_init_52 : decode cX3_init 52 = .ok (.newarray .int, 2) := by decide +kernel
theorem dX3_init_54 : decode cX3_init 54 = .ok (.putfield 31, 3) := by decide +kernel
theorem dX3_init_57 : decode cX3_init 57 = .ok (.return_, 1) := by decide +kernel
set_option maxRecDepth 20000 in
theorem ggX3_build_X3_grow : GoodIn wsX3_build wsX3_grow := goodIn_r _ [7, 1, 8, 9, 10, 11, 12, 13, 14, 15, 16, 17, 18, 19, 20, 21, 22, 23, 24, 25, 26, 27, 28, 29, 30, 31, 32, 33, 34, 35, 36, 37, 38, 39, 40, 41, 42, 43, 44, 45, 46, 3, 4, 5, 6, 47, 48, 49, 50, 51, 52, 53, 54, 55, 56] (by decide +kernel) (by decide +kernel)
set_option maxRecDepth 20000 in
theorem gX3_build_X3_grow : GoodIn wsX3_build (wsV RX3 37 RX3 yX3_grow wsX3_grow) := goodIn_app (goodIn_of _ (by decide +kernel)) ggX3_build_X3_grow
theorem dX3_build_0 : decode cX3_build 0 = .ok (.aload_n 0, 1) := by decide +kernel
theorem dX3_build_1 : decode cX3_build 1 = .ok (.iconst 0, 1) := by decide +kernel
theorem dX3_build_2 : decode cX3_build 2 = .ok (.putfield 9, 3) := by decide +kernel
theorem dX3_build_5 : decode cX3_build 5 = .ok (.aload_n 0, 1) := by decide +kernel
theorem dX3_build_6 : decode cX3_build 6 = .ok (.aload_n 1, 1) := by decide +kernel
theorem dX3_build_7 : decode cX3_build 7 = .ok (.iconst 0, 1) := by decide +kernel
theorem dX3_build_8 : decode cX3_build 8 = .ok (.aload_n 1, 1) := by decide +kernel
theorem dX3_build_9 : decode cX3_build 9 = .ok (.getfield 34, 3) := by decide +kernel
theorem dX3_build_12 : decode cX3_build 12 = .ok (.iconst (-1), 1) := by decide +kernel
theorem dX3_build_13 : decode cX3_build 13 = .ok (.iconst 0, 1) := by decide +kernel
theorem dX3_build_14 : decode cX3_build 14 = .ok (.invokevirtual 37, 3) := by decide +kernel
theorem dX3_build_17 : decode cX3_build 17 = .ok (.return_, 1) := by decide +kernel
set_option maxRecDepth 20000 in
theorem ggX3_grow_X1_word : GoodIn wsX3_grow wsX1_word := goodIn_r _ [12, 13, 14, 52, 53, 54] (by decide +kernel) (by decide +kernel)
set_option maxRecDepth 20000 in
theorem gX3_grow_X1_word : GoodIn wsX3_grow (wsV RX3 41 RX1 yX1_word wsX1_word) := goodIn_app (goodIn_of _ (by decide +kernel)) ggX3_grow_X1_word
set_option maxRecDepth 20000 in
theorem ggX3_grow_X6_sharedLength : GoodIn wsX3_grow wsX6_sharedLength := goodIn_r _ [18, 19, 20, 21, 22, 23, 24, 25, 26, 27, 28, 29, 17, 30] (by decide +kernel) (by decide +kernel)
set_option maxRecDepth 20000 in
theorem gX3_grow_X6_sharedLength : GoodIn wsX3_grow (va_wsS RX3 45 yX6_sharedLength wsX6_sharedLength) := goodIn_app (goodIn_of _ (by decide +kernel)) ggX3_grow_X6_sharedLength
set_option maxRecDepth 20000 in
theorem ggX3_grow_X6_head : GoodIn wsX3_grow wsX6_head := goodIn_r _ [33, 34, 35, 17, 36] (by decide +kernel) (by decide +kernel)
set_option maxRecDepth 20000 in
theorem gX3_grow_X6_head : GoodIn wsX3_grow (va_wsS RX3 51 yX6_head wsX6_head) := goodIn_app (goodIn_of _ (by decide +kernel)) ggX3_grow_X6_head
set_option maxRecDepth 20000 in
theorem ggX3_grow_X6_length : GoodIn wsX3_grow wsX6_length := goodIn_r _ [30] (by decide +kernel) (by decide +kernel)
set_option maxRecDepth 20000 in
theorem gX3_grow_X6_length : GoodIn wsX3_grow (va_wsS RX3 54 yX6_length wsX6_length) := goodIn_app (goodIn_of _ (by decide +kernel)) ggX3_grow_X6_length
set_option maxRecDepth 20000 in
theorem ggX3_grow_X6_figure : GoodIn wsX3_grow wsX6_figure := goodIn_r _ [40, 34, 35, 17, 36] (by decide +kernel) (by decide +kernel)
set_option maxRecDepth 20000 in
theorem gX3_grow_X6_figure : GoodIn wsX3_grow (va_wsS RX3 57 yX6_figure wsX6_figure) := goodIn_app (goodIn_of _ (by decide +kernel)) ggX3_grow_X6_figure
set_option maxRecDepth 20000 in
theorem ggX3_grow_X3_grow : GoodIn wsX3_grow wsX3_grow := goodIn_r _ [0, 1, 2, 3, 4, 5, 6, 7, 8, 9, 10, 11, 12, 13, 14, 15, 16, 17, 18, 19, 20, 21, 22, 23, 24, 25, 26, 27, 28, 29, 30, 31, 32, 33, 34, 35, 36, 37, 38, 39, 40, 41, 42, 43, 44, 45, 46, 47, 48, 49, 50, 51, 52, 53, 54] (by decide +kernel) (by decide +kernel)
set_option maxRecDepth 20000 in
theorem gX3_grow_X3_grow : GoodIn wsX3_grow (wsV RX3 37 RX3 yX3_grow wsX3_grow) := goodIn_app (goodIn_of _ (by decide +kernel)) ggX3_grow_X3_grow
theorem dX3_grow_0 : decode cX3_grow 0 = .ok (.iload_n 3, 1) := by decide +kernel
theorem dX3_grow_1 : decode cX3_grow 1 = .ok (.iload_n 2, 1) := by decide +kernel
theorem dX3_grow_2 : decode cX3_grow 2 = .ok (.isub, 1) := by decide +kernel
theorem dX3_grow_3 : decode cX3_grow 3 = .ok (.iconst 2, 1) := by decide +kernel
theorem dX3_grow_4 : decode cX3_grow 4 = .ok (.if_icmp .lt 19, 3) := by decide +kernel
theorem dX3_grow_7 : decode cX3_grow 7 = .ok (.iload 5, 2) := by decide +kernel
theorem dX3_grow_9 : decode cX3_grow 9 = .ok (.bipush 6, 2) := by decide +kernel
theorem dX3_grow_11 : decode cX3_grow 11 = .ok (.if_icmp .ge 12, 3) := by decide +kernel
theorem dX3_grow_14 : decode cX3_grow 14 = .ok (.aload_n 0, 1) := by decide +kernel
theorem dX3_grow_15 : decode cX3_grow 15 = .ok (.getfield 9, 3) := by decide +kernel
theorem dX3_grow_18 : decode cX3_grow 18 = .ok (.bipush 48, 2) := by decide +kernel
theorem dX3_grow_20 : decode cX3_grow 20 = .ok (.if_icmp .lt 4, 3) := by decide +kernel
theorem dX3_grow_23 : decode cX3_grow 23 = .ok (.return_, 1) := by decide +kernel
theorem dX3_grow_24 : decode cX3_grow 24 = .ok (.aload_n 1, 1) := by decide +kernel
theorem dX3_grow_25 : decode cX3_grow 25 = .ok (.iload_n 2, 1) := by decide +kernel
theorem dX3_grow_26 : decode cX3_grow 26 = .ok (.invokevirtual 41, 3) := by decide +kernel
theorem dX3_grow_29 : decode cX3_grow 29 = .ok (.istore 6, 2) := by decide +kernel
theorem dX3_grow_31 : decode cX3_grow 31 = .ok (.iload 6, 2) := by decide +kernel
theorem dX3_grow_33 : decode cX3_grow 33 = .ok (.aload_n 1, 1) := by decide +kernel
theorem dX3_grow_34 : decode cX3_grow 34 = .ok (.iload_n 3, 1) := by decide +kernel
theorem dX3_grow_35 : decode cX3_grow 35 = .ok (.iconst 1, 1) := by decide +kernel
theorem dX3_grow_36 : decode cX3_grow 36 = .ok (.isub, 1) := by decide +kernel
theorem dX3_grow_37 : decode cX3_grow 37 = .ok (.invokevirtual 41, 3) := by decide +kernel
theorem dX3_grow_40 : decode cX3_grow 40 = .ok (.invokestatic 45, 3) := by decide +kernel
theorem dX3_grow_43 : decode cX3_grow 43 = .ok (.istore 7, 2) := by decide +kernel
theorem dX3_grow_45 : decode cX3_grow 45 = .ok (.aload_n 0, 1) := by decide +kernel
theorem dX3_grow_46 : decode cX3_grow 46 = .ok (.getfield 9, 3) := by decide +kernel
theorem dX3_grow_49 : decode cX3_grow 49 = .ok (.istore 8, 2) := by decide +kernel
theorem dX3_grow_51 : decode cX3_grow 51 = .ok (.aload_n 0, 1) := by decide +kernel
theorem dX3_grow_52 : decode cX3_grow 52 = .ok (.dup, 1) := by decide +kernel
theorem dX3_grow_53 : decode cX3_grow 53 = .ok (.getfield 9, 3) := by decide +kernel
theorem dX3_grow_56 : decode cX3_grow 56 = .ok (.iconst 1, 1) := by decide +kernel
theorem dX3_grow_57 : decode cX3_grow 57 = .ok (.iadd, 1) := by decide +kernel
theorem dX3_grow_58 : decode cX3_grow 58 = .ok (.putfield 9, 3) := by decide +kernel
theorem dX3_grow_61 : decode cX3_grow 61 = .ok (.aload_n 0, 1) := by decide +kernel
theorem dX3_grow_62 : decode cX3_grow 62 = .ok (.getfield 15, 3) := by decide +kernel
theorem dX3_grow_65 : decode cX3_grow 65 = .ok (.iload 8, 2) := by decide +kernel
theorem dX3_grow_67 : decode cX3_grow 67 = .ok (.iload 6, 2) := by decide +kernel
theorem dX3_grow_69 : decode cX3_grow 69 = .ok (.iload 7, 2) := by decide +kernel
theorem dX3_grow_71 : decode cX3_grow 71 = .ok (.invokestatic 51, 3) := by decide +kernel
theorem dX3_grow_74 : decode cX3_grow 74 = .ok (.iastore, 1) := by decide +kernel
theorem dX3_grow_75 : decode cX3_grow 75 = .ok (.aload_n 0, 1) := by decide +kernel
theorem dX3_grow_76 : decode cX3_grow 76 = .ok (.getfield 22, 3) := by decide +kernel
theorem dX3_grow_79 : decode cX3_grow 79 = .ok (.iload 8, 2) := by decide +kernel
theorem dX3_grow_81 : decode cX3_grow 81 = .ok (.iload 7, 2) := by decide +kernel
theorem dX3_grow_83 : decode cX3_grow 83 = .ok (.iload 4, 2) := by decide +kernel
theorem dX3_grow_85 : decode cX3_grow 85 = .ok (.isub, 1) := by decide +kernel
theorem dX3_grow_86 : decode cX3_grow 86 = .ok (.iconst 1, 1) := by decide +kernel
theorem dX3_grow_87 : decode cX3_grow 87 = .ok (.isub, 1) := by decide +kernel
theorem dX3_grow_88 : decode cX3_grow 88 = .ok (.iastore, 1) := by decide +kernel
theorem dX3_grow_89 : decode cX3_grow 89 = .ok (.aload_n 0, 1) := by decide +kernel
theorem dX3_grow_90 : decode cX3_grow 90 = .ok (.getfield 25, 3) := by decide +kernel
theorem dX3_grow_93 : decode cX3_grow 93 = .ok (.iload 8, 2) := by decide +kernel
theorem dX3_grow_95 : decode cX3_grow 95 = .ok (.iload 5, 2) := by decide +kernel
theorem dX3_grow_97 : decode cX3_grow 97 = .ok (.iconst 1, 1) := by decide +kernel
theorem dX3_grow_98 : decode cX3_grow 98 = .ok (.iadd, 1) := by decide +kernel
theorem dX3_grow_99 : decode cX3_grow 99 = .ok (.iastore, 1) := by decide +kernel
theorem dX3_grow_100 : decode cX3_grow 100 = .ok (.aload_n 0, 1) := by decide +kernel
theorem dX3_grow_101 : decode cX3_grow 101 = .ok (.getfield 28, 3) := by decide +kernel
theorem dX3_grow_104 : decode cX3_grow 104 = .ok (.iload 8, 2) := by decide +kernel
theorem dX3_grow_106 : decode cX3_grow 106 = .ok (.iload_n 2, 1) := by decide +kernel
theorem dX3_grow_107 : decode cX3_grow 107 = .ok (.iastore, 1) := by decide +kernel
theorem dX3_grow_108 : decode cX3_grow 108 = .ok (.aload_n 0, 1) := by decide +kernel
theorem dX3_grow_109 : decode cX3_grow 109 = .ok (.getfield 31, 3) := by decide +kernel
theorem dX3_grow_112 : decode cX3_grow 112 = .ok (.iload 8, 2) := by decide +kernel
theorem dX3_grow_114 : decode cX3_grow 114 = .ok (.iload_n 3, 1) := by decide +kernel
theorem dX3_grow_115 : decode cX3_grow 115 = .ok (.iastore, 1) := by decide +kernel
theorem dX3_grow_116 : decode cX3_grow 116 = .ok (.aload_n 0, 1) := by decide +kernel
theorem dX3_grow_117 : decode cX3_grow 117 = .ok (.getfield 19, 3) := by decide +kernel
theorem dX3_grow_120 : decode cX3_grow 120 = .ok (.iload 8, 2) := by decide +kernel
theorem dX3_grow_122 : decode cX3_grow 122 = .ok (.iconst 0, 1) := by decide +kernel
theorem dX3_grow_123 : decode cX3_grow 123 = .ok (.iastore, 1) := by decide +kernel
theorem dX3_grow_124 : decode cX3_grow 124 = .ok (.iload 6, 2) := by decide +kernel
theorem dX3_grow_126 : decode cX3_grow 126 = .ok (.invokestatic 54, 3) := by decide +kernel
theorem dX3_grow_129 : decode cX3_grow 129 = .ok (.iload 7, 2) := by decide +kernel
theorem dX3_grow_131 : decode cX3_grow 131 = .ok (.if_icmp .ne 9, 3) := by decide +kernel
theorem dX3_grow_134 : decode cX3_grow 134 = .ok (.iload_n 2, 1) := by decide +kernel
theorem dX3_grow_135 : decode cX3_grow 135 = .ok (.iconst 1, 1) := by decide +kernel
theorem dX3_grow_136 : decode cX3_grow 136 = .ok (.iadd, 1) := by decide +kernel
theorem dX3_grow_137 : decode cX3_grow 137 = .ok (.goto 4, 3) := by decide +kernel
theorem dX3_grow_140 : decode cX3_grow 140 = .ok (.iload_n 2, 1) := by decide +kernel
theorem dX3_grow_141 : decode cX3_grow 141 = .ok (.istore 9, 2) := by decide +kernel
theorem dX3_grow_143 : decode cX3_grow 143 = .ok (.iload 9, 2) := by decide +kernel
theorem dX3_grow_145 : decode cX3_grow 145 = .ok (.iconst 1, 1) := by decide +kernel
theorem dX3_grow_146 : decode cX3_grow 146 = .ok (.iadd, 1) := by decide +kernel
theorem dX3_grow_147 : decode cX3_grow 147 = .ok (.istore 10, 2) := by decide +kernel
theorem dX3_grow_149 : decode cX3_grow 149 = .ok (.iload 10, 2) := by decide +kernel
theorem dX3_grow_151 : decode cX3_grow 151 = .ok (.iload_n 3, 1) := by decide +kernel
theorem dX3_grow_152 : decode cX3_grow 152 = .ok (.if_icmp .gt 77, 3) := by decide +kernel
theorem dX3_grow_155 : decode cX3_grow 155 = .ok (.aload_n 1, 1) := by decide +kernel
theorem dX3_grow_156 : decode cX3_grow 156 = .ok (.iload 9, 2) := by decide +kernel
theorem dX3_grow_158 : decode cX3_grow 158 = .ok (.invokevirtual 41, 3) := by decide +kernel
theorem dX3_grow_161 : decode cX3_grow 161 = .ok (.iload 7, 2) := by decide +kernel
theorem dX3_grow_163 : decode cX3_grow 163 = .ok (.invokestatic 57, 3) := by decide +kernel
theorem dX3_grow_166 : decode cX3_grow 166 = .ok (.istore 11, 2) := by decide +kernel
theorem dX3_grow_168 : decode cX3_grow 168 = .ok (.iload 10, 2) := by decide +kernel
theorem dX3_grow_170 : decode cX3_grow 170 = .ok (.iload_n 3, 1) := by decide +kernel
theorem dX3_grow_171 : decode cX3_grow 171 = .ok (.if_icmp .eq 19, 3) := by decide +kernel
theorem dX3_grow_174 : decode cX3_grow 174 = .ok (.aload_n 1, 1) := by decide +kernel
theorem dX3_grow_175 : decode cX3_grow 175 = .ok (.iload 10, 2) := by decide +kernel
theorem dX3_grow_177 : decode cX3_grow 177 = .ok (.invokevirtual 41, 3) := by decide +kernel
theorem dX3_grow_180 : decode cX3_grow 180 = .ok (.iload 7, 2) := by decide +kernel
theorem dX3_grow_182 : decode cX3_grow 182 = .ok (.invokestatic 57, 3) := by decide +kernel
theorem dX3_grow_185 : decode cX3_grow 185 = .ok (.iload 11, 2) := by decide +kernel
theorem dX3_grow_187 : decode cX3_grow 187 = .ok (.if_icmp .eq 36, 3) := by decide +kernel
theorem dX3_grow_190 : decode cX3_grow 190 = .ok (.aload_n 0, 1) := by decide +kernel
theorem dX3_grow_191 : decode cX3_grow 191 = .ok (.getfield 19, 3) := by decide +kernel
theorem dX3_grow_194 : decode cX3_grow 194 = .ok (.iload 8, 2) := by decide +kernel
theorem dX3_grow_196 : decode cX3_grow 196 = .ok (.dup2, 1) := by decide +kernel
theorem dX3_grow_197 : decode cX3_grow 197 = .ok (.iaload, 1) := by decide +kernel
theorem dX3_grow_198 : decode cX3_grow 198 = .ok (.iconst 1, 1) := by decide +kernel
theorem dX3_grow_199 : decode cX3_grow 199 = .ok (.iload 11, 2) := by decide +kernel
theorem dX3_grow_201 : decode cX3_grow 201 = .ok (.ishl, 1) := by decide +kernel
theorem dX3_grow_202 : decode cX3_grow 202 = .ok (.ior, 1) := by decide +kernel
theorem dX3_grow_203 : decode cX3_grow 203 = .ok (.iastore, 1) := by decide +kernel
theorem dX3_grow_204 : decode cX3_grow 204 = .ok (.aload_n 0, 1) := by decide +kernel
theorem dX3_grow_205 : decode cX3_grow 205 = .ok (.aload_n 1, 1) := by decide +kernel
theorem dX3_grow_206 : decode cX3_grow 206 = .ok (.iload 9, 2) := by decide +kernel
theorem dX3_grow_208 : decode cX3_grow 208 = .ok (.iload 10, 2) := by decide +kernel
theorem dX3_grow_210 : decode cX3_grow 210 = .ok (.iload 7, 2) := by decide +kernel
theorem dX3_grow_212 : decode cX3_grow 212 = .ok (.iload 5, 2) := by decide +kernel
theorem dX3_grow_214 : decode cX3_grow 214 = .ok (.iconst 1, 1) := by decide +kernel
theorem dX3_grow_215 : decode cX3_grow 215 = .ok (.iadd, 1) := by decide +kernel
theorem dX3_grow_216 : decode cX3_grow 216 = .ok (.invokevirtual 37, 3) := by decide +kernel
theorem dX3_grow_219 : decode cX3_grow 219 = .ok (.iload 10, 2) := by decide +kernel
theorem dX3_grow_221 : decode cX3_grow 221 = .ok (.istore 9, 2) := by decide +kernel
theorem dX3_grow_223 : decode cX3_grow 223 = .ok (.iinc 10 1, 3) := by decide +kernel
theorem dX3_grow_226 : decode cX3_grow 226 = .ok (.goto (-77), 3) := by decide +kernel
theorem dX3_grow_229 : decode cX3_grow 229 = .ok (.return_, 1) := by decide +kernel
theorem dX3_placesFor_0 : decode cX3_placesFor 0 = .ok (.iload_n 0, 1) := by decide +kernel
theorem dX3_placesFor_1 : decode cX3_placesFor 1 = .ok (.iconst 2, 1) := by decide +kernel
theorem dX3_placesFor_2 : decode cX3_placesFor 2 = .ok (.if_icmp .gt 5, 3) := by decide +kernel
theorem dX3_placesFor_5 : decode cX3_placesFor 5 = .ok (.iconst 2, 1) := by decide +kernel
theorem dX3_placesFor_6 : decode cX3_placesFor 6 = .ok (.ireturn, 1) := by decide +kernel
theorem dX3_placesFor_7 : decode cX3_placesFor 7 = .ok (.iload_n 0, 1) := by decide +kernel
theorem dX3_placesFor_8 : decode cX3_placesFor 8 = .ok (.iconst 4, 1) := by decide +kernel
theorem dX3_placesFor_9 : decode cX3_placesFor 9 = .ok (.if_icmp .gt 7, 3) := by decide +kernel
theorem dX3_placesFor_12 : decode cX3_placesFor 12 = .ok (.iconst 4, 1) := by decide +kernel
theorem dX3_placesFor_13 : decode cX3_placesFor 13 = .ok (.goto 16, 3) := by decide +kernel
theorem dX3_placesFor_16 : decode cX3_placesFor 16 = .ok (.iload_n 0, 1) := by decide +kernel
theorem dX3_placesFor_17 : decode cX3_placesFor 17 = .ok (.bipush 8, 2) := by decide +kernel
theorem dX3_placesFor_19 : decode cX3_placesFor 19 = .ok (.if_icmp .gt 8, 3) := by decide +kernel
theorem dX3_placesFor_22 : decode cX3_placesFor 22 = .ok (.bipush 8, 2) := by decide +kernel
theorem dX3_placesFor_24 : decode cX3_placesFor 24 = .ok (.goto 5, 3) := by decide +kernel
theorem dX3_placesFor_27 : decode cX3_placesFor 27 = .ok (.bipush 16, 2) := by decide +kernel
theorem dX3_placesFor_29 : decode cX3_placesFor 29 = .ok (.ireturn, 1) := by decide +kernel
theorem dX3_isOfSize_0 : decode cX3_isOfSize 0 = .ok (.iload_n 0, 1) := by decide +kernel
theorem dX3_isOfSize_1 : decode cX3_isOfSize 1 = .ok (.iload_n 1, 1) := by decide +kernel
theorem dX3_isOfSize_2 : decode cX3_isOfSize 2 = .ok (.if_icmp .eq 23, 3) := by decide +kernel
theorem dX3_isOfSize_5 : decode cX3_isOfSize 5 = .ok (.iload_n 0, 1) := by decide +kernel
theorem dX3_isOfSize_6 : decode cX3_isOfSize 6 = .ok (.iconst 2, 1) := by decide +kernel
theorem dX3_isOfSize_7 : decode cX3_isOfSize 7 = .ok (.if_icmp .ne 8, 3) := by decide +kernel
theorem dX3_isOfSize_10 : decode cX3_isOfSize 10 = .ok (.iload_n 1, 1) := by decide +kernel
theorem dX3_isOfSize_11 : decode cX3_isOfSize 11 = .ok (.iconst 1, 1) := by decide +kernel
theorem dX3_isOfSize_12 : decode cX3_isOfSize 12 = .ok (.if_icmp .eq 13, 3) := by decide +kernel
theorem dX3_isOfSize_15 : decode cX3_isOfSize 15 = .ok (.iload_n 0, 1) := by decide +kernel
theorem dX3_isOfSize_16 : decode cX3_isOfSize 16 = .ok (.iconst 4, 1) := by decide +kernel
theorem dX3_isOfSize_17 : decode cX3_isOfSize 17 = .ok (.if_icmp .ne 12, 3) := by decide +kernel
theorem dX3_isOfSize_20 : decode cX3_isOfSize 20 = .ok (.iload_n 1, 1) := by decide +kernel
theorem dX3_isOfSize_21 : decode cX3_isOfSize 21 = .ok (.iconst 3, 1) := by decide +kernel
theorem dX3_isOfSize_22 : decode cX3_isOfSize 22 = .ok (.if_icmp .ne 7, 3) := by decide +kernel
theorem dX3_isOfSize_25 : decode cX3_isOfSize 25 = .ok (.iconst 1, 1) := by decide +kernel
theorem dX3_isOfSize_26 : decode cX3_isOfSize 26 = .ok (.goto 4, 3) := by decide +kernel
theorem dX3_isOfSize_29 : decode cX3_isOfSize 29 = .ok (.iconst 0, 1) := by decide +kernel
theorem dX3_isOfSize_30 : decode cX3_isOfSize 30 = .ok (.ireturn, 1) := by decide +kernel
theorem dX3_isSeat_0 : decode cX3_isSeat 0 = .ok (.iload_n 1, 1) := by decide +kernel
theorem dX3_isSeat_1 : decode cX3_isSeat 1 = .ok (.ifCond .lt 15, 3) := by decide +kernel
theorem dX3_isSeat_4 : decode cX3_isSeat 4 = .ok (.iload_n 1, 1) := by decide +kernel
theorem dX3_isSeat_5 : decode cX3_isSeat 5 = .ok (.aload_n 0, 1) := by decide +kernel
theorem dX3_isSeat_6 : decode cX3_isSeat 6 = .ok (.getfield 9, 3) := by decide +kernel
theorem dX3_isSeat_9 : decode cX3_isSeat 9 = .ok (.if_icmp .ge 7, 3) := by decide +kernel
theorem dX3_isSeat_12 : decode cX3_isSeat 12 = .ok (.iconst 1, 1) := by decide +kernel
theorem dX3_isSeat_13 : decode cX3_isSeat 13 = .ok (.goto 4, 3) := by decide +kernel
theorem dX3_isSeat_16 : decode cX3_isSeat 16 = .ok (.iconst 0, 1) := by decide +kernel
theorem dX3_isSeat_17 : decode cX3_isSeat 17 = .ok (.ireturn, 1) := by decide +kernel
set_option maxRecDepth 20000 in
theorem ggX3_childrenOf_X3_isSeat : GoodIn wsX3_childrenOf wsX3_isSeat := goodIn_r _ [6, 7, 8, 9, 10, 11, 12, 13, 14] (by decide +kernel) (by decide +kernel)
set_option maxRecDepth 20000 in
theorem gX3_childrenOf_X3_isSeat : GoodIn wsX3_childrenOf (wsV RX3 60 RX3 yX3_isSeat wsX3_isSeat) := goodIn_app (goodIn_of _ (by decide +kernel)) ggX3_childrenOf_X3_isSeat
theorem dX3_childrenOf_0 : decode cX3_childrenOf 0 = .ok (.aload_n 0, 1) := by decide +kernel
theorem dX3_childrenOf_1 : decode cX3_childrenOf 1 = .ok (.iload_n 1, 1) := by decide +kernel
theorem dX3_childrenOf_2 : decode cX3_childrenOf 2 = .ok (.invokevirtual 60, 3) := by decide +kernel
theorem dX3_childrenOf_5 : decode cX3_childrenOf 5 = .ok (.ifCond .eq 12, 3) := by decide +kernel
theorem dX3_childrenOf_8 : decode cX3_childrenOf 8 = .ok (.aload_n 0, 1) := by decide +kernel
theorem dX3_childrenOf_9 : decode cX3_childrenOf 9 = .ok (.getfield 19, 3) := by decide +kernel
theorem dX3_childrenOf_12 : decode cX3_childrenOf 12 = .ok (.iload_n 1, 1) := by decide +kernel
theorem dX3_childrenOf_13 : decode cX3_childrenOf 13 = .ok (.iaload, 1) := by decide +kernel
theorem dX3_childrenOf_14 : decode cX3_childrenOf 14 = .ok (.goto 4, 3) := by decide +kernel
theorem dX3_childrenOf_17 : decode cX3_childrenOf 17 = .ok (.iconst 0, 1) := by decide +kernel
theorem dX3_childrenOf_18 : decode cX3_childrenOf 18 = .ok (.ireturn, 1) := by decide +kernel
set_option maxRecDepth 20000 in
theorem ggX3_prefixOf_X3_isSeat : GoodIn wsX3_prefixOf wsX3_isSeat := goodIn_r _ [6, 7, 8, 9, 10, 11, 12, 13, 14] (by decide +kernel) (by decide +kernel)
set_option maxRecDepth 20000 in
theorem gX3_prefixOf_X3_isSeat : GoodIn wsX3_prefixOf (wsV RX3 60 RX3 yX3_isSeat wsX3_isSeat) := goodIn_app (goodIn_of _ (by decide +kernel)) ggX3_prefixOf_X3_isSeat
theorem dX3_prefixOf_0 : decode cX3_prefixOf 0 = .ok (.aload_n 0, 1) := by decide +kernel
theorem dX3_prefixOf_1 : decode cX3_prefixOf 1 = .ok (.iload_n 1, 1) := by decide +kernel
theorem dX3_prefixOf_2 : decode cX3_prefixOf 2 = .ok (.invokevirtual 60, 3) := by decide +kernel
theorem dX3_prefixOf_5 : decode cX3_prefixOf 5 = .ok (.ifCond .eq 12, 3) := by decide +kernel
theorem dX3_prefixOf_8 : decode cX3_prefixOf 8 = .ok (.aload_n 0, 1) := by decide +kernel
theorem dX3_prefixOf_9 : decode cX3_prefixOf 9 = .ok (.getfield 22, 3) := by decide +kernel
theorem dX3_prefixOf_12 : decode cX3_prefixOf 12 = .ok (.iload_n 1, 1) := by decide +kernel
theorem dX3_prefixOf_13 : decode cX3_prefixOf 13 = .ok (.iaload, 1) := by decide +kernel
theorem dX3_prefixOf_14 : decode cX3_prefixOf 14 = .ok (.goto 4, 3) := by decide +kernel
theorem dX3_prefixOf_17 : decode cX3_prefixOf 17 = .ok (.iconst 0, 1) := by decide +kernel
theorem dX3_prefixOf_18 : decode cX3_prefixOf 18 = .ok (.ireturn, 1) := by decide +kernel
set_option maxRecDepth 20000 in
theorem ggX3_keysBelow_X3_isSeat : GoodIn wsX3_keysBelow wsX3_isSeat := goodIn_r _ [7, 8, 9, 10, 11, 12, 13, 14, 15] (by decide +kernel) (by decide +kernel)
set_option maxRecDepth 20000 in
theorem gX3_keysBelow_X3_isSeat : GoodIn wsX3_keysBelow (wsV RX3 60 RX3 yX3_isSeat wsX3_isSeat) := goodIn_app (goodIn_of _ (by decide +kernel)) ggX3_keysBelow_X3_isSeat
theorem dX3_keysBelow_0 : decode cX3_keysBelow 0 = .ok (.aload_n 0, 1) := by decide +kernel
theorem dX3_keysBelow_1 : decode cX3_keysBelow 1 = .ok (.iload_n 1, 1) := by decide +kernel
theorem dX3_keysBelow_2 : decode cX3_keysBelow 2 = .ok (.invokevirtual 60, 3) := by decide +kernel
theorem dX3_keysBelow_5 : decode cX3_keysBelow 5 = .ok (.ifCond .eq 19, 3) := by decide +kernel
theorem dX3_keysBelow_8 : decode cX3_keysBelow 8 = .ok (.aload_n 0, 1) := by decide +kernel
theorem dX3_keysBelow_9 : decode cX3_keysBelow 9 = .ok (.getfield 31, 3) := by decide +kernel
theorem dX3_keysBelow_12 : decode cX3_keysBelow 12 = .ok (.iload_n 1, 1) := by decide +kernel
theorem dX3_keysBelow_13 : decode cX3_keysBelow 13 = .ok (.iaload, 1) := by decide +kernel
theorem dX3_keysBelow_14 : decode cX3_keysBelow 14 = .ok (.aload_n 0, 1) := by decide +kernel
theorem dX3_keysBelow_15 : decode cX3_keysBelow 15 = .ok (.getfield 28, 3) := by decide +kernel
theorem dX3_keysBelow_18 : decode cX3_keysBelow 18 = .ok (.iload_n 1, 1) := by decide +kernel
theorem dX3_keysBelow_19 : decode cX3_keysBelow 19 = .ok (.iaload, 1) := by decide +kernel
theorem dX3_keysBelow_20 : decode cX3_keysBelow 20 = .ok (.isub, 1) := by decide +kernel
theorem dX3_keysBelow_21 : decode cX3_keysBelow 21 = .ok (.goto 4, 3) := by decide +kernel
theorem dX3_keysBelow_24 : decode cX3_keysBelow 24 = .ok (.iconst 0, 1) := by decide +kernel
theorem dX3_keysBelow_25 : decode cX3_keysBelow 25 = .ok (.ireturn, 1) := by decide +kernel
set_option maxRecDepth 20000 in
theorem ggX3_hasEnd_X3_isSeat : GoodIn wsX3_hasEnd wsX3_isSeat := goodIn_r _ [7, 8, 16, 17, 18, 19, 20, 21, 22] (by decide +kernel) (by decide +kernel)
set_option maxRecDepth 20000 in
theorem gX3_hasEnd_X3_isSeat : GoodIn wsX3_hasEnd (wsV RX3 60 RX3 yX3_isSeat wsX3_isSeat) := goodIn_app (goodIn_of _ (by decide +kernel)) ggX3_hasEnd_X3_isSeat
set_option maxRecDepth 20000 in
theorem ggX3_hasEnd_X1_word : GoodIn wsX3_hasEnd wsX1_word := goodIn_r _ [13, 14, 15, 23, 24, 25] (by decide +kernel) (by decide +kernel)
set_option maxRecDepth 20000 in
theorem gX3_hasEnd_X1_word : GoodIn wsX3_hasEnd (wsV RX3 41 RX1 yX1_word wsX1_word) := goodIn_app (goodIn_of _ (by decide +kernel)) ggX3_hasEnd_X1_word
theorem dX3_hasEnd_0 : decode cX3_hasEnd 0 = .ok (.aload_n 0, 1) := by decide +kernel
theorem dX3_hasEnd_1 : decode cX3_hasEnd 1 = .ok (.iload_n 2, 1) := by decide +kernel
theorem dX3_hasEnd_2 : decode cX3_hasEnd 2 = .ok (.invokevirtual 60, 3) := by decide +kernel
theorem dX3_hasEnd_5 : decode cX3_hasEnd 5 = .ok (.ifCond .eq 26, 3) := by decide +kernel
theorem dX3_hasEnd_8 : decode cX3_hasEnd 8 = .ok (.aload_n 1, 1) := by decide +kernel
theorem dX3_hasEnd_9 : decode cX3_hasEnd 9 = .ok (.aload_n 0, 1) := by decide +kernel
theorem dX3_hasEnd_10 : decode cX3_hasEnd 10 = .ok (.getfield 28, 3) := by decide +kernel
theorem dX3_hasEnd_13 : decode cX3_hasEnd 13 = .ok (.iload_n 2, 1) := by decide +kernel
theorem dX3_hasEnd_14 : decode cX3_hasEnd 14 = .ok (.iaload, 1) := by decide +kernel
theorem dX3_hasEnd_15 : decode cX3_hasEnd 15 = .ok (.invokevirtual 41, 3) := by decide +kernel
theorem dX3_hasEnd_18 : decode cX3_hasEnd 18 = .ok (.aload_n 0, 1) := by decide +kernel
theorem dX3_hasEnd_19 : decode cX3_hasEnd 19 = .ok (.getfield 15, 3) := by decide +kernel
theorem dX3_hasEnd_22 : decode cX3_hasEnd 22 = .ok (.iload_n 2, 1) := by decide +kernel
theorem dX3_hasEnd_23 : decode cX3_hasEnd 23 = .ok (.iaload, 1) := by decide +kernel
theorem dX3_hasEnd_24 : decode cX3_hasEnd 24 = .ok (.if_icmp .ne 7, 3) := by decide +kernel
theorem dX3_hasEnd_27 : decode cX3_hasEnd 27 = .ok (.iconst 1, 1) := by decide +kernel
theorem dX3_hasEnd_28 : decode cX3_hasEnd 28 = .ok (.goto 4, 3) := by decide +kernel
theorem dX3_hasEnd_31 : decode cX3_hasEnd 31 = .ok (.iconst 0, 1) := by decide +kernel
theorem dX3_hasEnd_32 : decode cX3_hasEnd 32 = .ok (.ireturn, 1) := by decide +kernel
set_option maxRecDepth 20000 in
theorem ggX3_placesOf_X3_isSeat : GoodIn wsX3_placesOf wsX3_isSeat := goodIn_r _ [6, 7, 18, 19, 20, 21, 22, 23, 24] (by decide +kernel) (by decide +kernel)
set_option maxRecDepth 20000 in
theorem gX3_placesOf_X3_isSeat : GoodIn wsX3_placesOf (wsV RX3 60 RX3 yX3_isSeat wsX3_isSeat) := goodIn_app (goodIn_of _ (by decide +kernel)) ggX3_placesOf_X3_isSeat
set_option maxRecDepth 20000 in
theorem ggX3_placesOf_J6_bitCount_0f7a4 : GoodIn wsX3_placesOf wsJ6_bitCount_0f7a4 := goodIn_r _ [11, 12, 13, 14] (by decide +kernel) (by decide +kernel)
set_option maxRecDepth 20000 in
theorem gX3_placesOf_J6_bitCount_0f7a4 : GoodIn wsX3_placesOf (va_wsS RX3 64 yJ6_bitCount_0f7a4 wsJ6_bitCount_0f7a4) := goodIn_app (goodIn_of _ (by decide +kernel)) ggX3_placesOf_J6_bitCount_0f7a4
set_option maxRecDepth 20000 in
theorem ggX3_placesOf_X3_placesFor : GoodIn wsX3_placesOf wsX3_placesFor := goodIn_r _ [17] (by decide +kernel) (by decide +kernel)
set_option maxRecDepth 20000 in
theorem gX3_placesOf_X3_placesFor : GoodIn wsX3_placesOf (va_wsS RX3 69 yX3_placesFor wsX3_placesFor) := goodIn_app (goodIn_of _ (by decide +kernel)) ggX3_placesOf_X3_placesFor
theorem dX3_placesOf_0 : decode cX3_placesOf 0 = .ok (.aload_n 0, 1) := by decide +kernel
theorem dX3_placesOf_1 : decode cX3_placesOf 1 = .ok (.iload_n 1, 1) := by decide +kernel
theorem dX3_placesOf_2 : decode cX3_placesOf 2 = .ok (.invokevirtual 60, 3) := by decide +kernel
theorem dX3_placesOf_5 : decode cX3_placesOf 5 = .ok (.ifCond .eq 18, 3) := by decide +kernel
theorem dX3_placesOf_8 : decode cX3_placesOf 8 = .ok (.aload_n 0, 1) := by decide +kernel
theorem dX3_placesOf_9 : decode cX3_placesOf 9 = .ok (.getfield 19, 3) := by decide +kernel
theorem dX3_placesOf_12 : decode cX3_placesOf 12 = .ok (.iload_n 1, 1) := by decide +kernel
theorem dX3_placesOf_13 : decode cX3_placesOf 13 = .ok (.iaload, 1) := by decide +kernel
theorem dX3_placesOf_14 : decode cX3_placesOf 14 = .ok (.invokestatic 64, 3) := by decide +kernel
theorem dX3_placesOf_17 : decode cX3_placesOf 17 = .ok (.invokestatic 69, 3) := by decide +kernel
theorem dX3_placesOf_20 : decode cX3_placesOf 20 = .ok (.goto 4, 3) := by decide +kernel
theorem dX3_placesOf_23 : decode cX3_placesOf 23 = .ok (.iconst 0, 1) := by decide +kernel
theorem dX3_placesOf_24 : decode cX3_placesOf 24 = .ok (.ireturn, 1) := by decide +kernel
set_option maxRecDepth 20000 in
theorem ggX3_sizeOf_X3_placesOf : GoodIn wsX3_sizeOf wsX3_placesOf := goodIn_r _ [5, 6, 7, 8, 9, 4, 10, 11, 12, 13, 14, 15, 16, 17, 18, 19, 20, 21, 22, 23, 24, 25, 26, 27, 28] (by decide +kernel) (by decide +kernel)
set_option maxRecDepth 20000 in
theorem gX3_sizeOf_X3_placesOf : GoodIn wsX3_sizeOf (wsV RX3 72 RX3 yX3_placesOf wsX3_placesOf) := goodIn_app (goodIn_of _ (by decide +kernel)) ggX3_sizeOf_X3_placesOf
theorem dX3_sizeOf_0 : decode cX3_sizeOf 0 = .ok (.aload_n 0, 1) := by decide +kernel
theorem dX3_sizeOf_1 : decode cX3_sizeOf 1 = .ok (.iload_n 1, 1) := by decide +kernel
theorem dX3_sizeOf_2 : decode cX3_sizeOf 2 = .ok (.invokevirtual 72, 3) := by decide +kernel
theorem dX3_sizeOf_5 : decode cX3_sizeOf 5 = .ok (.lookupswitch 41 #[(2, 35), (4, 37), (8, 39)], 35) := by decide +kernel
theorem dX3_sizeOf_40 : decode cX3_sizeOf 40 = .ok (.iconst 1, 1) := by decide +kernel
theorem dX3_sizeOf_41 : decode cX3_sizeOf 41 = .ok (.ireturn, 1) := by decide +kernel
theorem dX3_sizeOf_42 : decode cX3_sizeOf 42 = .ok (.iconst 2, 1) := by decide +kernel
theorem dX3_sizeOf_43 : decode cX3_sizeOf 43 = .ok (.ireturn, 1) := by decide +kernel
theorem dX3_sizeOf_44 : decode cX3_sizeOf 44 = .ok (.iconst 3, 1) := by decide +kernel
theorem dX3_sizeOf_45 : decode cX3_sizeOf 45 = .ok (.ireturn, 1) := by decide +kernel
theorem dX3_sizeOf_46 : decode cX3_sizeOf 46 = .ok (.iconst 4, 1) := by decide +kernel
theorem dX3_sizeOf_47 : decode cX3_sizeOf 47 = .ok (.ireturn, 1) := by decide +kernel
set_option maxRecDepth 20000 in
theorem ggX3_markOf_X3_childrenOf : GoodIn wsX3_markOf wsX3_childrenOf := goodIn_r _ [5, 6, 7, 8, 9, 4, 10, 11, 33, 34, 35, 36, 37, 38, 39] (by decide +kernel) (by decide +kernel)
set_option maxRecDepth 20000 in
theorem gX3_markOf_X3_childrenOf : GoodIn wsX3_markOf (wsV RX3 75 RX3 yX3_childrenOf wsX3_childrenOf) := goodIn_app (goodIn_of _ (by decide +kernel)) ggX3_markOf_X3_childrenOf
set_option maxRecDepth 20000 in
theorem ggX3_markOf_J6_numberOfTrailingZeros_0f7a4 : GoodIn wsX3_markOf wsJ6_numberOfTrailingZeros_0f7a4 := goodIn_r _ [15, 16] (by decide +kernel) (by decide +kernel)
set_option maxRecDepth 20000 in
theorem gX3_markOf_J6_numberOfTrailingZeros_0f7a4 : GoodIn wsX3_markOf (va_wsS RX3 78 yJ6_numberOfTrailingZeros_0f7a4 wsJ6_numberOfTrailingZeros_0f7a4) := goodIn_app (goodIn_of _ (by decide +kernel)) ggX3_markOf_J6_numberOfTrailingZeros_0f7a4
set_option maxRecDepth 20000 in
theorem ggX3_markOf_J6_numberOfLeadingZeros_0f7a4 : GoodIn wsX3_markOf wsJ6_numberOfLeadingZeros_0f7a4 := goodIn_r _ [19, 16] (by decide +kernel) (by decide +kernel)
set_option maxRecDepth 20000 in
theorem gX3_markOf_J6_numberOfLeadingZeros_0f7a4 : GoodIn wsX3_markOf (va_wsS RX3 81 yJ6_numberOfLeadingZeros_0f7a4 wsJ6_numberOfLeadingZeros_0f7a4) := goodIn_app (goodIn_of _ (by decide +kernel)) ggX3_markOf_J6_numberOfLeadingZeros_0f7a4
set_option maxRecDepth 20000 in
theorem ggX3_markOf_J6_bitCount_0f7a4 : GoodIn wsX3_markOf wsJ6_bitCount_0f7a4 := goodIn_r _ [22, 23, 24, 25] (by decide +kernel) (by decide +kernel)
set_option maxRecDepth 20000 in
theorem gX3_markOf_J6_bitCount_0f7a4 : GoodIn wsX3_markOf (va_wsS RX3 64 yJ6_bitCount_0f7a4 wsJ6_bitCount_0f7a4) := goodIn_app (goodIn_of _ (by decide +kernel)) ggX3_markOf_J6_bitCount_0f7a4
set_option maxRecDepth 20000 in
theorem ggX3_markOf_X3_placesOf : GoodIn wsX3_markOf wsX3_placesOf := goodIn_r _ [29, 6, 7, 8, 9, 4, 10, 11, 20, 21, 14, 22, 23, 24, 25, 30, 31, 32, 33, 34, 35, 36, 37, 38, 39] (by decide +kernel) (by decide +kernel)
set_option maxRecDepth 20000 in
theorem gX3_markOf_X3_placesOf : GoodIn wsX3_markOf (wsV RX3 72 RX3 yX3_placesOf wsX3_placesOf) := goodIn_app (goodIn_of _ (by decide +kernel)) ggX3_markOf_X3_placesOf
theorem dX3_markOf_0 : decode cX3_markOf 0 = .ok (.aload_n 0, 1) := by decide +kernel
theorem dX3_markOf_1 : decode cX3_markOf 1 = .ok (.iload_n 1, 1) := by decide +kernel
theorem dX3_markOf_2 : decode cX3_markOf 2 = .ok (.invokevirtual 75, 3) := by decide +kernel
theorem dX3_markOf_5 : decode cX3_markOf 5 = .ok (.istore_n 3, 1) := by decide +kernel
theorem dX3_markOf_6 : decode cX3_markOf 6 = .ok (.iload_n 3, 1) := by decide +kernel
theorem dX3_markOf_7 : decode cX3_markOf 7 = .ok (.invokestatic 78, 3) := by decide +kernel
theorem dX3_markOf_10 : decode cX3_markOf 10 = .ok (.istore 4, 2) := by decide +kernel
theorem dX3_markOf_12 : decode cX3_markOf 12 = .ok (.bipush 31, 2) := by decide +kernel
theorem dX3_markOf_14 : decode cX3_markOf 14 = .ok (.iload_n 3, 1) := by decide +kernel
theorem dX3_markOf_15 : decode cX3_markOf 15 = .ok (.invokestatic 81, 3) := by decide +kernel
theorem dX3_markOf_18 : decode cX3_markOf 18 = .ok (.isub, 1) := by decide +kernel
theorem dX3_markOf_19 : decode cX3_markOf 19 = .ok (.istore 5, 2) := by decide +kernel
theorem dX3_markOf_21 : decode cX3_markOf 21 = .ok (.iload_n 2, 1) := by decide +kernel
theorem dX3_markOf_22 : decode cX3_markOf 22 = .ok (.tableswitch 53 1 3 #[26, 29, 42], 26) := by decide +kernel
theorem dX3_markOf_48 : decode cX3_markOf 48 = .ok (.iload 4, 2) := by decide +kernel
theorem dX3_markOf_50 : decode cX3_markOf 50 = .ok (.ireturn, 1) := by decide +kernel
theorem dX3_markOf_51 : decode cX3_markOf 51 = .ok (.iload 5, 2) := by decide +kernel
theorem dX3_markOf_53 : decode cX3_markOf 53 = .ok (.iload 4, 2) := by decide +kernel
theorem dX3_markOf_55 : decode cX3_markOf 55 = .ok (.isub, 1) := by decide +kernel
theorem dX3_markOf_56 : decode cX3_markOf 56 = .ok (.iconst 1, 1) := by decide +kernel
theorem dX3_markOf_57 : decode cX3_markOf 57 = .ok (.iadd, 1) := by decide +kernel
theorem dX3_markOf_58 : decode cX3_markOf 58 = .ok (.iload_n 3, 1) := by decide +kernel
theorem dX3_markOf_59 : decode cX3_markOf 59 = .ok (.invokestatic 64, 3) := by decide +kernel
theorem dX3_markOf_62 : decode cX3_markOf 62 = .ok (.isub, 1) := by decide +kernel
theorem dX3_markOf_63 : decode cX3_markOf 63 = .ok (.ireturn, 1) := by decide +kernel
theorem dX3_markOf_64 : decode cX3_markOf 64 = .ok (.aload_n 0, 1) := by decide +kernel
theorem dX3_markOf_65 : decode cX3_markOf 65 = .ok (.iload_n 1, 1) := by decide +kernel
theorem dX3_markOf_66 : decode cX3_markOf 66 = .ok (.invokevirtual 72, 3) := by decide +kernel
theorem dX3_markOf_69 : decode cX3_markOf 69 = .ok (.iload_n 3, 1) := by decide +kernel
theorem dX3_markOf_70 : decode cX3_markOf 70 = .ok (.invokestatic 64, 3) := by decide +kernel
theorem dX3_markOf_73 : decode cX3_markOf 73 = .ok (.isub, 1) := by decide +kernel
theorem dX3_markOf_74 : decode cX3_markOf 74 = .ok (.ireturn, 1) := by decide +kernel
theorem dX3_markOf_75 : decode cX3_markOf 75 = .ok (.iload 5, 2) := by decide +kernel
theorem dX3_markOf_77 : decode cX3_markOf 77 = .ok (.ireturn, 1) := by decide +kernel
theorem dX3_seatOf_0 : decode cX3_seatOf 0 = .ok (.iconst 0, 1) := by decide +kernel
theorem dX3_seatOf_1 : decode cX3_seatOf 1 = .ok (.istore_n 2, 1) := by decide +kernel
theorem dX3_seatOf_2 : decode cX3_seatOf 2 = .ok (.iload_n 2, 1) := by decide +kernel
theorem dX3_seatOf_3 : decode cX3_seatOf 3 = .ok (.aload_n 0, 1) := by decide +kernel
theorem dX3_seatOf_4 : decode cX3_seatOf 4 = .ok (.getfield 9, 3) := by decide +kernel
theorem dX3_seatOf_7 : decode cX3_seatOf 7 = .ok (.if_icmp .ge 21, 3) := by decide +kernel
theorem dX3_seatOf_10 : decode cX3_seatOf 10 = .ok (.aload_n 0, 1) := by decide +kernel
theorem dX3_seatOf_11 : decode cX3_seatOf 11 = .ok (.getfield 15, 3) := by decide +kernel
theorem dX3_seatOf_14 : decode cX3_seatOf 14 = .ok (.iload_n 2, 1) := by decide +kernel
theorem dX3_seatOf_15 : decode cX3_seatOf 15 = .ok (.iaload, 1) := by decide +kernel
theorem dX3_seatOf_16 : decode cX3_seatOf 16 = .ok (.iload_n 1, 1) := by decide +kernel
theorem dX3_seatOf_17 : decode cX3_seatOf 17 = .ok (.if_icmp .ne 5, 3) := by decide +kernel
theorem dX3_seatOf_20 : decode cX3_seatOf 20 = .ok (.iload_n 2, 1) := by decide +kernel
theorem dX3_seatOf_21 : decode cX3_seatOf 21 = .ok (.ireturn, 1) := by decide +kernel
theorem dX3_seatOf_22 : decode cX3_seatOf 22 = .ok (.iinc 2 1, 3) := by decide +kernel
theorem dX3_seatOf_25 : decode cX3_seatOf 25 = .ok (.goto (-23), 3) := by decide +kernel
theorem dX3_seatOf_28 : decode cX3_seatOf 28 = .ok (.iconst (-1), 1) := by decide +kernel
theorem dX3_seatOf_29 : decode cX3_seatOf 29 = .ok (.ireturn, 1) := by decide +kernel
set_option maxRecDepth 20000 in
theorem ggX3_countOnWayTo_X6_isHeadOf : GoodIn wsX3_countOnWayTo wsX6_isHeadOf := goodIn_r _ [6, 7, 8, 5, 9, 10, 11, 12] (by decide +kernel) (by decide +kernel)
set_option maxRecDepth 20000 in
theorem gX3_countOnWayTo_X6_isHeadOf : GoodIn wsX3_countOnWayTo (va_wsS RX3 84 yX6_isHeadOf wsX6_isHeadOf) := goodIn_app (goodIn_of _ (by decide +kernel)) ggX3_countOnWayTo_X6_isHeadOf
theorem dX3_countOnWayTo_0 : decode cX3_countOnWayTo 0 = .ok (.iconst 0, 1) := by decide +kernel
theorem dX3_countOnWayTo_1 : decode cX3_countOnWayTo 1 = .ok (.istore_n 2, 1) := by decide +kernel
theorem dX3_countOnWayTo_2 : decode cX3_countOnWayTo 2 = .ok (.iconst 0, 1) := by decide +kernel
theorem dX3_countOnWayTo_3 : decode cX3_countOnWayTo 3 = .ok (.istore_n 3, 1) := by decide +kernel
theorem dX3_countOnWayTo_4 : decode cX3_countOnWayTo 4 = .ok (.iload_n 3, 1) := by decide +kernel
theorem dX3_countOnWayTo_5 : decode cX3_countOnWayTo 5 = .ok (.aload_n 0, 1) := by decide +kernel
theorem dX3_countOnWayTo_6 : decode cX3_countOnWayTo 6 = .ok (.getfield 9, 3) := by decide +kernel
theorem dX3_countOnWayTo_9 : decode cX3_countOnWayTo 9 = .ok (.if_icmp .ge 25, 3) := by decide +kernel
theorem dX3_countOnWayTo_12 : decode cX3_countOnWayTo 12 = .ok (.aload_n 0, 1) := by decide +kernel
theorem dX3_countOnWayTo_13 : decode cX3_countOnWayTo 13 = .ok (.getfield 15, 3) := by decide +kernel
theorem dX3_countOnWayTo_16 : decode cX3_countOnWayTo 16 = .ok (.iload_n 3, 1) := by decide +kernel
theorem dX3_countOnWayTo_17 : decode cX3_countOnWayTo 17 = .ok (.iaload, 1) := by decide +kernel
theorem dX3_countOnWayTo_18 : decode cX3_countOnWayTo 18 = .ok (.iload_n 1, 1) := by decide +kernel
theorem dX3_countOnWayTo_19 : decode cX3_countOnWayTo 19 = .ok (.invokestatic 84, 3) := by decide +kernel
theorem dX3_countOnWayTo_22 : decode cX3_countOnWayTo 22 = .ok (.ifCond .eq 6, 3) := by decide +kernel
theorem dX3_countOnWayTo_25 : decode cX3_countOnWayTo 25 = .ok (.iinc 2 1, 3) := by decide +kernel
theorem dX3_countOnWayTo_28 : decode cX3_countOnWayTo 28 = .ok (.iinc 3 1, 3) := by decide +kernel
theorem dX3_countOnWayTo_31 : decode cX3_countOnWayTo 31 = .ok (.goto (-27), 3) := by decide +kernel
theorem dX3_countOnWayTo_34 : decode cX3_countOnWayTo 34 = .ok (.iload_n 2, 1) := by decide +kernel
theorem dX3_countOnWayTo_35 : decode cX3_countOnWayTo 35 = .ok (.ireturn, 1) := by decide +kernel
set_option maxRecDepth 20000 in
theorem ggX3_countOfSize_X3_sizeOf : GoodIn wsX3_countOfSize wsX3_sizeOf := goodIn_r _ [6, 7, 8, 9, 5, 10, 11, 12, 13, 14, 15, 1, 16, 17, 18, 19, 20, 21, 22, 23, 24, 25, 26, 27, 28, 29, 30, 31, 32] (by decide +kernel) (by decide +kernel)
set_option maxRecDepth 20000 in
theorem gX3_countOfSize_X3_sizeOf : GoodIn wsX3_countOfSize (wsV RX3 88 RX3 yX3_sizeOf wsX3_sizeOf) := goodIn_app (goodIn_of _ (by decide +kernel)) ggX3_countOfSize_X3_sizeOf
theorem dX3_countOfSize_0 : decode cX3_countOfSize 0 = .ok (.iconst 0, 1) := by decide +kernel
theorem dX3_countOfSize_1 : decode cX3_countOfSize 1 = .ok (.istore_n 2, 1) := by decide +kernel
theorem dX3_countOfSize_2 : decode cX3_countOfSize 2 = .ok (.iconst 0, 1) := by decide +kernel
theorem dX3_countOfSize_3 : decode cX3_countOfSize 3 = .ok (.istore_n 3, 1) := by decide +kernel
theorem dX3_countOfSize_4 : decode cX3_countOfSize 4 = .ok (.iload_n 3, 1) := by decide +kernel
theorem dX3_countOfSize_5 : decode cX3_countOfSize 5 = .ok (.aload_n 0, 1) := by decide +kernel
theorem dX3_countOfSize_6 : decode cX3_countOfSize 6 = .ok (.getfield 9, 3) := by decide +kernel
theorem dX3_countOfSize_9 : decode cX3_countOfSize 9 = .ok (.if_icmp .ge 21, 3) := by decide +kernel
theorem dX3_countOfSize_12 : decode cX3_countOfSize 12 = .ok (.aload_n 0, 1) := by decide +kernel
theorem dX3_countOfSize_13 : decode cX3_countOfSize 13 = .ok (.iload_n 3, 1) := by decide +kernel
theorem dX3_countOfSize_14 : decode cX3_countOfSize 14 = .ok (.invokevirtual 88, 3) := by decide +kernel
theorem dX3_countOfSize_17 : decode cX3_countOfSize 17 = .ok (.iload_n 1, 1) := by decide +kernel
theorem dX3_countOfSize_18 : decode cX3_countOfSize 18 = .ok (.if_icmp .ne 6, 3) := by decide +kernel
theorem dX3_countOfSize_21 : decode cX3_countOfSize 21 = .ok (.iinc 2 1, 3) := by decide +kernel
theorem dX3_countOfSize_24 : decode cX3_countOfSize 24 = .ok (.iinc 3 1, 3) := by decide +kernel
theorem dX3_countOfSize_27 : decode cX3_countOfSize 27 = .ok (.goto (-23), 3) := by decide +kernel
theorem dX3_countOfSize_30 : decode cX3_countOfSize 30 = .ok (.iload_n 2, 1) := by decide +kernel
theorem dX3_countOfSize_31 : decode cX3_countOfSize 31 = .ok (.ireturn, 1) := by decide +kernel
set_option maxRecDepth 20000 in
theorem ggX3_allPlaces_X3_placesOf : GoodIn wsX3_allPlaces wsX3_placesOf := goodIn_r _ [6, 7, 8, 9, 10, 5, 11, 1, 12, 13, 14, 15, 16, 17, 18, 19, 20, 21, 22, 23, 24, 25, 26, 27, 28] (by decide +kernel) (by decide +kernel)
set_option maxRecDepth 20000 in
theorem gX3_allPlaces_X3_placesOf : GoodIn wsX3_allPlaces (wsV RX3 72 RX3 yX3_placesOf wsX3_placesOf) := goodIn_app (goodIn_of _ (by decide +kernel)) ggX3_allPlaces_X3_placesOf
theorem dX3_allPlaces_0 : decode cX3_allPlaces 0 = .ok (.iconst 0, 1) := by decide +kernel
theorem dX3_allPlaces_1 : decode cX3_allPlaces 1 = .ok (.istore_n 1, 1) := by decide +kernel
theorem dX3_allPlaces_2 : decode cX3_allPlaces 2 = .ok (.iconst 0, 1) := by decide +kernel
theorem dX3_allPlaces_3 : decode cX3_allPlaces 3 = .ok (.istore_n 2, 1) := by decide +kernel
theorem dX3_allPlaces_4 : decode cX3_allPlaces 4 = .ok (.iload_n 2, 1) := by decide +kernel
theorem dX3_allPlaces_5 : decode cX3_allPlaces 5 = .ok (.aload_n 0, 1) := by decide +kernel
theorem dX3_allPlaces_6 : decode cX3_allPlaces 6 = .ok (.getfield 9, 3) := by decide +kernel
theorem dX3_allPlaces_9 : decode cX3_allPlaces 9 = .ok (.if_icmp .ge 17, 3) := by decide +kernel
theorem dX3_allPlaces_12 : decode cX3_allPlaces 12 = .ok (.iload_n 1, 1) := by decide +kernel
theorem dX3_allPlaces_13 : decode cX3_allPlaces 13 = .ok (.aload_n 0, 1) := by decide +kernel
theorem dX3_allPlaces_14 : decode cX3_allPlaces 14 = .ok (.iload_n 2, 1) := by decide +kernel
theorem dX3_allPlaces_15 : decode cX3_allPlaces 15 = .ok (.invokevirtual 72, 3) := by decide +kernel
theorem dX3_allPlaces_18 : decode cX3_allPlaces 18 = .ok (.iadd, 1) := by decide +kernel
theorem dX3_allPlaces_19 : decode cX3_allPlaces 19 = .ok (.istore_n 1, 1) := by decide +kernel
theorem dX3_allPlaces_20 : decode cX3_allPlaces 20 = .ok (.iinc 2 1, 3) := by decide +kernel
theorem dX3_allPlaces_23 : decode cX3_allPlaces 23 = .ok (.goto (-19), 3) := by decide +kernel
theorem dX3_allPlaces_26 : decode cX3_allPlaces 26 = .ok (.iload_n 1, 1) := by decide +kernel
theorem dX3_allPlaces_27 : decode cX3_allPlaces 27 = .ok (.ireturn, 1) := by decide +kernel
theorem dX3_deepest_0 : decode cX3_deepest 0 = .ok (.iconst 0, 1) := by decide +kernel
theorem dX3_deepest_1 : decode cX3_deepest 1 = .ok (.istore_n 1, 1) := by decide +kernel
theorem dX3_deepest_2 : decode cX3_deepest 2 = .ok (.iconst 0, 1) := by decide +kernel
theorem dX3_deepest_3 : decode cX3_deepest 3 = .ok (.istore_n 2, 1) := by decide +kernel
theorem dX3_deepest_4 : decode cX3_deepest 4 = .ok (.iload_n 2, 1) := by decide +kernel
theorem dX3_deepest_5 : decode cX3_deepest 5 = .ok (.aload_n 0, 1) := by decide +kernel
theorem dX3_deepest_6 : decode cX3_deepest 6 = .ok (.getfield 9, 3) := by decide +kernel
theorem dX3_deepest_9 : decode cX3_deepest 9 = .ok (.if_icmp .ge 20, 3) := by decide +kernel
theorem dX3_deepest_12 : decode cX3_deepest 12 = .ok (.iload_n 1, 1) := by decide +kernel
theorem dX3_deepest_13 : decode cX3_deepest 13 = .ok (.aload_n 0, 1) := by decide +kernel
theorem dX3_deepest_14 : decode cX3_deepest 14 = .ok (.getfield 25, 3) := by decide +kernel
theorem dX3_deepest_17 : decode cX3_deepest 17 = .ok (.iload_n 2, 1) := by decide +kernel
theorem dX3_deepest_18 : decode cX3_deepest 18 = .ok (.iaload, 1) := by decide +kernel
theorem dX3_deepest_19 : decode cX3_deepest 19 = .ok (.invokestatic 91, 3) := by decide +kernel
theorem dX3_deepest_22 : decode cX3_deepest 22 = .ok (.istore_n 1, 1) := by decide +kernel
theorem dX3_deepest_23 : decode cX3_deepest 23 = .ok (.iinc 2 1, 3) := by decide +kernel
theorem dX3_deepest_26 : decode cX3_deepest 26 = .ok (.goto (-22), 3) := by decide +kernel
theorem dX3_deepest_29 : decode cX3_deepest 29 = .ok (.iload_n 1, 1) := by decide +kernel
theorem dX3_deepest_30 : decode cX3_deepest 30 = .ok (.ireturn, 1) := by decide +kernel
theorem dX3_longestPrefix_0 : decode cX3_longestPrefix 0 = .ok (.iconst 0, 1) := by decide +kernel
theorem dX3_longestPrefix_1 : decode cX3_longestPrefix 1 = .ok (.istore_n 1, 1) := by decide +kernel
theorem dX3_longestPrefix_2 : decode cX3_longestPrefix 2 = .ok (.iconst 0, 1) := by decide +kernel
theorem dX3_longestPrefix_3 : decode cX3_longestPrefix 3 = .ok (.istore_n 2, 1) := by decide +kernel
theorem dX3_longestPrefix_4 : decode cX3_longestPrefix 4 = .ok (.iload_n 2, 1) := by decide +kernel
theorem dX3_longestPrefix_5 : decode cX3_longestPrefix 5 = .ok (.aload_n 0, 1) := by decide +kernel
theorem dX3_longestPrefix_6 : decode cX3_longestPrefix 6 = .ok (.getfield 9, 3) := by decide +kernel
theorem dX3_longestPrefix_9 : decode cX3_longestPrefix 9 = .ok (.if_icmp .ge 20, 3) := by decide +kernel
theorem dX3_longestPrefix_12 : decode cX3_longestPrefix 12 = .ok (.iload_n 1, 1) := by decide +kernel
theorem dX3_longestPrefix_13 : decode cX3_longestPrefix 13 = .ok (.aload_n 0, 1) := by decide +kernel
theorem dX3_longestPrefix_14 : decode cX3_longestPrefix 14 = .ok (.getfield 22, 3) := by decide +kernel
theorem dX3_longestPrefix_17 : decode cX3_longestPrefix 17 = .ok (.iload_n 2, 1) := by decide +kernel
theorem dX3_longestPrefix_18 : decode cX3_longestPrefix 18 = .ok (.iaload, 1) := by decide +kernel
theorem dX3_longestPrefix_19 : decode cX3_longestPrefix 19 = .ok (.invokestatic 91, 3) := by decide +kernel
theorem dX3_longestPrefix_22 : decode cX3_longestPrefix 22 = .ok (.istore_n 1, 1) := by decide +kernel
theorem dX3_longestPrefix_23 : decode cX3_longestPrefix 23 = .ok (.iinc 2 1, 3) := by decide +kernel
theorem dX3_longestPrefix_26 : decode cX3_longestPrefix 26 = .ok (.goto (-22), 3) := by decide +kernel
theorem dX3_longestPrefix_29 : decode cX3_longestPrefix 29 = .ok (.iload_n 1, 1) := by decide +kernel
theorem dX3_longestPrefix_30 : decode cX3_longestPrefix 30 = .ok (.ireturn, 1) := by decide +kernel
set_option maxRecDepth 20000 in
theorem ggX3_tellChanges_X3_seatOf : GoodIn wsX3_tellChanges wsX3_seatOf := goodIn_r _ [7, 1, 2, 27, 28, 29, 30, 31, 32, 33] (by decide +kernel) (by decide +kernel)
set_option maxRecDepth 20000 in
theorem gX3_tellChanges_X3_seatOf : GoodIn wsX3_tellChanges (wsV RX3 96 RX3 yX3_seatOf wsX3_seatOf) := goodIn_app (goodIn_of _ (by decide +kernel)) ggX3_tellChanges_X3_seatOf
set_option maxRecDepth 20000 in
theorem ggX3_tellChanges_X3_placesOf : GoodIn wsX3_tellChanges wsX3_placesOf := goodIn_r _ [11, 12, 13, 14, 15, 6, 16, 1, 17, 18, 19, 20, 21, 22, 23, 24, 25, 26, 27, 28, 29, 30, 31, 32, 33] (by decide +kernel) (by decide +kernel)
set_option maxRecDepth 20000 in
theorem gX3_tellChanges_X3_placesOf : GoodIn wsX3_tellChanges (wsV RX3 72 RX3 yX3_placesOf wsX3_placesOf) := goodIn_app (goodIn_of _ (by decide +kernel)) ggX3_tellChanges_X3_placesOf
theorem dX3_tellChanges_0 : decode cX3_tellChanges 0 = .ok (.aload_n 2, 1) := by decide +kernel
theorem dX3_tellChanges_1 : decode cX3_tellChanges 1 = .ok (.arraylength, 1) := by decide +kernel
theorem dX3_tellChanges_2 : decode cX3_tellChanges 2 = .ok (.iconst 4, 1) := by decide +kernel
theorem dX3_tellChanges_3 : decode cX3_tellChanges 3 = .ok (.if_icmp .ge 4, 3) := by decide +kernel
theorem dX3_tellChanges_6 : decode cX3_tellChanges 6 = .ok (.return_, 1) := by decide +kernel
theorem dX3_tellChanges_7 : decode cX3_tellChanges 7 = .ok (.iconst 0, 1) := by decide +kernel
theorem dX3_tellChanges_8 : decode cX3_tellChanges 8 = .ok (.istore_n 3, 1) := by decide +kernel
theorem dX3_tellChanges_9 : decode cX3_tellChanges 9 = .ok (.iconst 0, 1) := by decide +kernel
theorem dX3_tellChanges_10 : decode cX3_tellChanges 10 = .ok (.istore 4, 2) := by decide +kernel
theorem dX3_tellChanges_12 : decode cX3_tellChanges 12 = .ok (.iconst 0, 1) := by decide +kernel
theorem dX3_tellChanges_13 : decode cX3_tellChanges 13 = .ok (.istore 5, 2) := by decide +kernel
theorem dX3_tellChanges_15 : decode cX3_tellChanges 15 = .ok (.iconst 0, 1) := by decide +kernel
theorem dX3_tellChanges_16 : decode cX3_tellChanges 16 = .ok (.istore 6, 2) := by decide +kernel
theorem dX3_tellChanges_18 : decode cX3_tellChanges 18 = .ok (.iload 6, 2) := by decide +kernel
theorem dX3_tellChanges_20 : decode cX3_tellChanges 20 = .ok (.aload_n 0, 1) := by decide +kernel
theorem dX3_tellChanges_21 : decode cX3_tellChanges 21 = .ok (.getfield 9, 3) := by decide +kernel
theorem dX3_tellChanges_24 : decode cX3_tellChanges 24 = .ok (.if_icmp .ge 76, 3) := by decide +kernel
theorem dX3_tellChanges_27 : decode cX3_tellChanges 27 = .ok (.aload_n 1, 1) := by decide +kernel
theorem dX3_tellChanges_28 : decode cX3_tellChanges 28 = .ok (.aload_n 1, 1) := by decide +kernel
theorem dX3_tellChanges_29 : decode cX3_tellChanges 29 = .ok (.aload_n 0, 1) := by decide +kernel
theorem dX3_tellChanges_30 : decode cX3_tellChanges 30 = .ok (.getfield 15, 3) := by decide +kernel
theorem dX3_tellChanges_33 : decode cX3_tellChanges 33 = .ok (.iload 6, 2) := by decide +kernel
theorem dX3_tellChanges_35 : decode cX3_tellChanges 35 = .ok (.iaload, 1) := by decide +kernel
theorem dX3_tellChanges_36 : decode cX3_tellChanges 36 = .ok (.invokevirtual 96, 3) := by decide +kernel
theorem dX3_tellChanges_39 : decode cX3_tellChanges 39 = .ok (.invokevirtual 72, 3) := by decide +kernel
theorem dX3_tellChanges_42 : decode cX3_tellChanges 42 = .ok (.istore 7, 2) := by decide +kernel
theorem dX3_tellChanges_44 : decode cX3_tellChanges 44 = .ok (.iload 7, 2) := by decide +kernel
theorem dX3_tellChanges_46 : decode cX3_tellChanges 46 = .ok (.ifCond .eq 48, 3) := by decide +kernel
theorem dX3_tellChanges_49 : decode cX3_tellChanges 49 = .ok (.iinc 3 1, 3) := by decide +kernel
theorem dX3_tellChanges_52 : decode cX3_tellChanges 52 = .ok (.iload 4, 2) := by decide +kernel
theorem dX3_tellChanges_54 : decode cX3_tellChanges 54 = .ok (.aload_n 0, 1) := by decide +kernel
theorem dX3_tellChanges_55 : decode cX3_tellChanges 55 = .ok (.iload 6, 2) := by decide +kernel
theorem dX3_tellChanges_57 : decode cX3_tellChanges 57 = .ok (.invokevirtual 72, 3) := by decide +kernel
theorem dX3_tellChanges_60 : decode cX3_tellChanges 60 = .ok (.iload 7, 2) := by decide +kernel
theorem dX3_tellChanges_62 : decode cX3_tellChanges 62 = .ok (.if_icmp .le 7, 3) := by decide +kernel
theorem dX3_tellChanges_65 : decode cX3_tellChanges 65 = .ok (.iconst 1, 1) := by decide +kernel
theorem dX3_tellChanges_66 : decode cX3_tellChanges 66 = .ok (.goto 4, 3) := by decide +kernel
theorem dX3_tellChanges_69 : decode cX3_tellChanges 69 = .ok (.iconst 0, 1) := by decide +kernel
theorem dX3_tellChanges_70 : decode cX3_tellChanges 70 = .ok (.iadd, 1) := by decide +kernel
theorem dX3_tellChanges_71 : decode cX3_tellChanges 71 = .ok (.istore 4, 2) := by decide +kernel
theorem dX3_tellChanges_73 : decode cX3_tellChanges 73 = .ok (.iload 5, 2) := by decide +kernel
theorem dX3_tellChanges_75 : decode cX3_tellChanges 75 = .ok (.aload_n 0, 1) := by decide +kernel
theorem dX3_tellChanges_76 : decode cX3_tellChanges 76 = .ok (.iload 6, 2) := by decide +kernel
theorem dX3_tellChanges_78 : decode cX3_tellChanges 78 = .ok (.invokevirtual 72, 3) := by decide +kernel
theorem dX3_tellChanges_81 : decode cX3_tellChanges 81 = .ok (.iload 7, 2) := by decide +kernel
theorem dX3_tellChanges_83 : decode cX3_tellChanges 83 = .ok (.if_icmp .ge 7, 3) := by decide +kernel
theorem dX3_tellChanges_86 : decode cX3_tellChanges 86 = .ok (.iconst 1, 1) := by decide +kernel
theorem dX3_tellChanges_87 : decode cX3_tellChanges 87 = .ok (.goto 4, 3) := by decide +kernel
theorem dX3_tellChanges_90 : decode cX3_tellChanges 90 = .ok (.iconst 0, 1) := by decide +kernel
theorem dX3_tellChanges_91 : decode cX3_tellChanges 91 = .ok (.iadd, 1) := by decide +kernel
theorem dX3_tellChanges_92 : decode cX3_tellChanges 92 = .ok (.istore 5, 2) := by decide +kernel
theorem dX3_tellChanges_94 : decode cX3_tellChanges 94 = .ok (.iinc 6 1, 3) := by decide +kernel
theorem dX3_tellChanges_97 : decode cX3_tellChanges 97 = .ok (.goto (-79), 3) := by decide +kernel
theorem dX3_tellChanges_100 : decode cX3_tellChanges 100 = .ok (.aload_n 2, 1) := by decide +kernel
theorem dX3_tellChanges_101 : decode cX3_tellChanges 101 = .ok (.iconst 0, 1) := by decide +kernel
theorem dX3_tellChanges_102 : decode cX3_tellChanges 102 = .ok (.aload_n 0, 1) := by decide +kernel
theorem dX3_tellChanges_103 : decode cX3_tellChanges 103 = .ok (.getfield 9, 3) := by decide +kernel
theorem dX3_tellChanges_106 : decode cX3_tellChanges 106 = .ok (.iload_n 3, 1) := by decide +kernel
theorem dX3_tellChanges_107 : decode cX3_tellChanges 107 = .ok (.isub, 1) := by decide +kernel
theorem dX3_tellChanges_108 : decode cX3_tellChanges 108 = .ok (.iastore, 1) := by decide +kernel
theorem dX3_tellChanges_109 : decode cX3_tellChanges 109 = .ok (.aload_n 2, 1) := by decide +kernel
theorem dX3_tellChanges_110 : decode cX3_tellChanges 110 = .ok (.iconst 1, 1) := by decide +kernel
theorem dX3_tellChanges_111 : decode cX3_tellChanges 111 = .ok (.aload_n 1, 1) := by decide +kernel
theorem dX3_tellChanges_112 : decode cX3_tellChanges 112 = .ok (.getfield 9, 3) := by decide +kernel
theorem dX3_tellChanges_115 : decode cX3_tellChanges 115 = .ok (.iload_n 3, 1) := by decide +kernel
theorem dX3_tellChanges_116 : decode cX3_tellChanges 116 = .ok (.isub, 1) := by decide +kernel
theorem dX3_tellChanges_117 : decode cX3_tellChanges 117 = .ok (.iastore, 1) := by decide +kernel
theorem dX3_tellChanges_118 : decode cX3_tellChanges 118 = .ok (.aload_n 2, 1) := by decide +kernel
theorem dX3_tellChanges_119 : decode cX3_tellChanges 119 = .ok (.iconst 2, 1) := by decide +kernel
theorem dX3_tellChanges_120 : decode cX3_tellChanges 120 = .ok (.iload 4, 2) := by decide +kernel
theorem dX3_tellChanges_122 : decode cX3_tellChanges 122 = .ok (.iastore, 1) := by decide +kernel
theorem dX3_tellChanges_123 : decode cX3_tellChanges 123 = .ok (.aload_n 2, 1) := by decide +kernel
theorem dX3_tellChanges_124 : decode cX3_tellChanges 124 = .ok (.iconst 3, 1) := by decide +kernel
theorem dX3_tellChanges_125 : decode cX3_tellChanges 125 = .ok (.iload 5, 2) := by decide +kernel
theorem dX3_tellChanges_127 : decode cX3_tellChanges 127 = .ok (.iastore, 1) := by decide +kernel
theorem dX3_tellChanges_128 : decode cX3_tellChanges 128 = .ok (.return_, 1) := by decide +kernel
set_option maxRecDepth 20000 in
theorem ggX3_firstTwin_X3_areTwins : GoodIn wsX3_firstTwin wsX3_areTwins := goodIn_r _ [10, 11, 12, 13, 14, 15, 16, 9, 17, 18, 19, 20, 21, 22, 5, 23, 24, 25, 26, 27, 28, 29, 30, 31, 32, 33, 34, 35, 36, 37, 38, 39, 40, 41, 42, 43, 44, 45, 46, 47, 48, 49, 50, 51, 52, 53] (by decide +kernel) (by decide +kernel)
set_option maxRecDepth 20000 in
theorem gX3_firstTwin_X3_areTwins : GoodIn wsX3_firstTwin (wsV RX3 99 RX3 yX3_areTwins wsX3_areTwins) := goodIn_app (goodIn_of _ (by decide +kernel)) ggX3_firstTwin_X3_areTwins
theorem dX3_firstTwin_0 : decode cX3_firstTwin 0 = .ok (.iload_n 3, 1) := by decide +kernel
theorem dX3_firstTwin_1 : decode cX3_firstTwin 1 = .ok (.iconst 0, 1) := by decide +kernel
theorem dX3_firstTwin_2 : decode cX3_firstTwin 2 = .ok (.invokestatic 91, 3) := by decide +kernel
theorem dX3_firstTwin_5 : decode cX3_firstTwin 5 = .ok (.istore 4, 2) := by decide +kernel
theorem dX3_firstTwin_7 : decode cX3_firstTwin 7 = .ok (.iload 4, 2) := by decide +kernel
theorem dX3_firstTwin_9 : decode cX3_firstTwin 9 = .ok (.aload_n 0, 1) := by decide +kernel
theorem dX3_firstTwin_10 : decode cX3_firstTwin 10 = .ok (.getfield 9, 3) := by decide +kernel
theorem dX3_firstTwin_13 : decode cX3_firstTwin 13 = .ok (.if_icmp .ge 23, 3) := by decide +kernel
theorem dX3_firstTwin_16 : decode cX3_firstTwin 16 = .ok (.aload_n 0, 1) := by decide +kernel
theorem dX3_firstTwin_17 : decode cX3_firstTwin 17 = .ok (.aload_n 1, 1) := by decide +kernel
theorem dX3_firstTwin_18 : decode cX3_firstTwin 18 = .ok (.iload_n 2, 1) := by decide +kernel
theorem dX3_firstTwin_19 : decode cX3_firstTwin 19 = .ok (.iload 4, 2) := by decide +kernel
theorem dX3_firstTwin_21 : decode cX3_firstTwin 21 = .ok (.invokevirtual 99, 3) := by decide +kernel
theorem dX3_firstTwin_24 : decode cX3_firstTwin 24 = .ok (.ifCond .eq 6, 3) := by decide +kernel
theorem dX3_firstTwin_27 : decode cX3_firstTwin 27 = .ok (.iload 4, 2) := by decide +kernel
theorem dX3_firstTwin_29 : decode cX3_firstTwin 29 = .ok (.ireturn, 1) := by decide +kernel
theorem dX3_firstTwin_30 : decode cX3_firstTwin 30 = .ok (.iinc 4 1, 3) := by decide +kernel
theorem dX3_firstTwin_33 : decode cX3_firstTwin 33 = .ok (.goto (-26), 3) := by decide +kernel
theorem dX3_firstTwin_36 : decode cX3_firstTwin 36 = .ok (.iconst (-1), 1) := by decide +kernel
theorem dX3_firstTwin_37 : decode cX3_firstTwin 37 = .ok (.ireturn, 1) := by decide +kernel
set_option maxRecDepth 20000 in
theorem ggX3_areTwins_X3_keysBelow : GoodIn wsX3_areTwins wsX3_keysBelow := goodIn_r _ [8, 9, 3, 10, 11, 12, 7, 13, 14, 36, 37, 38, 39, 40, 41, 42] (by decide +kernel) (by decide +kernel)
set_option maxRecDepth 20000 in
theorem gX3_areTwins_X3_keysBelow : GoodIn wsX3_areTwins (wsV RX3 103 RX3 yX3_keysBelow wsX3_keysBelow) := goodIn_app (goodIn_of _ (by decide +kernel)) ggX3_areTwins_X3_keysBelow
set_option maxRecDepth 20000 in
theorem ggX3_areTwins_X3_isSeat : GoodIn wsX3_areTwins wsX3_isSeat := goodIn_r _ [13, 14, 36, 37, 38, 39, 40, 41, 42] (by decide +kernel) (by decide +kernel)
set_option maxRecDepth 20000 in
theorem gX3_areTwins_X3_isSeat : GoodIn wsX3_areTwins (wsV RX3 60 RX3 yX3_isSeat wsX3_isSeat) := goodIn_app (goodIn_of _ (by decide +kernel)) ggX3_areTwins_X3_isSeat
set_option maxRecDepth 20000 in
theorem ggX3_areTwins_X6_length : GoodIn wsX3_areTwins wsX6_length := goodIn_r _ [18] (by decide +kernel) (by decide +kernel)
set_option maxRecDepth 20000 in
theorem gX3_areTwins_X6_length : GoodIn wsX3_areTwins (va_wsS RX3 54 yX6_length wsX6_length) := goodIn_app (goodIn_of _ (by decide +kernel)) ggX3_areTwins_X6_length
set_option maxRecDepth 20000 in
theorem ggX3_areTwins_X1_value : GoodIn wsX3_areTwins wsX1_value := goodIn_r _ [23, 24, 25, 43, 44, 45] (by decide +kernel) (by decide +kernel)
set_option maxRecDepth 20000 in
theorem gX3_areTwins_X1_value : GoodIn wsX3_areTwins (wsV RX3 106 RX1 yX1_value wsX1_value) := goodIn_app (goodIn_of _ (by decide +kernel)) ggX3_areTwins_X1_value
set_option maxRecDepth 20000 in
theorem ggX3_areTwins_X1_word : GoodIn wsX3_areTwins wsX1_word := goodIn_r _ [29, 24, 30, 43, 44, 45] (by decide +kernel) (by decide +kernel)
set_option maxRecDepth 20000 in
theorem gX3_areTwins_X1_word : GoodIn wsX3_areTwins (wsV RX3 41 RX1 yX1_word wsX1_word) := goodIn_app (goodIn_of _ (by decide +kernel)) ggX3_areTwins_X1_word
set_option maxRecDepth 20000 in
theorem ggX3_areTwins_X6_tail : GoodIn wsX3_areTwins wsX6_tail := goodIn_r _ [33, 34, 35, 16, 17, 18] (by decide +kernel) (by decide +kernel)
set_option maxRecDepth 20000 in
theorem gX3_areTwins_X6_tail : GoodIn wsX3_areTwins (va_wsS RX3 109 yX6_tail wsX6_tail) := goodIn_app (goodIn_of _ (by decide +kernel)) ggX3_areTwins_X6_tail
theorem dX3_areTwins_0 : decode cX3_areTwins 0 = .ok (.aload_n 0, 1) := by decide +kernel
theorem dX3_areTwins_1 : decode cX3_areTwins 1 = .ok (.iload_n 2, 1) := by decide +kernel
theorem dX3_areTwins_2 : decode cX3_areTwins 2 = .ok (.invokevirtual 103, 3) := by decide +kernel
theorem dX3_areTwins_5 : decode cX3_areTwins 5 = .ok (.istore 4, 2) := by decide +kernel
theorem dX3_areTwins_7 : decode cX3_areTwins 7 = .ok (.aload_n 0, 1) := by decide +kernel
theorem dX3_areTwins_8 : decode cX3_areTwins 8 = .ok (.iload_n 2, 1) := by decide +kernel
theorem dX3_areTwins_9 : decode cX3_areTwins 9 = .ok (.invokevirtual 60, 3) := by decide +kernel
theorem dX3_areTwins_12 : decode cX3_areTwins 12 = .ok (.ifCond .eq 36, 3) := by decide +kernel
theorem dX3_areTwins_15 : decode cX3_areTwins 15 = .ok (.aload_n 0, 1) := by decide +kernel
theorem dX3_areTwins_16 : decode cX3_areTwins 16 = .ok (.iload_n 3, 1) := by decide +kernel
theorem dX3_areTwins_17 : decode cX3_areTwins 17 = .ok (.invokevirtual 60, 3) := by decide +kernel
theorem dX3_areTwins_20 : decode cX3_areTwins 20 = .ok (.ifCond .eq 28, 3) := by decide +kernel
theorem dX3_areTwins_23 : decode cX3_areTwins 23 = .ok (.iload 4, 2) := by decide +kernel
theorem dX3_areTwins_25 : decode cX3_areTwins 25 = .ok (.aload_n 0, 1) := by decide +kernel
theorem dX3_areTwins_26 : decode cX3_areTwins 26 = .ok (.iload_n 3, 1) := by decide +kernel
theorem dX3_areTwins_27 : decode cX3_areTwins 27 = .ok (.invokevirtual 103, 3) := by decide +kernel
theorem dX3_areTwins_30 : decode cX3_areTwins 30 = .ok (.if_icmp .ne 18, 3) := by decide +kernel
theorem dX3_areTwins_33 : decode cX3_areTwins 33 = .ok (.aload_n 0, 1) := by decide +kernel
theorem dX3_areTwins_34 : decode cX3_areTwins 34 = .ok (.getfield 19, 3) := by decide +kernel
theorem dX3_areTwins_37 : decode cX3_areTwins 37 = .ok (.iload_n 2, 1) := by decide +kernel
theorem dX3_areTwins_38 : decode cX3_areTwins 38 = .ok (.iaload, 1) := by decide +kernel
theorem dX3_areTwins_39 : decode cX3_areTwins 39 = .ok (.aload_n 0, 1) := by decide +kernel
theorem dX3_areTwins_40 : decode cX3_areTwins 40 = .ok (.getfield 19, 3) := by decide +kernel
theorem dX3_areTwins_43 : decode cX3_areTwins 43 = .ok (.iload_n 3, 1) := by decide +kernel
theorem dX3_areTwins_44 : decode cX3_areTwins 44 = .ok (.iaload, 1) := by decide +kernel
theorem dX3_areTwins_45 : decode cX3_areTwins 45 = .ok (.if_icmp .eq 5, 3) := by decide +kernel
theorem dX3_areTwins_48 : decode cX3_areTwins 48 = .ok (.iconst 0, 1) := by decide +kernel
theorem dX3_areTwins_49 : decode cX3_areTwins 49 = .ok (.ireturn, 1) := by decide +kernel
theorem dX3_areTwins_50 : decode cX3_areTwins 50 = .ok (.aload_n 0, 1) := by decide +kernel
theorem dX3_areTwins_51 : decode cX3_areTwins 51 = .ok (.getfield 15, 3) := by decide +kernel
theorem dX3_areTwins_54 : decode cX3_areTwins 54 = .ok (.iload_n 2, 1) := by decide +kernel
theorem dX3_areTwins_55 : decode cX3_areTwins 55 = .ok (.iaload, 1) := by decide +kernel
theorem dX3_areTwins_56 : decode cX3_areTwins 56 = .ok (.invokestatic 54, 3) := by decide +kernel
theorem dX3_areTwins_59 : decode cX3_areTwins 59 = .ok (.istore 5, 2) := by decide +kernel
theorem dX3_areTwins_61 : decode cX3_areTwins 61 = .ok (.aload_n 0, 1) := by decide +kernel
theorem dX3_areTwins_62 : decode cX3_areTwins 62 = .ok (.getfield 15, 3) := by decide +kernel
theorem dX3_areTwins_65 : decode cX3_areTwins 65 = .ok (.iload_n 3, 1) := by decide +kernel
theorem dX3_areTwins_66 : decode cX3_areTwins 66 = .ok (.iaload, 1) := by decide +kernel
theorem dX3_areTwins_67 : decode cX3_areTwins 67 = .ok (.invokestatic 54, 3) := by decide +kernel
theorem dX3_areTwins_70 : decode cX3_areTwins 70 = .ok (.istore 6, 2) := by decide +kernel
theorem dX3_areTwins_72 : decode cX3_areTwins 72 = .ok (.iconst 0, 1) := by decide +kernel
theorem dX3_areTwins_73 : decode cX3_areTwins 73 = .ok (.istore 7, 2) := by decide +kernel
theorem dX3_areTwins_75 : decode cX3_areTwins 75 = .ok (.iload 7, 2) := by decide +kernel
theorem dX3_areTwins_77 : decode cX3_areTwins 77 = .ok (.iload 4, 2) := by decide +kernel
theorem dX3_areTwins_79 : decode cX3_areTwins 79 = .ok (.if_icmp .ge 73, 3) := by decide +kernel
theorem dX3_areTwins_82 : decode cX3_areTwins 82 = .ok (.aload_n 0, 1) := by decide +kernel
theorem dX3_areTwins_83 : decode cX3_areTwins 83 = .ok (.getfield 28, 3) := by decide +kernel
theorem dX3_areTwins_86 : decode cX3_areTwins 86 = .ok (.iload_n 2, 1) := by decide +kernel
theorem dX3_areTwins_87 : decode cX3_areTwins 87 = .ok (.iaload, 1) := by decide +kernel
theorem dX3_areTwins_88 : decode cX3_areTwins 88 = .ok (.iload 7, 2) := by decide +kernel
theorem dX3_areTwins_90 : decode cX3_areTwins 90 = .ok (.iadd, 1) := by decide +kernel
theorem dX3_areTwins_91 : decode cX3_areTwins 91 = .ok (.istore 8, 2) := by decide +kernel
theorem dX3_areTwins_93 : decode cX3_areTwins 93 = .ok (.aload_n 0, 1) := by decide +kernel
theorem dX3_areTwins_94 : decode cX3_areTwins 94 = .ok (.getfield 28, 3) := by decide +kernel
theorem dX3_areTwins_97 : decode cX3_areTwins 97 = .ok (.iload_n 3, 1) := by decide +kernel
theorem dX3_areTwins_98 : decode cX3_areTwins 98 = .ok (.iaload, 1) := by decide +kernel
theorem dX3_areTwins_99 : decode cX3_areTwins 99 = .ok (.iload 7, 2) := by decide +kernel
theorem dX3_areTwins_101 : decode cX3_areTwins 101 = .ok (.iadd, 1) := by decide +kernel
theorem dX3_areTwins_102 : decode cX3_areTwins 102 = .ok (.istore 9, 2) := by decide +kernel
theorem dX3_areTwins_104 : decode cX3_areTwins 104 = .ok (.aload_n 1, 1) := by decide +kernel
theorem dX3_areTwins_105 : decode cX3_areTwins 105 = .ok (.iload 8, 2) := by decide +kernel
theorem dX3_areTwins_107 : decode cX3_areTwins 107 = .ok (.invokevirtual 106, 3) := by decide +kernel
theorem dX3_areTwins_110 : decode cX3_areTwins 110 = .ok (.aload_n 1, 1) := by decide +kernel
theorem dX3_areTwins_111 : decode cX3_areTwins 111 = .ok (.iload 9, 2) := by decide +kernel
theorem dX3_areTwins_113 : decode cX3_areTwins 113 = .ok (.invokevirtual 106, 3) := by decide +kernel
theorem dX3_areTwins_116 : decode cX3_areTwins 116 = .ok (.if_icmp .ne 28, 3) := by decide +kernel
theorem dX3_areTwins_119 : decode cX3_areTwins 119 = .ok (.aload_n 1, 1) := by decide +kernel
theorem dX3_areTwins_120 : decode cX3_areTwins 120 = .ok (.iload 8, 2) := by decide +kernel
theorem dX3_areTwins_122 : decode cX3_areTwins 122 = .ok (.invokevirtual 41, 3) := by decide +kernel
theorem dX3_areTwins_125 : decode cX3_areTwins 125 = .ok (.iload 5, 2) := by decide +kernel
theorem dX3_areTwins_127 : decode cX3_areTwins 127 = .ok (.invokestatic 109, 3) := by decide +kernel
theorem dX3_areTwins_130 : decode cX3_areTwins 130 = .ok (.aload_n 1, 1) := by decide +kernel
theorem dX3_areTwins_131 : decode cX3_areTwins 131 = .ok (.iload 9, 2) := by decide +kernel
theorem dX3_areTwins_133 : decode cX3_areTwins 133 = .ok (.invokevirtual 41, 3) := by decide +kernel
theorem dX3_areTwins_136 : decode cX3_areTwins 136 = .ok (.iload 6, 2) := by decide +kernel
theorem dX3_areTwins_138 : decode cX3_areTwins 138 = .ok (.invokestatic 109, 3) := by decide +kernel
theorem dX3_areTwins_141 : decode cX3_areTwins 141 = .ok (.if_icmp .eq 5, 3) := by decide +kernel
theorem dX3_areTwins_144 : decode cX3_areTwins 144 = .ok (.iconst 0, 1) := by decide +kernel
theorem dX3_areTwins_145 : decode cX3_areTwins 145 = .ok (.ireturn, 1) := by decide +kernel
theorem dX3_areTwins_146 : decode cX3_areTwins 146 = .ok (.iinc 7 1, 3) := by decide +kernel
theorem dX3_areTwins_149 : decode cX3_areTwins 149 = .ok (.goto (-74), 3) := by decide +kernel
theorem dX3_areTwins_152 : decode cX3_areTwins 152 = .ok (.iconst 1, 1) := by decide +kernel
theorem dX3_areTwins_153 : decode cX3_areTwins 153 = .ok (.ireturn, 1) := by decide +kernel
set_option maxRecDepth 20000 in
theorem ggX3_placesSaved_X3_lowestOver : GoodIn wsX3_placesSaved wsX3_lowestOver := goodIn_r _ [7, 8, 9, 10, 40, 41, 42, 43, 44, 45, 46] (by decide +kernel) (by decide +kernel)
set_option maxRecDepth 20000 in
theorem gX3_placesSaved_X3_lowestOver : GoodIn wsX3_placesSaved (wsV RX3 112 RX3 yX3_lowestOver wsX3_lowestOver) := goodIn_app (goodIn_of _ (by decide +kernel)) ggX3_placesSaved_X3_lowestOver
set_option maxRecDepth 20000 in
theorem ggX3_placesSaved_X1_word : GoodIn wsX3_placesSaved wsX1_word := goodIn_r _ [15, 16, 17, 47, 48, 49] (by decide +kernel) (by decide +kernel)
set_option maxRecDepth 20000 in
theorem gX3_placesSaved_X1_word : GoodIn wsX3_placesSaved (wsV RX3 41 RX1 yX1_word wsX1_word) := goodIn_app (goodIn_of _ (by decide +kernel)) ggX3_placesSaved_X1_word
set_option maxRecDepth 20000 in
theorem ggX3_placesSaved_J6_bitCount_0f7a4 : GoodIn wsX3_placesSaved wsJ6_bitCount_0f7a4 := goodIn_r _ [21, 22, 23, 24] (by decide +kernel) (by decide +kernel)
set_option maxRecDepth 20000 in
theorem gX3_placesSaved_J6_bitCount_0f7a4 : GoodIn wsX3_placesSaved (va_wsS RX3 64 yJ6_bitCount_0f7a4 wsJ6_bitCount_0f7a4) := goodIn_app (goodIn_of _ (by decide +kernel)) ggX3_placesSaved_J6_bitCount_0f7a4
set_option maxRecDepth 20000 in
theorem ggX3_placesSaved_X3_hasEnd : GoodIn wsX3_placesSaved wsX3_hasEnd := goodIn_r _ [28, 9, 1, 29, 30, 31, 6, 32, 8, 11, 12, 13, 14, 15, 16, 17, 40, 41, 42, 43, 44, 45, 46, 47, 48, 49] (by decide +kernel) (by decide +kernel)
set_option maxRecDepth 20000 in
theorem gX3_placesSaved_X3_hasEnd : GoodIn wsX3_placesSaved (wsV RX3 115 RX3 yX3_hasEnd wsX3_hasEnd) := goodIn_app (goodIn_of _ (by decide +kernel)) ggX3_placesSaved_X3_hasEnd
set_option maxRecDepth 20000 in
theorem ggX3_placesSaved_X3_placesOf : GoodIn wsX3_placesSaved wsX3_placesOf := goodIn_r _ [36, 2, 29, 30, 31, 6, 32, 8, 18, 19, 20, 21, 22, 23, 24, 37, 38, 39, 40, 41, 42, 43, 44, 45, 46] (by decide +kernel) (by decide +kernel)
set_option maxRecDepth 20000 in
theorem gX3_placesSaved_X3_placesOf : GoodIn wsX3_placesSaved (wsV RX3 72 RX3 yX3_placesOf wsX3_placesOf) := goodIn_app (goodIn_of _ (by decide +kernel)) ggX3_placesSaved_X3_placesOf
set_option maxRecDepth 20000 in
theorem ggX3_placesSaved_X3_placesFor : GoodIn wsX3_placesSaved wsX3_placesFor := goodIn_r _ [39] (by decide +kernel) (by decide +kernel)
set_option maxRecDepth 20000 in
theorem gX3_placesSaved_X3_placesFor : GoodIn wsX3_placesSaved (va_wsS RX3 69 yX3_placesFor wsX3_placesFor) := goodIn_app (goodIn_of _ (by decide +kernel)) ggX3_placesSaved_X3_placesFor
theorem dX3_placesSaved_0 : decode cX3_placesSaved 0 = .ok (.aload_n 0, 1) := by decide +kernel
theorem dX3_placesSaved_1 : decode cX3_placesSaved 1 = .ok (.iload_n 2, 1) := by decide +kernel
theorem dX3_placesSaved_2 : decode cX3_placesSaved 2 = .ok (.invokevirtual 112, 3) := by decide +kernel
theorem dX3_placesSaved_5 : decode cX3_placesSaved 5 = .ok (.istore_n 3, 1) := by decide +kernel
theorem dX3_placesSaved_6 : decode cX3_placesSaved 6 = .ok (.iload_n 3, 1) := by decide +kernel
theorem dX3_placesSaved_7 : decode cX3_placesSaved 7 = .ok (.iconst (-1), 1) := by decide +kernel
theorem dX3_placesSaved_8 : decode cX3_placesSaved 8 = .ok (.if_icmp .ne 5, 3) := by decide +kernel
theorem dX3_placesSaved_11 : decode cX3_placesSaved 11 = .ok (.iconst 0, 1) := by decide +kernel
theorem dX3_placesSaved_12 : decode cX3_placesSaved 12 = .ok (.ireturn, 1) := by decide +kernel
theorem dX3_placesSaved_13 : decode cX3_placesSaved 13 = .ok (.aload_n 1, 1) := by decide +kernel
theorem dX3_placesSaved_14 : decode cX3_placesSaved 14 = .ok (.iload_n 2, 1) := by decide +kernel
theorem dX3_placesSaved_15 : decode cX3_placesSaved 15 = .ok (.invokevirtual 41, 3) := by decide +kernel
theorem dX3_placesSaved_18 : decode cX3_placesSaved 18 = .ok (.aload_n 0, 1) := by decide +kernel
theorem dX3_placesSaved_19 : decode cX3_placesSaved 19 = .ok (.getfield 15, 3) := by decide +kernel
theorem dX3_placesSaved_22 : decode cX3_placesSaved 22 = .ok (.iload_n 3, 1) := by decide +kernel
theorem dX3_placesSaved_23 : decode cX3_placesSaved 23 = .ok (.iaload, 1) := by decide +kernel
theorem dX3_placesSaved_24 : decode cX3_placesSaved 24 = .ok (.if_icmp .ne 7, 3) := by decide +kernel
theorem dX3_placesSaved_27 : decode cX3_placesSaved 27 = .ok (.iconst 1, 1) := by decide +kernel
theorem dX3_placesSaved_28 : decode cX3_placesSaved 28 = .ok (.goto 4, 3) := by decide +kernel
theorem dX3_placesSaved_31 : decode cX3_placesSaved 31 = .ok (.iconst 0, 1) := by decide +kernel
theorem dX3_placesSaved_32 : decode cX3_placesSaved 32 = .ok (.istore 4, 2) := by decide +kernel
theorem dX3_placesSaved_34 : decode cX3_placesSaved 34 = .ok (.aload_n 0, 1) := by decide +kernel
theorem dX3_placesSaved_35 : decode cX3_placesSaved 35 = .ok (.getfield 19, 3) := by decide +kernel
theorem dX3_placesSaved_38 : decode cX3_placesSaved 38 = .ok (.iload_n 3, 1) := by decide +kernel
theorem dX3_placesSaved_39 : decode cX3_placesSaved 39 = .ok (.iaload, 1) := by decide +kernel
theorem dX3_placesSaved_40 : decode cX3_placesSaved 40 = .ok (.invokestatic 64, 3) := by decide +kernel
theorem dX3_placesSaved_43 : decode cX3_placesSaved 43 = .ok (.iload 4, 2) := by decide +kernel
theorem dX3_placesSaved_45 : decode cX3_placesSaved 45 = .ok (.ifCond .eq 7, 3) := by decide +kernel
theorem dX3_placesSaved_48 : decode cX3_placesSaved 48 = .ok (.iconst 0, 1) := by decide +kernel
theorem dX3_placesSaved_49 : decode cX3_placesSaved 49 = .ok (.goto 4, 3) := by decide +kernel
theorem dX3_placesSaved_52 : decode cX3_placesSaved 52 = .ok (.iconst 1, 1) := by decide +kernel
theorem dX3_placesSaved_53 : decode cX3_placesSaved 53 = .ok (.isub, 1) := by decide +kernel
theorem dX3_placesSaved_54 : decode cX3_placesSaved 54 = .ok (.istore 5, 2) := by decide +kernel
theorem dX3_placesSaved_56 : decode cX3_placesSaved 56 = .ok (.aload_n 0, 1) := by decide +kernel
theorem dX3_placesSaved_57 : decode cX3_placesSaved 57 = .ok (.aload_n 1, 1) := by decide +kernel
theorem dX3_placesSaved_58 : decode cX3_placesSaved 58 = .ok (.iload_n 3, 1) := by decide +kernel
theorem dX3_placesSaved_59 : decode cX3_placesSaved 59 = .ok (.invokevirtual 115, 3) := by decide +kernel
theorem dX3_placesSaved_62 : decode cX3_placesSaved 62 = .ok (.ifCond .eq 12, 3) := by decide +kernel
theorem dX3_placesSaved_65 : decode cX3_placesSaved 65 = .ok (.iload 4, 2) := by decide +kernel
theorem dX3_placesSaved_67 : decode cX3_placesSaved 67 = .ok (.ifCond .ne 7, 3) := by decide +kernel
theorem dX3_placesSaved_70 : decode cX3_placesSaved 70 = .ok (.iconst 1, 1) := by decide +kernel
theorem dX3_placesSaved_71 : decode cX3_placesSaved 71 = .ok (.goto 4, 3) := by decide +kernel
theorem dX3_placesSaved_74 : decode cX3_placesSaved 74 = .ok (.iconst 0, 1) := by decide +kernel
theorem dX3_placesSaved_75 : decode cX3_placesSaved 75 = .ok (.istore 6, 2) := by decide +kernel
theorem dX3_placesSaved_77 : decode cX3_placesSaved 77 = .ok (.iload 5, 2) := by decide +kernel
theorem dX3_placesSaved_79 : decode cX3_placesSaved 79 = .ok (.iconst 2, 1) := by decide +kernel
theorem dX3_placesSaved_80 : decode cX3_placesSaved 80 = .ok (.if_icmp .ge 14, 3) := by decide +kernel
theorem dX3_placesSaved_83 : decode cX3_placesSaved 83 = .ok (.iload 5, 2) := by decide +kernel
theorem dX3_placesSaved_85 : decode cX3_placesSaved 85 = .ok (.iconst 1, 1) := by decide +kernel
theorem dX3_placesSaved_86 : decode cX3_placesSaved 86 = .ok (.if_icmp .ne 12, 3) := by decide +kernel
theorem dX3_placesSaved_89 : decode cX3_placesSaved 89 = .ok (.iload 6, 2) := by decide +kernel
theorem dX3_placesSaved_91 : decode cX3_placesSaved 91 = .ok (.ifCond .eq 7, 3) := by decide +kernel
theorem dX3_placesSaved_94 : decode cX3_placesSaved 94 = .ok (.iconst 1, 1) := by decide +kernel
theorem dX3_placesSaved_95 : decode cX3_placesSaved 95 = .ok (.goto 4, 3) := by decide +kernel
theorem dX3_placesSaved_98 : decode cX3_placesSaved 98 = .ok (.iconst 0, 1) := by decide +kernel
theorem dX3_placesSaved_99 : decode cX3_placesSaved 99 = .ok (.istore 7, 2) := by decide +kernel
theorem dX3_placesSaved_101 : decode cX3_placesSaved 101 = .ok (.aload_n 0, 1) := by decide +kernel
theorem dX3_placesSaved_102 : decode cX3_placesSaved 102 = .ok (.iload_n 3, 1) := by decide +kernel
theorem dX3_placesSaved_103 : decode cX3_placesSaved 103 = .ok (.invokevirtual 72, 3) := by decide +kernel
theorem dX3_placesSaved_106 : decode cX3_placesSaved 106 = .ok (.iload 7, 2) := by decide +kernel
theorem dX3_placesSaved_108 : decode cX3_placesSaved 108 = .ok (.ifCond .eq 11, 3) := by decide +kernel
theorem dX3_placesSaved_111 : decode cX3_placesSaved 111 = .ok (.iload 5, 2) := by decide +kernel
theorem dX3_placesSaved_113 : decode cX3_placesSaved 113 = .ok (.invokestatic 69, 3) := by decide +kernel
theorem dX3_placesSaved_116 : decode cX3_placesSaved 116 = .ok (.goto 4, 3) := by decide +kernel
theorem dX3_placesSaved_119 : decode cX3_placesSaved 119 = .ok (.iconst 0, 1) := by decide +kernel
theorem dX3_placesSaved_120 : decode cX3_placesSaved 120 = .ok (.isub, 1) := by decide +kernel
theorem dX3_placesSaved_121 : decode cX3_placesSaved 121 = .ok (.ireturn, 1) := by decide +kernel
theorem dX3_lowestOver_0 : decode cX3_lowestOver 0 = .ok (.aload_n 0, 1) := by decide +kernel
theorem dX3_lowestOver_1 : decode cX3_lowestOver 1 = .ok (.getfield 9, 3) := by decide +kernel
theorem dX3_lowestOver_4 : decode cX3_lowestOver 4 = .ok (.iconst 1, 1) := by decide +kernel
theorem dX3_lowestOver_5 : decode cX3_lowestOver 5 = .ok (.isub, 1) := by decide +kernel
theorem dX3_lowestOver_6 : decode cX3_lowestOver 6 = .ok (.istore_n 2, 1) := by decide +kernel
theorem dX3_lowestOver_7 : decode cX3_lowestOver 7 = .ok (.iload_n 2, 1) := by decide +kernel
theorem dX3_lowestOver_8 : decode cX3_lowestOver 8 = .ok (.ifCond .lt 31, 3) := by decide +kernel
theorem dX3_lowestOver_11 : decode cX3_lowestOver 11 = .ok (.aload_n 0, 1) := by decide +kernel
theorem dX3_lowestOver_12 : decode cX3_lowestOver 12 = .ok (.getfield 28, 3) := by decide +kernel
theorem dX3_lowestOver_15 : decode cX3_lowestOver 15 = .ok (.iload_n 2, 1) := by decide +kernel
theorem dX3_lowestOver_16 : decode cX3_lowestOver 16 = .ok (.iaload, 1) := by decide +kernel
theorem dX3_lowestOver_17 : decode cX3_lowestOver 17 = .ok (.iload_n 1, 1) := by decide +kernel
theorem dX3_lowestOver_18 : decode cX3_lowestOver 18 = .ok (.if_icmp .gt 15, 3) := by decide +kernel
theorem dX3_lowestOver_21 : decode cX3_lowestOver 21 = .ok (.iload_n 1, 1) := by decide +kernel
theorem dX3_lowestOver_22 : decode cX3_lowestOver 22 = .ok (.aload_n 0, 1) := by decide +kernel
theorem dX3_lowestOver_23 : decode cX3_lowestOver 23 = .ok (.getfield 31, 3) := by decide +kernel
theorem dX3_lowestOver_26 : decode cX3_lowestOver 26 = .ok (.iload_n 2, 1) := by decide +kernel
theorem dX3_lowestOver_27 : decode cX3_lowestOver 27 = .ok (.iaload, 1) := by decide +kernel
theorem dX3_lowestOver_28 : decode cX3_lowestOver 28 = .ok (.if_icmp .ge 5, 3) := by decide +kernel
theorem dX3_lowestOver_31 : decode cX3_lowestOver 31 = .ok (.iload_n 2, 1) := by decide +kernel
theorem dX3_lowestOver_32 : decode cX3_lowestOver 32 = .ok (.ireturn, 1) := by decide +kernel
theorem dX3_lowestOver_33 : decode cX3_lowestOver 33 = .ok (.iinc 2 (-1), 3) := by decide +kernel
theorem dX3_lowestOver_36 : decode cX3_lowestOver 36 = .ok (.goto (-29), 3) := by decide +kernel
theorem dX3_lowestOver_39 : decode cX3_lowestOver 39 = .ok (.iconst (-1), 1) := by decide +kernel
theorem dX3_lowestOver_40 : decode cX3_lowestOver 40 = .ok (.ireturn, 1) := by decide +kernel
set_option maxRecDepth 20000 in
theorem ggX4_init_X1_init : GoodIn wsX4_init wsX1_init := goodIn_r _ [13, 14, 2, 3, 15, 8, 16, 17, 18, 19, 20] (by decide +kernel) (by decide +kernel)
set_option maxRecDepth 20000 in
theorem gX4_init_X1_init_n11 : GoodIn wsX4_init (wsX1_init) := ggX4_init_X1_init
theorem dX4_init_0 : decode cX4_init 0 = .ok (.aload_n 0, 1) := by decide +kernel
theorem dX4_init_1 : decode cX4_init 1 = .ok (.invokespecial 3, 3) := by decide +kernel
theorem dX4_init_4 : decode cX4_init 4 = .ok (.aload_n 0, 1) := by decide +kernel
theorem dX4_init_5 : decode cX4_init 5 = .ok (.new 9, 3) := by decide +kernel
theorem dX4_init_8 : decode cX4_init 8 = .ok (.dup, 1) := by decide +kernel
theorem dX4_init_9 : decode cX4_init 9 = .ok (.invokespecial 11, 3) := by decide +kernel
theorem dX4_init_12 : decode cX4_init 12 = .ok (.putfield 12, 3) := by decide +kernel
theorem dX4_init_15 : decode cX4_init 15 = .ok (.aload_n 0, 1) := by decide +kernel
theorem dX4_init_16 : decode cX4_init 16 = .ok (.bipush 90, 2) := by decide +kernel
theorem dX4_init_18 : decode cX4_init 18 = .ok (.newarray .int, 2) := by decide +kernel
theorem dX4_init_20 : decode cX4_init 20 = .ok (.putfield 18, 3) := by decide +kernel
theorem dX4_init_23 : decode cX4_init 23 = .ok (.aload_n 0, 1) := by decide +kernel
theorem dX4_init_24 : decode cX4_init 24 = .ok (.iconst 0, 1) := by decide +kernel
theorem dX4_init_25 : decode cX4_init 25 = .ok (.putfield 22, 3) := by decide +kernel
theorem dX4_init_28 : decode cX4_init 28 = .ok (.aload_n 0, 1) := by decide +kernel
theorem dX4_init_29 : decode cX4_init 29 = .ok (.iconst 0, 1) := by decide +kernel
theorem dX4_init_30 : decode cX4_init 30 = .ok (.putfield 26, 3) := by decide +kernel
theorem dX4_init_33 : decode cX4_init 33 = .ok (.return_, 1) := by decide +kernel
set_option maxRecDepth 20000 in
theorem ggX4_read_X5_layInto : GoodIn wsX4_read wsX5_layInto := goodIn_r _ [9, 10, 11, 12, 13, 14, 15, 16, 17, 18, 19, 20, 21, 8, 22, 23, 24, 25, 26, 27, 84, 85, 86] (by decide +kernel) (by decide +kernel)
set_option maxRecDepth 20000 in
theorem gX4_read_X5_layInto : GoodIn wsX4_read (wsV RX4 29 RX5 yX5_layInto wsX5_layInto) := goodIn_app (goodIn_of _ (by decide +kernel)) ggX4_read_X5_layInto
set_option maxRecDepth 20000 in
theorem ggX4_read_X1_empty : GoodIn wsX4_read wsX1_empty := goodIn_r _ [32, 33, 87, 88, 89] (by decide +kernel) (by decide +kernel)
set_option maxRecDepth 20000 in
theorem gX4_read_X1_empty : GoodIn wsX4_read (wsV RX4 35 RX1 yX1_empty wsX1_empty) := goodIn_app (goodIn_of _ (by decide +kernel)) ggX4_read_X1_empty
set_option maxRecDepth 20000 in
theorem ggX4_read_X4_skipBlanks : GoodIn wsX4_read wsX4_skipBlanks := goodIn_r _ [38, 3, 2, 39, 40, 41, 37, 42, 1, 80, 81, 82, 83] (by decide +kernel) (by decide +kernel)
set_option maxRecDepth 20000 in
theorem gX4_read_X4_skipBlanks : GoodIn wsX4_read (wsV RX4 38 RX4 yX4_skipBlanks wsX4_skipBlanks) := goodIn_app (goodIn_of _ (by decide +kernel)) ggX4_read_X4_skipBlanks
set_option maxRecDepth 20000 in
theorem ggX4_read_X4_readKey : GoodIn wsX4_read wsX4_readKey := goodIn_r _ [46, 3, 4, 47, 48, 49, 37, 50, 39, 40, 41, 42, 2, 1, 51, 52, 53, 54, 55, 56, 57, 58, 59, 60, 61, 62, 63, 31, 64, 33, 65, 66, 67, 68, 69, 70, 71, 72, 73, 74, 75, 76, 77, 78, 79, 80, 81, 82, 83, 87, 88, 89] (by decide +kernel) (by decide +kernel)
set_option maxRecDepth 20000 in
theorem gX4_read_X4_readKey : GoodIn wsX4_read (wsV RX4 41 RX4 yX4_readKey wsX4_readKey) := goodIn_app (goodIn_of _ (by decide +kernel)) ggX4_read_X4_readKey
theorem dX4_read_0 : decode cX4_read 0 = .ok (.aload_n 0, 1) := by decide +kernel
theorem dX4_read_1 : decode cX4_read 1 = .ok (.aload_n 1, 1) := by decide +kernel
theorem dX4_read_2 : decode cX4_read 2 = .ok (.iload_n 2, 1) := by decide +kernel
theorem dX4_read_3 : decode cX4_read 3 = .ok (.aload_n 0, 1) := by decide +kernel
theorem dX4_read_4 : decode cX4_read 4 = .ok (.getfield 18, 3) := by decide +kernel
theorem dX4_read_7 : decode cX4_read 7 = .ok (.invokevirtual 29, 3) := by decide +kernel
theorem dX4_read_10 : decode cX4_read 10 = .ok (.putfield 22, 3) := by decide +kernel
theorem dX4_read_13 : decode cX4_read 13 = .ok (.aload_n 0, 1) := by decide +kernel
theorem dX4_read_14 : decode cX4_read 14 = .ok (.iconst 0, 1) := by decide +kernel
theorem dX4_read_15 : decode cX4_read 15 = .ok (.putfield 26, 3) := by decide +kernel
theorem dX4_read_18 : decode cX4_read 18 = .ok (.aload_n 0, 1) := by decide +kernel
theorem dX4_read_19 : decode cX4_read 19 = .ok (.getfield 12, 3) := by decide +kernel
theorem dX4_read_22 : decode cX4_read 22 = .ok (.invokevirtual 35, 3) := by decide +kernel
theorem dX4_read_25 : decode cX4_read 25 = .ok (.iconst 0, 1) := by decide +kernel
theorem dX4_read_26 : decode cX4_read 26 = .ok (.istore_n 3, 1) := by decide +kernel
theorem dX4_read_27 : decode cX4_read 27 = .ok (.iload_n 3, 1) := by decide +kernel
theorem dX4_read_28 : decode cX4_read 28 = .ok (.bipush 90, 2) := by decide +kernel
theorem dX4_read_30 : decode cX4_read 30 = .ok (.if_icmp .gt 43, 3) := by decide +kernel
theorem dX4_read_33 : decode cX4_read 33 = .ok (.aload_n 0, 1) := by decide +kernel
theorem dX4_read_34 : decode cX4_read 34 = .ok (.invokevirtual 38, 3) := by decide +kernel
theorem dX4_read_37 : decode cX4_read 37 = .ok (.aload_n 0, 1) := by decide +kernel
theorem dX4_read_38 : decode cX4_read 38 = .ok (.getfield 26, 3) := by decide +kernel
theorem dX4_read_41 : decode cX4_read 41 = .ok (.aload_n 0, 1) := by decide +kernel
theorem dX4_read_42 : decode cX4_read 42 = .ok (.getfield 22, 3) := by decide +kernel
theorem dX4_read_45 : decode cX4_read 45 = .ok (.if_icmp .lt 6, 3) := by decide +kernel
theorem dX4_read_48 : decode cX4_read 48 = .ok (.bipush (-9), 2) := by decide +kernel
theorem dX4_read_50 : decode cX4_read 50 = .ok (.ireturn, 1) := by decide +kernel
theorem dX4_read_51 : decode cX4_read 51 = .ok (.aload_n 0, 1) := by decide +kernel
theorem dX4_read_52 : decode cX4_read 52 = .ok (.invokevirtual 41, 3) := by decide +kernel
theorem dX4_read_55 : decode cX4_read 55 = .ok (.istore 4, 2) := by decide +kernel
theorem dX4_read_57 : decode cX4_read 57 = .ok (.iload 4, 2) := by decide +kernel
theorem dX4_read_59 : decode cX4_read 59 = .ok (.bipush (-9), 2) := by decide +kernel
theorem dX4_read_61 : decode cX4_read 61 = .ok (.if_icmp .eq 6, 3) := by decide +kernel
theorem dX4_read_64 : decode cX4_read 64 = .ok (.iload 4, 2) := by decide +kernel
theorem dX4_read_66 : decode cX4_read 66 = .ok (.ireturn, 1) := by decide +kernel
theorem dX4_read_67 : decode cX4_read 67 = .ok (.iinc 3 1, 3) := by decide +kernel
theorem dX4_read_70 : decode cX4_read 70 = .ok (.goto (-43), 3) := by decide +kernel
theorem dX4_read_73 : decode cX4_read 73 = .ok (.bipush (-9), 2) := by decide +kernel
theorem dX4_read_75 : decode cX4_read 75 = .ok (.ireturn, 1) := by decide +kernel
theorem dX4_sign_0 : decode cX4_sign 0 = .ok (.aload_n 0, 1) := by decide +kernel
theorem dX4_sign_1 : decode cX4_sign 1 = .ok (.getfield 26, 3) := by decide +kernel
theorem dX4_sign_4 : decode cX4_sign 4 = .ok (.aload_n 0, 1) := by decide +kernel
theorem dX4_sign_5 : decode cX4_sign 5 = .ok (.getfield 22, 3) := by decide +kernel
theorem dX4_sign_8 : decode cX4_sign 8 = .ok (.if_icmp .ge 15, 3) := by decide +kernel
theorem dX4_sign_11 : decode cX4_sign 11 = .ok (.aload_n 0, 1) := by decide +kernel
theorem dX4_sign_12 : decode cX4_sign 12 = .ok (.getfield 18, 3) := by decide +kernel
theorem dX4_sign_15 : decode cX4_sign 15 = .ok (.aload_n 0, 1) := by decide +kernel
theorem dX4_sign_16 : decode cX4_sign 16 = .ok (.getfield 26, 3) := by decide +kernel
theorem dX4_sign_19 : decode cX4_sign 19 = .ok (.iaload, 1) := by decide +kernel
theorem dX4_sign_20 : decode cX4_sign 20 = .ok (.goto 6, 3) := by decide +kernel
theorem dX4_sign_23 : decode cX4_sign 23 = .ok (.sipush 256, 3) := by decide +kernel
theorem dX4_sign_26 : decode cX4_sign 26 = .ok (.ireturn, 1) := by decide +kernel
set_option maxRecDepth 20000 in
theorem ggX4_skipBlanks_X4_sign : GoodIn wsX4_skipBlanks wsX4_sign := goodIn_r _ [7, 1, 2, 8, 9, 10, 11, 12] (by decide +kernel) (by decide +kernel)
set_option maxRecDepth 20000 in
theorem gX4_skipBlanks_X4_sign : GoodIn wsX4_skipBlanks (wsV RX4 45 RX4 yX4_sign wsX4_sign) := goodIn_app (goodIn_of _ (by decide +kernel)) ggX4_skipBlanks_X4_sign
theorem dX4_skipBlanks_0 : decode cX4_skipBlanks 0 = .ok (.aload_n 0, 1) := by decide +kernel
theorem dX4_skipBlanks_1 : decode cX4_skipBlanks 1 = .ok (.getfield 26, 3) := by decide +kernel
theorem dX4_skipBlanks_4 : decode cX4_skipBlanks 4 = .ok (.aload_n 0, 1) := by decide +kernel
theorem dX4_skipBlanks_5 : decode cX4_skipBlanks 5 = .ok (.getfield 22, 3) := by decide +kernel
theorem dX4_skipBlanks_8 : decode cX4_skipBlanks 8 = .ok (.if_icmp .ge 25, 3) := by decide +kernel
theorem dX4_skipBlanks_11 : decode cX4_skipBlanks 11 = .ok (.aload_n 0, 1) := by decide +kernel
theorem dX4_skipBlanks_12 : decode cX4_skipBlanks 12 = .ok (.invokevirtual 45, 3) := by decide +kernel
theorem dX4_skipBlanks_15 : decode cX4_skipBlanks 15 = .ok (.bipush 32, 2) := by decide +kernel
theorem dX4_skipBlanks_17 : decode cX4_skipBlanks 17 = .ok (.if_icmp .ne 16, 3) := by decide +kernel
theorem dX4_skipBlanks_20 : decode cX4_skipBlanks 20 = .ok (.aload_n 0, 1) := by decide +kernel
theorem dX4_skipBlanks_21 : decode cX4_skipBlanks 21 = .ok (.dup, 1) := by decide +kernel
theorem dX4_skipBlanks_22 : decode cX4_skipBlanks 22 = .ok (.getfield 26, 3) := by decide +kernel
theorem dX4_skipBlanks_25 : decode cX4_skipBlanks 25 = .ok (.iconst 1, 1) := by decide +kernel
theorem dX4_skipBlanks_26 : decode cX4_skipBlanks 26 = .ok (.iadd, 1) := by decide +kernel
theorem dX4_skipBlanks_27 : decode cX4_skipBlanks 27 = .ok (.putfield 26, 3) := by decide +kernel
theorem dX4_skipBlanks_30 : decode cX4_skipBlanks 30 = .ok (.goto (-30), 3) := by decide +kernel
theorem dX4_skipBlanks_33 : decode cX4_skipBlanks 33 = .ok (.return_, 1) := by decide +kernel
set_option maxRecDepth 20000 in
theorem ggX4_readKey_X4_readNumber : GoodIn wsX4_readKey wsX4_readNumber := goodIn_r _ [7, 1, 8, 9, 10, 6, 11, 12, 13, 14, 15, 16, 45, 46, 47, 48] (by decide +kernel) (by decide +kernel)
set_option maxRecDepth 20000 in
theorem gX4_readKey_X4_readNumber : GoodIn wsX4_readKey (wsV RX4 48 RX4 yX4_readNumber wsX4_readNumber) := goodIn_app (goodIn_of _ (by decide +kernel)) ggX4_readKey_X4_readNumber
set_option maxRecDepth 20000 in
theorem ggX4_readKey_X4_sign : GoodIn wsX4_readKey wsX4_sign := goodIn_r _ [11, 1, 12, 13, 45, 46, 47, 48] (by decide +kernel) (by decide +kernel)
set_option maxRecDepth 20000 in
theorem gX4_readKey_X4_sign : GoodIn wsX4_readKey (wsV RX4 45 RX4 yX4_sign wsX4_sign) := goodIn_app (goodIn_of _ (by decide +kernel)) ggX4_readKey_X4_sign
set_option maxRecDepth 20000 in
theorem ggX4_readKey_X4_figureOf : GoodIn wsX4_readKey wsX4_figureOf := goodIn_r _ [16] (by decide +kernel) (by decide +kernel)
set_option maxRecDepth 20000 in
theorem gX4_readKey_X4_figureOf : GoodIn wsX4_readKey (va_wsS RX4 52 yX4_figureOf wsX4_figureOf) := goodIn_app (goodIn_of _ (by decide +kernel)) ggX4_readKey_X4_figureOf
set_option maxRecDepth 20000 in
theorem ggX4_readKey_X6_pack : GoodIn wsX4_readKey wsX6_pack := goodIn_r _ [20, 21, 22, 19, 23] (by decide +kernel) (by decide +kernel)
set_option maxRecDepth 20000 in
theorem gX4_readKey_X6_pack : GoodIn wsX4_readKey (va_wsS RX4 56 yX6_pack wsX6_pack) := goodIn_app (goodIn_of _ (by decide +kernel)) ggX4_readKey_X6_pack
set_option maxRecDepth 20000 in
theorem ggX4_readKey_X1_has : GoodIn wsX4_readKey wsX1_has := goodIn_r _ [28, 29, 30, 31, 32, 33, 27, 34, 49, 50, 51] (by decide +kernel) (by decide +kernel)
set_option maxRecDepth 20000 in
theorem gX4_readKey_X1_has : GoodIn wsX4_readKey (wsV RX4 61 RX1 yX1_has wsX1_has) := goodIn_app (goodIn_of _ (by decide +kernel)) ggX4_readKey_X1_has
set_option maxRecDepth 20000 in
theorem ggX4_readKey_X1_hasRoomFor : GoodIn wsX4_readKey wsX1_hasRoomFor := goodIn_r _ [38, 29, 39, 25, 26, 27, 28, 30, 31, 32, 33, 34, 49, 50, 51] (by decide +kernel) (by decide +kernel)
set_option maxRecDepth 20000 in
theorem gX4_readKey_X1_hasRoomFor : GoodIn wsX4_readKey (wsV RX4 65 RX1 yX1_hasRoomFor wsX1_hasRoomFor) := goodIn_app (goodIn_of _ (by decide +kernel)) ggX4_readKey_X1_hasRoomFor
set_option maxRecDepth 20000 in
theorem ggX4_readKey_X1_insert : GoodIn wsX4_readKey wsX1_insert := goodIn_r _ [43, 29, 30, 44, 31, 32, 33, 27, 34, 49, 50, 51] (by decide +kernel) (by decide +kernel)
set_option maxRecDepth 20000 in
theorem gX4_readKey_X1_insert : GoodIn wsX4_readKey (wsV RX4 68 RX1 yX1_insert wsX1_insert) := goodIn_app (goodIn_of _ (by decide +kernel)) ggX4_readKey_X1_insert
theorem dX4_readKey_0 : decode cX4_readKey 0 = .ok (.aload_n 0, 1) := by decide +kernel
theorem dX4_readKey_1 : decode cX4_readKey 1 = .ok (.getfield 26, 3) := by decide +kernel
theorem dX4_readKey_4 : decode cX4_readKey 4 = .ok (.istore_n 1, 1) := by decide +kernel
theorem dX4_readKey_5 : decode cX4_readKey 5 = .ok (.aload_n 0, 1) := by decide +kernel
theorem dX4_readKey_6 : decode cX4_readKey 6 = .ok (.bipush 16, 2) := by decide +kernel
theorem dX4_readKey_8 : decode cX4_readKey 8 = .ok (.bipush 6, 2) := by decide +kernel
theorem dX4_readKey_10 : decode cX4_readKey 10 = .ok (.invokevirtual 48, 3) := by decide +kernel
theorem dX4_readKey_13 : decode cX4_readKey 13 = .ok (.istore_n 2, 1) := by decide +kernel
theorem dX4_readKey_14 : decode cX4_readKey 14 = .ok (.aload_n 0, 1) := by decide +kernel
theorem dX4_readKey_15 : decode cX4_readKey 15 = .ok (.getfield 26, 3) := by decide +kernel
theorem dX4_readKey_18 : decode cX4_readKey 18 = .ok (.iload_n 1, 1) := by decide +kernel
theorem dX4_readKey_19 : decode cX4_readKey 19 = .ok (.isub, 1) := by decide +kernel
theorem dX4_readKey_20 : decode cX4_readKey 20 = .ok (.istore_n 3, 1) := by decide +kernel
theorem dX4_readKey_21 : decode cX4_readKey 21 = .ok (.iload_n 3, 1) := by decide +kernel
theorem dX4_readKey_22 : decode cX4_readKey 22 = .ok (.ifCond .eq 14, 3) := by decide +kernel
theorem dX4_readKey_25 : decode cX4_readKey 25 = .ok (.aload_n 0, 1) := by decide +kernel
theorem dX4_readKey_26 : decode cX4_readKey 26 = .ok (.invokevirtual 45, 3) := by decide +kernel
theorem dX4_readKey_29 : decode cX4_readKey 29 = .ok (.invokestatic 52, 3) := by decide +kernel
theorem dX4_readKey_32 : decode cX4_readKey 32 = .ok (.iconst (-1), 1) := by decide +kernel
theorem dX4_readKey_33 : decode cX4_readKey 33 = .ok (.if_icmp .eq 8, 3) := by decide +kernel
theorem dX4_readKey_36 : decode cX4_readKey 36 = .ok (.aload_n 0, 1) := by decide +kernel
theorem dX4_readKey_37 : decode cX4_readKey 37 = .ok (.getfield 26, 3) := by decide +kernel
theorem dX4_readKey_40 : decode cX4_readKey 40 = .ok (.ireturn, 1) := by decide +kernel
theorem dX4_readKey_41 : decode cX4_readKey 41 = .ok (.iload_n 2, 1) := by decide +kernel
theorem dX4_readKey_42 : decode cX4_readKey 42 = .ok (.iload_n 3, 1) := by decide +kernel
theorem dX4_readKey_43 : decode cX4_readKey 43 = .ok (.invokestatic 56, 3) := by decide +kernel
theorem dX4_readKey_46 : decode cX4_readKey 46 = .ok (.istore 4, 2) := by decide +kernel
theorem dX4_readKey_48 : decode cX4_readKey 48 = .ok (.aload_n 0, 1) := by decide +kernel
theorem dX4_readKey_49 : decode cX4_readKey 49 = .ok (.getfield 12, 3) := by decide +kernel
theorem dX4_readKey_52 : decode cX4_readKey 52 = .ok (.iload 4, 2) := by decide +kernel
theorem dX4_readKey_54 : decode cX4_readKey 54 = .ok (.invokevirtual 61, 3) := by decide +kernel
theorem dX4_readKey_57 : decode cX4_readKey 57 = .ok (.ifCond .ne 15, 3) := by decide +kernel
theorem dX4_readKey_60 : decode cX4_readKey 60 = .ok (.aload_n 0, 1) := by decide +kernel
theorem dX4_readKey_61 : decode cX4_readKey 61 = .ok (.getfield 12, 3) := by decide +kernel
theorem dX4_readKey_64 : decode cX4_readKey 64 = .ok (.iload 4, 2) := by decide +kernel
theorem dX4_readKey_66 : decode cX4_readKey 66 = .ok (.invokevirtual 65, 3) := by decide +kernel
theorem dX4_readKey_69 : decode cX4_readKey 69 = .ok (.ifCond .ne 5, 3) := by decide +kernel
theorem dX4_readKey_72 : decode cX4_readKey 72 = .ok (.iload_n 1, 1) := by decide +kernel
theorem dX4_readKey_73 : decode cX4_readKey 73 = .ok (.ireturn, 1) := by decide +kernel
theorem dX4_readKey_74 : decode cX4_readKey 74 = .ok (.aload_n 0, 1) := by decide +kernel
theorem dX4_readKey_75 : decode cX4_readKey 75 = .ok (.invokevirtual 45, 3) := by decide +kernel
