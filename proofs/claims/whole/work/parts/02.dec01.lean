theorem dX4_readKey_78 : decode cX4_readKey 78 = .ok (.bipush 61, 2) := by decide +kernel
theorem dX4_readKey_80 : decode cX4_readKey 80 = .ok (.if_icmp .eq 8, 3) := by decide +kernel
theorem dX4_readKey_83 : decode cX4_readKey 83 = .ok (.aload_n 0, 1) := by decide +kernel
theorem dX4_readKey_84 : decode cX4_readKey 84 = .ok (.getfield 26, 3) := by decide +kernel
theorem dX4_readKey_87 : decode cX4_readKey 87 = .ok (.ireturn, 1) := by decide +kernel
theorem dX4_readKey_88 : decode cX4_readKey 88 = .ok (.aload_n 0, 1) := by decide +kernel
theorem dX4_readKey_89 : decode cX4_readKey 89 = .ok (.dup, 1) := by decide +kernel
theorem dX4_readKey_90 : decode cX4_readKey 90 = .ok (.getfield 26, 3) := by decide +kernel
theorem dX4_readKey_93 : decode cX4_readKey 93 = .ok (.iconst 1, 1) := by decide +kernel
theorem dX4_readKey_94 : decode cX4_readKey 94 = .ok (.iadd, 1) := by decide +kernel
theorem dX4_readKey_95 : decode cX4_readKey 95 = .ok (.putfield 26, 3) := by decide +kernel
theorem dX4_readKey_98 : decode cX4_readKey 98 = .ok (.aload_n 0, 1) := by decide +kernel
theorem dX4_readKey_99 : decode cX4_readKey 99 = .ok (.getfield 26, 3) := by decide +kernel
theorem dX4_readKey_102 : decode cX4_readKey 102 = .ok (.istore 5, 2) := by decide +kernel
theorem dX4_readKey_104 : decode cX4_readKey 104 = .ok (.aload_n 0, 1) := by decide +kernel
theorem dX4_readKey_105 : decode cX4_readKey 105 = .ok (.bipush 10, 2) := by decide +kernel
theorem dX4_readKey_107 : decode cX4_readKey 107 = .ok (.iconst 3, 1) := by decide +kernel
theorem dX4_readKey_108 : decode cX4_readKey 108 = .ok (.invokevirtual 48, 3) := by decide +kernel
theorem dX4_readKey_111 : decode cX4_readKey 111 = .ok (.istore 6, 2) := by decide +kernel
theorem dX4_readKey_113 : decode cX4_readKey 113 = .ok (.aload_n 0, 1) := by decide +kernel
theorem dX4_readKey_114 : decode cX4_readKey 114 = .ok (.getfield 26, 3) := by decide +kernel
theorem dX4_readKey_117 : decode cX4_readKey 117 = .ok (.iload 5, 2) := by decide +kernel
theorem dX4_readKey_119 : decode cX4_readKey 119 = .ok (.if_icmp .eq 12, 3) := by decide +kernel
theorem dX4_readKey_122 : decode cX4_readKey 122 = .ok (.aload_n 0, 1) := by decide +kernel
theorem dX4_readKey_123 : decode cX4_readKey 123 = .ok (.invokevirtual 45, 3) := by decide +kernel
theorem dX4_readKey_126 : decode cX4_readKey 126 = .ok (.bipush 59, 2) := by decide +kernel
theorem dX4_readKey_128 : decode cX4_readKey 128 = .ok (.if_icmp .eq 8, 3) := by decide +kernel
theorem dX4_readKey_131 : decode cX4_readKey 131 = .ok (.aload_n 0, 1) := by decide +kernel
theorem dX4_readKey_132 : decode cX4_readKey 132 = .ok (.getfield 26, 3) := by decide +kernel
theorem dX4_readKey_135 : decode cX4_readKey 135 = .ok (.ireturn, 1) := by decide +kernel
theorem dX4_readKey_136 : decode cX4_readKey 136 = .ok (.aload_n 0, 1) := by decide +kernel
theorem dX4_readKey_137 : decode cX4_readKey 137 = .ok (.dup, 1) := by decide +kernel
theorem dX4_readKey_138 : decode cX4_readKey 138 = .ok (.getfield 26, 3) := by decide +kernel
theorem dX4_readKey_141 : decode cX4_readKey 141 = .ok (.iconst 1, 1) := by decide +kernel
theorem dX4_readKey_142 : decode cX4_readKey 142 = .ok (.iadd, 1) := by decide +kernel
theorem dX4_readKey_143 : decode cX4_readKey 143 = .ok (.putfield 26, 3) := by decide +kernel
theorem dX4_readKey_146 : decode cX4_readKey 146 = .ok (.aload_n 0, 1) := by decide +kernel
theorem dX4_readKey_147 : decode cX4_readKey 147 = .ok (.getfield 12, 3) := by decide +kernel
theorem dX4_readKey_150 : decode cX4_readKey 150 = .ok (.iload 4, 2) := by decide +kernel
theorem dX4_readKey_152 : decode cX4_readKey 152 = .ok (.iload 6, 2) := by decide +kernel
theorem dX4_readKey_154 : decode cX4_readKey 154 = .ok (.invokevirtual 68, 3) := by decide +kernel
theorem dX4_readKey_157 : decode cX4_readKey 157 = .ok (.bipush (-9), 2) := by decide +kernel
theorem dX4_readKey_159 : decode cX4_readKey 159 = .ok (.ireturn, 1) := by decide +kernel
set_option maxRecDepth 20000 in
theorem ggX4_readNumber_X4_sign : GoodIn wsX4_readNumber wsX4_sign := goodIn_r _ [6, 1, 7, 8, 12, 13, 14, 15] (by decide +kernel) (by decide +kernel)
set_option maxRecDepth 20000 in
theorem gX4_readNumber_X4_sign : GoodIn wsX4_readNumber (wsV RX4 45 RX4 yX4_sign wsX4_sign) := goodIn_app (goodIn_of _ (by decide +kernel)) ggX4_readNumber_X4_sign
set_option maxRecDepth 20000 in
theorem ggX4_readNumber_X4_figureOf : GoodIn wsX4_readNumber wsX4_figureOf := goodIn_r _ [11] (by decide +kernel) (by decide +kernel)
set_option maxRecDepth 20000 in
theorem gX4_readNumber_X4_figureOf : GoodIn wsX4_readNumber (va_wsS RX4 52 yX4_figureOf wsX4_figureOf) := goodIn_app (goodIn_of _ (by decide +kernel)) ggX4_readNumber_X4_figureOf
theorem dX4_readNumber_0 : decode cX4_readNumber 0 = .ok (.iconst 0, 1) := by decide +kernel
theorem dX4_readNumber_1 : decode cX4_readNumber 1 = .ok (.istore_n 3, 1) := by decide +kernel
theorem dX4_readNumber_2 : decode cX4_readNumber 2 = .ok (.iconst 0, 1) := by decide +kernel
theorem dX4_readNumber_3 : decode cX4_readNumber 3 = .ok (.istore 4, 2) := by decide +kernel
theorem dX4_readNumber_5 : decode cX4_readNumber 5 = .ok (.iload 4, 2) := by decide +kernel
theorem dX4_readNumber_7 : decode cX4_readNumber 7 = .ok (.iload_n 2, 1) := by decide +kernel
theorem dX4_readNumber_8 : decode cX4_readNumber 8 = .ok (.if_icmp .ge 48, 3) := by decide +kernel
theorem dX4_readNumber_11 : decode cX4_readNumber 11 = .ok (.aload_n 0, 1) := by decide +kernel
theorem dX4_readNumber_12 : decode cX4_readNumber 12 = .ok (.invokevirtual 45, 3) := by decide +kernel
theorem dX4_readNumber_15 : decode cX4_readNumber 15 = .ok (.invokestatic 52, 3) := by decide +kernel
theorem dX4_readNumber_18 : decode cX4_readNumber 18 = .ok (.istore 5, 2) := by decide +kernel
theorem dX4_readNumber_20 : decode cX4_readNumber 20 = .ok (.iload 5, 2) := by decide +kernel
theorem dX4_readNumber_22 : decode cX4_readNumber 22 = .ok (.ifCond .lt 9, 3) := by decide +kernel
theorem dX4_readNumber_25 : decode cX4_readNumber 25 = .ok (.iload 5, 2) := by decide +kernel
theorem dX4_readNumber_27 : decode cX4_readNumber 27 = .ok (.iload_n 1, 1) := by decide +kernel
theorem dX4_readNumber_28 : decode cX4_readNumber 28 = .ok (.if_icmp .lt 5, 3) := by decide +kernel
theorem dX4_readNumber_31 : decode cX4_readNumber 31 = .ok (.iload_n 3, 1) := by decide +kernel
theorem dX4_readNumber_32 : decode cX4_readNumber 32 = .ok (.ireturn, 1) := by decide +kernel
theorem dX4_readNumber_33 : decode cX4_readNumber 33 = .ok (.iload_n 3, 1) := by decide +kernel
theorem dX4_readNumber_34 : decode cX4_readNumber 34 = .ok (.iload_n 1, 1) := by decide +kernel
theorem dX4_readNumber_35 : decode cX4_readNumber 35 = .ok (.imul, 1) := by decide +kernel
theorem dX4_readNumber_36 : decode cX4_readNumber 36 = .ok (.iload 5, 2) := by decide +kernel
theorem dX4_readNumber_38 : decode cX4_readNumber 38 = .ok (.iadd, 1) := by decide +kernel
theorem dX4_readNumber_39 : decode cX4_readNumber 39 = .ok (.istore_n 3, 1) := by decide +kernel
theorem dX4_readNumber_40 : decode cX4_readNumber 40 = .ok (.aload_n 0, 1) := by decide +kernel
theorem dX4_readNumber_41 : decode cX4_readNumber 41 = .ok (.dup, 1) := by decide +kernel
theorem dX4_readNumber_42 : decode cX4_readNumber 42 = .ok (.getfield 26, 3) := by decide +kernel
theorem dX4_readNumber_45 : decode cX4_readNumber 45 = .ok (.iconst 1, 1) := by decide +kernel
theorem dX4_readNumber_46 : decode cX4_readNumber 46 = .ok (.iadd, 1) := by decide +kernel
theorem dX4_readNumber_47 : decode cX4_readNumber 47 = .ok (.putfield 26, 3) := by decide +kernel
theorem dX4_readNumber_50 : decode cX4_readNumber 50 = .ok (.iinc 4 1, 3) := by decide +kernel
theorem dX4_readNumber_53 : decode cX4_readNumber 53 = .ok (.goto (-48), 3) := by decide +kernel
theorem dX4_readNumber_56 : decode cX4_readNumber 56 = .ok (.iload_n 3, 1) := by decide +kernel
theorem dX4_readNumber_57 : decode cX4_readNumber 57 = .ok (.ireturn, 1) := by decide +kernel
theorem dX4_figureOf_0 : decode cX4_figureOf 0 = .ok (.iload_n 0, 1) := by decide +kernel
theorem dX4_figureOf_1 : decode cX4_figureOf 1 = .ok (.bipush 48, 2) := by decide +kernel
theorem dX4_figureOf_3 : decode cX4_figureOf 3 = .ok (.if_icmp .lt 14, 3) := by decide +kernel
theorem dX4_figureOf_6 : decode cX4_figureOf 6 = .ok (.iload_n 0, 1) := by decide +kernel
theorem dX4_figureOf_7 : decode cX4_figureOf 7 = .ok (.bipush 57, 2) := by decide +kernel
theorem dX4_figureOf_9 : decode cX4_figureOf 9 = .ok (.if_icmp .gt 8, 3) := by decide +kernel
theorem dX4_figureOf_12 : decode cX4_figureOf 12 = .ok (.iload_n 0, 1) := by decide +kernel
theorem dX4_figureOf_13 : decode cX4_figureOf 13 = .ok (.bipush 48, 2) := by decide +kernel
theorem dX4_figureOf_15 : decode cX4_figureOf 15 = .ok (.isub, 1) := by decide +kernel
theorem dX4_figureOf_16 : decode cX4_figureOf 16 = .ok (.ireturn, 1) := by decide +kernel
theorem dX4_figureOf_17 : decode cX4_figureOf 17 = .ok (.iload_n 0, 1) := by decide +kernel
theorem dX4_figureOf_18 : decode cX4_figureOf 18 = .ok (.bipush 97, 2) := by decide +kernel
theorem dX4_figureOf_20 : decode cX4_figureOf 20 = .ok (.if_icmp .lt 19, 3) := by decide +kernel
theorem dX4_figureOf_23 : decode cX4_figureOf 23 = .ok (.iload_n 0, 1) := by decide +kernel
theorem dX4_figureOf_24 : decode cX4_figureOf 24 = .ok (.bipush 102, 2) := by decide +kernel
theorem dX4_figureOf_26 : decode cX4_figureOf 26 = .ok (.if_icmp .gt 13, 3) := by decide +kernel
theorem dX4_figureOf_29 : decode cX4_figureOf 29 = .ok (.iload_n 0, 1) := by decide +kernel
theorem dX4_figureOf_30 : decode cX4_figureOf 30 = .ok (.bipush 97, 2) := by decide +kernel
theorem dX4_figureOf_32 : decode cX4_figureOf 32 = .ok (.isub, 1) := by decide +kernel
theorem dX4_figureOf_33 : decode cX4_figureOf 33 = .ok (.bipush 10, 2) := by decide +kernel
theorem dX4_figureOf_35 : decode cX4_figureOf 35 = .ok (.iadd, 1) := by decide +kernel
theorem dX4_figureOf_36 : decode cX4_figureOf 36 = .ok (.goto 4, 3) := by decide +kernel
theorem dX4_figureOf_39 : decode cX4_figureOf 39 = .ok (.iconst (-1), 1) := by decide +kernel
theorem dX4_figureOf_40 : decode cX4_figureOf 40 = .ok (.ireturn, 1) := by decide +kernel
theorem dX5_init_0 : decode cX5_init 0 = .ok (.aload_n 0, 1) := by decide +kernel
theorem dX5_init_1 : decode cX5_init 1 = .ok (.invokespecial 3, 3) := by decide +kernel
theorem dX5_init_4 : decode cX5_init 4 = .ok (.aload_n 0, 1) := by decide +kernel
theorem dX5_init_5 : decode cX5_init 5 = .ok (.iload_n 2, 1) := by decide +kernel
theorem dX5_init_6 : decode cX5_init 6 = .ok (.putfield 9, 3) := by decide +kernel
theorem dX5_init_9 : decode cX5_init 9 = .ok (.aload_n 0, 1) := by decide +kernel
theorem dX5_init_10 : decode cX5_init 10 = .ok (.iload_n 1, 1) := by decide +kernel
theorem dX5_init_11 : decode cX5_init 11 = .ok (.iload_n 2, 1) := by decide +kernel
theorem dX5_init_12 : decode cX5_init 12 = .ok (.multianewarray 15 2, 4) := by decide +kernel
theorem dX5_init_16 : decode cX5_init 16 = .ok (.putfield 17, 3) := by decide +kernel
theorem dX5_init_19 : decode cX5_init 19 = .ok (.aload_n 0, 1) := by decide +kernel
theorem dX5_init_20 : decode cX5_init 20 = .ok (.iload_n 1, 1) := by decide +kernel
theorem dX5_init_21 : decode cX5_init 21 = .ok (.newarray .int, 2) := by decide +kernel
theorem dX5_init_23 : decode cX5_init 23 = .ok (.putfield 20, 3) := by decide +kernel
theorem dX5_init_26 : decode cX5_init 26 = .ok (.iconst 0, 1) := by decide +kernel
theorem dX5_init_27 : decode cX5_init 27 = .ok (.istore_n 3, 1) := by decide +kernel
theorem dX5_init_28 : decode cX5_init 28 = .ok (.iload_n 3, 1) := by decide +kernel
theorem dX5_init_29 : decode cX5_init 29 = .ok (.iload_n 1, 1) := by decide +kernel
theorem dX5_init_30 : decode cX5_init 30 = .ok (.if_icmp .ge 16, 3) := by decide +kernel
theorem dX5_init_33 : decode cX5_init 33 = .ok (.aload_n 0, 1) := by decide +kernel
theorem dX5_init_34 : decode cX5_init 34 = .ok (.getfield 20, 3) := by decide +kernel
theorem dX5_init_37 : decode cX5_init 37 = .ok (.iload_n 3, 1) := by decide +kernel
theorem dX5_init_38 : decode cX5_init 38 = .ok (.iconst (-1), 1) := by decide +kernel
theorem dX5_init_39 : decode cX5_init 39 = .ok (.iastore, 1) := by decide +kernel
theorem dX5_init_40 : decode cX5_init 40 = .ok (.iinc 3 1, 3) := by decide +kernel
theorem dX5_init_43 : decode cX5_init 43 = .ok (.goto (-15), 3) := by decide +kernel
theorem dX5_init_46 : decode cX5_init 46 = .ok (.return_, 1) := by decide +kernel
theorem dX5_names_0 : decode cX5_names 0 = .ok (.iload_n 1, 1) := by decide +kernel
theorem dX5_names_1 : decode cX5_names 1 = .ok (.ifCond .lt 16, 3) := by decide +kernel
theorem dX5_names_4 : decode cX5_names 4 = .ok (.iload_n 1, 1) := by decide +kernel
theorem dX5_names_5 : decode cX5_names 5 = .ok (.aload_n 0, 1) := by decide +kernel
theorem dX5_names_6 : decode cX5_names 6 = .ok (.getfield 20, 3) := by decide +kernel
theorem dX5_names_9 : decode cX5_names 9 = .ok (.arraylength, 1) := by decide +kernel
theorem dX5_names_10 : decode cX5_names 10 = .ok (.if_icmp .ge 7, 3) := by decide +kernel
theorem dX5_names_13 : decode cX5_names 13 = .ok (.iconst 1, 1) := by decide +kernel
theorem dX5_names_14 : decode cX5_names 14 = .ok (.goto 4, 3) := by decide +kernel
theorem dX5_names_17 : decode cX5_names 17 = .ok (.iconst 0, 1) := by decide +kernel
theorem dX5_names_18 : decode cX5_names 18 = .ok (.ireturn, 1) := by decide +kernel
set_option maxRecDepth 20000 in
theorem ggX5_size_X5_names : GoodIn wsX5_size wsX5_names := goodIn_r _ [6, 1, 7, 8, 9] (by decide +kernel) (by decide +kernel)
set_option maxRecDepth 20000 in
theorem gX5_size_X5_names : GoodIn wsX5_size (wsV RX5 24 RX5 yX5_names wsX5_names) := goodIn_app (goodIn_of _ (by decide +kernel)) ggX5_size_X5_names
theorem dX5_size_0 : decode cX5_size 0 = .ok (.aload_n 0, 1) := by decide +kernel
theorem dX5_size_1 : decode cX5_size 1 = .ok (.iload_n 1, 1) := by decide +kernel
theorem dX5_size_2 : decode cX5_size 2 = .ok (.invokevirtual 24, 3) := by decide +kernel
theorem dX5_size_5 : decode cX5_size 5 = .ok (.ifCond .eq 12, 3) := by decide +kernel
theorem dX5_size_8 : decode cX5_size 8 = .ok (.aload_n 0, 1) := by decide +kernel
theorem dX5_size_9 : decode cX5_size 9 = .ok (.getfield 20, 3) := by decide +kernel
theorem dX5_size_12 : decode cX5_size 12 = .ok (.iload_n 1, 1) := by decide +kernel
theorem dX5_size_13 : decode cX5_size 13 = .ok (.iaload, 1) := by decide +kernel
theorem dX5_size_14 : decode cX5_size 14 = .ok (.goto 4, 3) := by decide +kernel
theorem dX5_size_17 : decode cX5_size 17 = .ok (.iconst (-1), 1) := by decide +kernel
theorem dX5_size_18 : decode cX5_size 18 = .ok (.ireturn, 1) := by decide +kernel
set_option maxRecDepth 20000 in
theorem ggX5_holds_X5_size : GoodIn wsX5_holds wsX5_size := goodIn_r _ [5, 6, 7, 8, 9, 4, 10, 11, 12, 13] (by decide +kernel) (by decide +kernel)
set_option maxRecDepth 20000 in
theorem gX5_holds_X5_size : GoodIn wsX5_holds (wsV RX5 28 RX5 yX5_size wsX5_size) := goodIn_app (goodIn_of _ (by decide +kernel)) ggX5_holds_X5_size
theorem dX5_holds_0 : decode cX5_holds 0 = .ok (.aload_n 0, 1) := by decide +kernel
theorem dX5_holds_1 : decode cX5_holds 1 = .ok (.iload_n 1, 1) := by decide +kernel
theorem dX5_holds_2 : decode cX5_holds 2 = .ok (.invokevirtual 28, 3) := by decide +kernel
theorem dX5_holds_5 : decode cX5_holds 5 = .ok (.iconst (-1), 1) := by decide +kernel
theorem dX5_holds_6 : decode cX5_holds 6 = .ok (.if_icmp .eq 7, 3) := by decide +kernel
theorem dX5_holds_9 : decode cX5_holds 9 = .ok (.iconst 1, 1) := by decide +kernel
theorem dX5_holds_10 : decode cX5_holds 10 = .ok (.goto 4, 3) := by decide +kernel
theorem dX5_holds_13 : decode cX5_holds 13 = .ok (.iconst 0, 1) := by decide +kernel
theorem dX5_holds_14 : decode cX5_holds 14 = .ok (.ireturn, 1) := by decide +kernel
set_option maxRecDepth 20000 in
theorem ggX5_reaches_X5_size : GoodIn wsX5_reaches wsX5_size := goodIn_r _ [5, 6, 7, 8, 9, 4, 10, 11, 12, 13] (by decide +kernel) (by decide +kernel)
set_option maxRecDepth 20000 in
theorem gX5_reaches_X5_size : GoodIn wsX5_reaches (wsV RX5 28 RX5 yX5_size wsX5_size) := goodIn_app (goodIn_of _ (by decide +kernel)) ggX5_reaches_X5_size
theorem dX5_reaches_0 : decode cX5_reaches 0 = .ok (.iload_n 2, 1) := by decide +kernel
theorem dX5_reaches_1 : decode cX5_reaches 1 = .ok (.ifCond .lt 16, 3) := by decide +kernel
theorem dX5_reaches_4 : decode cX5_reaches 4 = .ok (.iload_n 2, 1) := by decide +kernel
theorem dX5_reaches_5 : decode cX5_reaches 5 = .ok (.aload_n 0, 1) := by decide +kernel
theorem dX5_reaches_6 : decode cX5_reaches 6 = .ok (.iload_n 1, 1) := by decide +kernel
theorem dX5_reaches_7 : decode cX5_reaches 7 = .ok (.invokevirtual 28, 3) := by decide +kernel
theorem dX5_reaches_10 : decode cX5_reaches 10 = .ok (.if_icmp .ge 7, 3) := by decide +kernel
theorem dX5_reaches_13 : decode cX5_reaches 13 = .ok (.iconst 1, 1) := by decide +kernel
theorem dX5_reaches_14 : decode cX5_reaches 14 = .ok (.goto 4, 3) := by decide +kernel
theorem dX5_reaches_17 : decode cX5_reaches 17 = .ok (.iconst 0, 1) := by decide +kernel
theorem dX5_reaches_18 : decode cX5_reaches 18 = .ok (.ireturn, 1) := by decide +kernel
set_option maxRecDepth 20000 in
theorem ggX5_spans_X5_size : GoodIn wsX5_spans wsX5_size := goodIn_r _ [5, 6, 7, 8, 9, 4, 10, 11, 12, 13] (by decide +kernel) (by decide +kernel)
set_option maxRecDepth 20000 in
theorem gX5_spans_X5_size : GoodIn wsX5_spans (wsV RX5 28 RX5 yX5_size wsX5_size) := goodIn_app (goodIn_of _ (by decide +kernel)) ggX5_spans_X5_size
theorem dX5_spans_0 : decode cX5_spans 0 = .ok (.aload_n 0, 1) := by decide +kernel
theorem dX5_spans_1 : decode cX5_spans 1 = .ok (.iload_n 1, 1) := by decide +kernel
theorem dX5_spans_2 : decode cX5_spans 2 = .ok (.invokevirtual 28, 3) := by decide +kernel
theorem dX5_spans_5 : decode cX5_spans 5 = .ok (.istore 4, 2) := by decide +kernel
theorem dX5_spans_7 : decode cX5_spans 7 = .ok (.iload_n 2, 1) := by decide +kernel
theorem dX5_spans_8 : decode cX5_spans 8 = .ok (.ifCond .lt 25, 3) := by decide +kernel
theorem dX5_spans_11 : decode cX5_spans 11 = .ok (.iload_n 2, 1) := by decide +kernel
theorem dX5_spans_12 : decode cX5_spans 12 = .ok (.iload 4, 2) := by decide +kernel
theorem dX5_spans_14 : decode cX5_spans 14 = .ok (.if_icmp .gt 19, 3) := by decide +kernel
theorem dX5_spans_17 : decode cX5_spans 17 = .ok (.iload_n 3, 1) := by decide +kernel
theorem dX5_spans_18 : decode cX5_spans 18 = .ok (.ifCond .lt 15, 3) := by decide +kernel
theorem dX5_spans_21 : decode cX5_spans 21 = .ok (.iload_n 3, 1) := by decide +kernel
theorem dX5_spans_22 : decode cX5_spans 22 = .ok (.iload 4, 2) := by decide +kernel
theorem dX5_spans_24 : decode cX5_spans 24 = .ok (.iload_n 2, 1) := by decide +kernel
theorem dX5_spans_25 : decode cX5_spans 25 = .ok (.isub, 1) := by decide +kernel
theorem dX5_spans_26 : decode cX5_spans 26 = .ok (.if_icmp .gt 7, 3) := by decide +kernel
theorem dX5_spans_29 : decode cX5_spans 29 = .ok (.iconst 1, 1) := by decide +kernel
theorem dX5_spans_30 : decode cX5_spans 30 = .ok (.goto 4, 3) := by decide +kernel
theorem dX5_spans_33 : decode cX5_spans 33 = .ok (.iconst 0, 1) := by decide +kernel
theorem dX5_spans_34 : decode cX5_spans 34 = .ok (.ireturn, 1) := by decide +kernel
set_option maxRecDepth 20000 in
theorem ggX5_cell_X5_reaches : GoodIn wsX5_cell wsX5_reaches := goodIn_r _ [6, 7, 8, 9, 5, 10, 11, 12, 13, 14, 15, 16, 17, 18] (by decide +kernel) (by decide +kernel)
set_option maxRecDepth 20000 in
theorem gX5_cell_X5_reaches : GoodIn wsX5_cell (wsV RX5 32 RX5 yX5_reaches wsX5_reaches) := goodIn_app (goodIn_of _ (by decide +kernel)) ggX5_cell_X5_reaches
theorem dX5_cell_0 : decode cX5_cell 0 = .ok (.aload_n 0, 1) := by decide +kernel
theorem dX5_cell_1 : decode cX5_cell 1 = .ok (.iload_n 1, 1) := by decide +kernel
theorem dX5_cell_2 : decode cX5_cell 2 = .ok (.iload_n 2, 1) := by decide +kernel
theorem dX5_cell_3 : decode cX5_cell 3 = .ok (.invokevirtual 32, 3) := by decide +kernel
theorem dX5_cell_6 : decode cX5_cell 6 = .ok (.ifCond .eq 14, 3) := by decide +kernel
theorem dX5_cell_9 : decode cX5_cell 9 = .ok (.aload_n 0, 1) := by decide +kernel
theorem dX5_cell_10 : decode cX5_cell 10 = .ok (.getfield 17, 3) := by decide +kernel
theorem dX5_cell_13 : decode cX5_cell 13 = .ok (.iload_n 1, 1) := by decide +kernel
theorem dX5_cell_14 : decode cX5_cell 14 = .ok (.aaload, 1) := by decide +kernel
theorem dX5_cell_15 : decode cX5_cell 15 = .ok (.iload_n 2, 1) := by decide +kernel
theorem dX5_cell_16 : decode cX5_cell 16 = .ok (.iaload, 1) := by decide +kernel
theorem dX5_cell_17 : decode cX5_cell 17 = .ok (.goto 4, 3) := by decide +kernel
theorem dX5_cell_20 : decode cX5_cell 20 = .ok (.iconst 0, 1) := by decide +kernel
theorem dX5_cell_21 : decode cX5_cell 21 = .ok (.ireturn, 1) := by decide +kernel
set_option maxRecDepth 20000 in
theorem ggX5_replace_X5_reaches : GoodIn wsX5_replace wsX5_reaches := goodIn_r _ [6, 7, 8, 9, 5, 10, 11, 12, 13, 14, 15, 16, 17, 18] (by decide +kernel) (by decide +kernel)
set_option maxRecDepth 20000 in
theorem gX5_replace_X5_reaches : GoodIn wsX5_replace (wsV RX5 32 RX5 yX5_reaches wsX5_reaches) := goodIn_app (goodIn_of _ (by decide +kernel)) ggX5_replace_X5_reaches
theorem dX5_replace_0 : decode cX5_replace 0 = .ok (.aload_n 0, 1) := by decide +kernel
theorem dX5_replace_1 : decode cX5_replace 1 = .ok (.iload_n 1, 1) := by decide +kernel
theorem dX5_replace_2 : decode cX5_replace 2 = .ok (.iload_n 2, 1) := by decide +kernel
theorem dX5_replace_3 : decode cX5_replace 3 = .ok (.invokevirtual 32, 3) := by decide +kernel
theorem dX5_replace_6 : decode cX5_replace 6 = .ok (.ifCond .ne 5, 3) := by decide +kernel
theorem dX5_replace_9 : decode cX5_replace 9 = .ok (.iconst 0, 1) := by decide +kernel
theorem dX5_replace_10 : decode cX5_replace 10 = .ok (.ireturn, 1) := by decide +kernel
theorem dX5_replace_11 : decode cX5_replace 11 = .ok (.aload_n 0, 1) := by decide +kernel
theorem dX5_replace_12 : decode cX5_replace 12 = .ok (.getfield 17, 3) := by decide +kernel
theorem dX5_replace_15 : decode cX5_replace 15 = .ok (.iload_n 1, 1) := by decide +kernel
theorem dX5_replace_16 : decode cX5_replace 16 = .ok (.aaload, 1) := by decide +kernel
theorem dX5_replace_17 : decode cX5_replace 17 = .ok (.iload_n 2, 1) := by decide +kernel
theorem dX5_replace_18 : decode cX5_replace 18 = .ok (.iaload, 1) := by decide +kernel
theorem dX5_replace_19 : decode cX5_replace 19 = .ok (.istore 4, 2) := by decide +kernel
theorem dX5_replace_21 : decode cX5_replace 21 = .ok (.aload_n 0, 1) := by decide +kernel
theorem dX5_replace_22 : decode cX5_replace 22 = .ok (.getfield 17, 3) := by decide +kernel
theorem dX5_replace_25 : decode cX5_replace 25 = .ok (.iload_n 1, 1) := by decide +kernel
theorem dX5_replace_26 : decode cX5_replace 26 = .ok (.aaload, 1) := by decide +kernel
theorem dX5_replace_27 : decode cX5_replace 27 = .ok (.iload_n 2, 1) := by decide +kernel
theorem dX5_replace_28 : decode cX5_replace 28 = .ok (.iload_n 3, 1) := by decide +kernel
theorem dX5_replace_29 : decode cX5_replace 29 = .ok (.iastore, 1) := by decide +kernel
theorem dX5_replace_30 : decode cX5_replace 30 = .ok (.iload 4, 2) := by decide +kernel
theorem dX5_replace_32 : decode cX5_replace 32 = .ok (.ireturn, 1) := by decide +kernel
set_option maxRecDepth 20000 in
theorem ggX5_make_X5_names : GoodIn wsX5_make wsX5_names := goodIn_r _ [8, 2, 9, 10, 11] (by decide +kernel) (by decide +kernel)
set_option maxRecDepth 20000 in
theorem gX5_make_X5_names : GoodIn wsX5_make (wsV RX5 24 RX5 yX5_names wsX5_names) := goodIn_app (goodIn_of _ (by decide +kernel)) ggX5_make_X5_names
theorem dX5_make_0 : decode cX5_make 0 = .ok (.aload_n 0, 1) := by decide +kernel
theorem dX5_make_1 : decode cX5_make 1 = .ok (.iload_n 1, 1) := by decide +kernel
theorem dX5_make_2 : decode cX5_make 2 = .ok (.invokevirtual 24, 3) := by decide +kernel
theorem dX5_make_5 : decode cX5_make 5 = .ok (.ifCond .eq 15, 3) := by decide +kernel
theorem dX5_make_8 : decode cX5_make 8 = .ok (.iload_n 2, 1) := by decide +kernel
theorem dX5_make_9 : decode cX5_make 9 = .ok (.ifCond .lt 11, 3) := by decide +kernel
theorem dX5_make_12 : decode cX5_make 12 = .ok (.iload_n 2, 1) := by decide +kernel
theorem dX5_make_13 : decode cX5_make 13 = .ok (.aload_n 0, 1) := by decide +kernel
theorem dX5_make_14 : decode cX5_make 14 = .ok (.getfield 9, 3) := by decide +kernel
theorem dX5_make_17 : decode cX5_make 17 = .ok (.if_icmp .le 4, 3) := by decide +kernel
theorem dX5_make_20 : decode cX5_make 20 = .ok (.return_, 1) := by decide +kernel
theorem dX5_make_21 : decode cX5_make 21 = .ok (.aload_n 0, 1) := by decide +kernel
theorem dX5_make_22 : decode cX5_make 22 = .ok (.getfield 20, 3) := by decide +kernel
theorem dX5_make_25 : decode cX5_make 25 = .ok (.iload_n 1, 1) := by decide +kernel
theorem dX5_make_26 : decode cX5_make 26 = .ok (.iload_n 2, 1) := by decide +kernel
theorem dX5_make_27 : decode cX5_make 27 = .ok (.iastore, 1) := by decide +kernel
theorem dX5_make_28 : decode cX5_make 28 = .ok (.iconst 0, 1) := by decide +kernel
theorem dX5_make_29 : decode cX5_make 29 = .ok (.istore 4, 2) := by decide +kernel
theorem dX5_make_31 : decode cX5_make 31 = .ok (.iload 4, 2) := by decide +kernel
theorem dX5_make_33 : decode cX5_make 33 = .ok (.iload_n 2, 1) := by decide +kernel
theorem dX5_make_34 : decode cX5_make 34 = .ok (.if_icmp .ge 19, 3) := by decide +kernel
theorem dX5_make_37 : decode cX5_make 37 = .ok (.aload_n 0, 1) := by decide +kernel
theorem dX5_make_38 : decode cX5_make 38 = .ok (.getfield 17, 3) := by decide +kernel
theorem dX5_make_41 : decode cX5_make 41 = .ok (.iload_n 1, 1) := by decide +kernel
theorem dX5_make_42 : decode cX5_make 42 = .ok (.aaload, 1) := by decide +kernel
theorem dX5_make_43 : decode cX5_make 43 = .ok (.iload 4, 2) := by decide +kernel
theorem dX5_make_45 : decode cX5_make 45 = .ok (.iload_n 3, 1) := by decide +kernel
theorem dX5_make_46 : decode cX5_make 46 = .ok (.iastore, 1) := by decide +kernel
theorem dX5_make_47 : decode cX5_make 47 = .ok (.iinc 4 1, 3) := by decide +kernel
theorem dX5_make_50 : decode cX5_make 50 = .ok (.goto (-19), 3) := by decide +kernel
theorem dX5_make_53 : decode cX5_make 53 = .ok (.return_, 1) := by decide +kernel
set_option maxRecDepth 20000 in
theorem ggX5_drop_X5_names : GoodIn wsX5_drop wsX5_names := goodIn_r _ [6, 1, 7, 8, 9] (by decide +kernel) (by decide +kernel)
set_option maxRecDepth 20000 in
theorem gX5_drop_X5_names : GoodIn wsX5_drop (wsV RX5 24 RX5 yX5_names wsX5_names) := goodIn_app (goodIn_of _ (by decide +kernel)) ggX5_drop_X5_names
theorem dX5_drop_0 : decode cX5_drop 0 = .ok (.aload_n 0, 1) := by decide +kernel
theorem dX5_drop_1 : decode cX5_drop 1 = .ok (.iload_n 1, 1) := by decide +kernel
theorem dX5_drop_2 : decode cX5_drop 2 = .ok (.invokevirtual 24, 3) := by decide +kernel
theorem dX5_drop_5 : decode cX5_drop 5 = .ok (.ifCond .eq 10, 3) := by decide +kernel
theorem dX5_drop_8 : decode cX5_drop 8 = .ok (.aload_n 0, 1) := by decide +kernel
theorem dX5_drop_9 : decode cX5_drop 9 = .ok (.getfield 20, 3) := by decide +kernel
theorem dX5_drop_12 : decode cX5_drop 12 = .ok (.iload_n 1, 1) := by decide +kernel
theorem dX5_drop_13 : decode cX5_drop 13 = .ok (.iconst (-1), 1) := by decide +kernel
theorem dX5_drop_14 : decode cX5_drop 14 = .ok (.iastore, 1) := by decide +kernel
theorem dX5_drop_15 : decode cX5_drop 15 = .ok (.return_, 1) := by decide +kernel
set_option maxRecDepth 20000 in
theorem ggX5_move_X5_spans : GoodIn wsX5_move wsX5_spans := goodIn_r _ [10, 11, 12, 13, 9, 14, 15, 16, 17, 18, 19, 20, 21, 22] (by decide +kernel) (by decide +kernel)
set_option maxRecDepth 20000 in
theorem gX5_move_X5_spans : GoodIn wsX5_move (wsV RX5 36 RX5 yX5_spans wsX5_spans) := goodIn_app (goodIn_of _ (by decide +kernel)) ggX5_move_X5_spans
theorem dX5_move_0 : decode cX5_move 0 = .ok (.aload_n 0, 1) := by decide +kernel
theorem dX5_move_1 : decode cX5_move 1 = .ok (.iload_n 1, 1) := by decide +kernel
theorem dX5_move_2 : decode cX5_move 2 = .ok (.iload_n 2, 1) := by decide +kernel
theorem dX5_move_3 : decode cX5_move 3 = .ok (.iload 5, 2) := by decide +kernel
theorem dX5_move_5 : decode cX5_move 5 = .ok (.invokevirtual 36, 3) := by decide +kernel
theorem dX5_move_8 : decode cX5_move 8 = .ok (.ifCond .eq 35, 3) := by decide +kernel
theorem dX5_move_11 : decode cX5_move 11 = .ok (.aload_n 0, 1) := by decide +kernel
theorem dX5_move_12 : decode cX5_move 12 = .ok (.iload_n 3, 1) := by decide +kernel
theorem dX5_move_13 : decode cX5_move 13 = .ok (.iload 4, 2) := by decide +kernel
theorem dX5_move_15 : decode cX5_move 15 = .ok (.iload 5, 2) := by decide +kernel
theorem dX5_move_17 : decode cX5_move 17 = .ok (.invokevirtual 36, 3) := by decide +kernel
theorem dX5_move_20 : decode cX5_move 20 = .ok (.ifCond .eq 23, 3) := by decide +kernel
theorem dX5_move_23 : decode cX5_move 23 = .ok (.aload_n 0, 1) := by decide +kernel
theorem dX5_move_24 : decode cX5_move 24 = .ok (.getfield 17, 3) := by decide +kernel
theorem dX5_move_27 : decode cX5_move 27 = .ok (.iload_n 1, 1) := by decide +kernel
theorem dX5_move_28 : decode cX5_move 28 = .ok (.aaload, 1) := by decide +kernel
theorem dX5_move_29 : decode cX5_move 29 = .ok (.iload_n 2, 1) := by decide +kernel
theorem dX5_move_30 : decode cX5_move 30 = .ok (.aload_n 0, 1) := by decide +kernel
theorem dX5_move_31 : decode cX5_move 31 = .ok (.getfield 17, 3) := by decide +kernel
theorem dX5_move_34 : decode cX5_move 34 = .ok (.iload_n 3, 1) := by decide +kernel
theorem dX5_move_35 : decode cX5_move 35 = .ok (.aaload, 1) := by decide +kernel
theorem dX5_move_36 : decode cX5_move 36 = .ok (.iload 4, 2) := by decide +kernel
theorem dX5_move_38 : decode cX5_move 38 = .ok (.iload 5, 2) := by decide +kernel
theorem dX5_move_40 : decode cX5_move 40 = .ok (.invokestatic 40, 3) := by decide +kernel
theorem dX5_move_43 : decode cX5_move 43 = .ok (.return_, 1) := by decide +kernel
set_option maxRecDepth 20000 in
theorem ggX5_layInto_X5_size : GoodIn wsX5_layInto wsX5_size := goodIn_r _ [14, 15, 16, 17, 18, 13, 19, 20, 21, 22] (by decide +kernel) (by decide +kernel)
set_option maxRecDepth 20000 in
theorem gX5_layInto_X5_size : GoodIn wsX5_layInto (wsV RX5 28 RX5 yX5_size wsX5_size) := goodIn_app (goodIn_of _ (by decide +kernel)) ggX5_layInto_X5_size
theorem dX5_layInto_0 : decode cX5_layInto 0 = .ok (.aload_n 0, 1) := by decide +kernel
theorem dX5_layInto_1 : decode cX5_layInto 1 = .ok (.iload_n 1, 1) := by decide +kernel
theorem dX5_layInto_2 : decode cX5_layInto 2 = .ok (.invokevirtual 28, 3) := by decide +kernel
theorem dX5_layInto_5 : decode cX5_layInto 5 = .ok (.aload_n 2, 1) := by decide +kernel
theorem dX5_layInto_6 : decode cX5_layInto 6 = .ok (.arraylength, 1) := by decide +kernel
theorem dX5_layInto_7 : decode cX5_layInto 7 = .ok (.invokestatic 46, 3) := by decide +kernel
theorem dX5_layInto_10 : decode cX5_layInto 10 = .ok (.istore_n 3, 1) := by decide +kernel
theorem dX5_layInto_11 : decode cX5_layInto 11 = .ok (.iload_n 3, 1) := by decide +kernel
theorem dX5_layInto_12 : decode cX5_layInto 12 = .ok (.iconst 1, 1) := by decide +kernel
theorem dX5_layInto_13 : decode cX5_layInto 13 = .ok (.if_icmp .ge 5, 3) := by decide +kernel
theorem dX5_layInto_16 : decode cX5_layInto 16 = .ok (.iconst 0, 1) := by decide +kernel
theorem dX5_layInto_17 : decode cX5_layInto 17 = .ok (.ireturn, 1) := by decide +kernel
theorem dX5_layInto_18 : decode cX5_layInto 18 = .ok (.aload_n 0, 1) := by decide +kernel
theorem dX5_layInto_19 : decode cX5_layInto 19 = .ok (.getfield 17, 3) := by decide +kernel
theorem dX5_layInto_22 : decode cX5_layInto 22 = .ok (.iload_n 1, 1) := by decide +kernel
theorem dX5_layInto_23 : decode cX5_layInto 23 = .ok (.aaload, 1) := by decide +kernel
theorem dX5_layInto_24 : decode cX5_layInto 24 = .ok (.iconst 0, 1) := by decide +kernel
theorem dX5_layInto_25 : decode cX5_layInto 25 = .ok (.aload_n 2, 1) := by decide +kernel
theorem dX5_layInto_26 : decode cX5_layInto 26 = .ok (.iconst 0, 1) := by decide +kernel
theorem dX5_layInto_27 : decode cX5_layInto 27 = .ok (.iload_n 3, 1) := by decide +kernel
theorem dX5_layInto_28 : decode cX5_layInto 28 = .ok (.invokestatic 40, 3) := by decide +kernel
theorem dX5_layInto_31 : decode cX5_layInto 31 = .ok (.iload_n 3, 1) := by decide +kernel
theorem dX5_layInto_32 : decode cX5_layInto 32 = .ok (.ireturn, 1) := by decide +kernel
set_option maxRecDepth 20000 in
theorem ggX5_sum_X5_size : GoodIn wsX5_sum wsX5_size := goodIn_r _ [6, 7, 8, 9, 10, 5, 11, 12, 13, 14] (by decide +kernel) (by decide +kernel)
set_option maxRecDepth 20000 in
theorem gX5_sum_X5_size : GoodIn wsX5_sum (wsV RX5 28 RX5 yX5_size wsX5_size) := goodIn_app (goodIn_of _ (by decide +kernel)) ggX5_sum_X5_size
theorem dX5_sum_0 : decode cX5_sum 0 = .ok (.lconst 0, 1) := by decide +kernel
theorem dX5_sum_1 : decode cX5_sum 1 = .ok (.lstore_n 2, 1) := by decide +kernel
theorem dX5_sum_2 : decode cX5_sum 2 = .ok (.iconst 0, 1) := by decide +kernel
theorem dX5_sum_3 : decode cX5_sum 3 = .ok (.istore 4, 2) := by decide +kernel
theorem dX5_sum_5 : decode cX5_sum 5 = .ok (.iload 4, 2) := by decide +kernel
theorem dX5_sum_7 : decode cX5_sum 7 = .ok (.aload_n 0, 1) := by decide +kernel
theorem dX5_sum_8 : decode cX5_sum 8 = .ok (.iload_n 1, 1) := by decide +kernel
theorem dX5_sum_9 : decode cX5_sum 9 = .ok (.invokevirtual 28, 3) := by decide +kernel
theorem dX5_sum_12 : decode cX5_sum 12 = .ok (.if_icmp .ge 22, 3) := by decide +kernel
theorem dX5_sum_15 : decode cX5_sum 15 = .ok (.lload_n 2, 1) := by decide +kernel
theorem dX5_sum_16 : decode cX5_sum 16 = .ok (.aload_n 0, 1) := by decide +kernel
theorem dX5_sum_17 : decode cX5_sum 17 = .ok (.getfield 17, 3) := by decide +kernel
theorem dX5_sum_20 : decode cX5_sum 20 = .ok (.iload_n 1, 1) := by decide +kernel
theorem dX5_sum_21 : decode cX5_sum 21 = .ok (.aaload, 1) := by decide +kernel
theorem dX5_sum_22 : decode cX5_sum 22 = .ok (.iload 4, 2) := by decide +kernel
theorem dX5_sum_24 : decode cX5_sum 24 = .ok (.iaload, 1) := by decide +kernel
theorem dX5_sum_25 : decode cX5_sum 25 = .ok (.i2l, 1) := by decide +kernel
theorem dX5_sum_26 : decode cX5_sum 26 = .ok (.ladd, 1) := by decide +kernel
theorem dX5_sum_27 : decode cX5_sum 27 = .ok (.lstore_n 2, 1) := by decide +kernel
theorem dX5_sum_28 : decode cX5_sum 28 = .ok (.iinc 4 1, 3) := by decide +kernel
theorem dX5_sum_31 : decode cX5_sum 31 = .ok (.goto (-26), 3) := by decide +kernel
theorem dX5_sum_34 : decode cX5_sum 34 = .ok (.lload_n 2, 1) := by decide +kernel
theorem dX5_sum_35 : decode cX5_sum 35 = .ok (.lreturn, 1) := by decide +kernel
theorem dX5_held_0 : decode cX5_held 0 = .ok (.iconst 0, 1) := by decide +kernel
theorem dX5_held_1 : decode cX5_held 1 = .ok (.istore_n 1, 1) := by decide +kernel
theorem dX5_held_2 : decode cX5_held 2 = .ok (.iconst 0, 1) := by decide +kernel
theorem dX5_held_3 : decode cX5_held 3 = .ok (.istore_n 2, 1) := by decide +kernel
theorem dX5_held_4 : decode cX5_held 4 = .ok (.iload_n 2, 1) := by decide +kernel
theorem dX5_held_5 : decode cX5_held 5 = .ok (.aload_n 0, 1) := by decide +kernel
theorem dX5_held_6 : decode cX5_held 6 = .ok (.getfield 20, 3) := by decide +kernel
theorem dX5_held_9 : decode cX5_held 9 = .ok (.arraylength, 1) := by decide +kernel
theorem dX5_held_10 : decode cX5_held 10 = .ok (.if_icmp .ge 22, 3) := by decide +kernel
theorem dX5_held_13 : decode cX5_held 13 = .ok (.aload_n 0, 1) := by decide +kernel
theorem dX5_held_14 : decode cX5_held 14 = .ok (.getfield 20, 3) := by decide +kernel
theorem dX5_held_17 : decode cX5_held 17 = .ok (.iload_n 2, 1) := by decide +kernel
theorem dX5_held_18 : decode cX5_held 18 = .ok (.iaload, 1) := by decide +kernel
theorem dX5_held_19 : decode cX5_held 19 = .ok (.iconst (-1), 1) := by decide +kernel
theorem dX5_held_20 : decode cX5_held 20 = .ok (.if_icmp .eq 6, 3) := by decide +kernel
theorem dX5_held_23 : decode cX5_held 23 = .ok (.iinc 1 1, 3) := by decide +kernel
theorem dX5_held_26 : decode cX5_held 26 = .ok (.iinc 2 1, 3) := by decide +kernel
theorem dX5_held_29 : decode cX5_held 29 = .ok (.goto (-25), 3) := by decide +kernel
theorem dX5_held_32 : decode cX5_held 32 = .ok (.iload_n 1, 1) := by decide +kernel
theorem dX5_held_33 : decode cX5_held 33 = .ok (.ireturn, 1) := by decide +kernel
theorem dX5_mixInto_0 : decode cX5_mixInto 0 = .ok (.iconst 0, 1) := by decide +kernel
theorem dX5_mixInto_1 : decode cX5_mixInto 1 = .ok (.istore_n 3, 1) := by decide +kernel
theorem dX5_mixInto_2 : decode cX5_mixInto 2 = .ok (.iload_n 3, 1) := by decide +kernel
theorem dX5_mixInto_3 : decode cX5_mixInto 3 = .ok (.aload_n 0, 1) := by decide +kernel
theorem dX5_mixInto_4 : decode cX5_mixInto 4 = .ok (.getfield 20, 3) := by decide +kernel
theorem dX5_mixInto_7 : decode cX5_mixInto 7 = .ok (.arraylength, 1) := by decide +kernel
theorem dX5_mixInto_8 : decode cX5_mixInto 8 = .ok (.if_icmp .ge 60, 3) := by decide +kernel
theorem dX5_mixInto_11 : decode cX5_mixInto 11 = .ok (.ldc2_w 52, 3) := by decide +kernel
theorem dX5_mixInto_14 : decode cX5_mixInto 14 = .ok (.lload_n 1, 1) := by decide +kernel
theorem dX5_mixInto_15 : decode cX5_mixInto 15 = .ok (.lmul, 1) := by decide +kernel
theorem dX5_mixInto_16 : decode cX5_mixInto 16 = .ok (.aload_n 0, 1) := by decide +kernel
theorem dX5_mixInto_17 : decode cX5_mixInto 17 = .ok (.getfield 20, 3) := by decide +kernel
theorem dX5_mixInto_20 : decode cX5_mixInto 20 = .ok (.iload_n 3, 1) := by decide +kernel
theorem dX5_mixInto_21 : decode cX5_mixInto 21 = .ok (.iaload, 1) := by decide +kernel
theorem dX5_mixInto_22 : decode cX5_mixInto 22 = .ok (.i2l, 1) := by decide +kernel
theorem dX5_mixInto_23 : decode cX5_mixInto 23 = .ok (.ladd, 1) := by decide +kernel
theorem dX5_mixInto_24 : decode cX5_mixInto 24 = .ok (.lstore_n 1, 1) := by decide +kernel
theorem dX5_mixInto_25 : decode cX5_mixInto 25 = .ok (.iconst 0, 1) := by decide +kernel
theorem dX5_mixInto_26 : decode cX5_mixInto 26 = .ok (.istore 4, 2) := by decide +kernel
theorem dX5_mixInto_28 : decode cX5_mixInto 28 = .ok (.iload 4, 2) := by decide +kernel
theorem dX5_mixInto_30 : decode cX5_mixInto 30 = .ok (.aload_n 0, 1) := by decide +kernel
theorem dX5_mixInto_31 : decode cX5_mixInto 31 = .ok (.getfield 20, 3) := by decide +kernel
theorem dX5_mixInto_34 : decode cX5_mixInto 34 = .ok (.iload_n 3, 1) := by decide +kernel
theorem dX5_mixInto_35 : decode cX5_mixInto 35 = .ok (.iaload, 1) := by decide +kernel
theorem dX5_mixInto_36 : decode cX5_mixInto 36 = .ok (.if_icmp .ge 26, 3) := by decide +kernel
theorem dX5_mixInto_39 : decode cX5_mixInto 39 = .ok (.ldc2_w 52, 3) := by decide +kernel
theorem dX5_mixInto_42 : decode cX5_mixInto 42 = .ok (.lload_n 1, 1) := by decide +kernel
theorem dX5_mixInto_43 : decode cX5_mixInto 43 = .ok (.lmul, 1) := by decide +kernel
theorem dX5_mixInto_44 : decode cX5_mixInto 44 = .ok (.aload_n 0, 1) := by decide +kernel
theorem dX5_mixInto_45 : decode cX5_mixInto 45 = .ok (.getfield 17, 3) := by decide +kernel
theorem dX5_mixInto_48 : decode cX5_mixInto 48 = .ok (.iload_n 3, 1) := by decide +kernel
theorem dX5_mixInto_49 : decode cX5_mixInto 49 = .ok (.aaload, 1) := by decide +kernel
theorem dX5_mixInto_50 : decode cX5_mixInto 50 = .ok (.iload 4, 2) := by decide +kernel
theorem dX5_mixInto_52 : decode cX5_mixInto 52 = .ok (.iaload, 1) := by decide +kernel
theorem dX5_mixInto_53 : decode cX5_mixInto 53 = .ok (.i2l, 1) := by decide +kernel
theorem dX5_mixInto_54 : decode cX5_mixInto 54 = .ok (.ladd, 1) := by decide +kernel
theorem dX5_mixInto_55 : decode cX5_mixInto 55 = .ok (.lstore_n 1, 1) := by decide +kernel
theorem dX5_mixInto_56 : decode cX5_mixInto 56 = .ok (.iinc 4 1, 3) := by decide +kernel
theorem dX5_mixInto_59 : decode cX5_mixInto 59 = .ok (.goto (-31), 3) := by decide +kernel
theorem dX5_mixInto_62 : decode cX5_mixInto 62 = .ok (.iinc 3 1, 3) := by decide +kernel
theorem dX5_mixInto_65 : decode cX5_mixInto 65 = .ok (.goto (-63), 3) := by decide +kernel
theorem dX5_mixInto_68 : decode cX5_mixInto 68 = .ok (.lload_n 1, 1) := by decide +kernel
theorem dX5_mixInto_69 : decode cX5_mixInto 69 = .ok (.lreturn, 1) := by decide +kernel
theorem dX6_isWord_0 : decode cX6_isWord 0 = .ok (.iload_n 1, 1) := by decide +kernel
theorem dX6_isWord_1 : decode cX6_isWord 1 = .ok (.iconst 1, 1) := by decide +kernel
theorem dX6_isWord_2 : decode cX6_isWord 2 = .ok (.if_icmp .lt 26, 3) := by decide +kernel
theorem dX6_isWord_5 : decode cX6_isWord 5 = .ok (.iload_n 1, 1) := by decide +kernel
theorem dX6_isWord_6 : decode cX6_isWord 6 = .ok (.bipush 6, 2) := by decide +kernel
theorem dX6_isWord_8 : decode cX6_isWord 8 = .ok (.if_icmp .gt 20, 3) := by decide +kernel
theorem dX6_isWord_11 : decode cX6_isWord 11 = .ok (.iload_n 0, 1) := by decide +kernel
theorem dX6_isWord_12 : decode cX6_isWord 12 = .ok (.ifCond .lt 16, 3) := by decide +kernel
theorem dX6_isWord_15 : decode cX6_isWord 15 = .ok (.iload_n 0, 1) := by decide +kernel
theorem dX6_isWord_16 : decode cX6_isWord 16 = .ok (.iconst 1, 1) := by decide +kernel
theorem dX6_isWord_17 : decode cX6_isWord 17 = .ok (.iconst 4, 1) := by decide +kernel
theorem dX6_isWord_18 : decode cX6_isWord 18 = .ok (.iload_n 1, 1) := by decide +kernel
theorem dX6_isWord_19 : decode cX6_isWord 19 = .ok (.imul, 1) := by decide +kernel
theorem dX6_isWord_20 : decode cX6_isWord 20 = .ok (.ishl, 1) := by decide +kernel
theorem dX6_isWord_21 : decode cX6_isWord 21 = .ok (.if_icmp .ge 7, 3) := by decide +kernel
theorem dX6_isWord_24 : decode cX6_isWord 24 = .ok (.iconst 1, 1) := by decide +kernel
theorem dX6_isWord_25 : decode cX6_isWord 25 = .ok (.goto 4, 3) := by decide +kernel
theorem dX6_isWord_28 : decode cX6_isWord 28 = .ok (.iconst 0, 1) := by decide +kernel
theorem dX6_isWord_29 : decode cX6_isWord 29 = .ok (.ireturn, 1) := by decide +kernel
set_option maxRecDepth 20000 in
theorem ggX6_isPath_X6_isWord : GoodIn wsX6_isPath wsX6_isWord := goodIn_r _ [4] (by decide +kernel) (by decide +kernel)
set_option maxRecDepth 20000 in
theorem gX6_isPath_X6_isWord : GoodIn wsX6_isPath (va_wsS RX6 9 yX6_isWord wsX6_isWord) := goodIn_app (goodIn_of _ (by decide +kernel)) ggX6_isPath_X6_isWord
theorem dX6_isPath_0 : decode cX6_isPath 0 = .ok (.iload_n 1, 1) := by decide +kernel
theorem dX6_isPath_1 : decode cX6_isPath 1 = .ok (.ifCond .ne 15, 3) := by decide +kernel
theorem dX6_isPath_4 : decode cX6_isPath 4 = .ok (.iload_n 0, 1) := by decide +kernel
theorem dX6_isPath_5 : decode cX6_isPath 5 = .ok (.ifCond .ne 7, 3) := by decide +kernel
theorem dX6_isPath_8 : decode cX6_isPath 8 = .ok (.iconst 1, 1) := by decide +kernel
theorem dX6_isPath_9 : decode cX6_isPath 9 = .ok (.goto 12, 3) := by decide +kernel
theorem dX6_isPath_12 : decode cX6_isPath 12 = .ok (.iconst 0, 1) := by decide +kernel
theorem dX6_isPath_13 : decode cX6_isPath 13 = .ok (.goto 8, 3) := by decide +kernel
theorem dX6_isPath_16 : decode cX6_isPath 16 = .ok (.iload_n 0, 1) := by decide +kernel
theorem dX6_isPath_17 : decode cX6_isPath 17 = .ok (.iload_n 1, 1) := by decide +kernel
theorem dX6_isPath_18 : decode cX6_isPath 18 = .ok (.invokestatic 9, 3) := by decide +kernel
theorem dX6_isPath_21 : decode cX6_isPath 21 = .ok (.ireturn, 1) := by decide +kernel
set_option maxRecDepth 20000 in
theorem ggX6_pack_X6_bitsBehind : GoodIn wsX6_pack wsX6_bitsBehind := goodIn_r _ [4] (by decide +kernel) (by decide +kernel)
set_option maxRecDepth 20000 in
theorem gX6_pack_X6_bitsBehind : GoodIn wsX6_pack (va_wsS RX6 15 yX6_bitsBehind wsX6_bitsBehind) := goodIn_app (goodIn_of _ (by decide +kernel)) ggX6_pack_X6_bitsBehind
theorem dX6_pack_0 : decode cX6_pack 0 = .ok (.iload_n 0, 1) := by decide +kernel
theorem dX6_pack_1 : decode cX6_pack 1 = .ok (.iload_n 1, 1) := by decide +kernel
theorem dX6_pack_2 : decode cX6_pack 2 = .ok (.invokestatic 15, 3) := by decide +kernel
theorem dX6_pack_5 : decode cX6_pack 5 = .ok (.ishl, 1) := by decide +kernel
theorem dX6_pack_6 : decode cX6_pack 6 = .ok (.iload_n 1, 1) := by decide +kernel
theorem dX6_pack_7 : decode cX6_pack 7 = .ok (.ior, 1) := by decide +kernel
theorem dX6_pack_8 : decode cX6_pack 8 = .ok (.ireturn, 1) := by decide +kernel
theorem dX6_length_0 : decode cX6_length 0 = .ok (.iload_n 0, 1) := by decide +kernel
theorem dX6_length_1 : decode cX6_length 1 = .ok (.bipush 7, 2) := by decide +kernel
theorem dX6_length_3 : decode cX6_length 3 = .ok (.iand, 1) := by decide +kernel
theorem dX6_length_4 : decode cX6_length 4 = .ok (.ireturn, 1) := by decide +kernel
set_option maxRecDepth 20000 in
theorem ggX6_figures_X6_length : GoodIn wsX6_figures wsX6_length := goodIn_r _ [4] (by decide +kernel) (by decide +kernel)
set_option maxRecDepth 20000 in
theorem gX6_figures_X6_length : GoodIn wsX6_figures (va_wsS RX6 19 yX6_length wsX6_length) := goodIn_app (goodIn_of _ (by decide +kernel)) ggX6_figures_X6_length
set_option maxRecDepth 20000 in
theorem ggX6_figures_X6_bitsBehind : GoodIn wsX6_figures wsX6_bitsBehind := goodIn_r _ [7] (by decide +kernel) (by decide +kernel)
set_option maxRecDepth 20000 in
theorem gX6_figures_X6_bitsBehind : GoodIn wsX6_figures (va_wsS RX6 15 yX6_bitsBehind wsX6_bitsBehind) := goodIn_app (goodIn_of _ (by decide +kernel)) ggX6_figures_X6_bitsBehind
theorem dX6_figures_0 : decode cX6_figures 0 = .ok (.iload_n 0, 1) := by decide +kernel
theorem dX6_figures_1 : decode cX6_figures 1 = .ok (.iload_n 0, 1) := by decide +kernel
theorem dX6_figures_2 : decode cX6_figures 2 = .ok (.invokestatic 19, 3) := by decide +kernel
theorem dX6_figures_5 : decode cX6_figures 5 = .ok (.invokestatic 15, 3) := by decide +kernel
theorem dX6_figures_8 : decode cX6_figures 8 = .ok (.ishr, 1) := by decide +kernel
theorem dX6_figures_9 : decode cX6_figures 9 = .ok (.ireturn, 1) := by decide +kernel
set_option maxRecDepth 20000 in
theorem ggX6_figure_X6_bitsBehind : GoodIn wsX6_figure wsX6_bitsBehind := goodIn_r _ [4] (by decide +kernel) (by decide +kernel)
set_option maxRecDepth 20000 in
theorem gX6_figure_X6_bitsBehind : GoodIn wsX6_figure (va_wsS RX6 15 yX6_bitsBehind wsX6_bitsBehind) := goodIn_app (goodIn_of _ (by decide +kernel)) ggX6_figure_X6_bitsBehind
theorem dX6_figure_0 : decode cX6_figure 0 = .ok (.iload_n 0, 1) := by decide +kernel
theorem dX6_figure_1 : decode cX6_figure 1 = .ok (.iload_n 1, 1) := by decide +kernel
theorem dX6_figure_2 : decode cX6_figure 2 = .ok (.iconst 1, 1) := by decide +kernel
theorem dX6_figure_3 : decode cX6_figure 3 = .ok (.iadd, 1) := by decide +kernel
theorem dX6_figure_4 : decode cX6_figure 4 = .ok (.invokestatic 15, 3) := by decide +kernel
theorem dX6_figure_7 : decode cX6_figure 7 = .ok (.ishr, 1) := by decide +kernel
theorem dX6_figure_8 : decode cX6_figure 8 = .ok (.bipush 15, 2) := by decide +kernel
theorem dX6_figure_10 : decode cX6_figure 10 = .ok (.iand, 1) := by decide +kernel
theorem dX6_figure_11 : decode cX6_figure 11 = .ok (.ireturn, 1) := by decide +kernel
set_option maxRecDepth 20000 in
theorem ggX6_head_X6_bitsBehind : GoodIn wsX6_head wsX6_bitsBehind := goodIn_r _ [4] (by decide +kernel) (by decide +kernel)
set_option maxRecDepth 20000 in
theorem gX6_head_X6_bitsBehind : GoodIn wsX6_head (va_wsS RX6 15 yX6_bitsBehind wsX6_bitsBehind) := goodIn_app (goodIn_of _ (by decide +kernel)) ggX6_head_X6_bitsBehind
theorem dX6_head_0 : decode cX6_head 0 = .ok (.iload_n 1, 1) := by decide +kernel
theorem dX6_head_1 : decode cX6_head 1 = .ok (.invokestatic 15, 3) := by decide +kernel
theorem dX6_head_4 : decode cX6_head 4 = .ok (.istore_n 2, 1) := by decide +kernel
theorem dX6_head_5 : decode cX6_head 5 = .ok (.iload_n 0, 1) := by decide +kernel
theorem dX6_head_6 : decode cX6_head 6 = .ok (.iload_n 2, 1) := by decide +kernel
theorem dX6_head_7 : decode cX6_head 7 = .ok (.ishr, 1) := by decide +kernel
theorem dX6_head_8 : decode cX6_head 8 = .ok (.iload_n 2, 1) := by decide +kernel
theorem dX6_head_9 : decode cX6_head 9 = .ok (.ishl, 1) := by decide +kernel
theorem dX6_head_10 : decode cX6_head 10 = .ok (.iload_n 1, 1) := by decide +kernel
theorem dX6_head_11 : decode cX6_head 11 = .ok (.ior, 1) := by decide +kernel
theorem dX6_head_12 : decode cX6_head 12 = .ok (.ireturn, 1) := by decide +kernel
set_option maxRecDepth 20000 in
theorem ggX6_tail_X6_length : GoodIn wsX6_tail wsX6_length := goodIn_r _ [5] (by decide +kernel) (by decide +kernel)
set_option maxRecDepth 20000 in
theorem gX6_tail_X6_length : GoodIn wsX6_tail (va_wsS RX6 19 yX6_length wsX6_length) := goodIn_app (goodIn_of _ (by decide +kernel)) ggX6_tail_X6_length
theorem dX6_tail_0 : decode cX6_tail 0 = .ok (.iload_n 0, 1) := by decide +kernel
theorem dX6_tail_1 : decode cX6_tail 1 = .ok (.ldc 22, 2) := by decide +kernel
theorem dX6_tail_3 : decode cX6_tail 3 = .ok (.iand, 1) := by decide +kernel
theorem dX6_tail_4 : decode cX6_tail 4 = .ok (.iconst 4, 1) := by decide +kernel
theorem dX6_tail_5 : decode cX6_tail 5 = .ok (.iload_n 1, 1) := by decide +kernel
theorem dX6_tail_6 : decode cX6_tail 6 = .ok (.imul, 1) := by decide +kernel
theorem dX6_tail_7 : decode cX6_tail 7 = .ok (.ishl, 1) := by decide +kernel
theorem dX6_tail_8 : decode cX6_tail 8 = .ok (.ldc 22, 2) := by decide +kernel
theorem dX6_tail_10 : decode cX6_tail 10 = .ok (.iand, 1) := by decide +kernel
theorem dX6_tail_11 : decode cX6_tail 11 = .ok (.iload_n 0, 1) := by decide +kernel
theorem dX6_tail_12 : decode cX6_tail 12 = .ok (.invokestatic 19, 3) := by decide +kernel
theorem dX6_tail_15 : decode cX6_tail 15 = .ok (.iload_n 1, 1) := by decide +kernel
theorem dX6_tail_16 : decode cX6_tail 16 = .ok (.isub, 1) := by decide +kernel
theorem dX6_tail_17 : decode cX6_tail 17 = .ok (.ior, 1) := by decide +kernel
theorem dX6_tail_18 : decode cX6_tail 18 = .ok (.ireturn, 1) := by decide +kernel
set_option maxRecDepth 20000 in
theorem ggX6_isHeadOf_X6_length : GoodIn wsX6_isHeadOf wsX6_length := goodIn_r _ [4] (by decide +kernel) (by decide +kernel)
set_option maxRecDepth 20000 in
theorem gX6_isHeadOf_X6_length : GoodIn wsX6_isHeadOf (va_wsS RX6 19 yX6_length wsX6_length) := goodIn_app (goodIn_of _ (by decide +kernel)) ggX6_isHeadOf_X6_length
set_option maxRecDepth 20000 in
theorem ggX6_isHeadOf_X6_bitsBehind : GoodIn wsX6_isHeadOf wsX6_bitsBehind := goodIn_r _ [7] (by decide +kernel) (by decide +kernel)
set_option maxRecDepth 20000 in
theorem gX6_isHeadOf_X6_bitsBehind : GoodIn wsX6_isHeadOf (va_wsS RX6 15 yX6_bitsBehind wsX6_bitsBehind) := goodIn_app (goodIn_of _ (by decide +kernel)) ggX6_isHeadOf_X6_bitsBehind
theorem dX6_isHeadOf_0 : decode cX6_isHeadOf 0 = .ok (.iload_n 0, 1) := by decide +kernel
theorem dX6_isHeadOf_1 : decode cX6_isHeadOf 1 = .ok (.invokestatic 19, 3) := by decide +kernel
theorem dX6_isHeadOf_4 : decode cX6_isHeadOf 4 = .ok (.istore_n 2, 1) := by decide +kernel
theorem dX6_isHeadOf_5 : decode cX6_isHeadOf 5 = .ok (.iload_n 2, 1) := by decide +kernel
theorem dX6_isHeadOf_6 : decode cX6_isHeadOf 6 = .ok (.iload_n 1, 1) := by decide +kernel
theorem dX6_isHeadOf_7 : decode cX6_isHeadOf 7 = .ok (.invokestatic 19, 3) := by decide +kernel
theorem dX6_isHeadOf_10 : decode cX6_isHeadOf 10 = .ok (.if_icmp .gt 18, 3) := by decide +kernel
theorem dX6_isHeadOf_13 : decode cX6_isHeadOf 13 = .ok (.iload_n 0, 1) := by decide +kernel
theorem dX6_isHeadOf_14 : decode cX6_isHeadOf 14 = .ok (.iload_n 1, 1) := by decide +kernel
theorem dX6_isHeadOf_15 : decode cX6_isHeadOf 15 = .ok (.ixor, 1) := by decide +kernel
theorem dX6_isHeadOf_16 : decode cX6_isHeadOf 16 = .ok (.iload_n 2, 1) := by decide +kernel
theorem dX6_isHeadOf_17 : decode cX6_isHeadOf 17 = .ok (.invokestatic 15, 3) := by decide +kernel
theorem dX6_isHeadOf_20 : decode cX6_isHeadOf 20 = .ok (.ishr, 1) := by decide +kernel
theorem dX6_isHeadOf_21 : decode cX6_isHeadOf 21 = .ok (.ifCond .ne 7, 3) := by decide +kernel
theorem dX6_isHeadOf_24 : decode cX6_isHeadOf 24 = .ok (.iconst 1, 1) := by decide +kernel
theorem dX6_isHeadOf_25 : decode cX6_isHeadOf 25 = .ok (.goto 4, 3) := by decide +kernel
theorem dX6_isHeadOf_28 : decode cX6_isHeadOf 28 = .ok (.iconst 0, 1) := by decide +kernel
theorem dX6_isHeadOf_29 : decode cX6_isHeadOf 29 = .ok (.ireturn, 1) := by decide +kernel
set_option maxRecDepth 20000 in
theorem ggX6_sharedLength_J6_numberOfLeadingZeros_0f7a4 : GoodIn wsX6_sharedLength wsJ6_numberOfLeadingZeros_0f7a4 := goodIn_r _ [8, 9] (by decide +kernel) (by decide +kernel)
set_option maxRecDepth 20000 in
theorem gX6_sharedLength_J6_numberOfLeadingZeros_0f7a4 : GoodIn wsX6_sharedLength (va_wsS RX6 23 yJ6_numberOfLeadingZeros_0f7a4 wsJ6_numberOfLeadingZeros_0f7a4) := goodIn_app (goodIn_of _ (by decide +kernel)) ggX6_sharedLength_J6_numberOfLeadingZeros_0f7a4
set_option maxRecDepth 20000 in
theorem ggX6_sharedLength_X6_length : GoodIn wsX6_sharedLength wsX6_length := goodIn_r _ [13] (by decide +kernel) (by decide +kernel)
set_option maxRecDepth 20000 in
theorem gX6_sharedLength_X6_length : GoodIn wsX6_sharedLength (va_wsS RX6 19 yX6_length wsX6_length) := goodIn_app (goodIn_of _ (by decide +kernel)) ggX6_sharedLength_X6_length
theorem dX6_sharedLength_0 : decode cX6_sharedLength 0 = .ok (.iload_n 0, 1) := by decide +kernel
theorem dX6_sharedLength_1 : decode cX6_sharedLength 1 = .ok (.iload_n 1, 1) := by decide +kernel
theorem dX6_sharedLength_2 : decode cX6_sharedLength 2 = .ok (.ixor, 1) := by decide +kernel
theorem dX6_sharedLength_3 : decode cX6_sharedLength 3 = .ok (.iconst 3, 1) := by decide +kernel
theorem dX6_sharedLength_4 : decode cX6_sharedLength 4 = .ok (.ishr, 1) := by decide +kernel
theorem dX6_sharedLength_5 : decode cX6_sharedLength 5 = .ok (.istore_n 2, 1) := by decide +kernel
theorem dX6_sharedLength_6 : decode cX6_sharedLength 6 = .ok (.iload_n 2, 1) := by decide +kernel
theorem dX6_sharedLength_7 : decode cX6_sharedLength 7 = .ok (.invokestatic 23, 3) := by decide +kernel
theorem dX6_sharedLength_10 : decode cX6_sharedLength 10 = .ok (.bipush 8, 2) := by decide +kernel
theorem dX6_sharedLength_12 : decode cX6_sharedLength 12 = .ok (.isub, 1) := by decide +kernel
theorem dX6_sharedLength_13 : decode cX6_sharedLength 13 = .ok (.iconst 4, 1) := by decide +kernel
theorem dX6_sharedLength_14 : decode cX6_sharedLength 14 = .ok (.idiv, 1) := by decide +kernel
theorem dX6_sharedLength_15 : decode cX6_sharedLength 15 = .ok (.istore_n 3, 1) := by decide +kernel
theorem dX6_sharedLength_16 : decode cX6_sharedLength 16 = .ok (.iload_n 3, 1) := by decide +kernel
theorem dX6_sharedLength_17 : decode cX6_sharedLength 17 = .ok (.iload_n 0, 1) := by decide +kernel
theorem dX6_sharedLength_18 : decode cX6_sharedLength 18 = .ok (.invokestatic 19, 3) := by decide +kernel
theorem dX6_sharedLength_21 : decode cX6_sharedLength 21 = .ok (.iload_n 1, 1) := by decide +kernel
theorem dX6_sharedLength_22 : decode cX6_sharedLength 22 = .ok (.invokestatic 19, 3) := by decide +kernel
theorem dX6_sharedLength_25 : decode cX6_sharedLength 25 = .ok (.invokestatic 28, 3) := by decide +kernel
theorem dX6_sharedLength_28 : decode cX6_sharedLength 28 = .ok (.invokestatic 28, 3) := by decide +kernel
theorem dX6_sharedLength_31 : decode cX6_sharedLength 31 = .ok (.ireturn, 1) := by decide +kernel
theorem dX6_bitsBehind_0 : decode cX6_bitsBehind 0 = .ok (.bipush 27, 2) := by decide +kernel
theorem dX6_bitsBehind_2 : decode cX6_bitsBehind 2 = .ok (.iconst 4, 1) := by decide +kernel
theorem dX6_bitsBehind_3 : decode cX6_bitsBehind 3 = .ok (.iload_n 0, 1) := by decide +kernel
theorem dX6_bitsBehind_4 : decode cX6_bitsBehind 4 = .ok (.imul, 1) := by decide +kernel
theorem dX6_bitsBehind_5 : decode cX6_bitsBehind 5 = .ok (.isub, 1) := by decide +kernel
theorem dX6_bitsBehind_6 : decode cX6_bitsBehind 6 = .ok (.ireturn, 1) := by decide +kernel
set_option maxRecDepth 20000 in
theorem ggX7_init_X5_init : GoodIn wsX7_init wsX5_init := goodIn_r _ [39, 40, 2, 3, 41, 42, 27, 43, 44, 85, 86, 87] (by decide +kernel) (by decide +kernel)
set_option maxRecDepth 20000 in
theorem gX7_init_X5_init : GoodIn wsX7_init (wsX5_init) := ggX7_init_X5_init
set_option maxRecDepth 20000 in
theorem ggX7_init_X4_init : GoodIn wsX7_init wsX4_init := goodIn_r _ [46, 47, 2, 3, 48, 14, 15, 49, 27, 50, 51, 52, 53, 54, 55, 56, 57, 58, 106, 107, 108, 102, 103, 104, 105] (by decide +kernel) (by decide +kernel)
set_option maxRecDepth 20000 in
theorem gX7_init_X4_init_n23 : GoodIn wsX7_init (wsX4_init) := ggX7_init_X4_init
set_option maxRecDepth 20000 in
theorem ggX7_init_X1_init : GoodIn wsX7_init wsX1_init := goodIn_r _ [54, 55, 2, 3, 56, 27, 57, 58, 106, 107, 108] (by decide +kernel) (by decide +kernel)
set_option maxRecDepth 20000 in
theorem gX7_init_X1_init_n30 : GoodIn wsX7_init (wsX1_init) := ggX7_init_X1_init
set_option maxRecDepth 20000 in
theorem ggX7_init_X0_init : GoodIn wsX7_init wsX0_init := goodIn_r _ [60, 61, 2, 3, 62, 27, 63, 64, 65, 109, 110, 111, 112] (by decide +kernel) (by decide +kernel)
set_option maxRecDepth 20000 in
theorem gX7_init_X0_init_n40 : GoodIn wsX7_init (wsX0_init) := ggX7_init_X0_init
set_option maxRecDepth 20000 in
theorem ggX7_init_X2_init : GoodIn wsX7_init wsX2_init := goodIn_r _ [67, 68, 2, 3, 69, 27, 70, 113, 114] (by decide +kernel) (by decide +kernel)
set_option maxRecDepth 20000 in
theorem gX7_init_X2_init_n51 : GoodIn wsX7_init (wsX2_init) := ggX7_init_X2_init
set_option maxRecDepth 20000 in
theorem ggX7_init_X3_init : GoodIn wsX7_init wsX3_init := goodIn_r _ [72, 73, 2, 3, 74, 27, 75, 76, 77, 78, 79, 80, 115, 116, 117, 118, 119, 120, 121] (by decide +kernel) (by decide +kernel)
set_option maxRecDepth 20000 in
theorem gX7_init_X3_init_n65 : GoodIn wsX7_init (wsX3_init) := ggX7_init_X3_init
set_option maxRecDepth 20000 in
theorem ggX7_init_X0_forget : GoodIn wsX7_init wsX0_forget := goodIn_r _ [84, 62, 109, 110, 111, 112] (by decide +kernel) (by decide +kernel)
set_option maxRecDepth 20000 in
theorem gX7_init_X0_forget : GoodIn wsX7_init (wsV RX7 80 RX0 yX0_forget wsX0_forget) := goodIn_app (goodIn_of _ (by decide +kernel)) ggX7_init_X0_forget
theorem dX7_init_0 : decode cX7_init 0 = .ok (.aload_n 0, 1) := by decide +kernel
theorem dX7_init_1 : decode cX7_init 1 = .ok (.invokespecial 1, 3) := by decide +kernel
theorem dX7_init_4 : decode cX7_init 4 = .ok (.aload_n 0, 1) := by decide +kernel
theorem dX7_init_5 : decode cX7_init 5 = .ok (.new 7, 3) := by decide +kernel
theorem dX7_init_8 : decode cX7_init 8 = .ok (.dup, 1) := by decide +kernel
theorem dX7_init_9 : decode cX7_init 9 = .ok (.bipush 6, 2) := by decide +kernel
theorem dX7_init_11 : decode cX7_init 11 = .ok (.bipush 40, 2) := by decide +kernel
theorem dX7_init_13 : decode cX7_init 13 = .ok (.invokespecial 11, 3) := by decide +kernel
theorem dX7_init_16 : decode cX7_init 16 = .ok (.putfield 14, 3) := by decide +kernel
theorem dX7_init_19 : decode cX7_init 19 = .ok (.aload_n 0, 1) := by decide +kernel
theorem dX7_init_20 : decode cX7_init 20 = .ok (.new 7, 3) := by decide +kernel
theorem dX7_init_23 : decode cX7_init 23 = .ok (.dup, 1) := by decide +kernel
theorem dX7_init_24 : decode cX7_init 24 = .ok (.iconst 4, 1) := by decide +kernel
theorem dX7_init_25 : decode cX7_init 25 = .ok (.bipush 90, 2) := by decide +kernel
theorem dX7_init_27 : decode cX7_init 27 = .ok (.invokespecial 11, 3) := by decide +kernel
theorem dX7_init_30 : decode cX7_init 30 = .ok (.putfield 18, 3) := by decide +kernel
theorem dX7_init_33 : decode cX7_init 33 = .ok (.aload_n 0, 1) := by decide +kernel
theorem dX7_init_34 : decode cX7_init 34 = .ok (.new 21, 3) := by decide +kernel
theorem dX7_init_37 : decode cX7_init 37 = .ok (.dup, 1) := by decide +kernel
theorem dX7_init_38 : decode cX7_init 38 = .ok (.invokespecial 23, 3) := by decide +kernel
theorem dX7_init_41 : decode cX7_init 41 = .ok (.putfield 24, 3) := by decide +kernel
theorem dX7_init_44 : decode cX7_init 44 = .ok (.aload_n 0, 1) := by decide +kernel
theorem dX7_init_45 : decode cX7_init 45 = .ok (.new 28, 3) := by decide +kernel
theorem dX7_init_48 : decode cX7_init 48 = .ok (.dup, 1) := by decide +kernel
theorem dX7_init_49 : decode cX7_init 49 = .ok (.invokespecial 30, 3) := by decide +kernel
theorem dX7_init_52 : decode cX7_init 52 = .ok (.putfield 31, 3) := by decide +kernel
theorem dX7_init_55 : decode cX7_init 55 = .ok (.aload_n 0, 1) := by decide +kernel
theorem dX7_init_56 : decode cX7_init 56 = .ok (.new 28, 3) := by decide +kernel
theorem dX7_init_59 : decode cX7_init 59 = .ok (.dup, 1) := by decide +kernel
theorem dX7_init_60 : decode cX7_init 60 = .ok (.invokespecial 30, 3) := by decide +kernel
theorem dX7_init_63 : decode cX7_init 63 = .ok (.putfield 35, 3) := by decide +kernel
theorem dX7_init_66 : decode cX7_init 66 = .ok (.aload_n 0, 1) := by decide +kernel
theorem dX7_init_67 : decode cX7_init 67 = .ok (.new 38, 3) := by decide +kernel
theorem dX7_init_70 : decode cX7_init 70 = .ok (.dup, 1) := by decide +kernel
theorem dX7_init_71 : decode cX7_init 71 = .ok (.invokespecial 40, 3) := by decide +kernel
theorem dX7_init_74 : decode cX7_init 74 = .ok (.putfield 41, 3) := by decide +kernel
theorem dX7_init_77 : decode cX7_init 77 = .ok (.aload_n 0, 1) := by decide +kernel
theorem dX7_init_78 : decode cX7_init 78 = .ok (.iconst 3, 1) := by decide +kernel
theorem dX7_init_79 : decode cX7_init 79 = .ok (.anewarray 38, 3) := by decide +kernel
theorem dX7_init_82 : decode cX7_init 82 = .ok (.putfield 45, 3) := by decide +kernel
theorem dX7_init_85 : decode cX7_init 85 = .ok (.aload_n 0, 1) := by decide +kernel
theorem dX7_init_86 : decode cX7_init 86 = .ok (.new 49, 3) := by decide +kernel
theorem dX7_init_89 : decode cX7_init 89 = .ok (.dup, 1) := by decide +kernel
theorem dX7_init_90 : decode cX7_init 90 = .ok (.invokespecial 51, 3) := by decide +kernel
theorem dX7_init_93 : decode cX7_init 93 = .ok (.putfield 52, 3) := by decide +kernel
theorem dX7_init_96 : decode cX7_init 96 = .ok (.aload_n 0, 1) := by decide +kernel
theorem dX7_init_97 : decode cX7_init 97 = .ok (.iconst 4, 1) := by decide +kernel
theorem dX7_init_98 : decode cX7_init 98 = .ok (.newarray .int, 2) := by decide +kernel
theorem dX7_init_100 : decode cX7_init 100 = .ok (.putfield 56, 3) := by decide +kernel
theorem dX7_init_103 : decode cX7_init 103 = .ok (.aload_n 0, 1) := by decide +kernel
theorem dX7_init_104 : decode cX7_init 104 = .ok (.bipush 6, 2) := by decide +kernel
theorem dX7_init_106 : decode cX7_init 106 = .ok (.newarray .int, 2) := by decide +kernel
theorem dX7_init_108 : decode cX7_init 108 = .ok (.putfield 60, 3) := by decide +kernel
theorem dX7_init_111 : decode cX7_init 111 = .ok (.aload_n 0, 1) := by decide +kernel
theorem dX7_init_112 : decode cX7_init 112 = .ok (.new 63, 3) := by decide +kernel
theorem dX7_init_115 : decode cX7_init 115 = .ok (.dup, 1) := by decide +kernel
theorem dX7_init_116 : decode cX7_init 116 = .ok (.invokespecial 65, 3) := by decide +kernel
theorem dX7_init_119 : decode cX7_init 119 = .ok (.putfield 66, 3) := by decide +kernel
theorem dX7_init_122 : decode cX7_init 122 = .ok (.aload_n 0, 1) := by decide +kernel
theorem dX7_init_123 : decode cX7_init 123 = .ok (.new 63, 3) := by decide +kernel
theorem dX7_init_126 : decode cX7_init 126 = .ok (.dup, 1) := by decide +kernel
theorem dX7_init_127 : decode cX7_init 127 = .ok (.invokespecial 65, 3) := by decide +kernel
theorem dX7_init_130 : decode cX7_init 130 = .ok (.putfield 70, 3) := by decide +kernel
theorem dX7_init_133 : decode cX7_init 133 = .ok (.aload_n 0, 1) := by decide +kernel
theorem dX7_init_134 : decode cX7_init 134 = .ok (.iconst 0, 1) := by decide +kernel
theorem dX7_init_135 : decode cX7_init 135 = .ok (.putfield 73, 3) := by decide +kernel
theorem dX7_init_138 : decode cX7_init 138 = .ok (.aload_n 0, 1) := by decide +kernel
theorem dX7_init_139 : decode cX7_init 139 = .ok (.iconst 0, 1) := by decide +kernel
theorem dX7_init_140 : decode cX7_init 140 = .ok (.putfield 77, 3) := by decide +kernel
theorem dX7_init_143 : decode cX7_init 143 = .ok (.iconst 0, 1) := by decide +kernel
theorem dX7_init_144 : decode cX7_init 144 = .ok (.istore_n 1, 1) := by decide +kernel
theorem dX7_init_145 : decode cX7_init 145 = .ok (.iload_n 1, 1) := by decide +kernel
theorem dX7_init_146 : decode cX7_init 146 = .ok (.iconst 3, 1) := by decide +kernel
theorem dX7_init_147 : decode cX7_init 147 = .ok (.if_icmp .ge 31, 3) := by decide +kernel
theorem dX7_init_150 : decode cX7_init 150 = .ok (.aload_n 0, 1) := by decide +kernel
theorem dX7_init_151 : decode cX7_init 151 = .ok (.getfield 45, 3) := by decide +kernel
theorem dX7_init_154 : decode cX7_init 154 = .ok (.iload_n 1, 1) := by decide +kernel
theorem dX7_init_155 : decode cX7_init 155 = .ok (.new 38, 3) := by decide +kernel
theorem dX7_init_158 : decode cX7_init 158 = .ok (.dup, 1) := by decide +kernel
theorem dX7_init_159 : decode cX7_init 159 = .ok (.invokespecial 40, 3) := by decide +kernel
theorem dX7_init_162 : decode cX7_init 162 = .ok (.aastore, 1) := by decide +kernel
theorem dX7_init_163 : decode cX7_init 163 = .ok (.aload_n 0, 1) := by decide +kernel
theorem dX7_init_164 : decode cX7_init 164 = .ok (.getfield 45, 3) := by decide +kernel
theorem dX7_init_167 : decode cX7_init 167 = .ok (.iload_n 1, 1) := by decide +kernel
theorem dX7_init_168 : decode cX7_init 168 = .ok (.aaload, 1) := by decide +kernel
theorem dX7_init_169 : decode cX7_init 169 = .ok (.invokevirtual 80, 3) := by decide +kernel
theorem dX7_init_172 : decode cX7_init 172 = .ok (.iinc 1 1, 3) := by decide +kernel
theorem dX7_init_175 : decode cX7_init 175 = .ok (.goto (-30), 3) := by decide +kernel
theorem dX7_init_178 : decode cX7_init 178 = .ok (.return_, 1) := by decide +kernel
set_option maxRecDepth 20000 in
theorem ggX7_row_X7_makeOn : GoodIn wsX7_row wsX7_makeOn := goodIn_r _ [6, 7, 8, 9, 10, 11, 12, 13, 14, 15, 16, 5, 17, 18, 19, 20, 21, 22, 23, 24, 25, 26, 41, 42, 43, 27, 28, 29, 30, 31, 32, 33, 34, 35, 36, 37, 38, 39, 40] (by decide +kernel) (by decide +kernel)
set_option maxRecDepth 20000 in
theorem gX7_row_X7_makeOn : GoodIn wsX7_row (wsV RX7 83 RX7 yX7_makeOn wsX7_makeOn) := goodIn_app (goodIn_of _ (by decide +kernel)) ggX7_row_X7_makeOn
theorem dX7_row_0 : decode cX7_row 0 = .ok (.aload_n 0, 1) := by decide +kernel
theorem dX7_row_1 : decode cX7_row 1 = .ok (.aload_n 0, 1) := by decide +kernel
theorem dX7_row_2 : decode cX7_row 2 = .ok (.getfield 14, 3) := by decide +kernel
theorem dX7_row_5 : decode cX7_row 5 = .ok (.iload_n 1, 1) := by decide +kernel
theorem dX7_row_6 : decode cX7_row 6 = .ok (.iload_n 2, 1) := by decide +kernel
theorem dX7_row_7 : decode cX7_row 7 = .ok (.iconst 0, 1) := by decide +kernel
theorem dX7_row_8 : decode cX7_row 8 = .ok (.invokevirtual 83, 3) := by decide +kernel
theorem dX7_row_11 : decode cX7_row 11 = .ok (.ireturn, 1) := by decide +kernel
set_option maxRecDepth 20000 in
theorem ggX7_lay_X7_refusePlace : GoodIn wsX7_lay wsX7_refusePlace := goodIn_r _ [7, 8, 9, 10, 6, 11, 12, 13, 14, 15, 16, 17, 18, 19, 20, 21, 22, 23, 24, 25, 26, 27, 28, 29, 30, 31, 32, 33, 34, 35, 36, 57, 58, 59, 43, 44, 45, 46, 47, 48, 49, 50, 51, 52, 53, 54, 55, 56] (by decide +kernel) (by decide +kernel)
set_option maxRecDepth 20000 in
theorem gX7_lay_X7_refusePlace : GoodIn wsX7_lay (wsV RX7 87 RX7 yX7_refusePlace wsX7_refusePlace) := goodIn_app (goodIn_of _ (by decide +kernel)) ggX7_lay_X7_refusePlace
set_option maxRecDepth 20000 in
theorem ggX7_lay_X5_replace : GoodIn wsX7_lay wsX5_replace := goodIn_r _ [40, 41, 42, 34, 35, 15, 36, 22, 23, 24, 25, 17, 26, 13, 14, 16, 57, 58, 59] (by decide +kernel) (by decide +kernel)
set_option maxRecDepth 20000 in
theorem gX7_lay_X5_replace : GoodIn wsX7_lay (wsV RX7 91 RX5 yX5_replace wsX5_replace) := goodIn_app (goodIn_of _ (by decide +kernel)) ggX7_lay_X5_replace
theorem dX7_lay_0 : decode cX7_lay 0 = .ok (.aload_n 0, 1) := by decide +kernel
theorem dX7_lay_1 : decode cX7_lay 1 = .ok (.aload_n 0, 1) := by decide +kernel
theorem dX7_lay_2 : decode cX7_lay 2 = .ok (.getfield 14, 3) := by decide +kernel
theorem dX7_lay_5 : decode cX7_lay 5 = .ok (.iload_n 1, 1) := by decide +kernel
theorem dX7_lay_6 : decode cX7_lay 6 = .ok (.iload_n 2, 1) := by decide +kernel
theorem dX7_lay_7 : decode cX7_lay 7 = .ok (.invokevirtual 87, 3) := by decide +kernel
theorem dX7_lay_10 : decode cX7_lay 10 = .ok (.istore 4, 2) := by decide +kernel
theorem dX7_lay_12 : decode cX7_lay 12 = .ok (.iload 4, 2) := by decide +kernel
theorem dX7_lay_14 : decode cX7_lay 14 = .ok (.ifCond .eq 6, 3) := by decide +kernel
theorem dX7_lay_17 : decode cX7_lay 17 = .ok (.iload 4, 2) := by decide +kernel
theorem dX7_lay_19 : decode cX7_lay 19 = .ok (.ireturn, 1) := by decide +kernel
theorem dX7_lay_20 : decode cX7_lay 20 = .ok (.aload_n 0, 1) := by decide +kernel
theorem dX7_lay_21 : decode cX7_lay 21 = .ok (.aload_n 0, 1) := by decide +kernel
theorem dX7_lay_22 : decode cX7_lay 22 = .ok (.getfield 14, 3) := by decide +kernel
theorem dX7_lay_25 : decode cX7_lay 25 = .ok (.iload_n 1, 1) := by decide +kernel
theorem dX7_lay_26 : decode cX7_lay 26 = .ok (.iload_n 2, 1) := by decide +kernel
theorem dX7_lay_27 : decode cX7_lay 27 = .ok (.iload_n 3, 1) := by decide +kernel
theorem dX7_lay_28 : decode cX7_lay 28 = .ok (.invokevirtual 91, 3) := by decide +kernel
theorem dX7_lay_31 : decode cX7_lay 31 = .ok (.putfield 73, 3) := by decide +kernel
theorem dX7_lay_34 : decode cX7_lay 34 = .ok (.iconst 1, 1) := by decide +kernel
theorem dX7_lay_35 : decode cX7_lay 35 = .ok (.ireturn, 1) := by decide +kernel
set_option maxRecDepth 20000 in
theorem ggX7_at_X7_refusePlace : GoodIn wsX7_at wsX7_refusePlace := goodIn_r _ [7, 8, 9, 10, 6, 11, 12, 13, 14, 15, 16, 17, 18, 19, 20, 21, 22, 23, 24, 25, 26, 27, 28, 29, 30, 31, 32, 33, 34, 35, 36, 57, 58, 59, 43, 44, 45, 46, 47, 48, 49, 50, 51, 52, 53, 54, 55, 56] (by decide +kernel) (by decide +kernel)
set_option maxRecDepth 20000 in
theorem gX7_at_X7_refusePlace : GoodIn wsX7_at (wsV RX7 87 RX7 yX7_refusePlace wsX7_refusePlace) := goodIn_app (goodIn_of _ (by decide +kernel)) ggX7_at_X7_refusePlace
set_option maxRecDepth 20000 in
theorem ggX7_at_X5_cell : GoodIn wsX7_at wsX5_cell := goodIn_r _ [40, 41, 42, 34, 35, 15, 36, 22, 23, 24, 25, 17, 26, 13, 14, 16, 57, 58, 59] (by decide +kernel) (by decide +kernel)
set_option maxRecDepth 20000 in
theorem gX7_at_X5_cell : GoodIn wsX7_at (wsV RX7 95 RX5 yX5_cell wsX5_cell) := goodIn_app (goodIn_of _ (by decide +kernel)) ggX7_at_X5_cell
theorem dX7_at_0 : decode cX7_at 0 = .ok (.aload_n 0, 1) := by decide +kernel
theorem dX7_at_1 : decode cX7_at 1 = .ok (.aload_n 0, 1) := by decide +kernel
theorem dX7_at_2 : decode cX7_at 2 = .ok (.getfield 14, 3) := by decide +kernel
theorem dX7_at_5 : decode cX7_at 5 = .ok (.iload_n 1, 1) := by decide +kernel
theorem dX7_at_6 : decode cX7_at 6 = .ok (.iload_n 2, 1) := by decide +kernel
theorem dX7_at_7 : decode cX7_at 7 = .ok (.invokevirtual 87, 3) := by decide +kernel
theorem dX7_at_10 : decode cX7_at 10 = .ok (.istore_n 3, 1) := by decide +kernel
theorem dX7_at_11 : decode cX7_at 11 = .ok (.iload_n 3, 1) := by decide +kernel
theorem dX7_at_12 : decode cX7_at 12 = .ok (.ifCond .eq 5, 3) := by decide +kernel
theorem dX7_at_15 : decode cX7_at 15 = .ok (.iload_n 3, 1) := by decide +kernel
theorem dX7_at_16 : decode cX7_at 16 = .ok (.ireturn, 1) := by decide +kernel
theorem dX7_at_17 : decode cX7_at 17 = .ok (.aload_n 0, 1) := by decide +kernel
theorem dX7_at_18 : decode cX7_at 18 = .ok (.aload_n 0, 1) := by decide +kernel
theorem dX7_at_19 : decode cX7_at 19 = .ok (.getfield 14, 3) := by decide +kernel
theorem dX7_at_22 : decode cX7_at 22 = .ok (.iload_n 1, 1) := by decide +kernel
theorem dX7_at_23 : decode cX7_at 23 = .ok (.iload_n 2, 1) := by decide +kernel
theorem dX7_at_24 : decode cX7_at 24 = .ok (.invokevirtual 95, 3) := by decide +kernel
theorem dX7_at_27 : decode cX7_at 27 = .ok (.putfield 73, 3) := by decide +kernel
theorem dX7_at_30 : decode cX7_at 30 = .ok (.iconst 1, 1) := by decide +kernel
theorem dX7_at_31 : decode cX7_at 31 = .ok (.ireturn, 1) := by decide +kernel
set_option maxRecDepth 20000 in
theorem ggX7_tear_X7_refuseMissing : GoodIn wsX7_tear wsX7_refuseMissing := goodIn_r _ [6, 7, 8, 9, 10, 11, 12, 13, 14, 15, 16, 17, 18, 19, 20, 21, 22, 23, 24, 5, 25, 26, 27, 46, 47, 48, 32, 33, 34, 35, 36, 37, 38, 39, 40, 41, 42, 43, 44, 45] (by decide +kernel) (by decide +kernel)
set_option maxRecDepth 20000 in
theorem gX7_tear_X7_refuseMissing : GoodIn wsX7_tear (wsV RX7 99 RX7 yX7_refuseMissing wsX7_refuseMissing) := goodIn_app (goodIn_of _ (by decide +kernel)) ggX7_tear_X7_refuseMissing
set_option maxRecDepth 20000 in
theorem ggX7_tear_X5_drop : GoodIn wsX7_tear wsX5_drop := goodIn_r _ [31, 12, 21, 8, 9, 10, 11, 46, 47, 48] (by decide +kernel) (by decide +kernel)
set_option maxRecDepth 20000 in
theorem gX7_tear_X5_drop : GoodIn wsX7_tear (wsV RX7 103 RX5 yX5_drop wsX5_drop) := goodIn_app (goodIn_of _ (by decide +kernel)) ggX7_tear_X5_drop
theorem dX7_tear_0 : decode cX7_tear 0 = .ok (.aload_n 0, 1) := by decide +kernel
theorem dX7_tear_1 : decode cX7_tear 1 = .ok (.aload_n 0, 1) := by decide +kernel
theorem dX7_tear_2 : decode cX7_tear 2 = .ok (.getfield 14, 3) := by decide +kernel
theorem dX7_tear_5 : decode cX7_tear 5 = .ok (.iload_n 1, 1) := by decide +kernel
theorem dX7_tear_6 : decode cX7_tear 6 = .ok (.invokevirtual 99, 3) := by decide +kernel
theorem dX7_tear_9 : decode cX7_tear 9 = .ok (.istore_n 2, 1) := by decide +kernel
theorem dX7_tear_10 : decode cX7_tear 10 = .ok (.iload_n 2, 1) := by decide +kernel
theorem dX7_tear_11 : decode cX7_tear 11 = .ok (.ifCond .eq 5, 3) := by decide +kernel
theorem dX7_tear_14 : decode cX7_tear 14 = .ok (.iload_n 2, 1) := by decide +kernel
theorem dX7_tear_15 : decode cX7_tear 15 = .ok (.ireturn, 1) := by decide +kernel
theorem dX7_tear_16 : decode cX7_tear 16 = .ok (.aload_n 0, 1) := by decide +kernel
theorem dX7_tear_17 : decode cX7_tear 17 = .ok (.getfield 14, 3) := by decide +kernel
theorem dX7_tear_20 : decode cX7_tear 20 = .ok (.iload_n 1, 1) := by decide +kernel
theorem dX7_tear_21 : decode cX7_tear 21 = .ok (.invokevirtual 103, 3) := by decide +kernel
theorem dX7_tear_24 : decode cX7_tear 24 = .ok (.iconst 1, 1) := by decide +kernel
theorem dX7_tear_25 : decode cX7_tear 25 = .ok (.ireturn, 1) := by decide +kernel
set_option maxRecDepth 20000 in
theorem ggX7_copy_X5_names : GoodIn wsX7_copy wsX5_names := goodIn_r _ [6, 7, 52, 53, 54] (by decide +kernel) (by decide +kernel)
set_option maxRecDepth 20000 in
theorem gX7_copy_X5_names : GoodIn wsX7_copy (wsV RX7 107 RX5 yX5_names wsX5_names) := goodIn_app (goodIn_of _ (by decide +kernel)) ggX7_copy_X5_names
set_option maxRecDepth 20000 in
theorem ggX7_copy_X7_refuse : GoodIn wsX7_copy wsX7_refuse := goodIn_r _ [12, 13, 14, 38, 39, 40, 41, 42, 43, 44, 45, 46, 47, 48, 49, 50, 51] (by decide +kernel) (by decide +kernel)
set_option maxRecDepth 20000 in
theorem gX7_copy_X7_refuse : GoodIn wsX7_copy (wsV RX7 111 RX7 yX7_refuse wsX7_refuse) := goodIn_app (goodIn_of _ (by decide +kernel)) ggX7_copy_X7_refuse
set_option maxRecDepth 20000 in
theorem ggX7_copy_X5_holds : GoodIn wsX7_copy wsX5_holds := goodIn_r _ [18, 19, 20, 21, 5, 22, 7, 23, 3, 4, 6, 52, 53, 54] (by decide +kernel) (by decide +kernel)
set_option maxRecDepth 20000 in
theorem gX7_copy_X5_holds : GoodIn wsX7_copy (wsV RX7 115 RX5 yX5_holds wsX5_holds) := goodIn_app (goodIn_of _ (by decide +kernel)) ggX7_copy_X5_holds
set_option maxRecDepth 20000 in
theorem ggX7_copy_X5_spans : GoodIn wsX7_copy wsX5_spans := goodIn_r _ [27, 19, 20, 21, 5, 22, 7, 23, 3, 4, 6, 52, 53, 54] (by decide +kernel) (by decide +kernel)
set_option maxRecDepth 20000 in
theorem gX7_copy_X5_spans : GoodIn wsX7_copy (wsV RX7 118 RX5 yX5_spans wsX5_spans) := goodIn_app (goodIn_of _ (by decide +kernel)) ggX7_copy_X5_spans
set_option maxRecDepth 20000 in
theorem ggX7_copy_X5_move : GoodIn wsX7_copy wsX5_move := goodIn_r _ [31, 32, 33, 34, 35, 36, 37, 25, 26, 5, 27, 19, 20, 21, 22, 7, 23, 3, 4, 6, 52, 53, 54] (by decide +kernel) (by decide +kernel)
set_option maxRecDepth 20000 in
theorem gX7_copy_X5_move : GoodIn wsX7_copy (wsV RX7 122 RX5 yX5_move wsX5_move) := goodIn_app (goodIn_of _ (by decide +kernel)) ggX7_copy_X5_move
theorem dX7_copy_0 : decode cX7_copy 0 = .ok (.aload_n 0, 1) := by decide +kernel
theorem dX7_copy_1 : decode cX7_copy 1 = .ok (.getfield 14, 3) := by decide +kernel
theorem dX7_copy_4 : decode cX7_copy 4 = .ok (.iload_n 1, 1) := by decide +kernel
theorem dX7_copy_5 : decode cX7_copy 5 = .ok (.invokevirtual 107, 3) := by decide +kernel
theorem dX7_copy_8 : decode cX7_copy 8 = .ok (.ifCond .eq 14, 3) := by decide +kernel
theorem dX7_copy_11 : decode cX7_copy 11 = .ok (.aload_n 0, 1) := by decide +kernel
theorem dX7_copy_12 : decode cX7_copy 12 = .ok (.getfield 14, 3) := by decide +kernel
theorem dX7_copy_15 : decode cX7_copy 15 = .ok (.iload_n 3, 1) := by decide +kernel
theorem dX7_copy_16 : decode cX7_copy 16 = .ok (.invokevirtual 107, 3) := by decide +kernel
theorem dX7_copy_19 : decode cX7_copy 19 = .ok (.ifCond .ne 5, 3) := by decide +kernel
theorem dX7_copy_22 : decode cX7_copy 22 = .ok (.iconst (-1), 1) := by decide +kernel
theorem dX7_copy_23 : decode cX7_copy 23 = .ok (.ireturn, 1) := by decide +kernel
theorem dX7_copy_24 : decode cX7_copy 24 = .ok (.iload 5, 2) := by decide +kernel
theorem dX7_copy_26 : decode cX7_copy 26 = .ok (.ifCond .ge 9, 3) := by decide +kernel
theorem dX7_copy_29 : decode cX7_copy 29 = .ok (.aload_n 0, 1) := by decide +kernel
theorem dX7_copy_30 : decode cX7_copy 30 = .ok (.iconst 5, 1) := by decide +kernel
theorem dX7_copy_31 : decode cX7_copy 31 = .ok (.invokevirtual 111, 3) := by decide +kernel
theorem dX7_copy_34 : decode cX7_copy 34 = .ok (.ireturn, 1) := by decide +kernel
theorem dX7_copy_35 : decode cX7_copy 35 = .ok (.aload_n 0, 1) := by decide +kernel
theorem dX7_copy_36 : decode cX7_copy 36 = .ok (.getfield 14, 3) := by decide +kernel
theorem dX7_copy_39 : decode cX7_copy 39 = .ok (.iload_n 1, 1) := by decide +kernel
theorem dX7_copy_40 : decode cX7_copy 40 = .ok (.invokevirtual 115, 3) := by decide +kernel
theorem dX7_copy_43 : decode cX7_copy 43 = .ok (.ifCond .eq 14, 3) := by decide +kernel
theorem dX7_copy_46 : decode cX7_copy 46 = .ok (.aload_n 0, 1) := by decide +kernel
theorem dX7_copy_47 : decode cX7_copy 47 = .ok (.getfield 14, 3) := by decide +kernel
theorem dX7_copy_50 : decode cX7_copy 50 = .ok (.iload_n 3, 1) := by decide +kernel
theorem dX7_copy_51 : decode cX7_copy 51 = .ok (.invokevirtual 115, 3) := by decide +kernel
theorem dX7_copy_54 : decode cX7_copy 54 = .ok (.ifCond .ne 9, 3) := by decide +kernel
theorem dX7_copy_57 : decode cX7_copy 57 = .ok (.aload_n 0, 1) := by decide +kernel
theorem dX7_copy_58 : decode cX7_copy 58 = .ok (.iconst 1, 1) := by decide +kernel
theorem dX7_copy_59 : decode cX7_copy 59 = .ok (.invokevirtual 111, 3) := by decide +kernel
theorem dX7_copy_62 : decode cX7_copy 62 = .ok (.ireturn, 1) := by decide +kernel
theorem dX7_copy_63 : decode cX7_copy 63 = .ok (.aload_n 0, 1) := by decide +kernel
theorem dX7_copy_64 : decode cX7_copy 64 = .ok (.getfield 14, 3) := by decide +kernel
theorem dX7_copy_67 : decode cX7_copy 67 = .ok (.iload_n 1, 1) := by decide +kernel
theorem dX7_copy_68 : decode cX7_copy 68 = .ok (.iload_n 2, 1) := by decide +kernel
theorem dX7_copy_69 : decode cX7_copy 69 = .ok (.iload 5, 2) := by decide +kernel
theorem dX7_copy_71 : decode cX7_copy 71 = .ok (.invokevirtual 118, 3) := by decide +kernel
theorem dX7_copy_74 : decode cX7_copy 74 = .ok (.ifCond .eq 18, 3) := by decide +kernel
theorem dX7_copy_77 : decode cX7_copy 77 = .ok (.aload_n 0, 1) := by decide +kernel
theorem dX7_copy_78 : decode cX7_copy 78 = .ok (.getfield 14, 3) := by decide +kernel
theorem dX7_copy_81 : decode cX7_copy 81 = .ok (.iload_n 3, 1) := by decide +kernel
theorem dX7_copy_82 : decode cX7_copy 82 = .ok (.iload 4, 2) := by decide +kernel
theorem dX7_copy_84 : decode cX7_copy 84 = .ok (.iload 5, 2) := by decide +kernel
theorem dX7_copy_86 : decode cX7_copy 86 = .ok (.invokevirtual 118, 3) := by decide +kernel
theorem dX7_copy_89 : decode cX7_copy 89 = .ok (.ifCond .ne 9, 3) := by decide +kernel
theorem dX7_copy_92 : decode cX7_copy 92 = .ok (.aload_n 0, 1) := by decide +kernel
theorem dX7_copy_93 : decode cX7_copy 93 = .ok (.iconst 2, 1) := by decide +kernel
theorem dX7_copy_94 : decode cX7_copy 94 = .ok (.invokevirtual 111, 3) := by decide +kernel
theorem dX7_copy_97 : decode cX7_copy 97 = .ok (.ireturn, 1) := by decide +kernel
theorem dX7_copy_98 : decode cX7_copy 98 = .ok (.aload_n 0, 1) := by decide +kernel
theorem dX7_copy_99 : decode cX7_copy 99 = .ok (.getfield 14, 3) := by decide +kernel
theorem dX7_copy_102 : decode cX7_copy 102 = .ok (.iload_n 1, 1) := by decide +kernel
theorem dX7_copy_103 : decode cX7_copy 103 = .ok (.iload_n 2, 1) := by decide +kernel
theorem dX7_copy_104 : decode cX7_copy 104 = .ok (.iload_n 3, 1) := by decide +kernel
theorem dX7_copy_105 : decode cX7_copy 105 = .ok (.iload 4, 2) := by decide +kernel
theorem dX7_copy_107 : decode cX7_copy 107 = .ok (.iload 5, 2) := by decide +kernel
theorem dX7_copy_109 : decode cX7_copy 109 = .ok (.invokevirtual 122, 3) := by decide +kernel
theorem dX7_copy_112 : decode cX7_copy 112 = .ok (.iconst 1, 1) := by decide +kernel
theorem dX7_copy_113 : decode cX7_copy 113 = .ok (.ireturn, 1) := by decide +kernel
set_option maxRecDepth 20000 in
theorem ggX7_mean_X7_refuseMissing : GoodIn wsX7_mean wsX7_refuseMissing := goodIn_r _ [7, 8, 9, 10, 11, 12, 13, 14, 15, 16, 17, 18, 19, 20, 21, 22, 23, 24, 25, 6, 26, 27, 28, 49, 50, 51, 35, 36, 37, 38, 39, 40, 41, 42, 43, 44, 45, 46, 47, 48] (by decide +kernel) (by decide +kernel)
set_option maxRecDepth 20000 in
theorem gX7_mean_X7_refuseMissing : GoodIn wsX7_mean (wsV RX7 99 RX7 yX7_refuseMissing wsX7_refuseMissing) := goodIn_app (goodIn_of _ (by decide +kernel)) ggX7_mean_X7_refuseMissing
set_option maxRecDepth 20000 in
theorem ggX7_mean_X5_size : GoodIn wsX7_mean wsX5_size := goodIn_r _ [21, 13, 22, 9, 10, 11, 12, 49, 50, 51] (by decide +kernel) (by decide +kernel)
set_option maxRecDepth 20000 in
theorem gX7_mean_X5_size : GoodIn wsX7_mean (wsV RX7 126 RX5 yX5_size wsX5_size) := goodIn_app (goodIn_of _ (by decide +kernel)) ggX7_mean_X5_size
set_option maxRecDepth 20000 in
theorem ggX7_mean_X7_refuse : GoodIn wsX7_mean wsX7_refuse := goodIn_r _ [26, 27, 28, 35, 36, 37, 38, 39, 40, 41, 42, 43, 44, 45, 46, 47, 48] (by decide +kernel) (by decide +kernel)
set_option maxRecDepth 20000 in
theorem gX7_mean_X7_refuse : GoodIn wsX7_mean (wsV RX7 111 RX7 yX7_refuse wsX7_refuse) := goodIn_app (goodIn_of _ (by decide +kernel)) ggX7_mean_X7_refuse
set_option maxRecDepth 20000 in
theorem ggX7_mean_X5_sum : GoodIn wsX7_mean wsX5_sum := goodIn_r _ [33, 34, 18, 19, 20, 11, 21, 13, 22, 9, 10, 12, 49, 50, 51] (by decide +kernel) (by decide +kernel)
set_option maxRecDepth 20000 in
theorem gX7_mean_X5_sum : GoodIn wsX7_mean (wsV RX7 129 RX5 yX5_sum wsX5_sum) := goodIn_app (goodIn_of _ (by decide +kernel)) ggX7_mean_X5_sum
theorem dX7_mean_0 : decode cX7_mean 0 = .ok (.aload_n 0, 1) := by decide +kernel
theorem dX7_mean_1 : decode cX7_mean 1 = .ok (.aload_n 0, 1) := by decide +kernel
theorem dX7_mean_2 : decode cX7_mean 2 = .ok (.getfield 14, 3) := by decide +kernel
theorem dX7_mean_5 : decode cX7_mean 5 = .ok (.iload_n 1, 1) := by decide +kernel
theorem dX7_mean_6 : decode cX7_mean 6 = .ok (.invokevirtual 99, 3) := by decide +kernel
theorem dX7_mean_9 : decode cX7_mean 9 = .ok (.istore_n 2, 1) := by decide +kernel
theorem dX7_mean_10 : decode cX7_mean 10 = .ok (.iload_n 2, 1) := by decide +kernel
theorem dX7_mean_11 : decode cX7_mean 11 = .ok (.ifCond .eq 5, 3) := by decide +kernel
theorem dX7_mean_14 : decode cX7_mean 14 = .ok (.iload_n 2, 1) := by decide +kernel
theorem dX7_mean_15 : decode cX7_mean 15 = .ok (.ireturn, 1) := by decide +kernel
theorem dX7_mean_16 : decode cX7_mean 16 = .ok (.aload_n 0, 1) := by decide +kernel
theorem dX7_mean_17 : decode cX7_mean 17 = .ok (.getfield 14, 3) := by decide +kernel
theorem dX7_mean_20 : decode cX7_mean 20 = .ok (.iload_n 1, 1) := by decide +kernel
theorem dX7_mean_21 : decode cX7_mean 21 = .ok (.invokevirtual 126, 3) := by decide +kernel
theorem dX7_mean_24 : decode cX7_mean 24 = .ok (.istore_n 3, 1) := by decide +kernel
theorem dX7_mean_25 : decode cX7_mean 25 = .ok (.iload_n 3, 1) := by decide +kernel
theorem dX7_mean_26 : decode cX7_mean 26 = .ok (.iconst 1, 1) := by decide +kernel
theorem dX7_mean_27 : decode cX7_mean 27 = .ok (.if_icmp .ge 9, 3) := by decide +kernel
theorem dX7_mean_30 : decode cX7_mean 30 = .ok (.aload_n 0, 1) := by decide +kernel
theorem dX7_mean_31 : decode cX7_mean 31 = .ok (.iconst 4, 1) := by decide +kernel
theorem dX7_mean_32 : decode cX7_mean 32 = .ok (.invokevirtual 111, 3) := by decide +kernel
theorem dX7_mean_35 : decode cX7_mean 35 = .ok (.ireturn, 1) := by decide +kernel
theorem dX7_mean_36 : decode cX7_mean 36 = .ok (.aload_n 0, 1) := by decide +kernel
theorem dX7_mean_37 : decode cX7_mean 37 = .ok (.aload_n 0, 1) := by decide +kernel
theorem dX7_mean_38 : decode cX7_mean 38 = .ok (.getfield 14, 3) := by decide +kernel
theorem dX7_mean_41 : decode cX7_mean 41 = .ok (.iload_n 1, 1) := by decide +kernel
theorem dX7_mean_42 : decode cX7_mean 42 = .ok (.invokevirtual 129, 3) := by decide +kernel
theorem dX7_mean_45 : decode cX7_mean 45 = .ok (.iload_n 3, 1) := by decide +kernel
theorem dX7_mean_46 : decode cX7_mean 46 = .ok (.i2l, 1) := by decide +kernel
theorem dX7_mean_47 : decode cX7_mean 47 = .ok (.ldiv, 1) := by decide +kernel
theorem dX7_mean_48 : decode cX7_mean 48 = .ok (.l2i, 1) := by decide +kernel
theorem dX7_mean_49 : decode cX7_mean 49 = .ok (.putfield 73, 3) := by decide +kernel
theorem dX7_mean_52 : decode cX7_mean 52 = .ok (.iconst 1, 1) := by decide +kernel
theorem dX7_mean_53 : decode cX7_mean 53 = .ok (.ireturn, 1) := by decide +kernel
set_option maxRecDepth 20000 in
theorem ggX7_text_X7_makeOn : GoodIn wsX7_text wsX7_makeOn := goodIn_r _ [6, 7, 8, 9, 10, 11, 12, 13, 14, 15, 16, 5, 17, 18, 19, 20, 21, 22, 23, 24, 25, 26, 41, 42, 43, 27, 28, 29, 30, 31, 32, 33, 34, 35, 36, 37, 38, 39, 40] (by decide +kernel) (by decide +kernel)
set_option maxRecDepth 20000 in
theorem gX7_text_X7_makeOn : GoodIn wsX7_text (wsV RX7 83 RX7 yX7_makeOn wsX7_makeOn) := goodIn_app (goodIn_of _ (by decide +kernel)) ggX7_text_X7_makeOn
theorem dX7_text_0 : decode cX7_text 0 = .ok (.aload_n 0, 1) := by decide +kernel
theorem dX7_text_1 : decode cX7_text 1 = .ok (.aload_n 0, 1) := by decide +kernel
theorem dX7_text_2 : decode cX7_text 2 = .ok (.getfield 18, 3) := by decide +kernel
theorem dX7_text_5 : decode cX7_text 5 = .ok (.iload_n 1, 1) := by decide +kernel
theorem dX7_text_6 : decode cX7_text 6 = .ok (.iload_n 2, 1) := by decide +kernel
theorem dX7_text_7 : decode cX7_text 7 = .ok (.bipush 32, 2) := by decide +kernel
theorem dX7_text_9 : decode cX7_text 9 = .ok (.invokevirtual 83, 3) := by decide +kernel
theorem dX7_text_12 : decode cX7_text 12 = .ok (.ireturn, 1) := by decide +kernel
set_option maxRecDepth 20000 in
theorem ggX7_put_X7_refusePlace : GoodIn wsX7_put wsX7_refusePlace := goodIn_r _ [6, 7, 8, 9, 5, 10, 11, 12, 13, 14, 15, 16, 17, 18, 19, 20, 21, 22, 23, 24, 25, 26, 27, 28, 29, 30, 31, 32, 33, 34, 35, 56, 57, 58, 42, 43, 44, 45, 46, 47, 48, 49, 50, 51, 52, 53, 54, 55] (by decide +kernel) (by decide +kernel)
set_option maxRecDepth 20000 in
theorem gX7_put_X7_refusePlace : GoodIn wsX7_put (wsV RX7 87 RX7 yX7_refusePlace wsX7_refusePlace) := goodIn_app (goodIn_of _ (by decide +kernel)) ggX7_put_X7_refusePlace
set_option maxRecDepth 20000 in
theorem ggX7_put_X5_replace : GoodIn wsX7_put wsX5_replace := goodIn_r _ [39, 40, 41, 33, 34, 14, 35, 21, 22, 23, 24, 16, 25, 12, 13, 15, 56, 57, 58] (by decide +kernel) (by decide +kernel)
set_option maxRecDepth 20000 in
theorem gX7_put_X5_replace : GoodIn wsX7_put (wsV RX7 91 RX5 yX5_replace wsX5_replace) := goodIn_app (goodIn_of _ (by decide +kernel)) ggX7_put_X5_replace
theorem dX7_put_0 : decode cX7_put 0 = .ok (.aload_n 0, 1) := by decide +kernel
theorem dX7_put_1 : decode cX7_put 1 = .ok (.aload_n 0, 1) := by decide +kernel
theorem dX7_put_2 : decode cX7_put 2 = .ok (.getfield 18, 3) := by decide +kernel
theorem dX7_put_5 : decode cX7_put 5 = .ok (.iload_n 1, 1) := by decide +kernel
theorem dX7_put_6 : decode cX7_put 6 = .ok (.iload_n 2, 1) := by decide +kernel
theorem dX7_put_7 : decode cX7_put 7 = .ok (.invokevirtual 87, 3) := by decide +kernel
theorem dX7_put_10 : decode cX7_put 10 = .ok (.istore 4, 2) := by decide +kernel
theorem dX7_put_12 : decode cX7_put 12 = .ok (.iload 4, 2) := by decide +kernel
theorem dX7_put_14 : decode cX7_put 14 = .ok (.ifCond .eq 6, 3) := by decide +kernel
theorem dX7_put_17 : decode cX7_put 17 = .ok (.iload 4, 2) := by decide +kernel
theorem dX7_put_19 : decode cX7_put 19 = .ok (.ireturn, 1) := by decide +kernel
theorem dX7_put_20 : decode cX7_put 20 = .ok (.aload_n 0, 1) := by decide +kernel
theorem dX7_put_21 : decode cX7_put 21 = .ok (.getfield 18, 3) := by decide +kernel
theorem dX7_put_24 : decode cX7_put 24 = .ok (.iload_n 1, 1) := by decide +kernel
theorem dX7_put_25 : decode cX7_put 25 = .ok (.iload_n 2, 1) := by decide +kernel
theorem dX7_put_26 : decode cX7_put 26 = .ok (.iload_n 3, 1) := by decide +kernel
theorem dX7_put_27 : decode cX7_put 27 = .ok (.i2b, 1) := by decide +kernel
theorem dX7_put_28 : decode cX7_put 28 = .ok (.invokevirtual 91, 3) := by decide +kernel
theorem dX7_put_31 : decode cX7_put 31 = .ok (.sipush 1000, 3) := by decide +kernel
theorem dX7_put_34 : decode cX7_put 34 = .ok (.iadd, 1) := by decide +kernel
theorem dX7_put_35 : decode cX7_put 35 = .ok (.ireturn, 1) := by decide +kernel
set_option maxRecDepth 20000 in
theorem ggX7_fault_X7_refuseMissing : GoodIn wsX7_fault wsX7_refuseMissing := goodIn_r _ [7, 8, 9, 10, 11, 12, 13, 14, 15, 16, 17, 18, 19, 20, 21, 22, 23, 24, 25, 6, 26, 27, 28, 116, 117, 118, 102, 103, 104, 105, 106, 107, 108, 109, 110, 111, 112, 113, 114, 115] (by decide +kernel) (by decide +kernel)
set_option maxRecDepth 20000 in
theorem gX7_fault_X7_refuseMissing : GoodIn wsX7_fault (wsV RX7 99 RX7 yX7_refuseMissing wsX7_refuseMissing) := goodIn_app (goodIn_of _ (by decide +kernel)) ggX7_fault_X7_refuseMissing
set_option maxRecDepth 20000 in
theorem ggX7_fault_X4_read : GoodIn wsX7_fault wsX4_read := goodIn_r _ [33, 34, 35, 36, 37, 38, 39, 40, 11, 41, 42, 43, 44, 45, 46, 47, 48, 49, 50, 18, 19, 20, 21, 13, 22, 9, 10, 12, 51, 52, 53, 54, 55, 56, 57, 58, 59, 32, 60, 61, 62, 63, 64, 65, 66, 67, 68, 69, 70, 71, 72, 73, 74, 75, 76, 77, 78, 79, 80, 81, 82, 83, 84, 85, 86, 87, 88, 89, 90, 91, 92, 93, 94, 95, 96, 97, 98, 99, 100, 101, 119, 120, 121, 122, 116, 117, 118, 123, 124, 125] (by decide +kernel) (by decide +kernel)
set_option maxRecDepth 20000 in
theorem gX7_fault_X4_read : GoodIn wsX7_fault (wsV RX7 133 RX4 yX4_read wsX4_read) := goodIn_app (goodIn_of _ (by decide +kernel)) ggX7_fault_X4_read
theorem dX7_fault_0 : decode cX7_fault 0 = .ok (.aload_n 0, 1) := by decide +kernel
theorem dX7_fault_1 : decode cX7_fault 1 = .ok (.aload_n 0, 1) := by decide +kernel
theorem dX7_fault_2 : decode cX7_fault 2 = .ok (.getfield 18, 3) := by decide +kernel
theorem dX7_fault_5 : decode cX7_fault 5 = .ok (.iload_n 1, 1) := by decide +kernel
theorem dX7_fault_6 : decode cX7_fault 6 = .ok (.invokevirtual 99, 3) := by decide +kernel
theorem dX7_fault_9 : decode cX7_fault 9 = .ok (.istore_n 2, 1) := by decide +kernel
theorem dX7_fault_10 : decode cX7_fault 10 = .ok (.iload_n 2, 1) := by decide +kernel
theorem dX7_fault_11 : decode cX7_fault 11 = .ok (.ifCond .eq 5, 3) := by decide +kernel
theorem dX7_fault_14 : decode cX7_fault 14 = .ok (.iload_n 2, 1) := by decide +kernel
theorem dX7_fault_15 : decode cX7_fault 15 = .ok (.ireturn, 1) := by decide +kernel
theorem dX7_fault_16 : decode cX7_fault 16 = .ok (.aload_n 0, 1) := by decide +kernel
theorem dX7_fault_17 : decode cX7_fault 17 = .ok (.getfield 24, 3) := by decide +kernel
theorem dX7_fault_20 : decode cX7_fault 20 = .ok (.aload_n 0, 1) := by decide +kernel
theorem dX7_fault_21 : decode cX7_fault 21 = .ok (.getfield 18, 3) := by decide +kernel
theorem dX7_fault_24 : decode cX7_fault 24 = .ok (.iload_n 1, 1) := by decide +kernel
theorem dX7_fault_25 : decode cX7_fault 25 = .ok (.invokevirtual 133, 3) := by decide +kernel
theorem dX7_fault_28 : decode cX7_fault 28 = .ok (.ireturn, 1) := by decide +kernel
set_option maxRecDepth 20000 in
theorem ggX7_index_X7_refuseMissing : GoodIn wsX7_index wsX7_refuseMissing := goodIn_r _ [14, 15, 16, 17, 18, 19, 20, 21, 22, 23, 24, 25, 26, 27, 28, 29, 30, 31, 32, 13, 33, 34, 35, 224, 225, 226, 203, 204, 205, 206, 207, 208, 209, 210, 211, 212, 213, 214, 215, 216] (by decide +kernel) (by decide +kernel)
set_option maxRecDepth 20000 in
theorem gX7_index_X7_refuseMissing : GoodIn wsX7_index (wsV RX7 99 RX7 yX7_refuseMissing wsX7_refuseMissing) := goodIn_app (goodIn_of _ (by decide +kernel)) ggX7_index_X7_refuseMissing
set_option maxRecDepth 20000 in
theorem ggX7_index_X4_read : GoodIn wsX7_index wsX4_read := goodIn_r _ [40, 41, 42, 43, 44, 45, 46, 47, 18, 48, 49, 50, 51, 52, 53, 54, 55, 56, 57, 25, 26, 27, 28, 20, 29, 16, 17, 19, 58, 59, 60, 61, 62, 63, 64, 65, 66, 39, 67, 68, 69, 70, 71, 72, 73, 74, 75, 76, 77, 78, 79, 80, 81, 82, 83, 84, 85, 86, 87, 88, 89, 90, 91, 92, 93, 94, 95, 96, 97, 98, 99, 100, 101, 102, 103, 104, 105, 106, 107, 108, 217, 218, 219, 220, 224, 225, 226, 221, 222, 223] (by decide +kernel) (by decide +kernel)
set_option maxRecDepth 20000 in
theorem gX7_index_X4_read : GoodIn wsX7_index (wsV RX7 133 RX4 yX4_read wsX4_read) := goodIn_app (goodIn_of _ (by decide +kernel)) ggX7_index_X4_read
set_option maxRecDepth 20000 in
theorem ggX7_index_X1_become : GoodIn wsX7_index wsX1_become := goodIn_r _ [112, 94, 113, 55, 56, 57, 108, 63, 221, 222, 223] (by decide +kernel) (by decide +kernel)
set_option maxRecDepth 20000 in
theorem gX7_index_X1_become : GoodIn wsX7_index (wsV RX7 137 RX1 yX1_become wsX1_become) := goodIn_app (goodIn_of _ (by decide +kernel)) ggX7_index_X1_become
set_option maxRecDepth 20000 in
theorem ggX7_index_X0_cutTo : GoodIn wsX7_index wsX0_cutTo := goodIn_r _ [118, 119, 227, 228, 229, 230] (by decide +kernel) (by decide +kernel)
set_option maxRecDepth 20000 in
theorem gX7_index_X0_cutTo : GoodIn wsX7_index (wsV RX7 141 RX0 yX0_cutTo wsX0_cutTo) := goodIn_app (goodIn_of _ (by decide +kernel)) ggX7_index_X0_cutTo
set_option maxRecDepth 20000 in
theorem ggX7_index_X0_forget : GoodIn wsX7_index wsX0_forget := goodIn_r _ [123, 119, 227, 228, 229, 230] (by decide +kernel) (by decide +kernel)
set_option maxRecDepth 20000 in
theorem gX7_index_X0_forget : GoodIn wsX7_index (wsV RX7 80 RX0 yX0_forget wsX0_forget) := goodIn_app (goodIn_of _ (by decide +kernel)) ggX7_index_X0_forget
set_option maxRecDepth 20000 in
theorem ggX7_index_X2_empty : GoodIn wsX7_index wsX2_empty := goodIn_r _ [128, 129, 231, 232] (by decide +kernel) (by decide +kernel)
set_option maxRecDepth 20000 in
theorem gX7_index_X2_empty : GoodIn wsX7_index (wsV RX7 144 RX2 yX2_empty wsX2_empty) := goodIn_app (goodIn_of _ (by decide +kernel)) ggX7_index_X2_empty
set_option maxRecDepth 20000 in
theorem ggX7_index_X7_replayDeeds : GoodIn wsX7_index wsX7_replayDeeds := goodIn_r _ [133, 8, 3, 5, 109, 110, 111, 61, 112, 94, 113, 55, 56, 57, 108, 63, 134, 135, 136, 117, 137, 119, 138, 139, 140, 141, 142, 143, 144, 145, 105, 106, 107, 95, 96, 97, 98, 103, 91, 92, 93, 146, 147, 148, 149, 150, 151, 152, 153, 154, 155, 85, 156, 157, 158, 159, 87, 88, 89, 160, 161, 162, 13, 163, 164, 165, 166, 167, 168, 169, 170, 171, 172, 173, 174, 175, 176, 177, 178, 179, 180, 181, 182, 183, 184, 185, 186, 187, 188, 189, 190, 50, 51, 52, 191, 192, 193, 194, 195, 196, 197, 198, 199, 200, 201, 202, 203, 204, 205, 206, 207, 208, 209, 210, 211, 212, 213, 214, 215, 216, 221, 222, 223, 227, 228, 229, 230, 233, 234, 235, 236, 237, 238, 239] (by decide +kernel) (by decide +kernel)
set_option maxRecDepth 20000 in
theorem gX7_index_X7_replayDeeds : GoodIn wsX7_index (wsV RX7 147 RX7 yX7_replayDeeds wsX7_replayDeeds) := goodIn_app (goodIn_of _ (by decide +kernel)) ggX7_index_X7_replayDeeds
theorem dX7_index_0 : decode cX7_index 0 = .ok (.aload_n 0, 1) := by decide +kernel
theorem dX7_index_1 : decode cX7_index 1 = .ok (.aload_n 0, 1) := by decide +kernel
theorem dX7_index_2 : decode cX7_index 2 = .ok (.getfield 18, 3) := by decide +kernel
theorem dX7_index_5 : decode cX7_index 5 = .ok (.iload_n 1, 1) := by decide +kernel
theorem dX7_index_6 : decode cX7_index 6 = .ok (.invokevirtual 99, 3) := by decide +kernel
theorem dX7_index_9 : decode cX7_index 9 = .ok (.istore_n 2, 1) := by decide +kernel
theorem dX7_index_10 : decode cX7_index 10 = .ok (.iload_n 2, 1) := by decide +kernel
theorem dX7_index_11 : decode cX7_index 11 = .ok (.ifCond .eq 5, 3) := by decide +kernel
theorem dX7_index_14 : decode cX7_index 14 = .ok (.iload_n 2, 1) := by decide +kernel
theorem dX7_index_15 : decode cX7_index 15 = .ok (.ireturn, 1) := by decide +kernel
theorem dX7_index_16 : decode cX7_index 16 = .ok (.aload_n 0, 1) := by decide +kernel
theorem dX7_index_17 : decode cX7_index 17 = .ok (.getfield 24, 3) := by decide +kernel
theorem dX7_index_20 : decode cX7_index 20 = .ok (.aload_n 0, 1) := by decide +kernel
theorem dX7_index_21 : decode cX7_index 21 = .ok (.getfield 18, 3) := by decide +kernel
theorem dX7_index_24 : decode cX7_index 24 = .ok (.iload_n 1, 1) := by decide +kernel
theorem dX7_index_25 : decode cX7_index 25 = .ok (.invokevirtual 133, 3) := by decide +kernel
theorem dX7_index_28 : decode cX7_index 28 = .ok (.bipush (-9), 2) := by decide +kernel
theorem dX7_index_30 : decode cX7_index 30 = .ok (.if_icmp .eq 6, 3) := by decide +kernel
theorem dX7_index_33 : decode cX7_index 33 = .ok (.bipush (-4), 2) := by decide +kernel
theorem dX7_index_35 : decode cX7_index 35 = .ok (.ireturn, 1) := by decide +kernel
theorem dX7_index_36 : decode cX7_index 36 = .ok (.aload_n 0, 1) := by decide +kernel
theorem dX7_index_37 : decode cX7_index 37 = .ok (.getfield 31, 3) := by decide +kernel
theorem dX7_index_40 : decode cX7_index 40 = .ok (.aload_n 0, 1) := by decide +kernel
theorem dX7_index_41 : decode cX7_index 41 = .ok (.getfield 24, 3) := by decide +kernel
theorem dX7_index_44 : decode cX7_index 44 = .ok (.getfield 136, 3) := by decide +kernel
theorem dX7_index_47 : decode cX7_index 47 = .ok (.invokevirtual 137, 3) := by decide +kernel
theorem dX7_index_50 : decode cX7_index 50 = .ok (.aload_n 0, 1) := by decide +kernel
theorem dX7_index_51 : decode cX7_index 51 = .ok (.getfield 41, 3) := by decide +kernel
theorem dX7_index_54 : decode cX7_index 54 = .ok (.iconst 0, 1) := by decide +kernel
theorem dX7_index_55 : decode cX7_index 55 = .ok (.invokevirtual 141, 3) := by decide +kernel
theorem dX7_index_58 : decode cX7_index 58 = .ok (.iconst 0, 1) := by decide +kernel
theorem dX7_index_59 : decode cX7_index 59 = .ok (.istore_n 3, 1) := by decide +kernel
theorem dX7_index_60 : decode cX7_index 60 = .ok (.iload_n 3, 1) := by decide +kernel
theorem dX7_index_61 : decode cX7_index 61 = .ok (.iconst 3, 1) := by decide +kernel
theorem dX7_index_62 : decode cX7_index 62 = .ok (.if_icmp .ge 18, 3) := by decide +kernel
theorem dX7_index_65 : decode cX7_index 65 = .ok (.aload_n 0, 1) := by decide +kernel
theorem dX7_index_66 : decode cX7_index 66 = .ok (.getfield 45, 3) := by decide +kernel
theorem dX7_index_69 : decode cX7_index 69 = .ok (.iload_n 3, 1) := by decide +kernel
theorem dX7_index_70 : decode cX7_index 70 = .ok (.aaload, 1) := by decide +kernel
theorem dX7_index_71 : decode cX7_index 71 = .ok (.invokevirtual 80, 3) := by decide +kernel
theorem dX7_index_74 : decode cX7_index 74 = .ok (.iinc 3 1, 3) := by decide +kernel
theorem dX7_index_77 : decode cX7_index 77 = .ok (.goto (-17), 3) := by decide +kernel
theorem dX7_index_80 : decode cX7_index 80 = .ok (.aload_n 0, 1) := by decide +kernel
theorem dX7_index_81 : decode cX7_index 81 = .ok (.getfield 52, 3) := by decide +kernel
theorem dX7_index_84 : decode cX7_index 84 = .ok (.invokevirtual 144, 3) := by decide +kernel
theorem dX7_index_87 : decode cX7_index 87 = .ok (.aload_n 0, 1) := by decide +kernel
theorem dX7_index_88 : decode cX7_index 88 = .ok (.invokevirtual 147, 3) := by decide +kernel
theorem dX7_index_91 : decode cX7_index 91 = .ok (.aload_n 0, 1) := by decide +kernel
theorem dX7_index_92 : decode cX7_index 92 = .ok (.getfield 35, 3) := by decide +kernel
theorem dX7_index_95 : decode cX7_index 95 = .ok (.getfield 150, 3) := by decide +kernel
theorem dX7_index_98 : decode cX7_index 98 = .ok (.ireturn, 1) := by decide +kernel
set_option maxRecDepth 20000 in
theorem ggX7_enter_X6_isWord : GoodIn wsX7_enter wsX6_isWord := goodIn_r _ [7] (by decide +kernel) (by decide +kernel)
set_option maxRecDepth 20000 in
theorem gX7_enter_X6_isWord : GoodIn wsX7_enter (va_wsS RX7 152 yX6_isWord wsX6_isWord) := goodIn_app (goodIn_of _ (by decide +kernel)) ggX7_enter_X6_isWord
set_option maxRecDepth 20000 in
theorem ggX7_enter_X6_pack : GoodIn wsX7_enter wsX6_pack := goodIn_r _ [10, 11, 12, 6, 13] (by decide +kernel) (by decide +kernel)
set_option maxRecDepth 20000 in
theorem gX7_enter_X6_pack : GoodIn wsX7_enter (va_wsS RX7 158 yX6_pack wsX6_pack) := goodIn_app (goodIn_of _ (by decide +kernel)) ggX7_enter_X6_pack
set_option maxRecDepth 20000 in
theorem ggX7_enter_X1_hasRoomFor : GoodIn wsX7_enter wsX1_hasRoomFor := goodIn_r _ [18, 19, 20, 21, 22, 17, 23, 24, 25, 26, 27, 28, 160, 161, 162] (by decide +kernel) (by decide +kernel)
set_option maxRecDepth 20000 in
theorem gX7_enter_X1_hasRoomFor : GoodIn wsX7_enter (wsV RX7 162 RX1 yX1_hasRoomFor wsX1_hasRoomFor) := goodIn_app (goodIn_of _ (by decide +kernel)) ggX7_enter_X1_hasRoomFor
set_option maxRecDepth 20000 in
theorem ggX7_enter_X1_valueOf : GoodIn wsX7_enter wsX1_valueOf := goodIn_r _ [32, 20, 21, 22, 17, 23, 19, 24, 25, 26, 27, 28, 33, 34, 35, 36, 37, 160, 161, 162] (by decide +kernel) (by decide +kernel)
set_option maxRecDepth 20000 in
theorem gX7_enter_X1_valueOf : GoodIn wsX7_enter (wsV RX7 165 RX1 yX1_valueOf wsX1_valueOf) := goodIn_app (goodIn_of _ (by decide +kernel)) ggX7_enter_X1_valueOf
set_option maxRecDepth 20000 in
theorem ggX7_enter_X7_doDeed : GoodIn wsX7_enter wsX7_doDeed := goodIn_r _ [42, 1, 3, 43, 44, 45, 46, 47, 48, 49, 50, 51, 52, 53, 54, 55, 56, 57, 17, 58, 59, 60, 61, 62, 19, 24, 37, 25, 26, 27, 28, 20, 21, 22, 23, 63, 64, 65, 66, 67, 68, 69, 70, 71, 72, 6, 73, 74, 75, 76, 11, 12, 13, 77, 78, 79, 80, 81, 82, 83, 84, 85, 86, 87, 88, 89, 90, 91, 92, 93, 94, 95, 96, 97, 98, 99, 100, 101, 102, 103, 104, 105, 106, 107, 108, 109, 110, 111, 112, 113, 114, 115, 116, 117, 118, 119, 120, 121, 122, 123, 124, 125, 126, 127, 128, 129, 130, 131, 132, 133, 134, 135, 136, 137, 138, 139, 140, 141, 142, 143, 144, 145, 146, 147, 148, 149, 150, 151, 152, 153, 154, 155, 156, 157, 158, 159, 160, 161, 162, 163, 164, 165, 166, 167, 168, 169] (by decide +kernel) (by decide +kernel)
set_option maxRecDepth 20000 in
theorem gX7_enter_X7_doDeed : GoodIn wsX7_enter (wsV RX7 168 RX7 yX7_doDeed wsX7_doDeed) := goodIn_app (goodIn_of _ (by decide +kernel)) ggX7_enter_X7_doDeed
theorem dX7_enter_0 : decode cX7_enter 0 = .ok (.iload_n 1, 1) := by decide +kernel
theorem dX7_enter_1 : decode cX7_enter 1 = .ok (.iload_n 2, 1) := by decide +kernel
theorem dX7_enter_2 : decode cX7_enter 2 = .ok (.invokestatic 152, 3) := by decide +kernel
theorem dX7_enter_5 : decode cX7_enter 5 = .ok (.ifCond .eq 14, 3) := by decide +kernel
theorem dX7_enter_8 : decode cX7_enter 8 = .ok (.iload_n 3, 1) := by decide +kernel
theorem dX7_enter_9 : decode cX7_enter 9 = .ok (.ifCond .lt 10, 3) := by decide +kernel
theorem dX7_enter_12 : decode cX7_enter 12 = .ok (.iload_n 3, 1) := by decide +kernel
theorem dX7_enter_13 : decode cX7_enter 13 = .ok (.sipush 999, 3) := by decide +kernel
theorem dX7_enter_16 : decode cX7_enter 16 = .ok (.if_icmp .le 5, 3) := by decide +kernel
theorem dX7_enter_19 : decode cX7_enter 19 = .ok (.iconst (-1), 1) := by decide +kernel
theorem dX7_enter_20 : decode cX7_enter 20 = .ok (.ireturn, 1) := by decide +kernel
theorem dX7_enter_21 : decode cX7_enter 21 = .ok (.iload_n 1, 1) := by decide +kernel
theorem dX7_enter_22 : decode cX7_enter 22 = .ok (.iload_n 2, 1) := by decide +kernel
theorem dX7_enter_23 : decode cX7_enter 23 = .ok (.invokestatic 158, 3) := by decide +kernel
theorem dX7_enter_26 : decode cX7_enter 26 = .ok (.istore 4, 2) := by decide +kernel
theorem dX7_enter_28 : decode cX7_enter 28 = .ok (.aload_n 0, 1) := by decide +kernel
theorem dX7_enter_29 : decode cX7_enter 29 = .ok (.getfield 41, 3) := by decide +kernel
theorem dX7_enter_32 : decode cX7_enter 32 = .ok (.getfield 161, 3) := by decide +kernel
theorem dX7_enter_35 : decode cX7_enter 35 = .ok (.bipush 40, 2) := by decide +kernel
theorem dX7_enter_37 : decode cX7_enter 37 = .ok (.if_icmp .ge 15, 3) := by decide +kernel
theorem dX7_enter_40 : decode cX7_enter 40 = .ok (.aload_n 0, 1) := by decide +kernel
theorem dX7_enter_41 : decode cX7_enter 41 = .ok (.getfield 35, 3) := by decide +kernel
theorem dX7_enter_44 : decode cX7_enter 44 = .ok (.iload 4, 2) := by decide +kernel
theorem dX7_enter_46 : decode cX7_enter 46 = .ok (.invokevirtual 162, 3) := by decide +kernel
theorem dX7_enter_49 : decode cX7_enter 49 = .ok (.ifCond .ne 6, 3) := by decide +kernel
theorem dX7_enter_52 : decode cX7_enter 52 = .ok (.bipush (-2), 2) := by decide +kernel
theorem dX7_enter_54 : decode cX7_enter 54 = .ok (.ireturn, 1) := by decide +kernel
theorem dX7_enter_55 : decode cX7_enter 55 = .ok (.aload_n 0, 1) := by decide +kernel
theorem dX7_enter_56 : decode cX7_enter 56 = .ok (.getfield 35, 3) := by decide +kernel
theorem dX7_enter_59 : decode cX7_enter 59 = .ok (.iload 4, 2) := by decide +kernel
theorem dX7_enter_61 : decode cX7_enter 61 = .ok (.invokevirtual 165, 3) := by decide +kernel
theorem dX7_enter_64 : decode cX7_enter 64 = .ok (.istore 5, 2) := by decide +kernel
theorem dX7_enter_66 : decode cX7_enter 66 = .ok (.aload_n 0, 1) := by decide +kernel
theorem dX7_enter_67 : decode cX7_enter 67 = .ok (.iconst 1, 1) := by decide +kernel
theorem dX7_enter_68 : decode cX7_enter 68 = .ok (.iload 4, 2) := by decide +kernel
theorem dX7_enter_70 : decode cX7_enter 70 = .ok (.iload_n 3, 1) := by decide +kernel
theorem dX7_enter_71 : decode cX7_enter 71 = .ok (.invokevirtual 168, 3) := by decide +kernel
theorem dX7_enter_74 : decode cX7_enter 74 = .ok (.iload 5, 2) := by decide +kernel
theorem dX7_enter_76 : decode cX7_enter 76 = .ok (.ireturn, 1) := by decide +kernel
set_option maxRecDepth 20000 in
theorem ggX7_take_X6_isWord : GoodIn wsX7_take wsX6_isWord := goodIn_r _ [7] (by decide +kernel) (by decide +kernel)
set_option maxRecDepth 20000 in
theorem gX7_take_X6_isWord : GoodIn wsX7_take (va_wsS RX7 152 yX6_isWord wsX6_isWord) := goodIn_app (goodIn_of _ (by decide +kernel)) ggX7_take_X6_isWord
set_option maxRecDepth 20000 in
theorem ggX7_take_X6_pack : GoodIn wsX7_take wsX6_pack := goodIn_r _ [10, 11, 12, 6, 13] (by decide +kernel) (by decide +kernel)
set_option maxRecDepth 20000 in
theorem gX7_take_X6_pack : GoodIn wsX7_take (va_wsS RX7 158 yX6_pack wsX6_pack) := goodIn_app (goodIn_of _ (by decide +kernel)) ggX7_take_X6_pack
set_option maxRecDepth 20000 in
theorem ggX7_take_X1_has : GoodIn wsX7_take wsX1_has := goodIn_r _ [18, 19, 20, 21, 22, 23, 17, 24, 157, 158, 159] (by decide +kernel) (by decide +kernel)
set_option maxRecDepth 20000 in
theorem gX7_take_X1_has : GoodIn wsX7_take (wsV RX7 172 RX1 yX1_has wsX1_has) := goodIn_app (goodIn_of _ (by decide +kernel)) ggX7_take_X1_has
set_option maxRecDepth 20000 in
theorem ggX7_take_X1_valueOf : GoodIn wsX7_take wsX1_valueOf := goodIn_r _ [28, 29, 15, 16, 17, 18, 19, 20, 21, 22, 23, 24, 30, 31, 32, 33, 34, 157, 158, 159] (by decide +kernel) (by decide +kernel)
set_option maxRecDepth 20000 in
theorem gX7_take_X1_valueOf : GoodIn wsX7_take (wsV RX7 165 RX1 yX1_valueOf wsX1_valueOf) := goodIn_app (goodIn_of _ (by decide +kernel)) ggX7_take_X1_valueOf
set_option maxRecDepth 20000 in
theorem ggX7_take_X7_doDeed : GoodIn wsX7_take wsX7_doDeed := goodIn_r _ [39, 2, 1, 40, 41, 42, 43, 44, 45, 46, 47, 48, 49, 50, 51, 52, 53, 54, 17, 55, 56, 57, 58, 59, 19, 20, 34, 21, 22, 23, 24, 29, 15, 16, 18, 60, 61, 62, 63, 64, 65, 66, 67, 68, 69, 6, 70, 71, 72, 73, 11, 12, 13, 74, 75, 76, 77, 78, 79, 80, 81, 82, 83, 84, 85, 86, 87, 88, 89, 90, 91, 92, 93, 94, 95, 96, 97, 98, 99, 100, 101, 102, 103, 104, 105, 106, 107, 108, 109, 110, 111, 112, 113, 114, 115, 116, 117, 118, 119, 120, 121, 122, 123, 124, 125, 126, 127, 128, 129, 130, 131, 132, 133, 134, 135, 136, 137, 138, 139, 140, 141, 142, 143, 144, 145, 146, 147, 148, 149, 150, 151, 152, 153, 154, 155, 156, 157, 158, 159, 160, 161, 162, 163, 164, 165, 166] (by decide +kernel) (by decide +kernel)
set_option maxRecDepth 20000 in
theorem gX7_take_X7_doDeed : GoodIn wsX7_take (wsV RX7 168 RX7 yX7_doDeed wsX7_doDeed) := goodIn_app (goodIn_of _ (by decide +kernel)) ggX7_take_X7_doDeed
theorem dX7_take_0 : decode cX7_take 0 = .ok (.iload_n 1, 1) := by decide +kernel
theorem dX7_take_1 : decode cX7_take 1 = .ok (.iload_n 2, 1) := by decide +kernel
theorem dX7_take_2 : decode cX7_take 2 = .ok (.invokestatic 152, 3) := by decide +kernel
theorem dX7_take_5 : decode cX7_take 5 = .ok (.ifCond .ne 5, 3) := by decide +kernel
theorem dX7_take_8 : decode cX7_take 8 = .ok (.iconst (-1), 1) := by decide +kernel
theorem dX7_take_9 : decode cX7_take 9 = .ok (.ireturn, 1) := by decide +kernel
theorem dX7_take_10 : decode cX7_take 10 = .ok (.iload_n 1, 1) := by decide +kernel
theorem dX7_take_11 : decode cX7_take 11 = .ok (.iload_n 2, 1) := by decide +kernel
theorem dX7_take_12 : decode cX7_take 12 = .ok (.invokestatic 158, 3) := by decide +kernel
theorem dX7_take_15 : decode cX7_take 15 = .ok (.istore_n 3, 1) := by decide +kernel
theorem dX7_take_16 : decode cX7_take 16 = .ok (.aload_n 0, 1) := by decide +kernel
theorem dX7_take_17 : decode cX7_take 17 = .ok (.getfield 35, 3) := by decide +kernel
theorem dX7_take_20 : decode cX7_take 20 = .ok (.iload_n 3, 1) := by decide +kernel
theorem dX7_take_21 : decode cX7_take 21 = .ok (.invokevirtual 172, 3) := by decide +kernel
theorem dX7_take_24 : decode cX7_take 24 = .ok (.ifCond .ne 6, 3) := by decide +kernel
theorem dX7_take_27 : decode cX7_take 27 = .ok (.bipush (-4), 2) := by decide +kernel
theorem dX7_take_29 : decode cX7_take 29 = .ok (.ireturn, 1) := by decide +kernel
theorem dX7_take_30 : decode cX7_take 30 = .ok (.aload_n 0, 1) := by decide +kernel
theorem dX7_take_31 : decode cX7_take 31 = .ok (.getfield 41, 3) := by decide +kernel
theorem dX7_take_34 : decode cX7_take 34 = .ok (.getfield 161, 3) := by decide +kernel
theorem dX7_take_37 : decode cX7_take 37 = .ok (.bipush 40, 2) := by decide +kernel
theorem dX7_take_39 : decode cX7_take 39 = .ok (.if_icmp .lt 6, 3) := by decide +kernel
theorem dX7_take_42 : decode cX7_take 42 = .ok (.bipush (-2), 2) := by decide +kernel
theorem dX7_take_44 : decode cX7_take 44 = .ok (.ireturn, 1) := by decide +kernel
theorem dX7_take_45 : decode cX7_take 45 = .ok (.aload_n 0, 1) := by decide +kernel
theorem dX7_take_46 : decode cX7_take 46 = .ok (.getfield 35, 3) := by decide +kernel
theorem dX7_take_49 : decode cX7_take 49 = .ok (.iload_n 3, 1) := by decide +kernel
theorem dX7_take_50 : decode cX7_take 50 = .ok (.invokevirtual 165, 3) := by decide +kernel
theorem dX7_take_53 : decode cX7_take 53 = .ok (.istore 4, 2) := by decide +kernel
theorem dX7_take_55 : decode cX7_take 55 = .ok (.aload_n 0, 1) := by decide +kernel
theorem dX7_take_56 : decode cX7_take 56 = .ok (.iconst 2, 1) := by decide +kernel
theorem dX7_take_57 : decode cX7_take 57 = .ok (.iload_n 3, 1) := by decide +kernel
theorem dX7_take_58 : decode cX7_take 58 = .ok (.iconst 0, 1) := by decide +kernel
theorem dX7_take_59 : decode cX7_take 59 = .ok (.invokevirtual 168, 3) := by decide +kernel
theorem dX7_take_62 : decode cX7_take 62 = .ok (.iload 4, 2) := by decide +kernel
theorem dX7_take_64 : decode cX7_take 64 = .ok (.ireturn, 1) := by decide +kernel
set_option maxRecDepth 20000 in
theorem ggX7_strip_X6_isWord : GoodIn wsX7_strip wsX6_isWord := goodIn_r _ [7] (by decide +kernel) (by decide +kernel)
set_option maxRecDepth 20000 in
theorem gX7_strip_X6_isWord : GoodIn wsX7_strip (va_wsS RX7 152 yX6_isWord wsX6_isWord) := goodIn_app (goodIn_of _ (by decide +kernel)) ggX7_strip_X6_isWord
set_option maxRecDepth 20000 in
theorem ggX7_strip_X6_pack : GoodIn wsX7_strip wsX6_pack := goodIn_r _ [10, 11, 12, 6, 13] (by decide +kernel) (by decide +kernel)
set_option maxRecDepth 20000 in
theorem gX7_strip_X6_pack : GoodIn wsX7_strip (va_wsS RX7 158 yX6_pack wsX6_pack) := goodIn_app (goodIn_of _ (by decide +kernel)) ggX7_strip_X6_pack
set_option maxRecDepth 20000 in
theorem ggX7_strip_X1_beginningWith : GoodIn wsX7_strip wsX1_beginningWith := goodIn_r _ [18, 19, 20, 21, 22, 23, 17, 24, 25, 26, 6, 27, 28, 29, 30, 11, 12, 13, 149, 150, 151] (by decide +kernel) (by decide +kernel)
set_option maxRecDepth 20000 in
theorem gX7_strip_X1_beginningWith : GoodIn wsX7_strip (wsV RX7 175 RX1 yX1_beginningWith wsX1_beginningWith) := goodIn_app (goodIn_of _ (by decide +kernel)) ggX7_strip_X1_beginningWith
set_option maxRecDepth 20000 in
theorem ggX7_strip_X7_doDeed : GoodIn wsX7_strip wsX7_doDeed := goodIn_r _ [35, 2, 1, 36, 37, 38, 39, 40, 41, 42, 43, 44, 45, 46, 47, 48, 49, 50, 17, 51, 52, 53, 54, 55, 19, 20, 56, 21, 22, 23, 24, 57, 58, 59, 60, 61, 62, 63, 64, 65, 15, 16, 18, 25, 26, 6, 27, 28, 29, 30, 11, 12, 13, 66, 67, 68, 69, 70, 71, 72, 73, 74, 75, 76, 77, 78, 79, 80, 81, 82, 83, 84, 85, 86, 87, 88, 89, 90, 91, 92, 93, 94, 95, 96, 97, 98, 99, 100, 101, 102, 103, 104, 105, 106, 107, 108, 109, 110, 111, 112, 113, 114, 115, 116, 117, 118, 119, 120, 121, 122, 123, 124, 125, 126, 127, 128, 129, 130, 131, 132, 133, 134, 135, 136, 137, 138, 139, 140, 141, 142, 143, 144, 145, 146, 147, 148, 149, 150, 151, 152, 153, 154, 155, 156, 157, 158] (by decide +kernel) (by decide +kernel)
set_option maxRecDepth 20000 in
theorem gX7_strip_X7_doDeed : GoodIn wsX7_strip (wsV RX7 168 RX7 yX7_doDeed wsX7_doDeed) := goodIn_app (goodIn_of _ (by decide +kernel)) ggX7_strip_X7_doDeed
theorem dX7_strip_0 : decode cX7_strip 0 = .ok (.iload_n 1, 1) := by decide +kernel
theorem dX7_strip_1 : decode cX7_strip 1 = .ok (.iload_n 2, 1) := by decide +kernel
theorem dX7_strip_2 : decode cX7_strip 2 = .ok (.invokestatic 152, 3) := by decide +kernel
theorem dX7_strip_5 : decode cX7_strip 5 = .ok (.ifCond .ne 5, 3) := by decide +kernel
theorem dX7_strip_8 : decode cX7_strip 8 = .ok (.iconst (-1), 1) := by decide +kernel
theorem dX7_strip_9 : decode cX7_strip 9 = .ok (.ireturn, 1) := by decide +kernel
theorem dX7_strip_10 : decode cX7_strip 10 = .ok (.iload_n 1, 1) := by decide +kernel
theorem dX7_strip_11 : decode cX7_strip 11 = .ok (.iload_n 2, 1) := by decide +kernel
theorem dX7_strip_12 : decode cX7_strip 12 = .ok (.invokestatic 158, 3) := by decide +kernel
theorem dX7_strip_15 : decode cX7_strip 15 = .ok (.istore_n 3, 1) := by decide +kernel
theorem dX7_strip_16 : decode cX7_strip 16 = .ok (.aload_n 0, 1) := by decide +kernel
theorem dX7_strip_17 : decode cX7_strip 17 = .ok (.getfield 35, 3) := by decide +kernel
theorem dX7_strip_20 : decode cX7_strip 20 = .ok (.iload_n 3, 1) := by decide +kernel
theorem dX7_strip_21 : decode cX7_strip 21 = .ok (.invokevirtual 175, 3) := by decide +kernel
theorem dX7_strip_24 : decode cX7_strip 24 = .ok (.istore 4, 2) := by decide +kernel
theorem dX7_strip_26 : decode cX7_strip 26 = .ok (.iload 4, 2) := by decide +kernel
theorem dX7_strip_28 : decode cX7_strip 28 = .ok (.ifCond .ne 6, 3) := by decide +kernel
theorem dX7_strip_31 : decode cX7_strip 31 = .ok (.bipush (-4), 2) := by decide +kernel
theorem dX7_strip_33 : decode cX7_strip 33 = .ok (.ireturn, 1) := by decide +kernel
theorem dX7_strip_34 : decode cX7_strip 34 = .ok (.aload_n 0, 1) := by decide +kernel
theorem dX7_strip_35 : decode cX7_strip 35 = .ok (.getfield 41, 3) := by decide +kernel
theorem dX7_strip_38 : decode cX7_strip 38 = .ok (.getfield 161, 3) := by decide +kernel
theorem dX7_strip_41 : decode cX7_strip 41 = .ok (.bipush 40, 2) := by decide +kernel
theorem dX7_strip_43 : decode cX7_strip 43 = .ok (.if_icmp .lt 6, 3) := by decide +kernel
theorem dX7_strip_46 : decode cX7_strip 46 = .ok (.bipush (-2), 2) := by decide +kernel
theorem dX7_strip_48 : decode cX7_strip 48 = .ok (.ireturn, 1) := by decide +kernel
theorem dX7_strip_49 : decode cX7_strip 49 = .ok (.aload_n 0, 1) := by decide +kernel
theorem dX7_strip_50 : decode cX7_strip 50 = .ok (.iconst 3, 1) := by decide +kernel
theorem dX7_strip_51 : decode cX7_strip 51 = .ok (.iload_n 3, 1) := by decide +kernel
theorem dX7_strip_52 : decode cX7_strip 52 = .ok (.iconst 0, 1) := by decide +kernel
theorem dX7_strip_53 : decode cX7_strip 53 = .ok (.invokevirtual 168, 3) := by decide +kernel
theorem dX7_strip_56 : decode cX7_strip 56 = .ok (.iload 4, 2) := by decide +kernel
theorem dX7_strip_58 : decode cX7_strip 58 = .ok (.ireturn, 1) := by decide +kernel
theorem dX7_change_0 : decode cX7_change 0 = .ok (.iload_n 1, 1) := by decide +kernel
theorem dX7_change_1 : decode cX7_change 1 = .ok (.ifCond .lt 8, 3) := by decide +kernel
theorem dX7_change_4 : decode cX7_change 4 = .ok (.iload_n 1, 1) := by decide +kernel
theorem dX7_change_5 : decode cX7_change 5 = .ok (.iconst 4, 1) := by decide +kernel
theorem dX7_change_6 : decode cX7_change 6 = .ok (.if_icmp .lt 5, 3) := by decide +kernel
theorem dX7_change_9 : decode cX7_change 9 = .ok (.iconst (-1), 1) := by decide +kernel
theorem dX7_change_10 : decode cX7_change 10 = .ok (.ireturn, 1) := by decide +kernel
theorem dX7_change_11 : decode cX7_change 11 = .ok (.aload_n 0, 1) := by decide +kernel
theorem dX7_change_12 : decode cX7_change 12 = .ok (.getfield 56, 3) := by decide +kernel
theorem dX7_change_15 : decode cX7_change 15 = .ok (.iload_n 1, 1) := by decide +kernel
theorem dX7_change_16 : decode cX7_change 16 = .ok (.iaload, 1) := by decide +kernel
theorem dX7_change_17 : decode cX7_change 17 = .ok (.ireturn, 1) := by decide +kernel
set_option maxRecDepth 20000 in
theorem ggX7_undo_X0_cutTo : GoodIn wsX7_undo wsX0_cutTo := goodIn_r _ [7, 8, 129, 130, 131, 132] (by decide +kernel) (by decide +kernel)
set_option maxRecDepth 20000 in
theorem gX7_undo_X0_cutTo : GoodIn wsX7_undo (wsV RX7 141 RX0 yX0_cutTo wsX0_cutTo) := goodIn_app (goodIn_of _ (by decide +kernel)) ggX7_undo_X0_cutTo
set_option maxRecDepth 20000 in
theorem ggX7_undo_X7_replayDeeds : GoodIn wsX7_undo wsX7_replayDeeds := goodIn_r _ [13, 14, 15, 1, 16, 17, 18, 19, 20, 21, 22, 23, 24, 25, 26, 27, 28, 29, 30, 6, 31, 8, 32, 33, 34, 35, 36, 37, 38, 39, 40, 41, 42, 43, 44, 45, 46, 47, 48, 49, 50, 51, 52, 53, 54, 55, 56, 57, 58, 59, 60, 61, 62, 63, 64, 65, 66, 67, 68, 69, 70, 71, 12, 72, 73, 74, 75, 76, 77, 78, 79, 80, 81, 82, 83, 84, 85, 86, 87, 88, 89, 90, 91, 92, 93, 94, 95, 96, 97, 98, 99, 100, 101, 102, 103, 104, 105, 106, 107, 108, 109, 110, 111, 112, 113, 114, 115, 116, 117, 118, 119, 120, 121, 122, 123, 124, 125, 126, 127, 128, 133, 134, 135, 129, 130, 131, 132, 136, 137, 138, 139, 140, 141, 142] (by decide +kernel) (by decide +kernel)
set_option maxRecDepth 20000 in
theorem gX7_undo_X7_replayDeeds : GoodIn wsX7_undo (wsV RX7 147 RX7 yX7_replayDeeds wsX7_replayDeeds) := goodIn_app (goodIn_of _ (by decide +kernel)) ggX7_undo_X7_replayDeeds
theorem dX7_undo_0 : decode cX7_undo 0 = .ok (.iload_n 1, 1) := by decide +kernel
theorem dX7_undo_1 : decode cX7_undo 1 = .ok (.ifCond .lt 14, 3) := by decide +kernel
theorem dX7_undo_4 : decode cX7_undo 4 = .ok (.iload_n 1, 1) := by decide +kernel
theorem dX7_undo_5 : decode cX7_undo 5 = .ok (.aload_n 0, 1) := by decide +kernel
theorem dX7_undo_6 : decode cX7_undo 6 = .ok (.getfield 41, 3) := by decide +kernel
theorem dX7_undo_9 : decode cX7_undo 9 = .ok (.getfield 161, 3) := by decide +kernel
theorem dX7_undo_12 : decode cX7_undo 12 = .ok (.if_icmp .le 5, 3) := by decide +kernel
theorem dX7_undo_15 : decode cX7_undo 15 = .ok (.iconst (-1), 1) := by decide +kernel
theorem dX7_undo_16 : decode cX7_undo 16 = .ok (.ireturn, 1) := by decide +kernel
theorem dX7_undo_17 : decode cX7_undo 17 = .ok (.aload_n 0, 1) := by decide +kernel
theorem dX7_undo_18 : decode cX7_undo 18 = .ok (.getfield 41, 3) := by decide +kernel
theorem dX7_undo_21 : decode cX7_undo 21 = .ok (.getfield 161, 3) := by decide +kernel
theorem dX7_undo_24 : decode cX7_undo 24 = .ok (.iload_n 1, 1) := by decide +kernel
theorem dX7_undo_25 : decode cX7_undo 25 = .ok (.isub, 1) := by decide +kernel
theorem dX7_undo_26 : decode cX7_undo 26 = .ok (.istore_n 2, 1) := by decide +kernel
theorem dX7_undo_27 : decode cX7_undo 27 = .ok (.aload_n 0, 1) := by decide +kernel
theorem dX7_undo_28 : decode cX7_undo 28 = .ok (.getfield 41, 3) := by decide +kernel
theorem dX7_undo_31 : decode cX7_undo 31 = .ok (.iload_n 1, 1) := by decide +kernel
theorem dX7_undo_32 : decode cX7_undo 32 = .ok (.invokevirtual 141, 3) := by decide +kernel
theorem dX7_undo_35 : decode cX7_undo 35 = .ok (.aload_n 0, 1) := by decide +kernel
theorem dX7_undo_36 : decode cX7_undo 36 = .ok (.invokevirtual 147, 3) := by decide +kernel
theorem dX7_undo_39 : decode cX7_undo 39 = .ok (.iload_n 2, 1) := by decide +kernel
theorem dX7_undo_40 : decode cX7_undo 40 = .ok (.ireturn, 1) := by decide +kernel
set_option maxRecDepth 20000 in
theorem ggX7_keep_X0_become : GoodIn wsX7_keep wsX0_become := goodIn_r _ [8, 9, 10, 11, 12, 13, 14, 15, 16, 31, 32, 33, 34] (by decide +kernel) (by decide +kernel)
set_option maxRecDepth 20000 in
theorem gX7_keep_X0_become : GoodIn wsX7_keep (wsV RX7 178 RX0 yX0_become wsX0_become) := goodIn_app (goodIn_of _ (by decide +kernel)) ggX7_keep_X0_become
theorem dX7_keep_0 : decode cX7_keep 0 = .ok (.iload_n 1, 1) := by decide +kernel
theorem dX7_keep_1 : decode cX7_keep 1 = .ok (.ifCond .lt 8, 3) := by decide +kernel
theorem dX7_keep_4 : decode cX7_keep 4 = .ok (.iload_n 1, 1) := by decide +kernel
theorem dX7_keep_5 : decode cX7_keep 5 = .ok (.iconst 3, 1) := by decide +kernel
theorem dX7_keep_6 : decode cX7_keep 6 = .ok (.if_icmp .lt 5, 3) := by decide +kernel
theorem dX7_keep_9 : decode cX7_keep 9 = .ok (.iconst (-1), 1) := by decide +kernel
theorem dX7_keep_10 : decode cX7_keep 10 = .ok (.ireturn, 1) := by decide +kernel
theorem dX7_keep_11 : decode cX7_keep 11 = .ok (.aload_n 0, 1) := by decide +kernel
theorem dX7_keep_12 : decode cX7_keep 12 = .ok (.getfield 45, 3) := by decide +kernel
theorem dX7_keep_15 : decode cX7_keep 15 = .ok (.iload_n 1, 1) := by decide +kernel
theorem dX7_keep_16 : decode cX7_keep 16 = .ok (.aaload, 1) := by decide +kernel
theorem dX7_keep_17 : decode cX7_keep 17 = .ok (.aload_n 0, 1) := by decide +kernel
theorem dX7_keep_18 : decode cX7_keep 18 = .ok (.getfield 41, 3) := by decide +kernel
theorem dX7_keep_21 : decode cX7_keep 21 = .ok (.invokevirtual 178, 3) := by decide +kernel
theorem dX7_keep_24 : decode cX7_keep 24 = .ok (.aload_n 0, 1) := by decide +kernel
theorem dX7_keep_25 : decode cX7_keep 25 = .ok (.getfield 41, 3) := by decide +kernel
theorem dX7_keep_28 : decode cX7_keep 28 = .ok (.getfield 161, 3) := by decide +kernel
theorem dX7_keep_31 : decode cX7_keep 31 = .ok (.ireturn, 1) := by decide +kernel
set_option maxRecDepth 20000 in
theorem ggX7_on_X7_refuse : GoodIn wsX7_on wsX7_refuse := goodIn_r _ [8, 9, 10, 123, 124, 125, 126, 127, 128, 129, 130, 131, 132, 133, 134, 135, 136] (by decide +kernel) (by decide +kernel)
set_option maxRecDepth 20000 in
theorem gX7_on_X7_refuse : GoodIn wsX7_on (wsV RX7 111 RX7 yX7_refuse wsX7_refuse) := goodIn_app (goodIn_of _ (by decide +kernel)) ggX7_on_X7_refuse
set_option maxRecDepth 20000 in
theorem ggX7_on_X0_become : GoodIn wsX7_on wsX0_become := goodIn_r _ [15, 16, 17, 18, 19, 20, 21, 22, 23, 137, 138, 139, 140] (by decide +kernel) (by decide +kernel)
set_option maxRecDepth 20000 in
theorem gX7_on_X0_become : GoodIn wsX7_on (wsV RX7 178 RX0 yX0_become wsX0_become) := goodIn_app (goodIn_of _ (by decide +kernel)) ggX7_on_X0_become
set_option maxRecDepth 20000 in
theorem ggX7_on_X7_replayDeeds : GoodIn wsX7_on wsX7_replayDeeds := goodIn_r _ [27, 28, 29, 3, 30, 31, 32, 33, 34, 35, 36, 18, 19, 20, 37, 38, 39, 40, 41, 14, 42, 23, 16, 21, 22, 43, 44, 45, 46, 47, 48, 49, 50, 51, 52, 53, 54, 55, 56, 57, 58, 59, 60, 61, 62, 63, 64, 65, 66, 67, 68, 69, 70, 71, 72, 73, 74, 75, 76, 77, 78, 79, 7, 80, 81, 82, 83, 84, 85, 86, 87, 88, 89, 90, 91, 92, 93, 94, 95, 96, 97, 98, 99, 100, 101, 102, 103, 104, 105, 106, 107, 108, 109, 110, 111, 112, 113, 114, 115, 116, 117, 118, 119, 120, 121, 122, 123, 124, 125, 126, 127, 128, 129, 130, 131, 132, 133, 134, 135, 136, 141, 142, 143, 137, 138, 139, 140, 144, 145, 146, 147, 148, 149, 150] (by decide +kernel) (by decide +kernel)
set_option maxRecDepth 20000 in
theorem gX7_on_X7_replayDeeds : GoodIn wsX7_on (wsV RX7 147 RX7 yX7_replayDeeds wsX7_replayDeeds) := goodIn_app (goodIn_of _ (by decide +kernel)) ggX7_on_X7_replayDeeds
theorem dX7_on_0 : decode cX7_on 0 = .ok (.iload_n 1, 1) := by decide +kernel
theorem dX7_on_1 : decode cX7_on 1 = .ok (.ifCond .lt 8, 3) := by decide +kernel
theorem dX7_on_4 : decode cX7_on 4 = .ok (.iload_n 1, 1) := by decide +kernel
theorem dX7_on_5 : decode cX7_on 5 = .ok (.iconst 3, 1) := by decide +kernel
theorem dX7_on_6 : decode cX7_on 6 = .ok (.if_icmp .lt 5, 3) := by decide +kernel
theorem dX7_on_9 : decode cX7_on 9 = .ok (.iconst (-1), 1) := by decide +kernel
theorem dX7_on_10 : decode cX7_on 10 = .ok (.ireturn, 1) := by decide +kernel
theorem dX7_on_11 : decode cX7_on 11 = .ok (.aload_n 0, 1) := by decide +kernel
theorem dX7_on_12 : decode cX7_on 12 = .ok (.getfield 45, 3) := by decide +kernel
theorem dX7_on_15 : decode cX7_on 15 = .ok (.iload_n 1, 1) := by decide +kernel
theorem dX7_on_16 : decode cX7_on 16 = .ok (.aaload, 1) := by decide +kernel
theorem dX7_on_17 : decode cX7_on 17 = .ok (.getfield 161, 3) := by decide +kernel
theorem dX7_on_20 : decode cX7_on 20 = .ok (.iconst (-1), 1) := by decide +kernel
theorem dX7_on_21 : decode cX7_on 21 = .ok (.if_icmp .ne 9, 3) := by decide +kernel
theorem dX7_on_24 : decode cX7_on 24 = .ok (.aload_n 0, 1) := by decide +kernel
theorem dX7_on_25 : decode cX7_on 25 = .ok (.iconst 1, 1) := by decide +kernel
theorem dX7_on_26 : decode cX7_on 26 = .ok (.invokevirtual 111, 3) := by decide +kernel
theorem dX7_on_29 : decode cX7_on 29 = .ok (.ireturn, 1) := by decide +kernel
theorem dX7_on_30 : decode cX7_on 30 = .ok (.aload_n 0, 1) := by decide +kernel
theorem dX7_on_31 : decode cX7_on 31 = .ok (.getfield 41, 3) := by decide +kernel
theorem dX7_on_34 : decode cX7_on 34 = .ok (.aload_n 0, 1) := by decide +kernel
theorem dX7_on_35 : decode cX7_on 35 = .ok (.getfield 45, 3) := by decide +kernel
theorem dX7_on_38 : decode cX7_on 38 = .ok (.iload_n 1, 1) := by decide +kernel
theorem dX7_on_39 : decode cX7_on 39 = .ok (.aaload, 1) := by decide +kernel
theorem dX7_on_40 : decode cX7_on 40 = .ok (.invokevirtual 178, 3) := by decide +kernel
theorem dX7_on_43 : decode cX7_on 43 = .ok (.aload_n 0, 1) := by decide +kernel
theorem dX7_on_44 : decode cX7_on 44 = .ok (.invokevirtual 147, 3) := by decide +kernel
theorem dX7_on_47 : decode cX7_on 47 = .ok (.aload_n 0, 1) := by decide +kernel
theorem dX7_on_48 : decode cX7_on 48 = .ok (.getfield 41, 3) := by decide +kernel
theorem dX7_on_51 : decode cX7_on 51 = .ok (.getfield 161, 3) := by decide +kernel
theorem dX7_on_54 : decode cX7_on 54 = .ok (.ireturn, 1) := by decide +kernel
set_option maxRecDepth 20000 in
theorem ggX7_find_X6_isWord : GoodIn wsX7_find wsX6_isWord := goodIn_r _ [8] (by decide +kernel) (by decide +kernel)
set_option maxRecDepth 20000 in
theorem gX7_find_X6_isWord : GoodIn wsX7_find (va_wsS RX7 152 yX6_isWord wsX6_isWord) := goodIn_app (goodIn_of _ (by decide +kernel)) ggX7_find_X6_isWord
set_option maxRecDepth 20000 in
theorem ggX7_find_X6_pack : GoodIn wsX7_find wsX6_pack := goodIn_r _ [11, 12, 13, 7, 14] (by decide +kernel) (by decide +kernel)
set_option maxRecDepth 20000 in
theorem gX7_find_X6_pack : GoodIn wsX7_find (va_wsS RX7 158 yX6_pack wsX6_pack) := goodIn_app (goodIn_of _ (by decide +kernel)) ggX7_find_X6_pack
set_option maxRecDepth 20000 in
theorem ggX7_find_X2_remember : GoodIn wsX7_find wsX2_remember := goodIn_r _ [19, 20, 21, 22, 23, 24, 25, 73, 74] (by decide +kernel) (by decide +kernel)
set_option maxRecDepth 20000 in
theorem gX7_find_X2_remember : GoodIn wsX7_find (wsV RX7 181 RX2 yX2_remember wsX2_remember) := goodIn_app (goodIn_of _ (by decide +kernel)) ggX7_find_X2_remember
set_option maxRecDepth 20000 in
theorem ggX7_find_X3_countOnWayTo : GoodIn wsX7_find wsX3_countOnWayTo := goodIn_r _ [30, 31, 32, 33, 34, 7, 35, 36, 37, 38, 12, 13, 14, 75, 76, 77, 78, 79, 80, 81] (by decide +kernel) (by decide +kernel)
set_option maxRecDepth 20000 in
theorem gX7_find_X3_countOnWayTo : GoodIn wsX7_find (wsV RX7 184 RX3 yX3_countOnWayTo wsX3_countOnWayTo) := goodIn_app (goodIn_of _ (by decide +kernel)) ggX7_find_X3_countOnWayTo
set_option maxRecDepth 20000 in
theorem ggX7_find_X1_valueOf : GoodIn wsX7_find wsX1_valueOf := goodIn_r _ [43, 44, 45, 46, 42, 47, 48, 49, 50, 51, 52, 53, 54, 55, 56, 57, 58, 82, 83, 84] (by decide +kernel) (by decide +kernel)
set_option maxRecDepth 20000 in
theorem gX7_find_X1_valueOf : GoodIn wsX7_find (wsV RX7 165 RX1 yX1_valueOf wsX1_valueOf) := goodIn_app (goodIn_of _ (by decide +kernel)) ggX7_find_X1_valueOf
theorem dX7_find_0 : decode cX7_find 0 = .ok (.iload_n 1, 1) := by decide +kernel
theorem dX7_find_1 : decode cX7_find 1 = .ok (.iload_n 2, 1) := by decide +kernel
theorem dX7_find_2 : decode cX7_find 2 = .ok (.invokestatic 152, 3) := by decide +kernel
theorem dX7_find_5 : decode cX7_find 5 = .ok (.ifCond .ne 5, 3) := by decide +kernel
theorem dX7_find_8 : decode cX7_find 8 = .ok (.iconst (-1), 1) := by decide +kernel
theorem dX7_find_9 : decode cX7_find 9 = .ok (.ireturn, 1) := by decide +kernel
theorem dX7_find_10 : decode cX7_find 10 = .ok (.iload_n 1, 1) := by decide +kernel
theorem dX7_find_11 : decode cX7_find 11 = .ok (.iload_n 2, 1) := by decide +kernel
theorem dX7_find_12 : decode cX7_find 12 = .ok (.invokestatic 158, 3) := by decide +kernel
theorem dX7_find_15 : decode cX7_find 15 = .ok (.istore_n 3, 1) := by decide +kernel
theorem dX7_find_16 : decode cX7_find 16 = .ok (.aload_n 0, 1) := by decide +kernel
theorem dX7_find_17 : decode cX7_find 17 = .ok (.getfield 52, 3) := by decide +kernel
theorem dX7_find_20 : decode cX7_find 20 = .ok (.iload_n 3, 1) := by decide +kernel
theorem dX7_find_21 : decode cX7_find 21 = .ok (.invokevirtual 181, 3) := by decide +kernel
theorem dX7_find_24 : decode cX7_find 24 = .ok (.aload_n 0, 1) := by decide +kernel
theorem dX7_find_25 : decode cX7_find 25 = .ok (.aload_n 0, 1) := by decide +kernel
theorem dX7_find_26 : decode cX7_find 26 = .ok (.getfield 66, 3) := by decide +kernel
theorem dX7_find_29 : decode cX7_find 29 = .ok (.iload_n 3, 1) := by decide +kernel
theorem dX7_find_30 : decode cX7_find 30 = .ok (.invokevirtual 184, 3) := by decide +kernel
theorem dX7_find_33 : decode cX7_find 33 = .ok (.putfield 73, 3) := by decide +kernel
theorem dX7_find_36 : decode cX7_find 36 = .ok (.aload_n 0, 1) := by decide +kernel
theorem dX7_find_37 : decode cX7_find 37 = .ok (.getfield 35, 3) := by decide +kernel
theorem dX7_find_40 : decode cX7_find 40 = .ok (.iload_n 3, 1) := by decide +kernel
theorem dX7_find_41 : decode cX7_find 41 = .ok (.invokevirtual 165, 3) := by decide +kernel
theorem dX7_find_44 : decode cX7_find 44 = .ok (.ireturn, 1) := by decide +kernel
set_option maxRecDepth 20000 in
theorem ggX7_longest_X6_isWord : GoodIn wsX7_longest wsX6_isWord := goodIn_r _ [6] (by decide +kernel) (by decide +kernel)
set_option maxRecDepth 20000 in
theorem gX7_longest_X6_isWord : GoodIn wsX7_longest (va_wsS RX7 152 yX6_isWord wsX6_isWord) := goodIn_app (goodIn_of _ (by decide +kernel)) ggX7_longest_X6_isWord
set_option maxRecDepth 20000 in
theorem ggX7_longest_X6_pack : GoodIn wsX7_longest wsX6_pack := goodIn_r _ [9, 10, 11, 5, 12] (by decide +kernel) (by decide +kernel)
set_option maxRecDepth 20000 in
theorem gX7_longest_X6_pack : GoodIn wsX7_longest (va_wsS RX7 158 yX6_pack wsX6_pack) := goodIn_app (goodIn_of _ (by decide +kernel)) ggX7_longest_X6_pack
set_option maxRecDepth 20000 in
theorem ggX7_longest_X6_head : GoodIn wsX7_longest wsX6_head := goodIn_r _ [15, 10, 11, 5, 12] (by decide +kernel) (by decide +kernel)
set_option maxRecDepth 20000 in
theorem gX7_longest_X6_head : GoodIn wsX7_longest (va_wsS RX7 187 yX6_head wsX6_head) := goodIn_app (goodIn_of _ (by decide +kernel)) ggX7_longest_X6_head
set_option maxRecDepth 20000 in
theorem ggX7_longest_X1_has : GoodIn wsX7_longest wsX1_has := goodIn_r _ [20, 21, 22, 23, 24, 25, 19, 26, 51, 52, 53] (by decide +kernel) (by decide +kernel)
set_option maxRecDepth 20000 in
theorem gX7_longest_X1_has : GoodIn wsX7_longest (wsV RX7 172 RX1 yX1_has wsX1_has) := goodIn_app (goodIn_of _ (by decide +kernel)) ggX7_longest_X1_has
set_option maxRecDepth 20000 in
theorem ggX7_longest_X1_valueOf : GoodIn wsX7_longest wsX1_valueOf := goodIn_r _ [30, 31, 17, 18, 19, 20, 21, 22, 23, 24, 25, 26, 32, 33, 34, 35, 36, 51, 52, 53] (by decide +kernel) (by decide +kernel)
set_option maxRecDepth 20000 in
theorem gX7_longest_X1_valueOf : GoodIn wsX7_longest (wsV RX7 165 RX1 yX1_valueOf wsX1_valueOf) := goodIn_app (goodIn_of _ (by decide +kernel)) ggX7_longest_X1_valueOf
theorem dX7_longest_0 : decode cX7_longest 0 = .ok (.iload_n 1, 1) := by decide +kernel
theorem dX7_longest_1 : decode cX7_longest 1 = .ok (.iload_n 2, 1) := by decide +kernel
theorem dX7_longest_2 : decode cX7_longest 2 = .ok (.invokestatic 152, 3) := by decide +kernel
theorem dX7_longest_5 : decode cX7_longest 5 = .ok (.ifCond .ne 5, 3) := by decide +kernel
theorem dX7_longest_8 : decode cX7_longest 8 = .ok (.iconst (-1), 1) := by decide +kernel
theorem dX7_longest_9 : decode cX7_longest 9 = .ok (.ireturn, 1) := by decide +kernel
theorem dX7_longest_10 : decode cX7_longest 10 = .ok (.iload_n 1, 1) := by decide +kernel
theorem dX7_longest_11 : decode cX7_longest 11 = .ok (.iload_n 2, 1) := by decide +kernel
theorem dX7_longest_12 : decode cX7_longest 12 = .ok (.invokestatic 158, 3) := by decide +kernel
theorem dX7_longest_15 : decode cX7_longest 15 = .ok (.istore_n 3, 1) := by decide +kernel
theorem dX7_longest_16 : decode cX7_longest 16 = .ok (.iload_n 2, 1) := by decide +kernel
theorem dX7_longest_17 : decode cX7_longest 17 = .ok (.istore 4, 2) := by decide +kernel
theorem dX7_longest_19 : decode cX7_longest 19 = .ok (.iload 4, 2) := by decide +kernel
theorem dX7_longest_21 : decode cX7_longest 21 = .ok (.ifCond .le 45, 3) := by decide +kernel
theorem dX7_longest_24 : decode cX7_longest 24 = .ok (.iload_n 3, 1) := by decide +kernel
theorem dX7_longest_25 : decode cX7_longest 25 = .ok (.iload 4, 2) := by decide +kernel
theorem dX7_longest_27 : decode cX7_longest 27 = .ok (.invokestatic 187, 3) := by decide +kernel
theorem dX7_longest_30 : decode cX7_longest 30 = .ok (.istore 5, 2) := by decide +kernel
theorem dX7_longest_32 : decode cX7_longest 32 = .ok (.aload_n 0, 1) := by decide +kernel
theorem dX7_longest_33 : decode cX7_longest 33 = .ok (.getfield 35, 3) := by decide +kernel
theorem dX7_longest_36 : decode cX7_longest 36 = .ok (.iload 5, 2) := by decide +kernel
theorem dX7_longest_38 : decode cX7_longest 38 = .ok (.invokevirtual 172, 3) := by decide +kernel
theorem dX7_longest_41 : decode cX7_longest 41 = .ok (.ifCond .eq 19, 3) := by decide +kernel
theorem dX7_longest_44 : decode cX7_longest 44 = .ok (.aload_n 0, 1) := by decide +kernel
theorem dX7_longest_45 : decode cX7_longest 45 = .ok (.aload_n 0, 1) := by decide +kernel
theorem dX7_longest_46 : decode cX7_longest 46 = .ok (.getfield 35, 3) := by decide +kernel
theorem dX7_longest_49 : decode cX7_longest 49 = .ok (.iload 5, 2) := by decide +kernel
theorem dX7_longest_51 : decode cX7_longest 51 = .ok (.invokevirtual 165, 3) := by decide +kernel
theorem dX7_longest_54 : decode cX7_longest 54 = .ok (.putfield 73, 3) := by decide +kernel
theorem dX7_longest_57 : decode cX7_longest 57 = .ok (.iload 4, 2) := by decide +kernel
theorem dX7_longest_59 : decode cX7_longest 59 = .ok (.ireturn, 1) := by decide +kernel
theorem dX7_longest_60 : decode cX7_longest 60 = .ok (.iinc 4 (-1), 3) := by decide +kernel
theorem dX7_longest_63 : decode cX7_longest 63 = .ok (.goto (-44), 3) := by decide +kernel
theorem dX7_longest_66 : decode cX7_longest 66 = .ok (.bipush (-9), 2) := by decide +kernel
theorem dX7_longest_68 : decode cX7_longest 68 = .ok (.ireturn, 1) := by decide +kernel
set_option maxRecDepth 20000 in
theorem ggX7_next_X6_isWord : GoodIn wsX7_next wsX6_isWord := goodIn_r _ [6] (by decide +kernel) (by decide +kernel)
set_option maxRecDepth 20000 in
theorem gX7_next_X6_isWord : GoodIn wsX7_next (va_wsS RX7 152 yX6_isWord wsX6_isWord) := goodIn_app (goodIn_of _ (by decide +kernel)) ggX7_next_X6_isWord
set_option maxRecDepth 20000 in
theorem ggX7_next_X6_pack : GoodIn wsX7_next wsX6_pack := goodIn_r _ [9, 10, 11, 5, 12] (by decide +kernel) (by decide +kernel)
set_option maxRecDepth 20000 in
theorem gX7_next_X6_pack : GoodIn wsX7_next (va_wsS RX7 158 yX6_pack wsX6_pack) := goodIn_app (goodIn_of _ (by decide +kernel)) ggX7_next_X6_pack
set_option maxRecDepth 20000 in
theorem ggX7_next_X1_aheadOf : GoodIn wsX7_next wsX1_aheadOf := goodIn_r _ [17, 18, 19, 51, 52, 53] (by decide +kernel) (by decide +kernel)
set_option maxRecDepth 20000 in
theorem gX7_next_X1_aheadOf : GoodIn wsX7_next (wsV RX7 190 RX1 yX1_aheadOf wsX1_aheadOf) := goodIn_app (goodIn_of _ (by decide +kernel)) ggX7_next_X1_aheadOf
set_option maxRecDepth 20000 in
theorem ggX7_next_X1_word : GoodIn wsX7_next wsX1_word := goodIn_r _ [23, 18, 19, 51, 52, 53] (by decide +kernel) (by decide +kernel)
set_option maxRecDepth 20000 in
theorem gX7_next_X1_word : GoodIn wsX7_next (wsV RX7 193 RX1 yX1_word wsX1_word) := goodIn_app (goodIn_of _ (by decide +kernel)) ggX7_next_X1_word
set_option maxRecDepth 20000 in
theorem ggX7_next_X7_tellWord : GoodIn wsX7_next wsX7_tellWord := goodIn_r _ [28, 29, 30, 31, 5, 32, 33, 34, 35, 36, 10, 11, 12, 37, 38, 39, 40, 41, 42, 43, 44, 45, 46, 47, 48, 49, 50] (by decide +kernel) (by decide +kernel)
set_option maxRecDepth 20000 in
theorem gX7_next_X7_tellWord : GoodIn wsX7_next (wsV RX7 196 RX7 yX7_tellWord wsX7_tellWord) := goodIn_app (goodIn_of _ (by decide +kernel)) ggX7_next_X7_tellWord
theorem dX7_next_0 : decode cX7_next 0 = .ok (.iload_n 1, 1) := by decide +kernel
theorem dX7_next_1 : decode cX7_next 1 = .ok (.iload_n 2, 1) := by decide +kernel
theorem dX7_next_2 : decode cX7_next 2 = .ok (.invokestatic 152, 3) := by decide +kernel
theorem dX7_next_5 : decode cX7_next 5 = .ok (.ifCond .ne 5, 3) := by decide +kernel
theorem dX7_next_8 : decode cX7_next 8 = .ok (.iconst (-1), 1) := by decide +kernel
theorem dX7_next_9 : decode cX7_next 9 = .ok (.ireturn, 1) := by decide +kernel
theorem dX7_next_10 : decode cX7_next 10 = .ok (.aload_n 0, 1) := by decide +kernel
theorem dX7_next_11 : decode cX7_next 11 = .ok (.getfield 35, 3) := by decide +kernel
theorem dX7_next_14 : decode cX7_next 14 = .ok (.iload_n 1, 1) := by decide +kernel
theorem dX7_next_15 : decode cX7_next 15 = .ok (.iload_n 2, 1) := by decide +kernel
theorem dX7_next_16 : decode cX7_next 16 = .ok (.invokestatic 158, 3) := by decide +kernel
theorem dX7_next_19 : decode cX7_next 19 = .ok (.iconst 1, 1) := by decide +kernel
theorem dX7_next_20 : decode cX7_next 20 = .ok (.iadd, 1) := by decide +kernel
theorem dX7_next_21 : decode cX7_next 21 = .ok (.invokevirtual 190, 3) := by decide +kernel
theorem dX7_next_24 : decode cX7_next 24 = .ok (.istore_n 3, 1) := by decide +kernel
theorem dX7_next_25 : decode cX7_next 25 = .ok (.iload_n 3, 1) := by decide +kernel
theorem dX7_next_26 : decode cX7_next 26 = .ok (.aload_n 0, 1) := by decide +kernel
theorem dX7_next_27 : decode cX7_next 27 = .ok (.getfield 35, 3) := by decide +kernel
theorem dX7_next_30 : decode cX7_next 30 = .ok (.getfield 150, 3) := by decide +kernel
theorem dX7_next_33 : decode cX7_next 33 = .ok (.if_icmp .ge 18, 3) := by decide +kernel
theorem dX7_next_36 : decode cX7_next 36 = .ok (.aload_n 0, 1) := by decide +kernel
theorem dX7_next_37 : decode cX7_next 37 = .ok (.aload_n 0, 1) := by decide +kernel
theorem dX7_next_38 : decode cX7_next 38 = .ok (.getfield 35, 3) := by decide +kernel
theorem dX7_next_41 : decode cX7_next 41 = .ok (.iload_n 3, 1) := by decide +kernel
theorem dX7_next_42 : decode cX7_next 42 = .ok (.invokevirtual 193, 3) := by decide +kernel
theorem dX7_next_45 : decode cX7_next 45 = .ok (.invokevirtual 196, 3) := by decide +kernel
theorem dX7_next_48 : decode cX7_next 48 = .ok (.goto 5, 3) := by decide +kernel
theorem dX7_next_51 : decode cX7_next 51 = .ok (.bipush (-9), 2) := by decide +kernel
theorem dX7_next_53 : decode cX7_next 53 = .ok (.ireturn, 1) := by decide +kernel
set_option maxRecDepth 20000 in
theorem ggX7_nth_X1_word : GoodIn wsX7_nth wsX1_word := goodIn_r _ [7, 8, 9, 41, 42, 43] (by decide +kernel) (by decide +kernel)
set_option maxRecDepth 20000 in
theorem gX7_nth_X1_word : GoodIn wsX7_nth (wsV RX7 193 RX1 yX1_word wsX1_word) := goodIn_app (goodIn_of _ (by decide +kernel)) ggX7_nth_X1_word
set_option maxRecDepth 20000 in
theorem ggX7_nth_X7_tellWord : GoodIn wsX7_nth wsX7_tellWord := goodIn_r _ [14, 15, 16, 17, 18, 19, 20, 21, 22, 23, 24, 25, 26, 27, 28, 29, 30, 31, 32, 33, 34, 35, 36, 37, 38, 39, 40] (by decide +kernel) (by decide +kernel)
set_option maxRecDepth 20000 in
theorem gX7_nth_X7_tellWord : GoodIn wsX7_nth (wsV RX7 196 RX7 yX7_tellWord wsX7_tellWord) := goodIn_app (goodIn_of _ (by decide +kernel)) ggX7_nth_X7_tellWord
theorem dX7_nth_0 : decode cX7_nth 0 = .ok (.iload_n 1, 1) := by decide +kernel
theorem dX7_nth_1 : decode cX7_nth 1 = .ok (.ifCond .lt 14, 3) := by decide +kernel
theorem dX7_nth_4 : decode cX7_nth 4 = .ok (.iload_n 1, 1) := by decide +kernel
theorem dX7_nth_5 : decode cX7_nth 5 = .ok (.aload_n 0, 1) := by decide +kernel
theorem dX7_nth_6 : decode cX7_nth 6 = .ok (.getfield 35, 3) := by decide +kernel
theorem dX7_nth_9 : decode cX7_nth 9 = .ok (.getfield 150, 3) := by decide +kernel
theorem dX7_nth_12 : decode cX7_nth 12 = .ok (.if_icmp .lt 5, 3) := by decide +kernel
theorem dX7_nth_15 : decode cX7_nth 15 = .ok (.iconst (-1), 1) := by decide +kernel
theorem dX7_nth_16 : decode cX7_nth 16 = .ok (.ireturn, 1) := by decide +kernel
theorem dX7_nth_17 : decode cX7_nth 17 = .ok (.aload_n 0, 1) := by decide +kernel
theorem dX7_nth_18 : decode cX7_nth 18 = .ok (.aload_n 0, 1) := by decide +kernel
theorem dX7_nth_19 : decode cX7_nth 19 = .ok (.getfield 35, 3) := by decide +kernel
theorem dX7_nth_22 : decode cX7_nth 22 = .ok (.iload_n 1, 1) := by decide +kernel
theorem dX7_nth_23 : decode cX7_nth 23 = .ok (.invokevirtual 193, 3) := by decide +kernel
theorem dX7_nth_26 : decode cX7_nth 26 = .ok (.invokevirtual 196, 3) := by decide +kernel
theorem dX7_nth_29 : decode cX7_nth 29 = .ok (.ireturn, 1) := by decide +kernel
set_option maxRecDepth 20000 in
theorem ggX7_rank_X6_isWord : GoodIn wsX7_rank wsX6_isWord := goodIn_r _ [6] (by decide +kernel) (by decide +kernel)
set_option maxRecDepth 20000 in
theorem gX7_rank_X6_isWord : GoodIn wsX7_rank (va_wsS RX7 152 yX6_isWord wsX6_isWord) := goodIn_app (goodIn_of _ (by decide +kernel)) ggX7_rank_X6_isWord
set_option maxRecDepth 20000 in
theorem ggX7_rank_X6_pack : GoodIn wsX7_rank wsX6_pack := goodIn_r _ [9, 10, 11, 5, 12] (by decide +kernel) (by decide +kernel)
set_option maxRecDepth 20000 in
theorem gX7_rank_X6_pack : GoodIn wsX7_rank (va_wsS RX7 158 yX6_pack wsX6_pack) := goodIn_app (goodIn_of _ (by decide +kernel)) ggX7_rank_X6_pack
set_option maxRecDepth 20000 in
theorem ggX7_rank_X1_beginningWith : GoodIn wsX7_rank wsX1_beginningWith := goodIn_r _ [17, 18, 19, 20, 21, 22, 16, 23, 24, 25, 5, 26, 27, 28, 29, 10, 11, 12, 45, 46, 47] (by decide +kernel) (by decide +kernel)
set_option maxRecDepth 20000 in
theorem gX7_rank_X1_beginningWith : GoodIn wsX7_rank (wsV RX7 175 RX1 yX1_beginningWith wsX1_beginningWith) := goodIn_app (goodIn_of _ (by decide +kernel)) ggX7_rank_X1_beginningWith
set_option maxRecDepth 20000 in
theorem ggX7_rank_X1_aheadOf : GoodIn wsX7_rank wsX1_aheadOf := goodIn_r _ [23, 18, 19, 45, 46, 47] (by decide +kernel) (by decide +kernel)
set_option maxRecDepth 20000 in
theorem gX7_rank_X1_aheadOf : GoodIn wsX7_rank (wsV RX7 190 RX1 yX1_aheadOf wsX1_aheadOf) := goodIn_app (goodIn_of _ (by decide +kernel)) ggX7_rank_X1_aheadOf
theorem dX7_rank_0 : decode cX7_rank 0 = .ok (.iload_n 1, 1) := by decide +kernel
theorem dX7_rank_1 : decode cX7_rank 1 = .ok (.iload_n 2, 1) := by decide +kernel
theorem dX7_rank_2 : decode cX7_rank 2 = .ok (.invokestatic 152, 3) := by decide +kernel
theorem dX7_rank_5 : decode cX7_rank 5 = .ok (.ifCond .ne 5, 3) := by decide +kernel
theorem dX7_rank_8 : decode cX7_rank 8 = .ok (.iconst (-1), 1) := by decide +kernel
theorem dX7_rank_9 : decode cX7_rank 9 = .ok (.ireturn, 1) := by decide +kernel
theorem dX7_rank_10 : decode cX7_rank 10 = .ok (.iload_n 1, 1) := by decide +kernel
theorem dX7_rank_11 : decode cX7_rank 11 = .ok (.iload_n 2, 1) := by decide +kernel
theorem dX7_rank_12 : decode cX7_rank 12 = .ok (.invokestatic 158, 3) := by decide +kernel
theorem dX7_rank_15 : decode cX7_rank 15 = .ok (.istore_n 3, 1) := by decide +kernel
theorem dX7_rank_16 : decode cX7_rank 16 = .ok (.aload_n 0, 1) := by decide +kernel
theorem dX7_rank_17 : decode cX7_rank 17 = .ok (.aload_n 0, 1) := by decide +kernel
theorem dX7_rank_18 : decode cX7_rank 18 = .ok (.getfield 35, 3) := by decide +kernel
theorem dX7_rank_21 : decode cX7_rank 21 = .ok (.iload_n 3, 1) := by decide +kernel
theorem dX7_rank_22 : decode cX7_rank 22 = .ok (.invokevirtual 175, 3) := by decide +kernel
theorem dX7_rank_25 : decode cX7_rank 25 = .ok (.putfield 73, 3) := by decide +kernel
theorem dX7_rank_28 : decode cX7_rank 28 = .ok (.aload_n 0, 1) := by decide +kernel
theorem dX7_rank_29 : decode cX7_rank 29 = .ok (.getfield 35, 3) := by decide +kernel
theorem dX7_rank_32 : decode cX7_rank 32 = .ok (.iload_n 3, 1) := by decide +kernel
theorem dX7_rank_33 : decode cX7_rank 33 = .ok (.invokevirtual 190, 3) := by decide +kernel
theorem dX7_rank_36 : decode cX7_rank 36 = .ok (.ireturn, 1) := by decide +kernel
set_option maxRecDepth 20000 in
theorem ggX7_between_X6_isWord : GoodIn wsX7_between wsX6_isWord := goodIn_r _ [10] (by decide +kernel) (by decide +kernel)
set_option maxRecDepth 20000 in
theorem gX7_between_X6_isWord : GoodIn wsX7_between (va_wsS RX7 152 yX6_isWord wsX6_isWord) := goodIn_app (goodIn_of _ (by decide +kernel)) ggX7_between_X6_isWord
set_option maxRecDepth 20000 in
theorem ggX7_between_X6_pack : GoodIn wsX7_between wsX6_pack := goodIn_r _ [13, 14, 15, 9, 16] (by decide +kernel) (by decide +kernel)
set_option maxRecDepth 20000 in
theorem gX7_between_X6_pack : GoodIn wsX7_between (va_wsS RX7 158 yX6_pack wsX6_pack) := goodIn_app (goodIn_of _ (by decide +kernel)) ggX7_between_X6_pack
set_option maxRecDepth 20000 in
theorem ggX7_between_X1_aheadOf : GoodIn wsX7_between wsX1_aheadOf := goodIn_r _ [21, 22, 23, 47, 48, 49] (by decide +kernel) (by decide +kernel)
set_option maxRecDepth 20000 in
theorem gX7_between_X1_aheadOf : GoodIn wsX7_between (wsV RX7 190 RX1 yX1_aheadOf wsX1_aheadOf) := goodIn_app (goodIn_of _ (by decide +kernel)) ggX7_between_X1_aheadOf
set_option maxRecDepth 20000 in
theorem ggX7_between_X1_valueSum : GoodIn wsX7_between wsX1_valueSum := goodIn_r _ [27, 28, 29, 30, 20, 31, 22, 32, 47, 48, 49] (by decide +kernel) (by decide +kernel)
set_option maxRecDepth 20000 in
theorem gX7_between_X1_valueSum : GoodIn wsX7_between (wsV RX7 199 RX1 yX1_valueSum wsX1_valueSum) := goodIn_app (goodIn_of _ (by decide +kernel)) ggX7_between_X1_valueSum
theorem dX7_between_0 : decode cX7_between 0 = .ok (.iload_n 1, 1) := by decide +kernel
theorem dX7_between_1 : decode cX7_between 1 = .ok (.iload_n 2, 1) := by decide +kernel
theorem dX7_between_2 : decode cX7_between 2 = .ok (.invokestatic 152, 3) := by decide +kernel
theorem dX7_between_5 : decode cX7_between 5 = .ok (.ifCond .eq 12, 3) := by decide +kernel
theorem dX7_between_8 : decode cX7_between 8 = .ok (.iload_n 3, 1) := by decide +kernel
theorem dX7_between_9 : decode cX7_between 9 = .ok (.iload 4, 2) := by decide +kernel
theorem dX7_between_11 : decode cX7_between 11 = .ok (.invokestatic 152, 3) := by decide +kernel
theorem dX7_between_14 : decode cX7_between 14 = .ok (.ifCond .ne 5, 3) := by decide +kernel
theorem dX7_between_17 : decode cX7_between 17 = .ok (.iconst (-1), 1) := by decide +kernel
theorem dX7_between_18 : decode cX7_between 18 = .ok (.ireturn, 1) := by decide +kernel
theorem dX7_between_19 : decode cX7_between 19 = .ok (.aload_n 0, 1) := by decide +kernel
theorem dX7_between_20 : decode cX7_between 20 = .ok (.getfield 35, 3) := by decide +kernel
theorem dX7_between_23 : decode cX7_between 23 = .ok (.iload_n 1, 1) := by decide +kernel
theorem dX7_between_24 : decode cX7_between 24 = .ok (.iload_n 2, 1) := by decide +kernel
theorem dX7_between_25 : decode cX7_between 25 = .ok (.invokestatic 158, 3) := by decide +kernel
theorem dX7_between_28 : decode cX7_between 28 = .ok (.invokevirtual 190, 3) := by decide +kernel
theorem dX7_between_31 : decode cX7_between 31 = .ok (.istore 5, 2) := by decide +kernel
theorem dX7_between_33 : decode cX7_between 33 = .ok (.aload_n 0, 1) := by decide +kernel
theorem dX7_between_34 : decode cX7_between 34 = .ok (.getfield 35, 3) := by decide +kernel
theorem dX7_between_37 : decode cX7_between 37 = .ok (.iload_n 3, 1) := by decide +kernel
theorem dX7_between_38 : decode cX7_between 38 = .ok (.iload 4, 2) := by decide +kernel
theorem dX7_between_40 : decode cX7_between 40 = .ok (.invokestatic 158, 3) := by decide +kernel
theorem dX7_between_43 : decode cX7_between 43 = .ok (.iconst 1, 1) := by decide +kernel
theorem dX7_between_44 : decode cX7_between 44 = .ok (.iadd, 1) := by decide +kernel
theorem dX7_between_45 : decode cX7_between 45 = .ok (.invokevirtual 190, 3) := by decide +kernel
theorem dX7_between_48 : decode cX7_between 48 = .ok (.istore 6, 2) := by decide +kernel
theorem dX7_between_50 : decode cX7_between 50 = .ok (.aload_n 0, 1) := by decide +kernel
theorem dX7_between_51 : decode cX7_between 51 = .ok (.aload_n 0, 1) := by decide +kernel
theorem dX7_between_52 : decode cX7_between 52 = .ok (.getfield 35, 3) := by decide +kernel
theorem dX7_between_55 : decode cX7_between 55 = .ok (.iload 5, 2) := by decide +kernel
theorem dX7_between_57 : decode cX7_between 57 = .ok (.iload 6, 2) := by decide +kernel
theorem dX7_between_59 : decode cX7_between 59 = .ok (.invokevirtual 199, 3) := by decide +kernel
theorem dX7_between_62 : decode cX7_between 62 = .ok (.putfield 73, 3) := by decide +kernel
theorem dX7_between_65 : decode cX7_between 65 = .ok (.iconst 0, 1) := by decide +kernel
theorem dX7_between_66 : decode cX7_between 66 = .ok (.iload 6, 2) := by decide +kernel
theorem dX7_between_68 : decode cX7_between 68 = .ok (.iload 5, 2) := by decide +kernel
theorem dX7_between_70 : decode cX7_between 70 = .ok (.isub, 1) := by decide +kernel
theorem dX7_between_71 : decode cX7_between 71 = .ok (.invokestatic 202, 3) := by decide +kernel
theorem dX7_between_74 : decode cX7_between 74 = .ok (.ireturn, 1) := by decide +kernel
set_option maxRecDepth 20000 in
theorem ggX7_node_X6_isPath : GoodIn wsX7_node wsX6_isPath := goodIn_r _ [6, 7, 8, 5, 9] (by decide +kernel) (by decide +kernel)
set_option maxRecDepth 20000 in
theorem gX7_node_X6_isPath : GoodIn wsX7_node (va_wsS RX7 207 yX6_isPath wsX6_isPath) := goodIn_app (goodIn_of _ (by decide +kernel)) ggX7_node_X6_isPath
set_option maxRecDepth 20000 in
theorem ggX7_node_X6_pack : GoodIn wsX7_node wsX6_pack := goodIn_r _ [12, 13, 14, 5, 15] (by decide +kernel) (by decide +kernel)
set_option maxRecDepth 20000 in
theorem gX7_node_X6_pack : GoodIn wsX7_node (va_wsS RX7 158 yX6_pack wsX6_pack) := goodIn_app (goodIn_of _ (by decide +kernel)) ggX7_node_X6_pack
set_option maxRecDepth 20000 in
theorem ggX7_node_X3_seatOf : GoodIn wsX7_node wsX3_seatOf := goodIn_r _ [20, 21, 22, 92, 93, 94, 95, 96, 97, 98] (by decide +kernel) (by decide +kernel)
set_option maxRecDepth 20000 in
theorem gX7_node_X3_seatOf : GoodIn wsX7_node (wsV RX7 210 RX3 yX3_seatOf wsX3_seatOf) := goodIn_app (goodIn_of _ (by decide +kernel)) ggX7_node_X3_seatOf
set_option maxRecDepth 20000 in
theorem ggX7_node_X7_nodeFact : GoodIn wsX7_node wsX7_nodeFact := goodIn_r _ [27, 1, 28, 29, 30, 31, 19, 32, 33, 34, 35, 36, 37, 38, 39, 40, 41, 21, 42, 43, 44, 45, 46, 47, 48, 49, 50, 51, 52, 53, 54, 55, 56, 57, 58, 59, 60, 61, 62, 63, 64, 65, 22, 66, 67, 68, 69, 70, 71, 72, 73, 74, 75, 76, 77, 78, 79, 80, 81, 82, 83, 84, 85, 86, 87, 88, 89, 90, 91, 92, 93, 94, 95, 96, 97, 98, 99, 100, 101] (by decide +kernel) (by decide +kernel)
set_option maxRecDepth 20000 in
theorem gX7_node_X7_nodeFact : GoodIn wsX7_node (wsV RX7 213 RX7 yX7_nodeFact wsX7_nodeFact) := goodIn_app (goodIn_of _ (by decide +kernel)) ggX7_node_X7_nodeFact
theorem dX7_node_0 : decode cX7_node 0 = .ok (.iload_n 1, 1) := by decide +kernel
theorem dX7_node_1 : decode cX7_node 1 = .ok (.iload_n 2, 1) := by decide +kernel
theorem dX7_node_2 : decode cX7_node 2 = .ok (.invokestatic 207, 3) := by decide +kernel
theorem dX7_node_5 : decode cX7_node 5 = .ok (.ifCond .eq 12, 3) := by decide +kernel
theorem dX7_node_8 : decode cX7_node 8 = .ok (.iload_n 3, 1) := by decide +kernel
theorem dX7_node_9 : decode cX7_node 9 = .ok (.ifCond .lt 8, 3) := by decide +kernel
theorem dX7_node_12 : decode cX7_node 12 = .ok (.iload_n 3, 1) := by decide +kernel
theorem dX7_node_13 : decode cX7_node 13 = .ok (.iconst 5, 1) := by decide +kernel
theorem dX7_node_14 : decode cX7_node 14 = .ok (.if_icmp .lt 5, 3) := by decide +kernel
theorem dX7_node_17 : decode cX7_node 17 = .ok (.iconst (-1), 1) := by decide +kernel
theorem dX7_node_18 : decode cX7_node 18 = .ok (.ireturn, 1) := by decide +kernel
theorem dX7_node_19 : decode cX7_node 19 = .ok (.aload_n 0, 1) := by decide +kernel
theorem dX7_node_20 : decode cX7_node 20 = .ok (.getfield 66, 3) := by decide +kernel
theorem dX7_node_23 : decode cX7_node 23 = .ok (.iload_n 1, 1) := by decide +kernel
theorem dX7_node_24 : decode cX7_node 24 = .ok (.iload_n 2, 1) := by decide +kernel
theorem dX7_node_25 : decode cX7_node 25 = .ok (.invokestatic 158, 3) := by decide +kernel
theorem dX7_node_28 : decode cX7_node 28 = .ok (.invokevirtual 210, 3) := by decide +kernel
theorem dX7_node_31 : decode cX7_node 31 = .ok (.istore 4, 2) := by decide +kernel
theorem dX7_node_33 : decode cX7_node 33 = .ok (.iload 4, 2) := by decide +kernel
theorem dX7_node_35 : decode cX7_node 35 = .ok (.iconst (-1), 1) := by decide +kernel
theorem dX7_node_36 : decode cX7_node 36 = .ok (.if_icmp .ne 6, 3) := by decide +kernel
theorem dX7_node_39 : decode cX7_node 39 = .ok (.bipush (-9), 2) := by decide +kernel
theorem dX7_node_41 : decode cX7_node 41 = .ok (.ireturn, 1) := by decide +kernel
theorem dX7_node_42 : decode cX7_node 42 = .ok (.aload_n 0, 1) := by decide +kernel
theorem dX7_node_43 : decode cX7_node 43 = .ok (.aload_n 0, 1) := by decide +kernel
theorem dX7_node_44 : decode cX7_node 44 = .ok (.iload 4, 2) := by decide +kernel
theorem dX7_node_46 : decode cX7_node 46 = .ok (.iload_n 3, 1) := by decide +kernel
theorem dX7_node_47 : decode cX7_node 47 = .ok (.invokevirtual 213, 3) := by decide +kernel
theorem dX7_node_50 : decode cX7_node 50 = .ok (.putfield 73, 3) := by decide +kernel
theorem dX7_node_53 : decode cX7_node 53 = .ok (.iconst 1, 1) := by decide +kernel
theorem dX7_node_54 : decode cX7_node 54 = .ok (.ireturn, 1) := by decide +kernel
set_option maxRecDepth 20000 in
theorem ggX7_mark_X6_isPath : GoodIn wsX7_mark wsX6_isPath := goodIn_r _ [5, 6, 7, 4, 8] (by decide +kernel) (by decide +kernel)
set_option maxRecDepth 20000 in
theorem gX7_mark_X6_isPath : GoodIn wsX7_mark (va_wsS RX7 207 yX6_isPath wsX6_isPath) := goodIn_app (goodIn_of _ (by decide +kernel)) ggX7_mark_X6_isPath
set_option maxRecDepth 20000 in
theorem ggX7_mark_X6_pack : GoodIn wsX7_mark wsX6_pack := goodIn_r _ [11, 12, 13, 4, 14] (by decide +kernel) (by decide +kernel)
