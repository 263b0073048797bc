set_option maxRecDepth 20000 in
theorem gX7_mark_X6_pack : GoodIn wsX7_mark (va_wsS RX7 158 yX6_pack wsX6_pack) := goodIn_app (goodIn_of _ (by decide +kernel)) ggX7_mark_X6_pack
set_option maxRecDepth 20000 in
theorem ggX7_mark_X3_seatOf : GoodIn wsX7_mark wsX3_seatOf := goodIn_r _ [19, 20, 21, 84, 85, 86, 87, 88, 89, 90] (by decide +kernel) (by decide +kernel)
set_option maxRecDepth 20000 in
theorem gX7_mark_X3_seatOf : GoodIn wsX7_mark (wsV RX7 210 RX3 yX3_seatOf wsX3_seatOf) := goodIn_app (goodIn_of _ (by decide +kernel)) ggX7_mark_X3_seatOf
set_option maxRecDepth 20000 in
theorem ggX7_mark_X3_sizeOf : GoodIn wsX7_mark wsX3_sizeOf := goodIn_r _ [25, 26, 27, 28, 18, 29, 30, 31, 32, 33, 34, 20, 35, 36, 37, 38, 39, 40, 41, 42, 43, 44, 84, 85, 86, 87, 88, 89, 90] (by decide +kernel) (by decide +kernel)
set_option maxRecDepth 20000 in
theorem gX7_mark_X3_sizeOf : GoodIn wsX7_mark (wsV RX7 216 RX3 yX3_sizeOf wsX3_sizeOf) := goodIn_app (goodIn_of _ (by decide +kernel)) ggX7_mark_X3_sizeOf
set_option maxRecDepth 20000 in
theorem ggX7_mark_X3_isOfSize : GoodIn wsX7_mark wsX3_isOfSize := goodIn_r _ [47] (by decide +kernel) (by decide +kernel)
set_option maxRecDepth 20000 in
theorem gX7_mark_X3_isOfSize : GoodIn wsX7_mark (va_wsS RX7 219 yX3_isOfSize wsX3_isOfSize) := goodIn_app (goodIn_of _ (by decide +kernel)) ggX7_mark_X3_isOfSize
set_option maxRecDepth 20000 in
theorem ggX7_mark_X7_refuse : GoodIn wsX7_mark wsX7_refuse := goodIn_r _ [52, 53, 54, 70, 71, 72, 73, 74, 75, 76, 77, 78, 79, 80, 81, 82, 83] (by decide +kernel) (by decide +kernel)
set_option maxRecDepth 20000 in
theorem gX7_mark_X7_refuse : GoodIn wsX7_mark (wsV RX7 111 RX7 yX7_refuse wsX7_refuse) := goodIn_app (goodIn_of _ (by decide +kernel)) ggX7_mark_X7_refuse
set_option maxRecDepth 20000 in
theorem ggX7_mark_X3_markOf : GoodIn wsX7_mark wsX3_markOf := goodIn_r _ [58, 59, 60, 61, 18, 62, 30, 31, 32, 33, 34, 20, 63, 64, 37, 65, 66, 67, 68, 69, 35, 36, 38, 39, 40, 41, 26, 27, 28, 29, 42, 43, 44, 84, 85, 86, 87, 88, 89, 90] (by decide +kernel) (by decide +kernel)
set_option maxRecDepth 20000 in
theorem gX7_mark_X3_markOf : GoodIn wsX7_mark (wsV RX7 222 RX3 yX3_markOf wsX3_markOf) := goodIn_app (goodIn_of _ (by decide +kernel)) ggX7_mark_X3_markOf
theorem dX7_mark_0 : decode cX7_mark 0 = .ok (.iload_n 1, 1) := by decide +kernel
theorem dX7_mark_1 : decode cX7_mark 1 = .ok (.iload_n 2, 1) := by decide +kernel
theorem dX7_mark_2 : decode cX7_mark 2 = .ok (.invokestatic 207, 3) := by decide +kernel
theorem dX7_mark_5 : decode cX7_mark 5 = .ok (.ifCond .eq 13, 3) := by decide +kernel
theorem dX7_mark_8 : decode cX7_mark 8 = .ok (.iload_n 3, 1) := by decide +kernel
theorem dX7_mark_9 : decode cX7_mark 9 = .ok (.iconst 1, 1) := by decide +kernel
theorem dX7_mark_10 : decode cX7_mark 10 = .ok (.if_icmp .lt 8, 3) := by decide +kernel
theorem dX7_mark_13 : decode cX7_mark 13 = .ok (.iload_n 3, 1) := by decide +kernel
theorem dX7_mark_14 : decode cX7_mark 14 = .ok (.iconst 4, 1) := by decide +kernel
theorem dX7_mark_15 : decode cX7_mark 15 = .ok (.if_icmp .le 5, 3) := by decide +kernel
theorem dX7_mark_18 : decode cX7_mark 18 = .ok (.iconst (-1), 1) := by decide +kernel
theorem dX7_mark_19 : decode cX7_mark 19 = .ok (.ireturn, 1) := by decide +kernel
theorem dX7_mark_20 : decode cX7_mark 20 = .ok (.aload_n 0, 1) := by decide +kernel
theorem dX7_mark_21 : decode cX7_mark 21 = .ok (.getfield 66, 3) := by decide +kernel
theorem dX7_mark_24 : decode cX7_mark 24 = .ok (.iload_n 1, 1) := by decide +kernel
theorem dX7_mark_25 : decode cX7_mark 25 = .ok (.iload_n 2, 1) := by decide +kernel
theorem dX7_mark_26 : decode cX7_mark 26 = .ok (.invokestatic 158, 3) := by decide +kernel
theorem dX7_mark_29 : decode cX7_mark 29 = .ok (.invokevirtual 210, 3) := by decide +kernel
theorem dX7_mark_32 : decode cX7_mark 32 = .ok (.istore 4, 2) := by decide +kernel
theorem dX7_mark_34 : decode cX7_mark 34 = .ok (.iload 4, 2) := by decide +kernel
theorem dX7_mark_36 : decode cX7_mark 36 = .ok (.iconst (-1), 1) := by decide +kernel
theorem dX7_mark_37 : decode cX7_mark 37 = .ok (.if_icmp .ne 6, 3) := by decide +kernel
theorem dX7_mark_40 : decode cX7_mark 40 = .ok (.bipush (-9), 2) := by decide +kernel
theorem dX7_mark_42 : decode cX7_mark 42 = .ok (.ireturn, 1) := by decide +kernel
theorem dX7_mark_43 : decode cX7_mark 43 = .ok (.aload_n 0, 1) := by decide +kernel
theorem dX7_mark_44 : decode cX7_mark 44 = .ok (.getfield 66, 3) := by decide +kernel
theorem dX7_mark_47 : decode cX7_mark 47 = .ok (.iload 4, 2) := by decide +kernel
theorem dX7_mark_49 : decode cX7_mark 49 = .ok (.invokevirtual 216, 3) := by decide +kernel
theorem dX7_mark_52 : decode cX7_mark 52 = .ok (.iload_n 3, 1) := by decide +kernel
theorem dX7_mark_53 : decode cX7_mark 53 = .ok (.invokestatic 219, 3) := by decide +kernel
theorem dX7_mark_56 : decode cX7_mark 56 = .ok (.ifCond .ne 9, 3) := by decide +kernel
theorem dX7_mark_59 : decode cX7_mark 59 = .ok (.aload_n 0, 1) := by decide +kernel
theorem dX7_mark_60 : decode cX7_mark 60 = .ok (.iconst 3, 1) := by decide +kernel
theorem dX7_mark_61 : decode cX7_mark 61 = .ok (.invokevirtual 111, 3) := by decide +kernel
theorem dX7_mark_64 : decode cX7_mark 64 = .ok (.ireturn, 1) := by decide +kernel
theorem dX7_mark_65 : decode cX7_mark 65 = .ok (.aload_n 0, 1) := by decide +kernel
theorem dX7_mark_66 : decode cX7_mark 66 = .ok (.getfield 66, 3) := by decide +kernel
theorem dX7_mark_69 : decode cX7_mark 69 = .ok (.iload 4, 2) := by decide +kernel
theorem dX7_mark_71 : decode cX7_mark 71 = .ok (.iload_n 3, 1) := by decide +kernel
theorem dX7_mark_72 : decode cX7_mark 72 = .ok (.invokevirtual 222, 3) := by decide +kernel
theorem dX7_mark_75 : decode cX7_mark 75 = .ok (.ireturn, 1) := by decide +kernel
set_option maxRecDepth 20000 in
theorem ggX7_twins_X3_firstTwin : GoodIn wsX7_twins wsX3_firstTwin := goodIn_r _ [9, 10, 11, 12, 13, 14, 15, 16, 17, 8, 18, 19, 20, 21, 22, 23, 24, 25, 26, 27, 28, 29, 30, 31, 32, 33, 34, 35, 36, 37, 38, 39, 40, 41, 42, 43, 44, 45, 46, 47, 48, 49, 50, 51, 66, 67, 68, 69, 70, 71, 72, 73, 74, 75] (by decide +kernel) (by decide +kernel)
set_option maxRecDepth 20000 in
theorem gX7_twins_X3_firstTwin : GoodIn wsX7_twins (wsV RX7 226 RX3 yX3_firstTwin wsX3_firstTwin) := goodIn_app (goodIn_of _ (by decide +kernel)) ggX7_twins_X3_firstTwin
theorem dX7_twins_0 : decode cX7_twins 0 = .ok (.iconst 0, 1) := by decide +kernel
theorem dX7_twins_1 : decode cX7_twins 1 = .ok (.istore_n 1, 1) := by decide +kernel
theorem dX7_twins_2 : decode cX7_twins 2 = .ok (.iconst 0, 1) := by decide +kernel
theorem dX7_twins_3 : decode cX7_twins 3 = .ok (.istore_n 2, 1) := by decide +kernel
theorem dX7_twins_4 : decode cX7_twins 4 = .ok (.iconst 0, 1) := by decide +kernel
theorem dX7_twins_5 : decode cX7_twins 5 = .ok (.istore_n 3, 1) := by decide +kernel
theorem dX7_twins_6 : decode cX7_twins 6 = .ok (.iload_n 3, 1) := by decide +kernel
theorem dX7_twins_7 : decode cX7_twins 7 = .ok (.aload_n 0, 1) := by decide +kernel
theorem dX7_twins_8 : decode cX7_twins 8 = .ok (.getfield 66, 3) := by decide +kernel
theorem dX7_twins_11 : decode cX7_twins 11 = .ok (.getfield 225, 3) := by decide +kernel
theorem dX7_twins_14 : decode cX7_twins 14 = .ok (.if_icmp .ge 61, 3) := by decide +kernel
theorem dX7_twins_17 : decode cX7_twins 17 = .ok (.aload_n 0, 1) := by decide +kernel
theorem dX7_twins_18 : decode cX7_twins 18 = .ok (.getfield 66, 3) := by decide +kernel
theorem dX7_twins_21 : decode cX7_twins 21 = .ok (.aload_n 0, 1) := by decide +kernel
theorem dX7_twins_22 : decode cX7_twins 22 = .ok (.getfield 35, 3) := by decide +kernel
theorem dX7_twins_25 : decode cX7_twins 25 = .ok (.iload_n 3, 1) := by decide +kernel
theorem dX7_twins_26 : decode cX7_twins 26 = .ok (.iconst 0, 1) := by decide +kernel
theorem dX7_twins_27 : decode cX7_twins 27 = .ok (.invokevirtual 226, 3) := by decide +kernel
theorem dX7_twins_30 : decode cX7_twins 30 = .ok (.istore 4, 2) := by decide +kernel
theorem dX7_twins_32 : decode cX7_twins 32 = .ok (.iload 4, 2) := by decide +kernel
theorem dX7_twins_34 : decode cX7_twins 34 = .ok (.iload_n 3, 1) := by decide +kernel
theorem dX7_twins_35 : decode cX7_twins 35 = .ok (.if_icmp .ne 6, 3) := by decide +kernel
theorem dX7_twins_38 : decode cX7_twins 38 = .ok (.iinc 1 1, 3) := by decide +kernel
theorem dX7_twins_41 : decode cX7_twins 41 = .ok (.iload 4, 2) := by decide +kernel
theorem dX7_twins_43 : decode cX7_twins 43 = .ok (.iload_n 3, 1) := by decide +kernel
theorem dX7_twins_44 : decode cX7_twins 44 = .ok (.if_icmp .ne 22, 3) := by decide +kernel
theorem dX7_twins_47 : decode cX7_twins 47 = .ok (.aload_n 0, 1) := by decide +kernel
theorem dX7_twins_48 : decode cX7_twins 48 = .ok (.getfield 66, 3) := by decide +kernel
theorem dX7_twins_51 : decode cX7_twins 51 = .ok (.aload_n 0, 1) := by decide +kernel
theorem dX7_twins_52 : decode cX7_twins 52 = .ok (.getfield 35, 3) := by decide +kernel
theorem dX7_twins_55 : decode cX7_twins 55 = .ok (.iload_n 3, 1) := by decide +kernel
theorem dX7_twins_56 : decode cX7_twins 56 = .ok (.iload_n 3, 1) := by decide +kernel
theorem dX7_twins_57 : decode cX7_twins 57 = .ok (.iconst 1, 1) := by decide +kernel
theorem dX7_twins_58 : decode cX7_twins 58 = .ok (.iadd, 1) := by decide +kernel
theorem dX7_twins_59 : decode cX7_twins 59 = .ok (.invokevirtual 226, 3) := by decide +kernel
theorem dX7_twins_62 : decode cX7_twins 62 = .ok (.iconst (-1), 1) := by decide +kernel
theorem dX7_twins_63 : decode cX7_twins 63 = .ok (.if_icmp .eq 6, 3) := by decide +kernel
theorem dX7_twins_66 : decode cX7_twins 66 = .ok (.iinc 2 1, 3) := by decide +kernel
theorem dX7_twins_69 : decode cX7_twins 69 = .ok (.iinc 3 1, 3) := by decide +kernel
theorem dX7_twins_72 : decode cX7_twins 72 = .ok (.goto (-66), 3) := by decide +kernel
theorem dX7_twins_75 : decode cX7_twins 75 = .ok (.aload_n 0, 1) := by decide +kernel
theorem dX7_twins_76 : decode cX7_twins 76 = .ok (.iload_n 2, 1) := by decide +kernel
theorem dX7_twins_77 : decode cX7_twins 77 = .ok (.putfield 73, 3) := by decide +kernel
theorem dX7_twins_80 : decode cX7_twins 80 = .ok (.iload_n 1, 1) := by decide +kernel
theorem dX7_twins_81 : decode cX7_twins 81 = .ok (.ireturn, 1) := by decide +kernel
set_option maxRecDepth 20000 in
theorem ggX7_best_X3_allPlaces : GoodIn wsX7_best wsX3_allPlaces := goodIn_r _ [9, 10, 11, 12, 13, 8, 14, 15, 16, 17, 18, 19, 20, 21, 22, 23, 24, 25, 26, 27, 28, 29, 80, 81, 82, 83, 84, 85, 86] (by decide +kernel) (by decide +kernel)
set_option maxRecDepth 20000 in
theorem gX7_best_X3_allPlaces : GoodIn wsX7_best (wsV RX7 230 RX3 yX3_allPlaces wsX3_allPlaces) := goodIn_app (goodIn_of _ (by decide +kernel)) ggX7_best_X3_allPlaces
set_option maxRecDepth 20000 in
theorem ggX7_best_X3_placesSaved : GoodIn wsX7_best wsX3_placesSaved := goodIn_r _ [33, 34, 15, 35, 36, 37, 8, 38, 10, 39, 40, 41, 42, 43, 44, 45, 46, 47, 20, 21, 22, 23, 24, 25, 26, 48, 49, 50, 51, 16, 17, 18, 19, 11, 12, 13, 14, 27, 28, 29, 80, 81, 82, 83, 84, 85, 86, 77, 78, 79] (by decide +kernel) (by decide +kernel)
set_option maxRecDepth 20000 in
theorem gX7_best_X3_placesSaved : GoodIn wsX7_best (wsV RX7 234 RX3 yX3_placesSaved wsX3_placesSaved) := goodIn_app (goodIn_of _ (by decide +kernel)) ggX7_best_X3_placesSaved
set_option maxRecDepth 20000 in
theorem ggX7_best_X1_word : GoodIn wsX7_best wsX1_word := goodIn_r _ [45, 46, 47, 77, 78, 79] (by decide +kernel) (by decide +kernel)
set_option maxRecDepth 20000 in
theorem gX7_best_X1_word : GoodIn wsX7_best (wsV RX7 193 RX1 yX1_word wsX1_word) := goodIn_app (goodIn_of _ (by decide +kernel)) ggX7_best_X1_word
set_option maxRecDepth 20000 in
theorem ggX7_best_X6_figures : GoodIn wsX7_best wsX6_figures := goodIn_r _ [56, 57, 58, 55, 59, 60, 61, 62] (by decide +kernel) (by decide +kernel)
set_option maxRecDepth 20000 in
theorem gX7_best_X6_figures : GoodIn wsX7_best (va_wsS RX7 238 yX6_figures wsX6_figures) := goodIn_app (goodIn_of _ (by decide +kernel)) ggX7_best_X6_figures
theorem dX7_best_0 : decode cX7_best 0 = .ok (.aload_n 0, 1) := by decide +kernel
theorem dX7_best_1 : decode cX7_best 1 = .ok (.getfield 35, 3) := by decide +kernel
theorem dX7_best_4 : decode cX7_best 4 = .ok (.getfield 150, 3) := by decide +kernel
theorem dX7_best_7 : decode cX7_best 7 = .ok (.ifCond .ne 6, 3) := by decide +kernel
theorem dX7_best_10 : decode cX7_best 10 = .ok (.bipush (-4), 2) := by decide +kernel
theorem dX7_best_12 : decode cX7_best 12 = .ok (.ireturn, 1) := by decide +kernel
theorem dX7_best_13 : decode cX7_best 13 = .ok (.aload_n 0, 1) := by decide +kernel
theorem dX7_best_14 : decode cX7_best 14 = .ok (.getfield 66, 3) := by decide +kernel
theorem dX7_best_17 : decode cX7_best 17 = .ok (.invokevirtual 230, 3) := by decide +kernel
theorem dX7_best_20 : decode cX7_best 20 = .ok (.istore_n 1, 1) := by decide +kernel
theorem dX7_best_21 : decode cX7_best 21 = .ok (.iconst 0, 1) := by decide +kernel
theorem dX7_best_22 : decode cX7_best 22 = .ok (.istore_n 2, 1) := by decide +kernel
theorem dX7_best_23 : decode cX7_best 23 = .ok (.iload_n 1, 1) := by decide +kernel
theorem dX7_best_24 : decode cX7_best 24 = .ok (.aload_n 0, 1) := by decide +kernel
theorem dX7_best_25 : decode cX7_best 25 = .ok (.getfield 66, 3) := by decide +kernel
theorem dX7_best_28 : decode cX7_best 28 = .ok (.aload_n 0, 1) := by decide +kernel
theorem dX7_best_29 : decode cX7_best 29 = .ok (.getfield 35, 3) := by decide +kernel
theorem dX7_best_32 : decode cX7_best 32 = .ok (.iconst 0, 1) := by decide +kernel
theorem dX7_best_33 : decode cX7_best 33 = .ok (.invokevirtual 234, 3) := by decide +kernel
theorem dX7_best_36 : decode cX7_best 36 = .ok (.isub, 1) := by decide +kernel
theorem dX7_best_37 : decode cX7_best 37 = .ok (.istore_n 3, 1) := by decide +kernel
theorem dX7_best_38 : decode cX7_best 38 = .ok (.iconst 1, 1) := by decide +kernel
theorem dX7_best_39 : decode cX7_best 39 = .ok (.istore 4, 2) := by decide +kernel
theorem dX7_best_41 : decode cX7_best 41 = .ok (.iload 4, 2) := by decide +kernel
theorem dX7_best_43 : decode cX7_best 43 = .ok (.aload_n 0, 1) := by decide +kernel
theorem dX7_best_44 : decode cX7_best 44 = .ok (.getfield 35, 3) := by decide +kernel
theorem dX7_best_47 : decode cX7_best 47 = .ok (.getfield 150, 3) := by decide +kernel
theorem dX7_best_50 : decode cX7_best 50 = .ok (.if_icmp .ge 38, 3) := by decide +kernel
theorem dX7_best_53 : decode cX7_best 53 = .ok (.iload_n 1, 1) := by decide +kernel
theorem dX7_best_54 : decode cX7_best 54 = .ok (.aload_n 0, 1) := by decide +kernel
theorem dX7_best_55 : decode cX7_best 55 = .ok (.getfield 66, 3) := by decide +kernel
theorem dX7_best_58 : decode cX7_best 58 = .ok (.aload_n 0, 1) := by decide +kernel
theorem dX7_best_59 : decode cX7_best 59 = .ok (.getfield 35, 3) := by decide +kernel
theorem dX7_best_62 : decode cX7_best 62 = .ok (.iload 4, 2) := by decide +kernel
theorem dX7_best_64 : decode cX7_best 64 = .ok (.invokevirtual 234, 3) := by decide +kernel
theorem dX7_best_67 : decode cX7_best 67 = .ok (.isub, 1) := by decide +kernel
theorem dX7_best_68 : decode cX7_best 68 = .ok (.istore 5, 2) := by decide +kernel
theorem dX7_best_70 : decode cX7_best 70 = .ok (.iload 5, 2) := by decide +kernel
theorem dX7_best_72 : decode cX7_best 72 = .ok (.iload_n 3, 1) := by decide +kernel
theorem dX7_best_73 : decode cX7_best 73 = .ok (.if_icmp .ge 9, 3) := by decide +kernel
theorem dX7_best_76 : decode cX7_best 76 = .ok (.iload 4, 2) := by decide +kernel
theorem dX7_best_78 : decode cX7_best 78 = .ok (.istore_n 2, 1) := by decide +kernel
theorem dX7_best_79 : decode cX7_best 79 = .ok (.iload 5, 2) := by decide +kernel
theorem dX7_best_81 : decode cX7_best 81 = .ok (.istore_n 3, 1) := by decide +kernel
theorem dX7_best_82 : decode cX7_best 82 = .ok (.iinc 4 1, 3) := by decide +kernel
theorem dX7_best_85 : decode cX7_best 85 = .ok (.goto (-44), 3) := by decide +kernel
theorem dX7_best_88 : decode cX7_best 88 = .ok (.aload_n 0, 1) := by decide +kernel
theorem dX7_best_89 : decode cX7_best 89 = .ok (.iload_n 3, 1) := by decide +kernel
theorem dX7_best_90 : decode cX7_best 90 = .ok (.putfield 73, 3) := by decide +kernel
theorem dX7_best_93 : decode cX7_best 93 = .ok (.aload_n 0, 1) := by decide +kernel
theorem dX7_best_94 : decode cX7_best 94 = .ok (.getfield 35, 3) := by decide +kernel
theorem dX7_best_97 : decode cX7_best 97 = .ok (.iload_n 2, 1) := by decide +kernel
theorem dX7_best_98 : decode cX7_best 98 = .ok (.invokevirtual 193, 3) := by decide +kernel
theorem dX7_best_101 : decode cX7_best 101 = .ok (.invokestatic 238, 3) := by decide +kernel
theorem dX7_best_104 : decode cX7_best 104 = .ok (.ireturn, 1) := by decide +kernel
set_option maxRecDepth 20000 in
theorem ggX7_lately_X2_word : GoodIn wsX7_lately wsX2_word := goodIn_r _ [7, 8, 9, 41, 42] (by decide +kernel) (by decide +kernel)
set_option maxRecDepth 20000 in
theorem gX7_lately_X2_word : GoodIn wsX7_lately (wsV RX7 242 RX2 yX2_word wsX2_word) := goodIn_app (goodIn_of _ (by decide +kernel)) ggX7_lately_X2_word
set_option maxRecDepth 20000 in
theorem ggX7_lately_X7_tellWord : GoodIn wsX7_lately wsX7_tellWord := goodIn_r _ [14, 15, 16, 17, 18, 19, 20, 21, 22, 23, 24, 25, 26, 27, 28, 29, 30, 31, 32, 33, 34, 35, 36, 37, 38, 39, 40] (by decide +kernel) (by decide +kernel)
set_option maxRecDepth 20000 in
theorem gX7_lately_X7_tellWord : GoodIn wsX7_lately (wsV RX7 196 RX7 yX7_tellWord wsX7_tellWord) := goodIn_app (goodIn_of _ (by decide +kernel)) ggX7_lately_X7_tellWord
theorem dX7_lately_0 : decode cX7_lately 0 = .ok (.iload_n 1, 1) := by decide +kernel
theorem dX7_lately_1 : decode cX7_lately 1 = .ok (.ifCond .ge 5, 3) := by decide +kernel
theorem dX7_lately_4 : decode cX7_lately 4 = .ok (.iconst (-1), 1) := by decide +kernel
theorem dX7_lately_5 : decode cX7_lately 5 = .ok (.ireturn, 1) := by decide +kernel
theorem dX7_lately_6 : decode cX7_lately 6 = .ok (.iload_n 1, 1) := by decide +kernel
theorem dX7_lately_7 : decode cX7_lately 7 = .ok (.aload_n 0, 1) := by decide +kernel
theorem dX7_lately_8 : decode cX7_lately 8 = .ok (.getfield 52, 3) := by decide +kernel
theorem dX7_lately_11 : decode cX7_lately 11 = .ok (.getfield 241, 3) := by decide +kernel
theorem dX7_lately_14 : decode cX7_lately 14 = .ok (.if_icmp .ge 18, 3) := by decide +kernel
theorem dX7_lately_17 : decode cX7_lately 17 = .ok (.aload_n 0, 1) := by decide +kernel
theorem dX7_lately_18 : decode cX7_lately 18 = .ok (.aload_n 0, 1) := by decide +kernel
theorem dX7_lately_19 : decode cX7_lately 19 = .ok (.getfield 52, 3) := by decide +kernel
theorem dX7_lately_22 : decode cX7_lately 22 = .ok (.iload_n 1, 1) := by decide +kernel
theorem dX7_lately_23 : decode cX7_lately 23 = .ok (.invokevirtual 242, 3) := by decide +kernel
theorem dX7_lately_26 : decode cX7_lately 26 = .ok (.invokevirtual 196, 3) := by decide +kernel
theorem dX7_lately_29 : decode cX7_lately 29 = .ok (.goto 5, 3) := by decide +kernel
theorem dX7_lately_32 : decode cX7_lately 32 = .ok (.bipush (-9), 2) := by decide +kernel
theorem dX7_lately_34 : decode cX7_lately 34 = .ok (.ireturn, 1) := by decide +kernel
set_option maxRecDepth 20000 in
theorem ggX7_lots_X7_doLot : GoodIn wsX7_lots wsX7_doLot := goodIn_r _ [11, 5, 2, 12, 13, 10, 14, 15, 16, 17, 18, 19, 20, 21, 22, 23, 24, 25, 26, 27, 28, 29, 30, 31, 32, 33, 34, 35, 36, 37, 38, 39, 40, 41, 42, 43, 44, 45, 46, 47, 48, 49, 50, 51, 52, 53, 54, 55, 56, 57, 58, 59, 60, 61, 62, 63, 64, 65, 66, 67, 68, 69, 116, 117, 118, 119, 120, 121, 122, 123, 124, 125, 126, 127, 128, 129, 134, 135, 136, 130, 131, 132, 133] (by decide +kernel) (by decide +kernel)
set_option maxRecDepth 20000 in
theorem gX7_lots_X7_doLot : GoodIn wsX7_lots (wsV RX7 247 RX7 yX7_doLot wsX7_doLot) := goodIn_app (goodIn_of _ (by decide +kernel)) ggX7_lots_X7_doLot
set_option maxRecDepth 20000 in
theorem ggX7_lots_X7_settle : GoodIn wsX7_lots wsX7_settle := goodIn_r _ [73, 74, 5, 75, 76, 77, 78, 79, 80, 81, 82, 83, 84, 85, 86, 87, 88, 89, 90, 91, 92, 93, 94, 95, 25, 96, 27, 32, 97, 98, 17, 99, 100, 101, 102, 103, 104, 105, 106, 107, 108, 67, 68, 69, 109, 110, 111, 19, 20, 21, 112, 113, 114, 115, 116, 117, 118, 119, 120, 121, 122, 123, 124, 125, 126, 127, 128, 129, 137, 138, 139, 140, 141, 142, 143, 134, 135, 136] (by decide +kernel) (by decide +kernel)
set_option maxRecDepth 20000 in
theorem gX7_lots_X7_settle : GoodIn wsX7_lots (wsV RX7 250 RX7 yX7_settle wsX7_settle) := goodIn_app (goodIn_of _ (by decide +kernel)) ggX7_lots_X7_settle
theorem dX7_lots_0 : decode cX7_lots 0 = .ok (.iload_n 1, 1) := by decide +kernel
theorem dX7_lots_1 : decode cX7_lots 1 = .ok (.iconst 1, 1) := by decide +kernel
theorem dX7_lots_2 : decode cX7_lots 2 = .ok (.if_icmp .lt 23, 3) := by decide +kernel
theorem dX7_lots_5 : decode cX7_lots 5 = .ok (.iload_n 1, 1) := by decide +kernel
theorem dX7_lots_6 : decode cX7_lots 6 = .ok (.bipush 20, 2) := by decide +kernel
theorem dX7_lots_8 : decode cX7_lots 8 = .ok (.if_icmp .gt 17, 3) := by decide +kernel
theorem dX7_lots_11 : decode cX7_lots 11 = .ok (.iload_n 2, 1) := by decide +kernel
theorem dX7_lots_12 : decode cX7_lots 12 = .ok (.iconst 1, 1) := by decide +kernel
theorem dX7_lots_13 : decode cX7_lots 13 = .ok (.if_icmp .lt 12, 3) := by decide +kernel
theorem dX7_lots_16 : decode cX7_lots 16 = .ok (.iload_n 2, 1) := by decide +kernel
theorem dX7_lots_17 : decode cX7_lots 17 = .ok (.i2l, 1) := by decide +kernel
theorem dX7_lots_18 : decode cX7_lots 18 = .ok (.ldc2_w 243, 3) := by decide +kernel
theorem dX7_lots_21 : decode cX7_lots 21 = .ok (.lcmp, 1) := by decide +kernel
theorem dX7_lots_22 : decode cX7_lots 22 = .ok (.ifCond .lt 5, 3) := by decide +kernel
theorem dX7_lots_25 : decode cX7_lots 25 = .ok (.iconst (-1), 1) := by decide +kernel
theorem dX7_lots_26 : decode cX7_lots 26 = .ok (.ireturn, 1) := by decide +kernel
theorem dX7_lots_27 : decode cX7_lots 27 = .ok (.aload_n 0, 1) := by decide +kernel
theorem dX7_lots_28 : decode cX7_lots 28 = .ok (.getfield 41, 3) := by decide +kernel
theorem dX7_lots_31 : decode cX7_lots 31 = .ok (.getfield 161, 3) := by decide +kernel
theorem dX7_lots_34 : decode cX7_lots 34 = .ok (.iload_n 1, 1) := by decide +kernel
theorem dX7_lots_35 : decode cX7_lots 35 = .ok (.iadd, 1) := by decide +kernel
theorem dX7_lots_36 : decode cX7_lots 36 = .ok (.bipush 40, 2) := by decide +kernel
theorem dX7_lots_38 : decode cX7_lots 38 = .ok (.if_icmp .le 6, 3) := by decide +kernel
theorem dX7_lots_41 : decode cX7_lots 41 = .ok (.bipush (-2), 2) := by decide +kernel
theorem dX7_lots_43 : decode cX7_lots 43 = .ok (.ireturn, 1) := by decide +kernel
theorem dX7_lots_44 : decode cX7_lots 44 = .ok (.iload_n 2, 1) := by decide +kernel
theorem dX7_lots_45 : decode cX7_lots 45 = .ok (.i2l, 1) := by decide +kernel
theorem dX7_lots_46 : decode cX7_lots 46 = .ok (.lstore_n 3, 1) := by decide +kernel
theorem dX7_lots_47 : decode cX7_lots 47 = .ok (.iconst 0, 1) := by decide +kernel
theorem dX7_lots_48 : decode cX7_lots 48 = .ok (.istore 5, 2) := by decide +kernel
theorem dX7_lots_50 : decode cX7_lots 50 = .ok (.iload 5, 2) := by decide +kernel
theorem dX7_lots_52 : decode cX7_lots 52 = .ok (.iload_n 1, 1) := by decide +kernel
theorem dX7_lots_53 : decode cX7_lots 53 = .ok (.if_icmp .ge 25, 3) := by decide +kernel
theorem dX7_lots_56 : decode cX7_lots 56 = .ok (.lload_n 3, 1) := by decide +kernel
theorem dX7_lots_57 : decode cX7_lots 57 = .ok (.ldc2_w 245, 3) := by decide +kernel
theorem dX7_lots_60 : decode cX7_lots 60 = .ok (.lmul, 1) := by decide +kernel
theorem dX7_lots_61 : decode cX7_lots 61 = .ok (.ldc2_w 243, 3) := by decide +kernel
theorem dX7_lots_64 : decode cX7_lots 64 = .ok (.lrem, 1) := by decide +kernel
theorem dX7_lots_65 : decode cX7_lots 65 = .ok (.lstore_n 3, 1) := by decide +kernel
theorem dX7_lots_66 : decode cX7_lots 66 = .ok (.aload_n 0, 1) := by decide +kernel
theorem dX7_lots_67 : decode cX7_lots 67 = .ok (.lload_n 3, 1) := by decide +kernel
theorem dX7_lots_68 : decode cX7_lots 68 = .ok (.l2i, 1) := by decide +kernel
theorem dX7_lots_69 : decode cX7_lots 69 = .ok (.invokevirtual 247, 3) := by decide +kernel
theorem dX7_lots_72 : decode cX7_lots 72 = .ok (.iinc 5 1, 3) := by decide +kernel
theorem dX7_lots_75 : decode cX7_lots 75 = .ok (.goto (-25), 3) := by decide +kernel
theorem dX7_lots_78 : decode cX7_lots 78 = .ok (.aload_n 0, 1) := by decide +kernel
theorem dX7_lots_79 : decode cX7_lots 79 = .ok (.invokevirtual 250, 3) := by decide +kernel
theorem dX7_lots_82 : decode cX7_lots 82 = .ok (.aload_n 0, 1) := by decide +kernel
theorem dX7_lots_83 : decode cX7_lots 83 = .ok (.getfield 35, 3) := by decide +kernel
theorem dX7_lots_86 : decode cX7_lots 86 = .ok (.getfield 150, 3) := by decide +kernel
theorem dX7_lots_89 : decode cX7_lots 89 = .ok (.ireturn, 1) := by decide +kernel
theorem dX7_asked_0 : decode cX7_asked 0 = .ok (.aload_n 0, 1) := by decide +kernel
theorem dX7_asked_1 : decode cX7_asked 1 = .ok (.getfield 73, 3) := by decide +kernel
theorem dX7_asked_4 : decode cX7_asked 4 = .ok (.ireturn, 1) := by decide +kernel
set_option maxRecDepth 20000 in
theorem ggX7_count_X7_counted : GoodIn wsX7_count wsX7_counted := goodIn_r _ [5, 6, 7, 8, 9, 10, 11, 12, 13, 14, 15, 16, 17, 18, 19, 20, 21, 22, 23, 24, 25, 26, 27, 28, 29, 30, 31, 32, 33, 34, 35, 36, 37, 38, 39, 40, 41, 42, 43, 44, 45, 46, 47, 48, 49, 50, 51, 52, 53, 54, 55, 56, 57, 58, 59, 60, 61, 62, 63, 64, 65, 66, 67, 68, 69, 70, 71, 4, 72, 73, 74, 75, 76, 77, 78, 79, 80, 81, 82, 83, 84, 85, 86, 87, 88, 89, 90, 91, 92, 93, 94, 95, 96, 97, 98, 99, 100, 101, 102, 103, 104, 105, 106] (by decide +kernel) (by decide +kernel)
set_option maxRecDepth 20000 in
theorem gX7_count_X7_counted : GoodIn wsX7_count (wsV RX7 253 RX7 yX7_counted wsX7_counted) := goodIn_app (goodIn_of _ (by decide +kernel)) ggX7_count_X7_counted
theorem dX7_count_0 : decode cX7_count 0 = .ok (.iload_n 1, 1) := by decide +kernel
theorem dX7_count_1 : decode cX7_count 1 = .ok (.ifCond .lt 9, 3) := by decide +kernel
theorem dX7_count_4 : decode cX7_count 4 = .ok (.iload_n 1, 1) := by decide +kernel
theorem dX7_count_5 : decode cX7_count 5 = .ok (.bipush 14, 2) := by decide +kernel
theorem dX7_count_7 : decode cX7_count 7 = .ok (.if_icmp .lt 5, 3) := by decide +kernel
theorem dX7_count_10 : decode cX7_count 10 = .ok (.iconst (-1), 1) := by decide +kernel
theorem dX7_count_11 : decode cX7_count 11 = .ok (.ireturn, 1) := by decide +kernel
theorem dX7_count_12 : decode cX7_count 12 = .ok (.aload_n 0, 1) := by decide +kernel
theorem dX7_count_13 : decode cX7_count 13 = .ok (.iload_n 1, 1) := by decide +kernel
theorem dX7_count_14 : decode cX7_count 14 = .ok (.invokevirtual 253, 3) := by decide +kernel
theorem dX7_count_17 : decode cX7_count 17 = .ok (.ireturn, 1) := by decide +kernel
theorem dX7_finding_0 : decode cX7_finding 0 = .ok (.aload_n 0, 1) := by decide +kernel
theorem dX7_finding_1 : decode cX7_finding 1 = .ok (.getfield 77, 3) := by decide +kernel
theorem dX7_finding_4 : decode cX7_finding 4 = .ok (.ireturn, 1) := by decide +kernel
theorem dX7_findings_0 : decode cX7_findings 0 = .ok (.iload_n 1, 1) := by decide +kernel
theorem dX7_findings_1 : decode cX7_findings 1 = .ok (.iconst 1, 1) := by decide +kernel
theorem dX7_findings_2 : decode cX7_findings 2 = .ok (.if_icmp .lt 8, 3) := by decide +kernel
theorem dX7_findings_5 : decode cX7_findings 5 = .ok (.iload_n 1, 1) := by decide +kernel
theorem dX7_findings_6 : decode cX7_findings 6 = .ok (.iconst 5, 1) := by decide +kernel
theorem dX7_findings_7 : decode cX7_findings 7 = .ok (.if_icmp .le 5, 3) := by decide +kernel
theorem dX7_findings_10 : decode cX7_findings 10 = .ok (.iconst (-1), 1) := by decide +kernel
theorem dX7_findings_11 : decode cX7_findings 11 = .ok (.ireturn, 1) := by decide +kernel
theorem dX7_findings_12 : decode cX7_findings 12 = .ok (.aload_n 0, 1) := by decide +kernel
theorem dX7_findings_13 : decode cX7_findings 13 = .ok (.getfield 60, 3) := by decide +kernel
theorem dX7_findings_16 : decode cX7_findings 16 = .ok (.iload_n 1, 1) := by decide +kernel
theorem dX7_findings_17 : decode cX7_findings 17 = .ok (.iaload, 1) := by decide +kernel
theorem dX7_findings_18 : decode cX7_findings 18 = .ok (.ireturn, 1) := by decide +kernel
set_option maxRecDepth 20000 in
theorem ggX7_digest_X7_counted : GoodIn wsX7_digest wsX7_counted := goodIn_r _ [13, 3, 14, 15, 16, 17, 5, 7, 8, 6, 18, 19, 20, 21, 22, 23, 24, 25, 26, 27, 28, 29, 30, 31, 32, 33, 34, 35, 36, 37, 38, 39, 40, 41, 42, 43, 44, 45, 46, 47, 48, 49, 50, 51, 52, 53, 54, 55, 56, 57, 58, 59, 60, 61, 62, 63, 64, 65, 66, 67, 68, 69, 70, 71, 72, 73, 74, 12, 75, 4, 112, 113, 114, 115, 116, 117, 118, 119, 120, 121, 122, 123, 124, 125, 130, 131, 132, 133, 134, 135, 136, 137, 138, 139, 126, 127, 128, 129, 140, 141, 142, 143, 144] (by decide +kernel) (by decide +kernel)
set_option maxRecDepth 20000 in
theorem gX7_digest_X7_counted : GoodIn wsX7_digest (wsV RX7 253 RX7 yX7_counted wsX7_counted) := goodIn_app (goodIn_of _ (by decide +kernel)) ggX7_digest_X7_counted
set_option maxRecDepth 20000 in
theorem ggX7_digest_X1_mixInto : GoodIn wsX7_digest wsX1_mixInto := goodIn_r _ [80, 81, 82, 83, 84, 85, 86, 87, 88, 89, 90, 91, 92, 93, 94, 95, 130, 131, 132] (by decide +kernel) (by decide +kernel)
set_option maxRecDepth 20000 in
theorem gX7_digest_X1_mixInto : GoodIn wsX7_digest (wsV RX7 260 RX1 yX1_mixInto wsX1_mixInto) := goodIn_app (goodIn_of _ (by decide +kernel)) ggX7_digest_X1_mixInto
set_option maxRecDepth 20000 in
theorem ggX7_digest_X2_mixInto : GoodIn wsX7_digest wsX2_mixInto := goodIn_r _ [100, 101, 102, 103, 104, 86, 87, 88, 89, 90, 91, 92, 93, 94, 105, 140, 141] (by decide +kernel) (by decide +kernel)
set_option maxRecDepth 20000 in
theorem gX7_digest_X2_mixInto : GoodIn wsX7_digest (wsV RX7 264 RX2 yX2_mixInto wsX2_mixInto) := goodIn_app (goodIn_of _ (by decide +kernel)) ggX7_digest_X2_mixInto
set_option maxRecDepth 20000 in
theorem ggX7_digest_X5_mixInto : GoodIn wsX7_digest wsX5_mixInto := goodIn_r _ [109, 71, 110, 111, 142, 143, 144] (by decide +kernel) (by decide +kernel)
set_option maxRecDepth 20000 in
theorem gX7_digest_X5_mixInto : GoodIn wsX7_digest (wsV RX7 265 RX5 yX5_mixInto wsX5_mixInto) := goodIn_app (goodIn_of _ (by decide +kernel)) ggX7_digest_X5_mixInto
theorem dX7_digest_0 : decode cX7_digest 0 = .ok (.ldc2_w 256, 3) := by decide +kernel
theorem dX7_digest_3 : decode cX7_digest 3 = .ok (.lstore_n 1, 1) := by decide +kernel
theorem dX7_digest_4 : decode cX7_digest 4 = .ok (.iconst 0, 1) := by decide +kernel
theorem dX7_digest_5 : decode cX7_digest 5 = .ok (.istore_n 3, 1) := by decide +kernel
theorem dX7_digest_6 : decode cX7_digest 6 = .ok (.iload_n 3, 1) := by decide +kernel
theorem dX7_digest_7 : decode cX7_digest 7 = .ok (.bipush 14, 2) := by decide +kernel
theorem dX7_digest_9 : decode cX7_digest 9 = .ok (.if_icmp .ge 22, 3) := by decide +kernel
theorem dX7_digest_12 : decode cX7_digest 12 = .ok (.ldc2_w 258, 3) := by decide +kernel
theorem dX7_digest_15 : decode cX7_digest 15 = .ok (.lload_n 1, 1) := by decide +kernel
theorem dX7_digest_16 : decode cX7_digest 16 = .ok (.lmul, 1) := by decide +kernel
theorem dX7_digest_17 : decode cX7_digest 17 = .ok (.aload_n 0, 1) := by decide +kernel
theorem dX7_digest_18 : decode cX7_digest 18 = .ok (.iload_n 3, 1) := by decide +kernel
theorem dX7_digest_19 : decode cX7_digest 19 = .ok (.invokevirtual 253, 3) := by decide +kernel
theorem dX7_digest_22 : decode cX7_digest 22 = .ok (.i2l, 1) := by decide +kernel
theorem dX7_digest_23 : decode cX7_digest 23 = .ok (.ladd, 1) := by decide +kernel
theorem dX7_digest_24 : decode cX7_digest 24 = .ok (.lstore_n 1, 1) := by decide +kernel
theorem dX7_digest_25 : decode cX7_digest 25 = .ok (.iinc 3 1, 3) := by decide +kernel
theorem dX7_digest_28 : decode cX7_digest 28 = .ok (.goto (-22), 3) := by decide +kernel
theorem dX7_digest_31 : decode cX7_digest 31 = .ok (.aload_n 0, 1) := by decide +kernel
theorem dX7_digest_32 : decode cX7_digest 32 = .ok (.getfield 35, 3) := by decide +kernel
theorem dX7_digest_35 : decode cX7_digest 35 = .ok (.lload_n 1, 1) := by decide +kernel
theorem dX7_digest_36 : decode cX7_digest 36 = .ok (.invokevirtual 260, 3) := by decide +kernel
theorem dX7_digest_39 : decode cX7_digest 39 = .ok (.lstore_n 1, 1) := by decide +kernel
theorem dX7_digest_40 : decode cX7_digest 40 = .ok (.iconst 0, 1) := by decide +kernel
theorem dX7_digest_41 : decode cX7_digest 41 = .ok (.istore_n 3, 1) := by decide +kernel
theorem dX7_digest_42 : decode cX7_digest 42 = .ok (.iload_n 3, 1) := by decide +kernel
theorem dX7_digest_43 : decode cX7_digest 43 = .ok (.iconst 3, 1) := by decide +kernel
theorem dX7_digest_44 : decode cX7_digest 44 = .ok (.if_icmp .ge 26, 3) := by decide +kernel
theorem dX7_digest_47 : decode cX7_digest 47 = .ok (.ldc2_w 258, 3) := by decide +kernel
theorem dX7_digest_50 : decode cX7_digest 50 = .ok (.lload_n 1, 1) := by decide +kernel
theorem dX7_digest_51 : decode cX7_digest 51 = .ok (.lmul, 1) := by decide +kernel
theorem dX7_digest_52 : decode cX7_digest 52 = .ok (.aload_n 0, 1) := by decide +kernel
theorem dX7_digest_53 : decode cX7_digest 53 = .ok (.getfield 45, 3) := by decide +kernel
theorem dX7_digest_56 : decode cX7_digest 56 = .ok (.iload_n 3, 1) := by decide +kernel
theorem dX7_digest_57 : decode cX7_digest 57 = .ok (.aaload, 1) := by decide +kernel
theorem dX7_digest_58 : decode cX7_digest 58 = .ok (.getfield 161, 3) := by decide +kernel
theorem dX7_digest_61 : decode cX7_digest 61 = .ok (.i2l, 1) := by decide +kernel
theorem dX7_digest_62 : decode cX7_digest 62 = .ok (.ladd, 1) := by decide +kernel
theorem dX7_digest_63 : decode cX7_digest 63 = .ok (.lstore_n 1, 1) := by decide +kernel
theorem dX7_digest_64 : decode cX7_digest 64 = .ok (.iinc 3 1, 3) := by decide +kernel
theorem dX7_digest_67 : decode cX7_digest 67 = .ok (.goto (-25), 3) := by decide +kernel
theorem dX7_digest_70 : decode cX7_digest 70 = .ok (.aload_n 0, 1) := by decide +kernel
theorem dX7_digest_71 : decode cX7_digest 71 = .ok (.getfield 52, 3) := by decide +kernel
theorem dX7_digest_74 : decode cX7_digest 74 = .ok (.lload_n 1, 1) := by decide +kernel
theorem dX7_digest_75 : decode cX7_digest 75 = .ok (.invokevirtual 264, 3) := by decide +kernel
theorem dX7_digest_78 : decode cX7_digest 78 = .ok (.lstore_n 1, 1) := by decide +kernel
theorem dX7_digest_79 : decode cX7_digest 79 = .ok (.aload_n 0, 1) := by decide +kernel
theorem dX7_digest_80 : decode cX7_digest 80 = .ok (.getfield 14, 3) := by decide +kernel
theorem dX7_digest_83 : decode cX7_digest 83 = .ok (.lload_n 1, 1) := by decide +kernel
theorem dX7_digest_84 : decode cX7_digest 84 = .ok (.invokevirtual 265, 3) := by decide +kernel
theorem dX7_digest_87 : decode cX7_digest 87 = .ok (.lstore_n 1, 1) := by decide +kernel
theorem dX7_digest_88 : decode cX7_digest 88 = .ok (.aload_n 0, 1) := by decide +kernel
theorem dX7_digest_89 : decode cX7_digest 89 = .ok (.getfield 18, 3) := by decide +kernel
theorem dX7_digest_92 : decode cX7_digest 92 = .ok (.lload_n 1, 1) := by decide +kernel
theorem dX7_digest_93 : decode cX7_digest 93 = .ok (.invokevirtual 265, 3) := by decide +kernel
theorem dX7_digest_96 : decode cX7_digest 96 = .ok (.lreturn, 1) := by decide +kernel
theorem dX7_refuse_0 : decode cX7_refuse 0 = .ok (.aload_n 0, 1) := by decide +kernel
theorem dX7_refuse_1 : decode cX7_refuse 1 = .ok (.iload_n 1, 1) := by decide +kernel
theorem dX7_refuse_2 : decode cX7_refuse 2 = .ok (.putfield 77, 3) := by decide +kernel
theorem dX7_refuse_5 : decode cX7_refuse 5 = .ok (.iload_n 1, 1) := by decide +kernel
theorem dX7_refuse_6 : decode cX7_refuse 6 = .ok (.iconst 1, 1) := by decide +kernel
theorem dX7_refuse_7 : decode cX7_refuse 7 = .ok (.if_icmp .lt 18, 3) := by decide +kernel
theorem dX7_refuse_10 : decode cX7_refuse 10 = .ok (.iload_n 1, 1) := by decide +kernel
theorem dX7_refuse_11 : decode cX7_refuse 11 = .ok (.iconst 5, 1) := by decide +kernel
theorem dX7_refuse_12 : decode cX7_refuse 12 = .ok (.if_icmp .gt 13, 3) := by decide +kernel
theorem dX7_refuse_15 : decode cX7_refuse 15 = .ok (.aload_n 0, 1) := by decide +kernel
theorem dX7_refuse_16 : decode cX7_refuse 16 = .ok (.getfield 60, 3) := by decide +kernel
theorem dX7_refuse_19 : decode cX7_refuse 19 = .ok (.iload_n 1, 1) := by decide +kernel
theorem dX7_refuse_20 : decode cX7_refuse 20 = .ok (.dup2, 1) := by decide +kernel
theorem dX7_refuse_21 : decode cX7_refuse 21 = .ok (.iaload, 1) := by decide +kernel
theorem dX7_refuse_22 : decode cX7_refuse 22 = .ok (.iconst 1, 1) := by decide +kernel
theorem dX7_refuse_23 : decode cX7_refuse 23 = .ok (.iadd, 1) := by decide +kernel
theorem dX7_refuse_24 : decode cX7_refuse 24 = .ok (.iastore, 1) := by decide +kernel
theorem dX7_refuse_25 : decode cX7_refuse 25 = .ok (.bipush (-3), 2) := by decide +kernel
theorem dX7_refuse_27 : decode cX7_refuse 27 = .ok (.ireturn, 1) := by decide +kernel
set_option maxRecDepth 20000 in
theorem ggX7_refuseMissing_X5_names : GoodIn wsX7_refuseMissing wsX5_names := goodIn_r _ [5, 6, 23, 24, 25] (by decide +kernel) (by decide +kernel)
set_option maxRecDepth 20000 in
theorem gX7_refuseMissing_X5_names : GoodIn wsX7_refuseMissing (wsV RX7 107 RX5 yX5_names wsX5_names) := goodIn_app (goodIn_of _ (by decide +kernel)) ggX7_refuseMissing_X5_names
set_option maxRecDepth 20000 in
theorem ggX7_refuseMissing_X5_holds : GoodIn wsX7_refuseMissing wsX5_holds := goodIn_r _ [10, 11, 12, 13, 4, 14, 6, 15, 2, 3, 5, 23, 24, 25] (by decide +kernel) (by decide +kernel)
set_option maxRecDepth 20000 in
theorem gX7_refuseMissing_X5_holds : GoodIn wsX7_refuseMissing (wsV RX7 115 RX5 yX5_holds wsX5_holds) := goodIn_app (goodIn_of _ (by decide +kernel)) ggX7_refuseMissing_X5_holds
set_option maxRecDepth 20000 in
theorem ggX7_refuseMissing_X7_refuse : GoodIn wsX7_refuseMissing wsX7_refuse := goodIn_r _ [20, 21, 22, 26, 27, 28, 29, 30, 31, 32, 33, 34, 35, 36, 37, 38, 39] (by decide +kernel) (by decide +kernel)
set_option maxRecDepth 20000 in
theorem gX7_refuseMissing_X7_refuse : GoodIn wsX7_refuseMissing (wsV RX7 111 RX7 yX7_refuse wsX7_refuse) := goodIn_app (goodIn_of _ (by decide +kernel)) ggX7_refuseMissing_X7_refuse
theorem dX7_refuseMissing_0 : decode cX7_refuseMissing 0 = .ok (.aload_n 1, 1) := by decide +kernel
theorem dX7_refuseMissing_1 : decode cX7_refuseMissing 1 = .ok (.iload_n 2, 1) := by decide +kernel
theorem dX7_refuseMissing_2 : decode cX7_refuseMissing 2 = .ok (.invokevirtual 107, 3) := by decide +kernel
theorem dX7_refuseMissing_5 : decode cX7_refuseMissing 5 = .ok (.ifCond .ne 5, 3) := by decide +kernel
theorem dX7_refuseMissing_8 : decode cX7_refuseMissing 8 = .ok (.iconst (-1), 1) := by decide +kernel
theorem dX7_refuseMissing_9 : decode cX7_refuseMissing 9 = .ok (.ireturn, 1) := by decide +kernel
theorem dX7_refuseMissing_10 : decode cX7_refuseMissing 10 = .ok (.aload_n 1, 1) := by decide +kernel
theorem dX7_refuseMissing_11 : decode cX7_refuseMissing 11 = .ok (.iload_n 2, 1) := by decide +kernel
theorem dX7_refuseMissing_12 : decode cX7_refuseMissing 12 = .ok (.invokevirtual 115, 3) := by decide +kernel
theorem dX7_refuseMissing_15 : decode cX7_refuseMissing 15 = .ok (.ifCond .eq 7, 3) := by decide +kernel
theorem dX7_refuseMissing_18 : decode cX7_refuseMissing 18 = .ok (.iconst 0, 1) := by decide +kernel
theorem dX7_refuseMissing_19 : decode cX7_refuseMissing 19 = .ok (.goto 8, 3) := by decide +kernel
theorem dX7_refuseMissing_22 : decode cX7_refuseMissing 22 = .ok (.aload_n 0, 1) := by decide +kernel
theorem dX7_refuseMissing_23 : decode cX7_refuseMissing 23 = .ok (.iconst 1, 1) := by decide +kernel
theorem dX7_refuseMissing_24 : decode cX7_refuseMissing 24 = .ok (.invokevirtual 111, 3) := by decide +kernel
theorem dX7_refuseMissing_27 : decode cX7_refuseMissing 27 = .ok (.ireturn, 1) := by decide +kernel
set_option maxRecDepth 20000 in
theorem ggX7_refusePlace_X7_refuseMissing : GoodIn wsX7_refusePlace wsX7_refuseMissing := goodIn_r _ [5, 6, 7, 8, 9, 10, 11, 12, 13, 14, 15, 16, 17, 18, 19, 20, 21, 22, 23, 4, 24, 25, 26, 31, 32, 33, 34, 35, 36, 37, 38, 39, 40, 41, 42, 43, 44, 45, 46, 47] (by decide +kernel) (by decide +kernel)
set_option maxRecDepth 20000 in
theorem gX7_refusePlace_X7_refuseMissing : GoodIn wsX7_refusePlace (wsV RX7 99 RX7 yX7_refuseMissing wsX7_refuseMissing) := goodIn_app (goodIn_of _ (by decide +kernel)) ggX7_refusePlace_X7_refuseMissing
set_option maxRecDepth 20000 in
theorem ggX7_refusePlace_X5_reaches : GoodIn wsX7_refusePlace wsX5_reaches := goodIn_r _ [30, 16, 17, 18, 9, 19, 11, 20, 7, 8, 10, 31, 32, 33] (by decide +kernel) (by decide +kernel)
set_option maxRecDepth 20000 in
theorem gX7_refusePlace_X5_reaches : GoodIn wsX7_refusePlace (wsV RX7 266 RX5 yX5_reaches wsX5_reaches) := goodIn_app (goodIn_of _ (by decide +kernel)) ggX7_refusePlace_X5_reaches
set_option maxRecDepth 20000 in
theorem ggX7_refusePlace_X7_refuse : GoodIn wsX7_refusePlace wsX7_refuse := goodIn_r _ [24, 25, 26, 34, 35, 36, 37, 38, 39, 40, 41, 42, 43, 44, 45, 46, 47] (by decide +kernel) (by decide +kernel)
set_option maxRecDepth 20000 in
theorem gX7_refusePlace_X7_refuse : GoodIn wsX7_refusePlace (wsV RX7 111 RX7 yX7_refuse wsX7_refuse) := goodIn_app (goodIn_of _ (by decide +kernel)) ggX7_refusePlace_X7_refuse
theorem dX7_refusePlace_0 : decode cX7_refusePlace 0 = .ok (.aload_n 0, 1) := by decide +kernel
theorem dX7_refusePlace_1 : decode cX7_refusePlace 1 = .ok (.aload_n 1, 1) := by decide +kernel
theorem dX7_refusePlace_2 : decode cX7_refusePlace 2 = .ok (.iload_n 2, 1) := by decide +kernel
theorem dX7_refusePlace_3 : decode cX7_refusePlace 3 = .ok (.invokevirtual 99, 3) := by decide +kernel
theorem dX7_refusePlace_6 : decode cX7_refusePlace 6 = .ok (.istore 4, 2) := by decide +kernel
theorem dX7_refusePlace_8 : decode cX7_refusePlace 8 = .ok (.iload 4, 2) := by decide +kernel
theorem dX7_refusePlace_10 : decode cX7_refusePlace 10 = .ok (.ifCond .eq 6, 3) := by decide +kernel
theorem dX7_refusePlace_13 : decode cX7_refusePlace 13 = .ok (.iload 4, 2) := by decide +kernel
theorem dX7_refusePlace_15 : decode cX7_refusePlace 15 = .ok (.ireturn, 1) := by decide +kernel
theorem dX7_refusePlace_16 : decode cX7_refusePlace 16 = .ok (.aload_n 1, 1) := by decide +kernel
theorem dX7_refusePlace_17 : decode cX7_refusePlace 17 = .ok (.iload_n 2, 1) := by decide +kernel
theorem dX7_refusePlace_18 : decode cX7_refusePlace 18 = .ok (.iload_n 3, 1) := by decide +kernel
theorem dX7_refusePlace_19 : decode cX7_refusePlace 19 = .ok (.invokevirtual 266, 3) := by decide +kernel
theorem dX7_refusePlace_22 : decode cX7_refusePlace 22 = .ok (.ifCond .eq 7, 3) := by decide +kernel
theorem dX7_refusePlace_25 : decode cX7_refusePlace 25 = .ok (.iconst 0, 1) := by decide +kernel
theorem dX7_refusePlace_26 : decode cX7_refusePlace 26 = .ok (.goto 8, 3) := by decide +kernel
theorem dX7_refusePlace_29 : decode cX7_refusePlace 29 = .ok (.aload_n 0, 1) := by decide +kernel
theorem dX7_refusePlace_30 : decode cX7_refusePlace 30 = .ok (.iconst 2, 1) := by decide +kernel
theorem dX7_refusePlace_31 : decode cX7_refusePlace 31 = .ok (.invokevirtual 111, 3) := by decide +kernel
theorem dX7_refusePlace_34 : decode cX7_refusePlace 34 = .ok (.ireturn, 1) := by decide +kernel
set_option maxRecDepth 20000 in
theorem ggX7_makeOn_X5_names : GoodIn wsX7_makeOn wsX5_names := goodIn_r _ [6, 7, 22, 23, 24] (by decide +kernel) (by decide +kernel)
set_option maxRecDepth 20000 in
theorem gX7_makeOn_X5_names : GoodIn wsX7_makeOn (wsV RX7 107 RX5 yX5_names wsX5_names) := goodIn_app (goodIn_of _ (by decide +kernel)) ggX7_makeOn_X5_names
set_option maxRecDepth 20000 in
theorem ggX7_makeOn_X7_refuse : GoodIn wsX7_makeOn wsX7_refuse := goodIn_r _ [12, 13, 14, 25, 26, 27, 28, 29, 30, 31, 32, 33, 34, 35, 36, 37, 38] (by decide +kernel) (by decide +kernel)
set_option maxRecDepth 20000 in
theorem gX7_makeOn_X7_refuse : GoodIn wsX7_makeOn (wsV RX7 111 RX7 yX7_refuse wsX7_refuse) := goodIn_app (goodIn_of _ (by decide +kernel)) ggX7_makeOn_X7_refuse
set_option maxRecDepth 20000 in
theorem ggX7_makeOn_X5_make : GoodIn wsX7_makeOn wsX5_make := goodIn_r _ [18, 19, 7, 20, 21, 3, 4, 5, 6, 22, 23, 24] (by decide +kernel) (by decide +kernel)
set_option maxRecDepth 20000 in
theorem gX7_makeOn_X5_make : GoodIn wsX7_makeOn (wsV RX7 272 RX5 yX5_make wsX5_make) := goodIn_app (goodIn_of _ (by decide +kernel)) ggX7_makeOn_X5_make
theorem dX7_makeOn_0 : decode cX7_makeOn 0 = .ok (.aload_n 1, 1) := by decide +kernel
theorem dX7_makeOn_1 : decode cX7_makeOn 1 = .ok (.iload_n 2, 1) := by decide +kernel
theorem dX7_makeOn_2 : decode cX7_makeOn 2 = .ok (.invokevirtual 107, 3) := by decide +kernel
theorem dX7_makeOn_5 : decode cX7_makeOn 5 = .ok (.ifCond .eq 11, 3) := by decide +kernel
theorem dX7_makeOn_8 : decode cX7_makeOn 8 = .ok (.iload_n 3, 1) := by decide +kernel
theorem dX7_makeOn_9 : decode cX7_makeOn 9 = .ok (.aload_n 1, 1) := by decide +kernel
theorem dX7_makeOn_10 : decode cX7_makeOn 10 = .ok (.getfield 269, 3) := by decide +kernel
theorem dX7_makeOn_13 : decode cX7_makeOn 13 = .ok (.if_icmp .le 5, 3) := by decide +kernel
theorem dX7_makeOn_16 : decode cX7_makeOn 16 = .ok (.iconst (-1), 1) := by decide +kernel
theorem dX7_makeOn_17 : decode cX7_makeOn 17 = .ok (.ireturn, 1) := by decide +kernel
theorem dX7_makeOn_18 : decode cX7_makeOn 18 = .ok (.iload_n 3, 1) := by decide +kernel
theorem dX7_makeOn_19 : decode cX7_makeOn 19 = .ok (.ifCond .ge 9, 3) := by decide +kernel
theorem dX7_makeOn_22 : decode cX7_makeOn 22 = .ok (.aload_n 0, 1) := by decide +kernel
theorem dX7_makeOn_23 : decode cX7_makeOn 23 = .ok (.iconst 5, 1) := by decide +kernel
theorem dX7_makeOn_24 : decode cX7_makeOn 24 = .ok (.invokevirtual 111, 3) := by decide +kernel
theorem dX7_makeOn_27 : decode cX7_makeOn 27 = .ok (.ireturn, 1) := by decide +kernel
theorem dX7_makeOn_28 : decode cX7_makeOn 28 = .ok (.aload_n 1, 1) := by decide +kernel
theorem dX7_makeOn_29 : decode cX7_makeOn 29 = .ok (.iload_n 2, 1) := by decide +kernel
theorem dX7_makeOn_30 : decode cX7_makeOn 30 = .ok (.iload_n 3, 1) := by decide +kernel
theorem dX7_makeOn_31 : decode cX7_makeOn 31 = .ok (.iload 4, 2) := by decide +kernel
theorem dX7_makeOn_33 : decode cX7_makeOn 33 = .ok (.invokevirtual 272, 3) := by decide +kernel
theorem dX7_makeOn_36 : decode cX7_makeOn 36 = .ok (.iload_n 3, 1) := by decide +kernel
theorem dX7_makeOn_37 : decode cX7_makeOn 37 = .ok (.ireturn, 1) := by decide +kernel
set_option maxRecDepth 20000 in
theorem ggX7_tellWord_X6_length : GoodIn wsX7_tellWord wsX6_length := goodIn_r _ [5] (by decide +kernel) (by decide +kernel)
set_option maxRecDepth 20000 in
theorem gX7_tellWord_X6_length : GoodIn wsX7_tellWord (va_wsS RX7 275 yX6_length wsX6_length) := goodIn_app (goodIn_of _ (by decide +kernel)) ggX7_tellWord_X6_length
set_option maxRecDepth 20000 in
theorem ggX7_tellWord_X6_figures : GoodIn wsX7_tellWord wsX6_figures := goodIn_r _ [8, 9, 3, 4, 5, 10, 11, 12] (by decide +kernel) (by decide +kernel)
set_option maxRecDepth 20000 in
theorem gX7_tellWord_X6_figures : GoodIn wsX7_tellWord (va_wsS RX7 238 yX6_figures wsX6_figures) := goodIn_app (goodIn_of _ (by decide +kernel)) ggX7_tellWord_X6_figures
theorem dX7_tellWord_0 : decode cX7_tellWord 0 = .ok (.aload_n 0, 1) := by decide +kernel
theorem dX7_tellWord_1 : decode cX7_tellWord 1 = .ok (.iload_n 1, 1) := by decide +kernel
theorem dX7_tellWord_2 : decode cX7_tellWord 2 = .ok (.invokestatic 275, 3) := by decide +kernel
theorem dX7_tellWord_5 : decode cX7_tellWord 5 = .ok (.putfield 73, 3) := by decide +kernel
theorem dX7_tellWord_8 : decode cX7_tellWord 8 = .ok (.iload_n 1, 1) := by decide +kernel
theorem dX7_tellWord_9 : decode cX7_tellWord 9 = .ok (.invokestatic 238, 3) := by decide +kernel
theorem dX7_tellWord_12 : decode cX7_tellWord 12 = .ok (.ireturn, 1) := by decide +kernel
set_option maxRecDepth 20000 in
theorem ggX7_doDeed_X0_add : GoodIn wsX7_doDeed wsX0_add := goodIn_r _ [10, 11, 12, 13, 14, 132, 133, 134, 135] (by decide +kernel) (by decide +kernel)
set_option maxRecDepth 20000 in
theorem gX7_doDeed_X0_add : GoodIn wsX7_doDeed (wsV RX7 278 RX0 yX0_add wsX0_add) := goodIn_app (goodIn_of _ (by decide +kernel)) ggX7_doDeed_X0_add
set_option maxRecDepth 20000 in
theorem ggX7_doDeed_X1_apply : GoodIn wsX7_doDeed wsX1_apply := goodIn_r _ [19, 20, 21, 22, 18, 23, 24, 25, 26, 27, 28, 29, 30, 31, 32, 33, 34, 35, 36, 37, 38, 39, 40, 41, 42, 43, 44, 45, 46, 47, 48, 49, 50, 51, 52, 136, 137, 138] (by decide +kernel) (by decide +kernel)
set_option maxRecDepth 20000 in
theorem gX7_doDeed_X1_apply : GoodIn wsX7_doDeed (wsV RX7 281 RX1 yX1_apply wsX1_apply) := goodIn_app (goodIn_of _ (by decide +kernel)) ggX7_doDeed_X1_apply
set_option maxRecDepth 20000 in
theorem ggX7_doDeed_X3_build : GoodIn wsX7_doDeed wsX3_build := goodIn_r _ [57, 58, 59, 60, 61, 62, 56, 63, 64, 65, 66, 67, 68, 69, 70, 71, 72, 18, 73, 24, 25, 74, 75, 45, 76, 77, 78, 79, 80, 81, 82, 83, 84, 85, 47, 48, 49, 86, 87, 88, 50, 51, 52, 89, 90, 91, 92, 139, 140, 141, 142, 143, 144, 145, 136, 137, 138] (by decide +kernel) (by decide +kernel)
set_option maxRecDepth 20000 in
theorem gX7_doDeed_X3_build : GoodIn wsX7_doDeed (wsV RX7 284 RX3 yX3_build wsX3_build) := goodIn_app (goodIn_of _ (by decide +kernel)) ggX7_doDeed_X3_build
set_option maxRecDepth 20000 in
theorem ggX7_doDeed_X3_tellChanges : GoodIn wsX7_doDeed wsX3_tellChanges := goodIn_r _ [96, 58, 64, 97, 98, 99, 56, 100, 101, 102, 103, 104, 69, 105, 106, 107, 108, 109, 110, 83, 111, 112, 113, 114, 115, 116, 117, 139, 140, 141, 142, 143, 144, 145] (by decide +kernel) (by decide +kernel)
set_option maxRecDepth 20000 in
theorem gX7_doDeed_X3_tellChanges : GoodIn wsX7_doDeed (wsV RX7 287 RX3 yX3_tellChanges wsX3_tellChanges) := goodIn_app (goodIn_of _ (by decide +kernel)) ggX7_doDeed_X3_tellChanges
theorem dX7_doDeed_0 : decode cX7_doDeed 0 = .ok (.aload_n 0, 1) := by decide +kernel
theorem dX7_doDeed_1 : decode cX7_doDeed 1 = .ok (.getfield 41, 3) := by decide +kernel
theorem dX7_doDeed_4 : decode cX7_doDeed 4 = .ok (.iload_n 1, 1) := by decide +kernel
theorem dX7_doDeed_5 : decode cX7_doDeed 5 = .ok (.iload_n 2, 1) := by decide +kernel
theorem dX7_doDeed_6 : decode cX7_doDeed 6 = .ok (.iload_n 3, 1) := by decide +kernel
theorem dX7_doDeed_7 : decode cX7_doDeed 7 = .ok (.invokevirtual 278, 3) := by decide +kernel
theorem dX7_doDeed_10 : decode cX7_doDeed 10 = .ok (.aload_n 0, 1) := by decide +kernel
theorem dX7_doDeed_11 : decode cX7_doDeed 11 = .ok (.getfield 35, 3) := by decide +kernel
theorem dX7_doDeed_14 : decode cX7_doDeed 14 = .ok (.iload_n 1, 1) := by decide +kernel
theorem dX7_doDeed_15 : decode cX7_doDeed 15 = .ok (.iload_n 2, 1) := by decide +kernel
theorem dX7_doDeed_16 : decode cX7_doDeed 16 = .ok (.iload_n 3, 1) := by decide +kernel
theorem dX7_doDeed_17 : decode cX7_doDeed 17 = .ok (.invokevirtual 281, 3) := by decide +kernel
theorem dX7_doDeed_20 : decode cX7_doDeed 20 = .ok (.aload_n 0, 1) := by decide +kernel
theorem dX7_doDeed_21 : decode cX7_doDeed 21 = .ok (.getfield 70, 3) := by decide +kernel
theorem dX7_doDeed_24 : decode cX7_doDeed 24 = .ok (.astore 4, 2) := by decide +kernel
theorem dX7_doDeed_26 : decode cX7_doDeed 26 = .ok (.aload_n 0, 1) := by decide +kernel
theorem dX7_doDeed_27 : decode cX7_doDeed 27 = .ok (.aload_n 0, 1) := by decide +kernel
theorem dX7_doDeed_28 : decode cX7_doDeed 28 = .ok (.getfield 66, 3) := by decide +kernel
theorem dX7_doDeed_31 : decode cX7_doDeed 31 = .ok (.putfield 70, 3) := by decide +kernel
theorem dX7_doDeed_34 : decode cX7_doDeed 34 = .ok (.aload_n 0, 1) := by decide +kernel
theorem dX7_doDeed_35 : decode cX7_doDeed 35 = .ok (.aload 4, 2) := by decide +kernel
theorem dX7_doDeed_37 : decode cX7_doDeed 37 = .ok (.putfield 66, 3) := by decide +kernel
theorem dX7_doDeed_40 : decode cX7_doDeed 40 = .ok (.aload_n 0, 1) := by decide +kernel
theorem dX7_doDeed_41 : decode cX7_doDeed 41 = .ok (.getfield 66, 3) := by decide +kernel
theorem dX7_doDeed_44 : decode cX7_doDeed 44 = .ok (.aload_n 0, 1) := by decide +kernel
theorem dX7_doDeed_45 : decode cX7_doDeed 45 = .ok (.getfield 35, 3) := by decide +kernel
theorem dX7_doDeed_48 : decode cX7_doDeed 48 = .ok (.invokevirtual 284, 3) := by decide +kernel
theorem dX7_doDeed_51 : decode cX7_doDeed 51 = .ok (.aload_n 0, 1) := by decide +kernel
theorem dX7_doDeed_52 : decode cX7_doDeed 52 = .ok (.getfield 66, 3) := by decide +kernel
theorem dX7_doDeed_55 : decode cX7_doDeed 55 = .ok (.aload_n 0, 1) := by decide +kernel
theorem dX7_doDeed_56 : decode cX7_doDeed 56 = .ok (.getfield 70, 3) := by decide +kernel
theorem dX7_doDeed_59 : decode cX7_doDeed 59 = .ok (.aload_n 0, 1) := by decide +kernel
theorem dX7_doDeed_60 : decode cX7_doDeed 60 = .ok (.getfield 56, 3) := by decide +kernel
theorem dX7_doDeed_63 : decode cX7_doDeed 63 = .ok (.invokevirtual 287, 3) := by decide +kernel
theorem dX7_doDeed_66 : decode cX7_doDeed 66 = .ok (.return_, 1) := by decide +kernel
set_option maxRecDepth 20000 in
theorem ggX7_doLot_X7_lotWord : GoodIn wsX7_doLot wsX7_lotWord := goodIn_r _ [6, 7, 8, 9, 10, 11, 12, 13] (by decide +kernel) (by decide +kernel)
set_option maxRecDepth 20000 in
theorem gX7_doLot_X7_lotWord : GoodIn wsX7_doLot (va_wsS RX7 291 yX7_lotWord wsX7_lotWord) := goodIn_app (goodIn_of _ (by decide +kernel)) ggX7_doLot_X7_lotWord
set_option maxRecDepth 20000 in
theorem ggX7_doLot_X1_hasRoomFor : GoodIn wsX7_doLot wsX1_hasRoomFor := goodIn_r _ [18, 19, 20, 21, 22, 17, 23, 24, 25, 26, 27, 28, 76, 77, 78] (by decide +kernel) (by decide +kernel)
set_option maxRecDepth 20000 in
theorem gX7_doLot_X1_hasRoomFor : GoodIn wsX7_doLot (wsV RX7 162 RX1 yX1_hasRoomFor wsX1_hasRoomFor) := goodIn_app (goodIn_of _ (by decide +kernel)) ggX7_doLot_X1_hasRoomFor
set_option maxRecDepth 20000 in
theorem ggX7_doLot_X1_has : GoodIn wsX7_doLot wsX1_has := goodIn_r _ [23, 19, 24, 25, 26, 27, 17, 28, 76, 77, 78] (by decide +kernel) (by decide +kernel)
set_option maxRecDepth 20000 in
theorem gX7_doLot_X1_has : GoodIn wsX7_doLot (wsV RX7 172 RX1 yX1_has wsX1_has) := goodIn_app (goodIn_of _ (by decide +kernel)) ggX7_doLot_X1_has
set_option maxRecDepth 20000 in
theorem ggX7_doLot_X0_add : GoodIn wsX7_doLot wsX0_add := goodIn_r _ [34, 35, 36, 37, 38, 79, 80, 81, 82] (by decide +kernel) (by decide +kernel)
set_option maxRecDepth 20000 in
theorem gX7_doLot_X0_add : GoodIn wsX7_doLot (wsV RX7 278 RX0 yX0_add wsX0_add) := goodIn_app (goodIn_of _ (by decide +kernel)) ggX7_doLot_X0_add
set_option maxRecDepth 20000 in
theorem ggX7_doLot_X1_apply : GoodIn wsX7_doLot wsX1_apply := goodIn_r _ [42, 43, 44, 45, 17, 46, 19, 24, 47, 25, 26, 27, 28, 20, 21, 22, 23, 48, 49, 50, 51, 52, 53, 54, 55, 56, 57, 9, 58, 59, 60, 61, 11, 12, 13, 76, 77, 78] (by decide +kernel) (by decide +kernel)
set_option maxRecDepth 20000 in
theorem gX7_doLot_X1_apply : GoodIn wsX7_doLot (wsV RX7 281 RX1 yX1_apply wsX1_apply) := goodIn_app (goodIn_of _ (by decide +kernel)) ggX7_doLot_X1_apply
theorem dX7_doLot_0 : decode cX7_doLot 0 = .ok (.iload_n 1, 1) := by decide +kernel
theorem dX7_doLot_1 : decode cX7_doLot 1 = .ok (.invokestatic 291, 3) := by decide +kernel
theorem dX7_doLot_4 : decode cX7_doLot 4 = .ok (.istore_n 2, 1) := by decide +kernel
theorem dX7_doLot_5 : decode cX7_doLot 5 = .ok (.iload_n 1, 1) := by decide +kernel
theorem dX7_doLot_6 : decode cX7_doLot 6 = .ok (.iconst 4, 1) := by decide +kernel
theorem dX7_doLot_7 : decode cX7_doLot 7 = .ok (.idiv, 1) := by decide +kernel
theorem dX7_doLot_8 : decode cX7_doLot 8 = .ok (.iconst 2, 1) := by decide +kernel
theorem dX7_doLot_9 : decode cX7_doLot 9 = .ok (.irem, 1) := by decide +kernel
theorem dX7_doLot_10 : decode cX7_doLot 10 = .ok (.ifCond .ne 7, 3) := by decide +kernel
theorem dX7_doLot_13 : decode cX7_doLot 13 = .ok (.iconst 1, 1) := by decide +kernel
theorem dX7_doLot_14 : decode cX7_doLot 14 = .ok (.goto 4, 3) := by decide +kernel
theorem dX7_doLot_17 : decode cX7_doLot 17 = .ok (.iconst 2, 1) := by decide +kernel
theorem dX7_doLot_18 : decode cX7_doLot 18 = .ok (.istore_n 3, 1) := by decide +kernel
theorem dX7_doLot_19 : decode cX7_doLot 19 = .ok (.iload_n 3, 1) := by decide +kernel
theorem dX7_doLot_20 : decode cX7_doLot 20 = .ok (.iconst 1, 1) := by decide +kernel
theorem dX7_doLot_21 : decode cX7_doLot 21 = .ok (.if_icmp .ne 14, 3) := by decide +kernel
theorem dX7_doLot_24 : decode cX7_doLot 24 = .ok (.aload_n 0, 1) := by decide +kernel
theorem dX7_doLot_25 : decode cX7_doLot 25 = .ok (.getfield 35, 3) := by decide +kernel
theorem dX7_doLot_28 : decode cX7_doLot 28 = .ok (.iload_n 2, 1) := by decide +kernel
theorem dX7_doLot_29 : decode cX7_doLot 29 = .ok (.invokevirtual 162, 3) := by decide +kernel
theorem dX7_doLot_32 : decode cX7_doLot 32 = .ok (.goto 11, 3) := by decide +kernel
theorem dX7_doLot_35 : decode cX7_doLot 35 = .ok (.aload_n 0, 1) := by decide +kernel
theorem dX7_doLot_36 : decode cX7_doLot 36 = .ok (.getfield 35, 3) := by decide +kernel
theorem dX7_doLot_39 : decode cX7_doLot 39 = .ok (.iload_n 2, 1) := by decide +kernel
theorem dX7_doLot_40 : decode cX7_doLot 40 = .ok (.invokevirtual 172, 3) := by decide +kernel
theorem dX7_doLot_43 : decode cX7_doLot 43 = .ok (.istore 4, 2) := by decide +kernel
theorem dX7_doLot_45 : decode cX7_doLot 45 = .ok (.iload 4, 2) := by decide +kernel
theorem dX7_doLot_47 : decode cX7_doLot 47 = .ok (.ifCond .eq 7, 3) := by decide +kernel
theorem dX7_doLot_50 : decode cX7_doLot 50 = .ok (.iload_n 3, 1) := by decide +kernel
theorem dX7_doLot_51 : decode cX7_doLot 51 = .ok (.goto 4, 3) := by decide +kernel
theorem dX7_doLot_54 : decode cX7_doLot 54 = .ok (.iconst 0, 1) := by decide +kernel
theorem dX7_doLot_55 : decode cX7_doLot 55 = .ok (.istore 5, 2) := by decide +kernel
theorem dX7_doLot_57 : decode cX7_doLot 57 = .ok (.iload_n 1, 1) := by decide +kernel
theorem dX7_doLot_58 : decode cX7_doLot 58 = .ok (.bipush 8, 2) := by decide +kernel
theorem dX7_doLot_60 : decode cX7_doLot 60 = .ok (.idiv, 1) := by decide +kernel
theorem dX7_doLot_61 : decode cX7_doLot 61 = .ok (.sipush 1000, 3) := by decide +kernel
theorem dX7_doLot_64 : decode cX7_doLot 64 = .ok (.irem, 1) := by decide +kernel
theorem dX7_doLot_65 : decode cX7_doLot 65 = .ok (.istore 6, 2) := by decide +kernel
theorem dX7_doLot_67 : decode cX7_doLot 67 = .ok (.aload_n 0, 1) := by decide +kernel
theorem dX7_doLot_68 : decode cX7_doLot 68 = .ok (.getfield 41, 3) := by decide +kernel
theorem dX7_doLot_71 : decode cX7_doLot 71 = .ok (.iload 5, 2) := by decide +kernel
theorem dX7_doLot_73 : decode cX7_doLot 73 = .ok (.iload_n 2, 1) := by decide +kernel
theorem dX7_doLot_74 : decode cX7_doLot 74 = .ok (.iload 6, 2) := by decide +kernel
theorem dX7_doLot_76 : decode cX7_doLot 76 = .ok (.invokevirtual 278, 3) := by decide +kernel
theorem dX7_doLot_79 : decode cX7_doLot 79 = .ok (.aload_n 0, 1) := by decide +kernel
theorem dX7_doLot_80 : decode cX7_doLot 80 = .ok (.getfield 35, 3) := by decide +kernel
theorem dX7_doLot_83 : decode cX7_doLot 83 = .ok (.iload 5, 2) := by decide +kernel
theorem dX7_doLot_85 : decode cX7_doLot 85 = .ok (.iload_n 2, 1) := by decide +kernel
theorem dX7_doLot_86 : decode cX7_doLot 86 = .ok (.iload 6, 2) := by decide +kernel
theorem dX7_doLot_88 : decode cX7_doLot 88 = .ok (.invokevirtual 281, 3) := by decide +kernel
theorem dX7_doLot_91 : decode cX7_doLot 91 = .ok (.return_, 1) := by decide +kernel
set_option maxRecDepth 20000 in
theorem ggX7_lotWord_X6_pack : GoodIn wsX7_lotWord wsX6_pack := goodIn_r _ [4, 5, 6, 3, 7] (by decide +kernel) (by decide +kernel)
set_option maxRecDepth 20000 in
theorem gX7_lotWord_X6_pack : GoodIn wsX7_lotWord (va_wsS RX7 158 yX6_pack wsX6_pack) := goodIn_app (goodIn_of _ (by decide +kernel)) ggX7_lotWord_X6_pack
theorem dX7_lotWord_0 : decode cX7_lotWord 0 = .ok (.iload_n 0, 1) := by decide +kernel
theorem dX7_lotWord_1 : decode cX7_lotWord 1 = .ok (.iconst 3, 1) := by decide +kernel
theorem dX7_lotWord_2 : decode cX7_lotWord 2 = .ok (.irem, 1) := by decide +kernel
theorem dX7_lotWord_3 : decode cX7_lotWord 3 = .ok (.iconst 1, 1) := by decide +kernel
theorem dX7_lotWord_4 : decode cX7_lotWord 4 = .ok (.iadd, 1) := by decide +kernel
theorem dX7_lotWord_5 : decode cX7_lotWord 5 = .ok (.istore_n 1, 1) := by decide +kernel
theorem dX7_lotWord_6 : decode cX7_lotWord 6 = .ok (.iload_n 0, 1) := by decide +kernel
theorem dX7_lotWord_7 : decode cX7_lotWord 7 = .ok (.bipush 16, 2) := by decide +kernel
theorem dX7_lotWord_9 : decode cX7_lotWord 9 = .ok (.idiv, 1) := by decide +kernel
theorem dX7_lotWord_10 : decode cX7_lotWord 10 = .ok (.istore_n 2, 1) := by decide +kernel
theorem dX7_lotWord_11 : decode cX7_lotWord 11 = .ok (.iconst 0, 1) := by decide +kernel
theorem dX7_lotWord_12 : decode cX7_lotWord 12 = .ok (.istore_n 3, 1) := by decide +kernel
theorem dX7_lotWord_13 : decode cX7_lotWord 13 = .ok (.iconst 0, 1) := by decide +kernel
theorem dX7_lotWord_14 : decode cX7_lotWord 14 = .ok (.istore 4, 2) := by decide +kernel
theorem dX7_lotWord_16 : decode cX7_lotWord 16 = .ok (.iload 4, 2) := by decide +kernel
theorem dX7_lotWord_18 : decode cX7_lotWord 18 = .ok (.iload_n 1, 1) := by decide +kernel
theorem dX7_lotWord_19 : decode cX7_lotWord 19 = .ok (.if_icmp .ge 37, 3) := by decide +kernel
theorem dX7_lotWord_22 : decode cX7_lotWord 22 = .ok (.iload_n 2, 1) := by decide +kernel
theorem dX7_lotWord_23 : decode cX7_lotWord 23 = .ok (.iconst 4, 1) := by decide +kernel
theorem dX7_lotWord_24 : decode cX7_lotWord 24 = .ok (.irem, 1) := by decide +kernel
theorem dX7_lotWord_25 : decode cX7_lotWord 25 = .ok (.istore 5, 2) := by decide +kernel
theorem dX7_lotWord_27 : decode cX7_lotWord 27 = .ok (.iload_n 3, 1) := by decide +kernel
theorem dX7_lotWord_28 : decode cX7_lotWord 28 = .ok (.bipush 16, 2) := by decide +kernel
theorem dX7_lotWord_30 : decode cX7_lotWord 30 = .ok (.imul, 1) := by decide +kernel
theorem dX7_lotWord_31 : decode cX7_lotWord 31 = .ok (.iload 5, 2) := by decide +kernel
theorem dX7_lotWord_33 : decode cX7_lotWord 33 = .ok (.iconst 3, 1) := by decide +kernel
theorem dX7_lotWord_34 : decode cX7_lotWord 34 = .ok (.if_icmp .ne 8, 3) := by decide +kernel
theorem dX7_lotWord_37 : decode cX7_lotWord 37 = .ok (.bipush 15, 2) := by decide +kernel
theorem dX7_lotWord_39 : decode cX7_lotWord 39 = .ok (.goto 5, 3) := by decide +kernel
theorem dX7_lotWord_42 : decode cX7_lotWord 42 = .ok (.iload 5, 2) := by decide +kernel
theorem dX7_lotWord_44 : decode cX7_lotWord 44 = .ok (.iadd, 1) := by decide +kernel
theorem dX7_lotWord_45 : decode cX7_lotWord 45 = .ok (.istore_n 3, 1) := by decide +kernel
theorem dX7_lotWord_46 : decode cX7_lotWord 46 = .ok (.iload_n 2, 1) := by decide +kernel
theorem dX7_lotWord_47 : decode cX7_lotWord 47 = .ok (.iconst 4, 1) := by decide +kernel
theorem dX7_lotWord_48 : decode cX7_lotWord 48 = .ok (.idiv, 1) := by decide +kernel
theorem dX7_lotWord_49 : decode cX7_lotWord 49 = .ok (.istore_n 2, 1) := by decide +kernel
theorem dX7_lotWord_50 : decode cX7_lotWord 50 = .ok (.iinc 4 1, 3) := by decide +kernel
theorem dX7_lotWord_53 : decode cX7_lotWord 53 = .ok (.goto (-37), 3) := by decide +kernel
theorem dX7_lotWord_56 : decode cX7_lotWord 56 = .ok (.iload_n 3, 1) := by decide +kernel
theorem dX7_lotWord_57 : decode cX7_lotWord 57 = .ok (.iload_n 1, 1) := by decide +kernel
theorem dX7_lotWord_58 : decode cX7_lotWord 58 = .ok (.invokestatic 158, 3) := by decide +kernel
theorem dX7_lotWord_61 : decode cX7_lotWord 61 = .ok (.ireturn, 1) := by decide +kernel
set_option maxRecDepth 20000 in
theorem ggX7_replayDeeds_X1_become : GoodIn wsX7_replayDeeds wsX1_become := goodIn_r _ [8, 9, 10, 11, 12, 13, 14, 15, 120, 121, 122] (by decide +kernel) (by decide +kernel)
set_option maxRecDepth 20000 in
theorem gX7_replayDeeds_X1_become : GoodIn wsX7_replayDeeds (wsV RX7 137 RX1 yX1_become wsX1_become) := goodIn_app (goodIn_of _ (by decide +kernel)) ggX7_replayDeeds_X1_become
set_option maxRecDepth 20000 in
theorem ggX7_replayDeeds_X0_replayOn : GoodIn wsX7_replayDeeds wsX0_replayOn := goodIn_r _ [20, 21, 22, 23, 24, 25, 26, 27, 7, 28, 29, 30, 31, 32, 15, 9, 14, 33, 34, 35, 36, 37, 38, 39, 40, 41, 42, 43, 44, 45, 46, 47, 48, 49, 50, 51, 52, 53, 54, 55, 56, 57, 58, 123, 124, 125, 126, 120, 121, 122] (by decide +kernel) (by decide +kernel)
set_option maxRecDepth 20000 in
theorem gX7_replayDeeds_X0_replayOn : GoodIn wsX7_replayDeeds (wsV RX7 294 RX0 yX0_replayOn wsX0_replayOn) := goodIn_app (goodIn_of _ (by decide +kernel)) ggX7_replayDeeds_X0_replayOn
set_option maxRecDepth 20000 in
theorem ggX7_replayDeeds_X7_settle : GoodIn wsX7_replayDeeds wsX7_settle := goodIn_r _ [63, 64, 1, 65, 66, 67, 68, 69, 70, 71, 72, 73, 74, 75, 76, 77, 78, 79, 80, 81, 82, 83, 84, 85, 7, 86, 15, 9, 87, 88, 51, 89, 90, 91, 92, 93, 94, 95, 96, 97, 98, 53, 54, 55, 99, 100, 101, 56, 57, 58, 102, 103, 104, 105, 106, 107, 108, 109, 110, 111, 112, 113, 114, 115, 116, 117, 118, 119, 127, 128, 129, 130, 131, 132, 133, 120, 121, 122] (by decide +kernel) (by decide +kernel)
set_option maxRecDepth 20000 in
theorem gX7_replayDeeds_X7_settle : GoodIn wsX7_replayDeeds (wsV RX7 250 RX7 yX7_settle wsX7_settle) := goodIn_app (goodIn_of _ (by decide +kernel)) ggX7_replayDeeds_X7_settle
theorem dX7_replayDeeds_0 : decode cX7_replayDeeds 0 = .ok (.aload_n 0, 1) := by decide +kernel
theorem dX7_replayDeeds_1 : decode cX7_replayDeeds 1 = .ok (.getfield 35, 3) := by decide +kernel
theorem dX7_replayDeeds_4 : decode cX7_replayDeeds 4 = .ok (.aload_n 0, 1) := by decide +kernel
theorem dX7_replayDeeds_5 : decode cX7_replayDeeds 5 = .ok (.getfield 31, 3) := by decide +kernel
theorem dX7_replayDeeds_8 : decode cX7_replayDeeds 8 = .ok (.invokevirtual 137, 3) := by decide +kernel
theorem dX7_replayDeeds_11 : decode cX7_replayDeeds 11 = .ok (.aload_n 0, 1) := by decide +kernel
theorem dX7_replayDeeds_12 : decode cX7_replayDeeds 12 = .ok (.getfield 41, 3) := by decide +kernel
theorem dX7_replayDeeds_15 : decode cX7_replayDeeds 15 = .ok (.aload_n 0, 1) := by decide +kernel
theorem dX7_replayDeeds_16 : decode cX7_replayDeeds 16 = .ok (.getfield 35, 3) := by decide +kernel
theorem dX7_replayDeeds_19 : decode cX7_replayDeeds 19 = .ok (.invokevirtual 294, 3) := by decide +kernel
theorem dX7_replayDeeds_22 : decode cX7_replayDeeds 22 = .ok (.aload_n 0, 1) := by decide +kernel
theorem dX7_replayDeeds_23 : decode cX7_replayDeeds 23 = .ok (.invokevirtual 250, 3) := by decide +kernel
theorem dX7_replayDeeds_26 : decode cX7_replayDeeds 26 = .ok (.return_, 1) := by decide +kernel
set_option maxRecDepth 20000 in
theorem ggX7_settle_X3_build : GoodIn wsX7_settle wsX3_build := goodIn_r _ [8, 9, 10, 11, 12, 13, 7, 14, 15, 16, 17, 18, 19, 20, 21, 22, 23, 24, 25, 26, 27, 28, 29, 30, 31, 32, 33, 34, 35, 36, 37, 38, 39, 40, 41, 42, 43, 44, 45, 46, 47, 48, 49, 50, 51, 52, 53, 68, 69, 70, 71, 72, 73, 74, 75, 76, 77] (by decide +kernel) (by decide +kernel)
set_option maxRecDepth 20000 in
theorem gX7_settle_X3_build : GoodIn wsX7_settle (wsV RX7 284 RX3 yX3_build wsX3_build) := goodIn_app (goodIn_of _ (by decide +kernel)) ggX7_settle_X3_build
theorem dX7_settle_0 : decode cX7_settle 0 = .ok (.aload_n 0, 1) := by decide +kernel
theorem dX7_settle_1 : decode cX7_settle 1 = .ok (.getfield 66, 3) := by decide +kernel
theorem dX7_settle_4 : decode cX7_settle 4 = .ok (.aload_n 0, 1) := by decide +kernel
theorem dX7_settle_5 : decode cX7_settle 5 = .ok (.getfield 35, 3) := by decide +kernel
theorem dX7_settle_8 : decode cX7_settle 8 = .ok (.invokevirtual 284, 3) := by decide +kernel
theorem dX7_settle_11 : decode cX7_settle 11 = .ok (.iconst 0, 1) := by decide +kernel
theorem dX7_settle_12 : decode cX7_settle 12 = .ok (.istore_n 1, 1) := by decide +kernel
theorem dX7_settle_13 : decode cX7_settle 13 = .ok (.iload_n 1, 1) := by decide +kernel
theorem dX7_settle_14 : decode cX7_settle 14 = .ok (.iconst 4, 1) := by decide +kernel
theorem dX7_settle_15 : decode cX7_settle 15 = .ok (.if_icmp .ge 16, 3) := by decide +kernel
theorem dX7_settle_18 : decode cX7_settle 18 = .ok (.aload_n 0, 1) := by decide +kernel
theorem dX7_settle_19 : decode cX7_settle 19 = .ok (.getfield 56, 3) := by decide +kernel
theorem dX7_settle_22 : decode cX7_settle 22 = .ok (.iload_n 1, 1) := by decide +kernel
theorem dX7_settle_23 : decode cX7_settle 23 = .ok (.iconst 0, 1) := by decide +kernel
theorem dX7_settle_24 : decode cX7_settle 24 = .ok (.iastore, 1) := by decide +kernel
theorem dX7_settle_25 : decode cX7_settle 25 = .ok (.iinc 1 1, 3) := by decide +kernel
theorem dX7_settle_28 : decode cX7_settle 28 = .ok (.goto (-15), 3) := by decide +kernel
theorem dX7_settle_31 : decode cX7_settle 31 = .ok (.return_, 1) := by decide +kernel
set_option maxRecDepth 20000 in
theorem ggX7_nodeFact_X3_sizeOf : GoodIn wsX7_nodeFact wsX3_sizeOf := goodIn_r _ [7, 8, 9, 10, 6, 11, 12, 13, 14, 15, 16, 17, 18, 19, 20, 21, 22, 23, 24, 25, 26, 27, 69, 70, 71, 72, 73, 74, 75] (by decide +kernel) (by decide +kernel)
set_option maxRecDepth 20000 in
theorem gX7_nodeFact_X3_sizeOf : GoodIn wsX7_nodeFact (wsV RX7 216 RX3 yX3_sizeOf wsX3_sizeOf) := goodIn_app (goodIn_of _ (by decide +kernel)) ggX7_nodeFact_X3_sizeOf
set_option maxRecDepth 20000 in
theorem ggX7_nodeFact_X3_childrenOf : GoodIn wsX7_nodeFact wsX3_childrenOf := goodIn_r _ [31, 12, 13, 14, 15, 6, 16, 17, 69, 70, 71, 72, 73, 74, 75] (by decide +kernel) (by decide +kernel)
set_option maxRecDepth 20000 in
theorem gX7_nodeFact_X3_childrenOf : GoodIn wsX7_nodeFact (wsV RX7 297 RX3 yX3_childrenOf wsX3_childrenOf) := goodIn_app (goodIn_of _ (by decide +kernel)) ggX7_nodeFact_X3_childrenOf
set_option maxRecDepth 20000 in
theorem ggX7_nodeFact_X3_prefixOf : GoodIn wsX7_nodeFact wsX3_prefixOf := goodIn_r _ [35, 36, 13, 14, 15, 6, 16, 17, 69, 70, 71, 72, 73, 74, 75] (by decide +kernel) (by decide +kernel)
set_option maxRecDepth 20000 in
theorem gX7_nodeFact_X3_prefixOf : GoodIn wsX7_nodeFact (wsV RX7 300 RX3 yX3_prefixOf wsX3_prefixOf) := goodIn_app (goodIn_of _ (by decide +kernel)) ggX7_nodeFact_X3_prefixOf
set_option maxRecDepth 20000 in
theorem ggX7_nodeFact_X3_hasEnd : GoodIn wsX7_nodeFact wsX3_hasEnd := goodIn_r _ [40, 41, 42, 13, 14, 15, 6, 16, 17, 43, 44, 45, 46, 47, 48, 49, 69, 70, 71, 72, 73, 74, 75, 76, 77, 78] (by decide +kernel) (by decide +kernel)
set_option maxRecDepth 20000 in
theorem gX7_nodeFact_X3_hasEnd : GoodIn wsX7_nodeFact (wsV RX7 303 RX3 yX3_hasEnd wsX3_hasEnd) := goodIn_app (goodIn_of _ (by decide +kernel)) ggX7_nodeFact_X3_hasEnd
set_option maxRecDepth 20000 in
theorem ggX7_nodeFact_X3_keysBelow : GoodIn wsX7_nodeFact wsX3_keysBelow := goodIn_r _ [53, 54, 41, 13, 14, 15, 6, 16, 17, 69, 70, 71, 72, 73, 74, 75] (by decide +kernel) (by decide +kernel)
set_option maxRecDepth 20000 in
theorem gX7_nodeFact_X3_keysBelow : GoodIn wsX7_nodeFact (wsV RX7 307 RX3 yX3_keysBelow wsX3_keysBelow) := goodIn_app (goodIn_of _ (by decide +kernel)) ggX7_nodeFact_X3_keysBelow
theorem dX7_nodeFact_0 : decode cX7_nodeFact 0 = .ok (.iload_n 2, 1) := by decide +kernel
theorem dX7_nodeFact_1 : decode cX7_nodeFact 1 = .ok (.tableswitch 79 0 3 #[31, 40, 49, 58], 31) := by decide +kernel
theorem dX7_nodeFact_32 : decode cX7_nodeFact 32 = .ok (.aload_n 0, 1) := by decide +kernel
theorem dX7_nodeFact_33 : decode cX7_nodeFact 33 = .ok (.getfield 66, 3) := by decide +kernel
theorem dX7_nodeFact_36 : decode cX7_nodeFact 36 = .ok (.iload_n 1, 1) := by decide +kernel
theorem dX7_nodeFact_37 : decode cX7_nodeFact 37 = .ok (.invokevirtual 216, 3) := by decide +kernel
theorem dX7_nodeFact_40 : decode cX7_nodeFact 40 = .ok (.ireturn, 1) := by decide +kernel
theorem dX7_nodeFact_41 : decode cX7_nodeFact 41 = .ok (.aload_n 0, 1) := by decide +kernel
theorem dX7_nodeFact_42 : decode cX7_nodeFact 42 = .ok (.getfield 66, 3) := by decide +kernel
theorem dX7_nodeFact_45 : decode cX7_nodeFact 45 = .ok (.iload_n 1, 1) := by decide +kernel
theorem dX7_nodeFact_46 : decode cX7_nodeFact 46 = .ok (.invokevirtual 297, 3) := by decide +kernel
theorem dX7_nodeFact_49 : decode cX7_nodeFact 49 = .ok (.ireturn, 1) := by decide +kernel
theorem dX7_nodeFact_50 : decode cX7_nodeFact 50 = .ok (.aload_n 0, 1) := by decide +kernel
theorem dX7_nodeFact_51 : decode cX7_nodeFact 51 = .ok (.getfield 66, 3) := by decide +kernel
theorem dX7_nodeFact_54 : decode cX7_nodeFact 54 = .ok (.iload_n 1, 1) := by decide +kernel
theorem dX7_nodeFact_55 : decode cX7_nodeFact 55 = .ok (.invokevirtual 300, 3) := by decide +kernel
theorem dX7_nodeFact_58 : decode cX7_nodeFact 58 = .ok (.ireturn, 1) := by decide +kernel
theorem dX7_nodeFact_59 : decode cX7_nodeFact 59 = .ok (.aload_n 0, 1) := by decide +kernel
theorem dX7_nodeFact_60 : decode cX7_nodeFact 60 = .ok (.getfield 66, 3) := by decide +kernel
theorem dX7_nodeFact_63 : decode cX7_nodeFact 63 = .ok (.aload_n 0, 1) := by decide +kernel
theorem dX7_nodeFact_64 : decode cX7_nodeFact 64 = .ok (.getfield 35, 3) := by decide +kernel
theorem dX7_nodeFact_67 : decode cX7_nodeFact 67 = .ok (.iload_n 1, 1) := by decide +kernel
theorem dX7_nodeFact_68 : decode cX7_nodeFact 68 = .ok (.invokevirtual 303, 3) := by decide +kernel
theorem dX7_nodeFact_71 : decode cX7_nodeFact 71 = .ok (.ifCond .eq 7, 3) := by decide +kernel
theorem dX7_nodeFact_74 : decode cX7_nodeFact 74 = .ok (.iconst 1, 1) := by decide +kernel
theorem dX7_nodeFact_75 : decode cX7_nodeFact 75 = .ok (.goto 4, 3) := by decide +kernel
theorem dX7_nodeFact_78 : decode cX7_nodeFact 78 = .ok (.iconst 0, 1) := by decide +kernel
theorem dX7_nodeFact_79 : decode cX7_nodeFact 79 = .ok (.ireturn, 1) := by decide +kernel
theorem dX7_nodeFact_80 : decode cX7_nodeFact 80 = .ok (.aload_n 0, 1) := by decide +kernel
theorem dX7_nodeFact_81 : decode cX7_nodeFact 81 = .ok (.getfield 66, 3) := by decide +kernel
theorem dX7_nodeFact_84 : decode cX7_nodeFact 84 = .ok (.iload_n 1, 1) := by decide +kernel
theorem dX7_nodeFact_85 : decode cX7_nodeFact 85 = .ok (.invokevirtual 307, 3) := by decide +kernel
theorem dX7_nodeFact_88 : decode cX7_nodeFact 88 = .ok (.ireturn, 1) := by decide +kernel
set_option maxRecDepth 20000 in
theorem ggX7_counted_X3_countOfSize : GoodIn wsX7_counted wsX3_countOfSize := goodIn_r _ [15, 16, 17, 18, 19, 14, 20, 21, 22, 23, 24, 25, 26, 27, 28, 29, 30, 31, 32, 33, 34, 35, 36, 37, 38, 39, 87, 88, 89, 90, 91, 92, 93] (by decide +kernel) (by decide +kernel)
set_option maxRecDepth 20000 in
theorem gX7_counted_X3_countOfSize : GoodIn wsX7_counted (wsV RX7 310 RX3 yX3_countOfSize wsX3_countOfSize) := goodIn_app (goodIn_of _ (by decide +kernel)) ggX7_counted_X3_countOfSize
set_option maxRecDepth 20000 in
theorem ggX7_counted_X3_allPlaces : GoodIn wsX7_counted wsX3_allPlaces := goodIn_r _ [43, 16, 21, 22, 23, 14, 24, 25, 26, 27, 28, 29, 30, 31, 32, 33, 34, 35, 36, 37, 38, 39, 87, 88, 89, 90, 91, 92, 93] (by decide +kernel) (by decide +kernel)
set_option maxRecDepth 20000 in
theorem gX7_counted_X3_allPlaces : GoodIn wsX7_counted (wsV RX7 230 RX3 yX3_allPlaces wsX3_allPlaces) := goodIn_app (goodIn_of _ (by decide +kernel)) ggX7_counted_X3_allPlaces
set_option maxRecDepth 20000 in
theorem ggX7_counted_X3_deepest : GoodIn wsX7_counted wsX3_deepest := goodIn_r _ [47, 16, 48, 49, 50, 51, 52, 87, 88, 89, 90, 91, 92, 93] (by decide +kernel) (by decide +kernel)
set_option maxRecDepth 20000 in
theorem gX7_counted_X3_deepest : GoodIn wsX7_counted (wsV RX7 313 RX3 yX3_deepest wsX3_deepest) := goodIn_app (goodIn_of _ (by decide +kernel)) ggX7_counted_X3_deepest
set_option maxRecDepth 20000 in
theorem ggX7_counted_X3_longestPrefix : GoodIn wsX7_counted wsX3_longestPrefix := goodIn_r _ [56, 16, 57, 49, 50, 51, 52, 87, 88, 89, 90, 91, 92, 93] (by decide +kernel) (by decide +kernel)
set_option maxRecDepth 20000 in
theorem gX7_counted_X3_longestPrefix : GoodIn wsX7_counted (wsV RX7 316 RX3 yX3_longestPrefix wsX3_longestPrefix) := goodIn_app (goodIn_of _ (by decide +kernel)) ggX7_counted_X3_longestPrefix
set_option maxRecDepth 20000 in
theorem ggX7_counted_X5_held : GoodIn wsX7_counted wsX5_held := goodIn_r _ [62, 63, 100, 101, 102] (by decide +kernel) (by decide +kernel)
set_option maxRecDepth 20000 in
theorem gX7_counted_X5_held : GoodIn wsX7_counted (wsV RX7 319 RX5 yX5_held wsX5_held) := goodIn_app (goodIn_of _ (by decide +kernel)) ggX7_counted_X5_held
set_option maxRecDepth 20000 in
theorem ggX7_counted_X7_keptCount : GoodIn wsX7_counted wsX7_keptCount := goodIn_r _ [68, 69, 6, 70, 71, 72, 73, 74, 75, 76, 77, 78, 79, 80, 81, 82, 83, 94, 95, 96, 97] (by decide +kernel) (by decide +kernel)
set_option maxRecDepth 20000 in
theorem gX7_counted_X7_keptCount : GoodIn wsX7_counted (wsV RX7 322 RX7 yX7_keptCount wsX7_keptCount) := goodIn_app (goodIn_of _ (by decide +kernel)) ggX7_counted_X7_keptCount
theorem dX7_counted_0 : decode cX7_counted 0 = .ok (.iload_n 1, 1) := by decide +kernel
theorem dX7_counted_1 : decode cX7_counted 1 = .ok (.tableswitch 172 0 12 #[67, 75, 83, 92, 101, 110, 119, 127, 135, 143, 151, 159, 167], 67) := by decide +kernel
theorem dX7_counted_68 : decode cX7_counted 68 = .ok (.aload_n 0, 1) := by decide +kernel
theorem dX7_counted_69 : decode cX7_counted 69 = .ok (.getfield 35, 3) := by decide +kernel
theorem dX7_counted_72 : decode cX7_counted 72 = .ok (.getfield 150, 3) := by decide +kernel
theorem dX7_counted_75 : decode cX7_counted 75 = .ok (.ireturn, 1) := by decide +kernel
theorem dX7_counted_76 : decode cX7_counted 76 = .ok (.aload_n 0, 1) := by decide +kernel
theorem dX7_counted_77 : decode cX7_counted 77 = .ok (.getfield 66, 3) := by decide +kernel
theorem dX7_counted_80 : decode cX7_counted 80 = .ok (.getfield 225, 3) := by decide +kernel
theorem dX7_counted_83 : decode cX7_counted 83 = .ok (.ireturn, 1) := by decide +kernel
theorem dX7_counted_84 : decode cX7_counted 84 = .ok (.aload_n 0, 1) := by decide +kernel
theorem dX7_counted_85 : decode cX7_counted 85 = .ok (.getfield 66, 3) := by decide +kernel
theorem dX7_counted_88 : decode cX7_counted 88 = .ok (.iconst 1, 1) := by decide +kernel
theorem dX7_counted_89 : decode cX7_counted 89 = .ok (.invokevirtual 310, 3) := by decide +kernel
theorem dX7_counted_92 : decode cX7_counted 92 = .ok (.ireturn, 1) := by decide +kernel
theorem dX7_counted_93 : decode cX7_counted 93 = .ok (.aload_n 0, 1) := by decide +kernel
theorem dX7_counted_94 : decode cX7_counted 94 = .ok (.getfield 66, 3) := by decide +kernel
theorem dX7_counted_97 : decode cX7_counted 97 = .ok (.iconst 2, 1) := by decide +kernel
theorem dX7_counted_98 : decode cX7_counted 98 = .ok (.invokevirtual 310, 3) := by decide +kernel
theorem dX7_counted_101 : decode cX7_counted 101 = .ok (.ireturn, 1) := by decide +kernel
theorem dX7_counted_102 : decode cX7_counted 102 = .ok (.aload_n 0, 1) := by decide +kernel
theorem dX7_counted_103 : decode cX7_counted 103 = .ok (.getfield 66, 3) := by decide +kernel
theorem dX7_counted_106 : decode cX7_counted 106 = .ok (.iconst 3, 1) := by decide +kernel
theorem dX7_counted_107 : decode cX7_counted 107 = .ok (.invokevirtual 310, 3) := by decide +kernel
theorem dX7_counted_110 : decode cX7_counted 110 = .ok (.ireturn, 1) := by decide +kernel
theorem dX7_counted_111 : decode cX7_counted 111 = .ok (.aload_n 0, 1) := by decide +kernel
theorem dX7_counted_112 : decode cX7_counted 112 = .ok (.getfield 66, 3) := by decide +kernel
theorem dX7_counted_115 : decode cX7_counted 115 = .ok (.iconst 4, 1) := by decide +kernel
theorem dX7_counted_116 : decode cX7_counted 116 = .ok (.invokevirtual 310, 3) := by decide +kernel
theorem dX7_counted_119 : decode cX7_counted 119 = .ok (.ireturn, 1) := by decide +kernel
theorem dX7_counted_120 : decode cX7_counted 120 = .ok (.aload_n 0, 1) := by decide +kernel
theorem dX7_counted_121 : decode cX7_counted 121 = .ok (.getfield 66, 3) := by decide +kernel
theorem dX7_counted_124 : decode cX7_counted 124 = .ok (.invokevirtual 230, 3) := by decide +kernel
theorem dX7_counted_127 : decode cX7_counted 127 = .ok (.ireturn, 1) := by decide +kernel
theorem dX7_counted_128 : decode cX7_counted 128 = .ok (.aload_n 0, 1) := by decide +kernel
theorem dX7_counted_129 : decode cX7_counted 129 = .ok (.getfield 66, 3) := by decide +kernel
theorem dX7_counted_132 : decode cX7_counted 132 = .ok (.invokevirtual 313, 3) := by decide +kernel
theorem dX7_counted_135 : decode cX7_counted 135 = .ok (.ireturn, 1) := by decide +kernel
theorem dX7_counted_136 : decode cX7_counted 136 = .ok (.aload_n 0, 1) := by decide +kernel
theorem dX7_counted_137 : decode cX7_counted 137 = .ok (.getfield 66, 3) := by decide +kernel
theorem dX7_counted_140 : decode cX7_counted 140 = .ok (.invokevirtual 316, 3) := by decide +kernel
theorem dX7_counted_143 : decode cX7_counted 143 = .ok (.ireturn, 1) := by decide +kernel
theorem dX7_counted_144 : decode cX7_counted 144 = .ok (.aload_n 0, 1) := by decide +kernel
theorem dX7_counted_145 : decode cX7_counted 145 = .ok (.getfield 41, 3) := by decide +kernel
theorem dX7_counted_148 : decode cX7_counted 148 = .ok (.getfield 161, 3) := by decide +kernel
theorem dX7_counted_151 : decode cX7_counted 151 = .ok (.ireturn, 1) := by decide +kernel
theorem dX7_counted_152 : decode cX7_counted 152 = .ok (.aload_n 0, 1) := by decide +kernel
theorem dX7_counted_153 : decode cX7_counted 153 = .ok (.getfield 14, 3) := by decide +kernel
theorem dX7_counted_156 : decode cX7_counted 156 = .ok (.invokevirtual 319, 3) := by decide +kernel
theorem dX7_counted_159 : decode cX7_counted 159 = .ok (.ireturn, 1) := by decide +kernel
theorem dX7_counted_160 : decode cX7_counted 160 = .ok (.aload_n 0, 1) := by decide +kernel
theorem dX7_counted_161 : decode cX7_counted 161 = .ok (.getfield 18, 3) := by decide +kernel
theorem dX7_counted_164 : decode cX7_counted 164 = .ok (.invokevirtual 319, 3) := by decide +kernel
theorem dX7_counted_167 : decode cX7_counted 167 = .ok (.ireturn, 1) := by decide +kernel
theorem dX7_counted_168 : decode cX7_counted 168 = .ok (.aload_n 0, 1) := by decide +kernel
theorem dX7_counted_169 : decode cX7_counted 169 = .ok (.invokevirtual 322, 3) := by decide +kernel
theorem dX7_counted_172 : decode cX7_counted 172 = .ok (.ireturn, 1) := by decide +kernel
theorem dX7_counted_173 : decode cX7_counted 173 = .ok (.aload_n 0, 1) := by decide +kernel
theorem dX7_counted_174 : decode cX7_counted 174 = .ok (.getfield 52, 3) := by decide +kernel
theorem dX7_counted_177 : decode cX7_counted 177 = .ok (.getfield 241, 3) := by decide +kernel
theorem dX7_counted_180 : decode cX7_counted 180 = .ok (.ireturn, 1) := by decide +kernel
theorem dX7_keptCount_0 : decode cX7_keptCount 0 = .ok (.iconst 0, 1) := by decide +kernel
theorem dX7_keptCount_1 : decode cX7_keptCount 1 = .ok (.istore_n 1, 1) := by decide +kernel
theorem dX7_keptCount_2 : decode cX7_keptCount 2 = .ok (.iconst 0, 1) := by decide +kernel
theorem dX7_keptCount_3 : decode cX7_keptCount 3 = .ok (.istore_n 2, 1) := by decide +kernel
theorem dX7_keptCount_4 : decode cX7_keptCount 4 = .ok (.iload_n 2, 1) := by decide +kernel
theorem dX7_keptCount_5 : decode cX7_keptCount 5 = .ok (.iconst 3, 1) := by decide +kernel
theorem dX7_keptCount_6 : decode cX7_keptCount 6 = .ok (.if_icmp .ge 25, 3) := by decide +kernel
theorem dX7_keptCount_9 : decode cX7_keptCount 9 = .ok (.aload_n 0, 1) := by decide +kernel
theorem dX7_keptCount_10 : decode cX7_keptCount 10 = .ok (.getfield 45, 3) := by decide +kernel
theorem dX7_keptCount_13 : decode cX7_keptCount 13 = .ok (.iload_n 2, 1) := by decide +kernel
theorem dX7_keptCount_14 : decode cX7_keptCount 14 = .ok (.aaload, 1) := by decide +kernel
theorem dX7_keptCount_15 : decode cX7_keptCount 15 = .ok (.getfield 161, 3) := by decide +kernel
theorem dX7_keptCount_18 : decode cX7_keptCount 18 = .ok (.iconst (-1), 1) := by decide +kernel
theorem dX7_keptCount_19 : decode cX7_keptCount 19 = .ok (.if_icmp .eq 6, 3) := by decide +kernel
theorem dX7_keptCount_22 : decode cX7_keptCount 22 = .ok (.iinc 1 1, 3) := by decide +kernel
theorem dX7_keptCount_25 : decode cX7_keptCount 25 = .ok (.iinc 2 1, 3) := by decide +kernel
theorem dX7_keptCount_28 : decode cX7_keptCount 28 = .ok (.goto (-24), 3) := by decide +kernel
theorem dX7_keptCount_31 : decode cX7_keptCount 31 = .ok (.iload_n 1, 1) := by decide +kernel
theorem dX7_keptCount_32 : decode cX7_keptCount 32 = .ok (.ireturn, 1) := by decide +kernel
theorem dX8_init_0 : decode cX8_init 0 = .ok (.aload_n 0, 1) := by decide +kernel
theorem dX8_init_1 : decode cX8_init 1 = .ok (.invokespecial 1, 3) := by decide +kernel
theorem dX8_init_4 : decode cX8_init 4 = .ok (.aload_n 0, 1) := by decide +kernel
theorem dX8_init_5 : decode cX8_init 5 = .ok (.bipush 6, 2) := by decide +kernel
theorem dX8_init_7 : decode cX8_init 7 = .ok (.newarray .int, 2) := by decide +kernel
theorem dX8_init_9 : decode cX8_init 9 = .ok (.putfield 7, 3) := by decide +kernel
theorem dX8_init_12 : decode cX8_init 12 = .ok (.aload_n 0, 1) := by decide +kernel
theorem dX8_init_13 : decode cX8_init 13 = .ok (.sipush 240, 3) := by decide +kernel
theorem dX8_init_16 : decode cX8_init 16 = .ok (.newarray .int, 2) := by decide +kernel
theorem dX8_init_18 : decode cX8_init 18 = .ok (.putfield 13, 3) := by decide +kernel
theorem dX8_init_21 : decode cX8_init 21 = .ok (.aload_n 0, 1) := by decide +kernel
theorem dX8_init_22 : decode cX8_init 22 = .ok (.iconst 4, 1) := by decide +kernel
theorem dX8_init_23 : decode cX8_init 23 = .ok (.newarray .int, 2) := by decide +kernel
theorem dX8_init_25 : decode cX8_init 25 = .ok (.putfield 16, 3) := by decide +kernel
theorem dX8_init_28 : decode cX8_init 28 = .ok (.aload_n 0, 1) := by decide +kernel
theorem dX8_init_29 : decode cX8_init 29 = .ok (.sipush 360, 3) := by decide +kernel
theorem dX8_init_32 : decode cX8_init 32 = .ok (.newarray .int, 2) := by decide +kernel
theorem dX8_init_34 : decode cX8_init 34 = .ok (.putfield 19, 3) := by decide +kernel
theorem dX8_init_37 : decode cX8_init 37 = .ok (.aload_n 0, 1) := by decide +kernel
theorem dX8_init_38 : decode cX8_init 38 = .ok (.bipush 97, 2) := by decide +kernel
theorem dX8_init_40 : decode cX8_init 40 = .ok (.newarray .int, 2) := by decide +kernel
theorem dX8_init_42 : decode cX8_init 42 = .ok (.putfield 22, 3) := by decide +kernel
theorem dX8_init_45 : decode cX8_init 45 = .ok (.aload_n 0, 1) := by decide +kernel
theorem dX8_init_46 : decode cX8_init 46 = .ok (.bipush 97, 2) := by decide +kernel
theorem dX8_init_48 : decode cX8_init 48 = .ok (.newarray .int, 2) := by decide +kernel
theorem dX8_init_50 : decode cX8_init 50 = .ok (.putfield 25, 3) := by decide +kernel
theorem dX8_init_53 : decode cX8_init 53 = .ok (.aload_n 0, 1) := by decide +kernel
theorem dX8_init_54 : decode cX8_init 54 = .ok (.bipush 97, 2) := by decide +kernel
theorem dX8_init_56 : decode cX8_init 56 = .ok (.newarray .int, 2) := by decide +kernel
theorem dX8_init_58 : decode cX8_init 58 = .ok (.putfield 28, 3) := by decide +kernel
theorem dX8_init_61 : decode cX8_init 61 = .ok (.aload_n 0, 1) := by decide +kernel
theorem dX8_init_62 : decode cX8_init 62 = .ok (.sipush 3880, 3) := by decide +kernel
theorem dX8_init_65 : decode cX8_init 65 = .ok (.newarray .int, 2) := by decide +kernel
theorem dX8_init_67 : decode cX8_init 67 = .ok (.putfield 31, 3) := by decide +kernel
theorem dX8_init_70 : decode cX8_init 70 = .ok (.aload_n 0, 1) := by decide +kernel
theorem dX8_init_71 : decode cX8_init 71 = .ok (.sipush 11934, 3) := by decide +kernel
theorem dX8_init_74 : decode cX8_init 74 = .ok (.newarray .int, 2) := by decide +kernel
theorem dX8_init_76 : decode cX8_init 76 = .ok (.putfield 34, 3) := by decide +kernel
theorem dX8_init_79 : decode cX8_init 79 = .ok (.aload_n 0, 1) := by decide +kernel
theorem dX8_init_80 : decode cX8_init 80 = .ok (.iconst 3, 1) := by decide +kernel
theorem dX8_init_81 : decode cX8_init 81 = .ok (.newarray .boolean, 2) := by decide +kernel
theorem dX8_init_83 : decode cX8_init 83 = .ok (.putfield 37, 3) := by decide +kernel
theorem dX8_init_86 : decode cX8_init 86 = .ok (.aload_n 0, 1) := by decide +kernel
theorem dX8_init_87 : decode cX8_init 87 = .ok (.bipush 6, 2) := by decide +kernel
theorem dX8_init_89 : decode cX8_init 89 = .ok (.newarray .int, 2) := by decide +kernel
theorem dX8_init_91 : decode cX8_init 91 = .ok (.putfield 41, 3) := by decide +kernel
theorem dX8_init_94 : decode cX8_init 94 = .ok (.aload_n 0, 1) := by decide +kernel
theorem dX8_init_95 : decode cX8_init 95 = .ok (.iconst 4, 1) := by decide +kernel
theorem dX8_init_96 : decode cX8_init 96 = .ok (.newarray .int, 2) := by decide +kernel
theorem dX8_init_98 : decode cX8_init 98 = .ok (.putfield 44, 3) := by decide +kernel
theorem dX8_init_101 : decode cX8_init 101 = .ok (.aload_n 0, 1) := by decide +kernel
theorem dX8_init_102 : decode cX8_init 102 = .ok (.bipush 6, 2) := by decide +kernel
theorem dX8_init_104 : decode cX8_init 104 = .ok (.newarray .int, 2) := by decide +kernel
theorem dX8_init_106 : decode cX8_init 106 = .ok (.putfield 47, 3) := by decide +kernel
theorem dX8_init_109 : decode cX8_init 109 = .ok (.aload_n 0, 1) := by decide +kernel
theorem dX8_init_110 : decode cX8_init 110 = .ok (.bipush 47, 2) := by decide +kernel
theorem dX8_init_112 : decode cX8_init 112 = .ok (.newarray .int, 2) := by decide +kernel
theorem dX8_init_114 : decode cX8_init 114 = .ok (.putfield 50, 3) := by decide +kernel
theorem dX8_init_117 : decode cX8_init 117 = .ok (.aload_n 0, 1) := by decide +kernel
theorem dX8_init_118 : decode cX8_init 118 = .ok (.bipush 47, 2) := by decide +kernel
theorem dX8_init_120 : decode cX8_init 120 = .ok (.newarray .int, 2) := by decide +kernel
theorem dX8_init_122 : decode cX8_init 122 = .ok (.putfield 53, 3) := by decide +kernel
theorem dX8_init_125 : decode cX8_init 125 = .ok (.iconst 0, 1) := by decide +kernel
theorem dX8_init_126 : decode cX8_init 126 = .ok (.istore_n 1, 1) := by decide +kernel
theorem dX8_init_127 : decode cX8_init 127 = .ok (.iload_n 1, 1) := by decide +kernel
theorem dX8_init_128 : decode cX8_init 128 = .ok (.bipush 6, 2) := by decide +kernel
theorem dX8_init_130 : decode cX8_init 130 = .ok (.if_icmp .ge 16, 3) := by decide +kernel
theorem dX8_init_133 : decode cX8_init 133 = .ok (.aload_n 0, 1) := by decide +kernel
theorem dX8_init_134 : decode cX8_init 134 = .ok (.getfield 7, 3) := by decide +kernel
theorem dX8_init_137 : decode cX8_init 137 = .ok (.iload_n 1, 1) := by decide +kernel
theorem dX8_init_138 : decode cX8_init 138 = .ok (.iconst (-1), 1) := by decide +kernel
theorem dX8_init_139 : decode cX8_init 139 = .ok (.iastore, 1) := by decide +kernel
theorem dX8_init_140 : decode cX8_init 140 = .ok (.iinc 1 1, 3) := by decide +kernel
theorem dX8_init_143 : decode cX8_init 143 = .ok (.goto (-16), 3) := by decide +kernel
theorem dX8_init_146 : decode cX8_init 146 = .ok (.iconst 0, 1) := by decide +kernel
theorem dX8_init_147 : decode cX8_init 147 = .ok (.istore_n 1, 1) := by decide +kernel
theorem dX8_init_148 : decode cX8_init 148 = .ok (.iload_n 1, 1) := by decide +kernel
theorem dX8_init_149 : decode cX8_init 149 = .ok (.iconst 4, 1) := by decide +kernel
theorem dX8_init_150 : decode cX8_init 150 = .ok (.if_icmp .ge 16, 3) := by decide +kernel
theorem dX8_init_153 : decode cX8_init 153 = .ok (.aload_n 0, 1) := by decide +kernel
theorem dX8_init_154 : decode cX8_init 154 = .ok (.getfield 16, 3) := by decide +kernel
theorem dX8_init_157 : decode cX8_init 157 = .ok (.iload_n 1, 1) := by decide +kernel
theorem dX8_init_158 : decode cX8_init 158 = .ok (.iconst (-1), 1) := by decide +kernel
theorem dX8_init_159 : decode cX8_init 159 = .ok (.iastore, 1) := by decide +kernel
theorem dX8_init_160 : decode cX8_init 160 = .ok (.iinc 1 1, 3) := by decide +kernel
theorem dX8_init_163 : decode cX8_init 163 = .ok (.goto (-15), 3) := by decide +kernel
theorem dX8_init_166 : decode cX8_init 166 = .ok (.return_, 1) := by decide +kernel
theorem dX8_in_0 : decode cX8_in 0 = .ok (.lload_n 0, 1) := by decide +kernel
theorem dX8_in_1 : decode cX8_in 1 = .ok (.lload_n 2, 1) := by decide +kernel
theorem dX8_in_2 : decode cX8_in 2 = .ok (.lcmp, 1) := by decide +kernel
theorem dX8_in_3 : decode cX8_in 3 = .ok (.ifCond .lt 14, 3) := by decide +kernel
theorem dX8_in_6 : decode cX8_in 6 = .ok (.lload_n 0, 1) := by decide +kernel
theorem dX8_in_7 : decode cX8_in 7 = .ok (.lload 4, 2) := by decide +kernel
theorem dX8_in_9 : decode cX8_in 9 = .ok (.lcmp, 1) := by decide +kernel
theorem dX8_in_10 : decode cX8_in 10 = .ok (.ifCond .gt 7, 3) := by decide +kernel
theorem dX8_in_13 : decode cX8_in 13 = .ok (.iconst 1, 1) := by decide +kernel
theorem dX8_in_14 : decode cX8_in 14 = .ok (.goto 4, 3) := by decide +kernel
theorem dX8_in_17 : decode cX8_in 17 = .ok (.iconst 0, 1) := by decide +kernel
theorem dX8_in_18 : decode cX8_in 18 = .ok (.ireturn, 1) := by decide +kernel
theorem dX8_more_0 : decode cX8_more 0 = .ok (.iload_n 0, 1) := by decide +kernel
theorem dX8_more_1 : decode cX8_more 1 = .ok (.iload_n 1, 1) := by decide +kernel
theorem dX8_more_2 : decode cX8_more 2 = .ok (.if_icmp .le 7, 3) := by decide +kernel
theorem dX8_more_5 : decode cX8_more 5 = .ok (.iload_n 0, 1) := by decide +kernel
theorem dX8_more_6 : decode cX8_more 6 = .ok (.goto 4, 3) := by decide +kernel
theorem dX8_more_9 : decode cX8_more 9 = .ok (.iload_n 1, 1) := by decide +kernel
theorem dX8_more_10 : decode cX8_more 10 = .ok (.ireturn, 1) := by decide +kernel
theorem dX8_bits_0 : decode cX8_bits 0 = .ok (.iconst 0, 1) := by decide +kernel
theorem dX8_bits_1 : decode cX8_bits 1 = .ok (.istore_n 1, 1) := by decide +kernel
theorem dX8_bits_2 : decode cX8_bits 2 = .ok (.iload_n 0, 1) := by decide +kernel
theorem dX8_bits_3 : decode cX8_bits 3 = .ok (.istore_n 2, 1) := by decide +kernel
theorem dX8_bits_4 : decode cX8_bits 4 = .ok (.iload_n 2, 1) := by decide +kernel
theorem dX8_bits_5 : decode cX8_bits 5 = .ok (.ifCond .eq 15, 3) := by decide +kernel
theorem dX8_bits_8 : decode cX8_bits 8 = .ok (.iinc 1 1, 3) := by decide +kernel
theorem dX8_bits_11 : decode cX8_bits 11 = .ok (.iload_n 2, 1) := by decide +kernel
theorem dX8_bits_12 : decode cX8_bits 12 = .ok (.iload_n 2, 1) := by decide +kernel
theorem dX8_bits_13 : decode cX8_bits 13 = .ok (.iconst 1, 1) := by decide +kernel
theorem dX8_bits_14 : decode cX8_bits 14 = .ok (.isub, 1) := by decide +kernel
theorem dX8_bits_15 : decode cX8_bits 15 = .ok (.iand, 1) := by decide +kernel
theorem dX8_bits_16 : decode cX8_bits 16 = .ok (.istore_n 2, 1) := by decide +kernel
theorem dX8_bits_17 : decode cX8_bits 17 = .ok (.goto (-13), 3) := by decide +kernel
theorem dX8_bits_20 : decode cX8_bits 20 = .ok (.iload_n 1, 1) := by decide +kernel
theorem dX8_bits_21 : decode cX8_bits 21 = .ok (.ireturn, 1) := by decide +kernel
theorem dX8_found_0 : decode cX8_found 0 = .ok (.aload_n 0, 1) := by decide +kernel
theorem dX8_found_1 : decode cX8_found 1 = .ok (.iload_n 1, 1) := by decide +kernel
theorem dX8_found_2 : decode cX8_found 2 = .ok (.putfield 56, 3) := by decide +kernel
theorem dX8_found_5 : decode cX8_found 5 = .ok (.aload_n 0, 1) := by decide +kernel
theorem dX8_found_6 : decode cX8_found 6 = .ok (.getfield 47, 3) := by decide +kernel
theorem dX8_found_9 : decode cX8_found 9 = .ok (.iload_n 1, 1) := by decide +kernel
theorem dX8_found_10 : decode cX8_found 10 = .ok (.dup2, 1) := by decide +kernel
theorem dX8_found_11 : decode cX8_found 11 = .ok (.iaload, 1) := by decide +kernel
theorem dX8_found_12 : decode cX8_found 12 = .ok (.iconst 1, 1) := by decide +kernel
theorem dX8_found_13 : decode cX8_found 13 = .ok (.iadd, 1) := by decide +kernel
theorem dX8_found_14 : decode cX8_found 14 = .ok (.iastore, 1) := by decide +kernel
theorem dX8_found_15 : decode cX8_found 15 = .ok (.bipush (-3), 2) := by decide +kernel
theorem dX8_found_17 : decode cX8_found 17 = .ok (.ireturn, 1) := by decide +kernel
theorem dX8_tell_0 : decode cX8_tell 0 = .ok (.aload_n 0, 1) := by decide +kernel
theorem dX8_tell_1 : decode cX8_tell 1 = .ok (.iload_n 1, 1) := by decide +kernel
theorem dX8_tell_2 : decode cX8_tell 2 = .ok (.putfield 60, 3) := by decide +kernel
theorem dX8_tell_5 : decode cX8_tell 5 = .ok (.iconst 1, 1) := by decide +kernel
theorem dX8_tell_6 : decode cX8_tell 6 = .ok (.ireturn, 1) := by decide +kernel
theorem dX8_answer_0 : decode cX8_answer 0 = .ok (.aload_n 0, 1) := by decide +kernel
theorem dX8_answer_1 : decode cX8_answer 1 = .ok (.iload_n 2, 1) := by decide +kernel
theorem dX8_answer_2 : decode cX8_answer 2 = .ok (.putfield 60, 3) := by decide +kernel
theorem dX8_answer_5 : decode cX8_answer 5 = .ok (.iload_n 1, 1) := by decide +kernel
theorem dX8_answer_6 : decode cX8_answer 6 = .ok (.ireturn, 1) := by decide +kernel
set_option maxRecDepth 20000 in
theorem ggX8_isRow_X8_in : GoodIn wsX8_isRow wsX8_in := goodIn_r _ [5] (by decide +kernel) (by decide +kernel)
set_option maxRecDepth 20000 in
theorem gX8_isRow_X8_in : GoodIn wsX8_isRow (va_wsS RX8 65 yX8_in wsX8_in) := goodIn_app (goodIn_of _ (by decide +kernel)) ggX8_isRow_X8_in
theorem dX8_isRow_0 : decode cX8_isRow 0 = .ok (.iload_n 0, 1) := by decide +kernel
theorem dX8_isRow_1 : decode cX8_isRow 1 = .ok (.i2l, 1) := by decide +kernel
theorem dX8_isRow_2 : decode cX8_isRow 2 = .ok (.lconst 0, 1) := by decide +kernel
theorem dX8_isRow_3 : decode cX8_isRow 3 = .ok (.ldc2_w 63, 3) := by decide +kernel
theorem dX8_isRow_6 : decode cX8_isRow 6 = .ok (.invokestatic 65, 3) := by decide +kernel
theorem dX8_isRow_9 : decode cX8_isRow 9 = .ok (.ireturn, 1) := by decide +kernel
set_option maxRecDepth 20000 in
theorem ggX8_isText_X8_in : GoodIn wsX8_isText wsX8_in := goodIn_r _ [5] (by decide +kernel) (by decide +kernel)
set_option maxRecDepth 20000 in
theorem gX8_isText_X8_in : GoodIn wsX8_isText (va_wsS RX8 65 yX8_in wsX8_in) := goodIn_app (goodIn_of _ (by decide +kernel)) ggX8_isText_X8_in
theorem dX8_isText_0 : decode cX8_isText 0 = .ok (.iload_n 0, 1) := by decide +kernel
theorem dX8_isText_1 : decode cX8_isText 1 = .ok (.i2l, 1) := by decide +kernel
theorem dX8_isText_2 : decode cX8_isText 2 = .ok (.lconst 0, 1) := by decide +kernel
theorem dX8_isText_3 : decode cX8_isText 3 = .ok (.ldc2_w 69, 3) := by decide +kernel
theorem dX8_isText_6 : decode cX8_isText 6 = .ok (.invokestatic 65, 3) := by decide +kernel
theorem dX8_isText_9 : decode cX8_isText 9 = .ok (.ireturn, 1) := by decide +kernel
set_option maxRecDepth 20000 in
theorem ggX8_row_X8_isRow : GoodIn wsX8_row wsX8_isRow := goodIn_r _ [6, 7, 8, 9, 5, 10] (by decide +kernel) (by decide +kernel)
set_option maxRecDepth 20000 in
theorem gX8_row_X8_isRow : GoodIn wsX8_row (va_wsS RX8 71 yX8_isRow wsX8_isRow) := goodIn_app (goodIn_of _ (by decide +kernel)) ggX8_row_X8_isRow
set_option maxRecDepth 20000 in
theorem ggX8_row_X8_found : GoodIn wsX8_row wsX8_found := goodIn_r _ [14, 15, 16, 17, 18, 19, 20, 21, 22, 23, 24, 25, 26, 27, 28, 29, 30, 31, 32, 33, 34, 35, 36, 37, 38] (by decide +kernel) (by decide +kernel)
set_option maxRecDepth 20000 in
theorem gX8_row_X8_found : GoodIn wsX8_row (wsV RX8 75 RX8 yX8_found wsX8_found) := goodIn_app (goodIn_of _ (by decide +kernel)) ggX8_row_X8_found
theorem dX8_row_0 : decode cX8_row 0 = .ok (.iload_n 1, 1) := by decide +kernel
theorem dX8_row_1 : decode cX8_row 1 = .ok (.invokestatic 71, 3) := by decide +kernel
theorem dX8_row_4 : decode cX8_row 4 = .ok (.ifCond .eq 9, 3) := by decide +kernel
theorem dX8_row_7 : decode cX8_row 7 = .ok (.iload_n 2, 1) := by decide +kernel
theorem dX8_row_8 : decode cX8_row 8 = .ok (.bipush 40, 2) := by decide +kernel
theorem dX8_row_10 : decode cX8_row 10 = .ok (.if_icmp .le 5, 3) := by decide +kernel
theorem dX8_row_13 : decode cX8_row 13 = .ok (.iconst (-1), 1) := by decide +kernel
theorem dX8_row_14 : decode cX8_row 14 = .ok (.ireturn, 1) := by decide +kernel
theorem dX8_row_15 : decode cX8_row 15 = .ok (.iload_n 2, 1) := by decide +kernel
theorem dX8_row_16 : decode cX8_row 16 = .ok (.ifCond .ge 9, 3) := by decide +kernel
theorem dX8_row_19 : decode cX8_row 19 = .ok (.aload_n 0, 1) := by decide +kernel
theorem dX8_row_20 : decode cX8_row 20 = .ok (.iconst 5, 1) := by decide +kernel
theorem dX8_row_21 : decode cX8_row 21 = .ok (.invokevirtual 75, 3) := by decide +kernel
theorem dX8_row_24 : decode cX8_row 24 = .ok (.ireturn, 1) := by decide +kernel
theorem dX8_row_25 : decode cX8_row 25 = .ok (.aload_n 0, 1) := by decide +kernel
theorem dX8_row_26 : decode cX8_row 26 = .ok (.getfield 7, 3) := by decide +kernel
theorem dX8_row_29 : decode cX8_row 29 = .ok (.iload_n 1, 1) := by decide +kernel
theorem dX8_row_30 : decode cX8_row 30 = .ok (.iload_n 2, 1) := by decide +kernel
theorem dX8_row_31 : decode cX8_row 31 = .ok (.iastore, 1) := by decide +kernel
theorem dX8_row_32 : decode cX8_row 32 = .ok (.iconst 0, 1) := by decide +kernel
theorem dX8_row_33 : decode cX8_row 33 = .ok (.istore_n 3, 1) := by decide +kernel
theorem dX8_row_34 : decode cX8_row 34 = .ok (.iload_n 3, 1) := by decide +kernel
theorem dX8_row_35 : decode cX8_row 35 = .ok (.bipush 40, 2) := by decide +kernel
theorem dX8_row_37 : decode cX8_row 37 = .ok (.if_icmp .ge 21, 3) := by decide +kernel
theorem dX8_row_40 : decode cX8_row 40 = .ok (.aload_n 0, 1) := by decide +kernel
theorem dX8_row_41 : decode cX8_row 41 = .ok (.getfield 13, 3) := by decide +kernel
theorem dX8_row_44 : decode cX8_row 44 = .ok (.bipush 40, 2) := by decide +kernel
theorem dX8_row_46 : decode cX8_row 46 = .ok (.iload_n 1, 1) := by decide +kernel
theorem dX8_row_47 : decode cX8_row 47 = .ok (.imul, 1) := by decide +kernel
theorem dX8_row_48 : decode cX8_row 48 = .ok (.iload_n 3, 1) := by decide +kernel
theorem dX8_row_49 : decode cX8_row 49 = .ok (.iadd, 1) := by decide +kernel
theorem dX8_row_50 : decode cX8_row 50 = .ok (.iconst 0, 1) := by decide +kernel
theorem dX8_row_51 : decode cX8_row 51 = .ok (.iastore, 1) := by decide +kernel
theorem dX8_row_52 : decode cX8_row 52 = .ok (.iinc 3 1, 3) := by decide +kernel
theorem dX8_row_55 : decode cX8_row 55 = .ok (.goto (-21), 3) := by decide +kernel
theorem dX8_row_58 : decode cX8_row 58 = .ok (.iload_n 2, 1) := by decide +kernel
theorem dX8_row_59 : decode cX8_row 59 = .ok (.ireturn, 1) := by decide +kernel
set_option maxRecDepth 20000 in
theorem ggX8_lay_X8_isRow : GoodIn wsX8_lay wsX8_isRow := goodIn_r _ [6, 7, 8, 9, 5, 10] (by decide +kernel) (by decide +kernel)
set_option maxRecDepth 20000 in
theorem gX8_lay_X8_isRow : GoodIn wsX8_lay (va_wsS RX8 71 yX8_isRow wsX8_isRow) := goodIn_app (goodIn_of _ (by decide +kernel)) ggX8_lay_X8_isRow
set_option maxRecDepth 20000 in
theorem ggX8_lay_X8_found : GoodIn wsX8_lay wsX8_found := goodIn_r _ [14, 15, 16, 22, 23, 24, 25, 26, 27, 28, 29, 30, 31, 32, 33, 34, 35, 36, 37, 38, 39, 40, 41, 42, 43] (by decide +kernel) (by decide +kernel)
set_option maxRecDepth 20000 in
theorem gX8_lay_X8_found : GoodIn wsX8_lay (wsV RX8 75 RX8 yX8_found wsX8_found) := goodIn_app (goodIn_of _ (by decide +kernel)) ggX8_lay_X8_found
set_option maxRecDepth 20000 in
theorem ggX8_lay_X8_in : GoodIn wsX8_lay wsX8_in := goodIn_r _ [10] (by decide +kernel) (by decide +kernel)
set_option maxRecDepth 20000 in
theorem gX8_lay_X8_in : GoodIn wsX8_lay (va_wsS RX8 65 yX8_in wsX8_in) := goodIn_app (goodIn_of _ (by decide +kernel)) ggX8_lay_X8_in
set_option maxRecDepth 20000 in
theorem ggX8_lay_X8_tell : GoodIn wsX8_lay wsX8_tell := goodIn_r _ [20, 21, 22, 23, 24, 25, 26, 27, 28, 29, 30, 31, 32, 33, 34, 35, 36, 37, 38, 39, 40, 41, 42, 43] (by decide +kernel) (by decide +kernel)
set_option maxRecDepth 20000 in
theorem gX8_lay_X8_tell : GoodIn wsX8_lay (wsV RX8 79 RX8 yX8_tell wsX8_tell) := goodIn_app (goodIn_of _ (by decide +kernel)) ggX8_lay_X8_tell
theorem dX8_lay_0 : decode cX8_lay 0 = .ok (.iload_n 1, 1) := by decide +kernel
theorem dX8_lay_1 : decode cX8_lay 1 = .ok (.invokestatic 71, 3) := by decide +kernel
theorem dX8_lay_4 : decode cX8_lay 4 = .ok (.ifCond .ne 5, 3) := by decide +kernel
theorem dX8_lay_7 : decode cX8_lay 7 = .ok (.iconst (-1), 1) := by decide +kernel
theorem dX8_lay_8 : decode cX8_lay 8 = .ok (.ireturn, 1) := by decide +kernel
theorem dX8_lay_9 : decode cX8_lay 9 = .ok (.aload_n 0, 1) := by decide +kernel
theorem dX8_lay_10 : decode cX8_lay 10 = .ok (.getfield 7, 3) := by decide +kernel
theorem dX8_lay_13 : decode cX8_lay 13 = .ok (.iload_n 1, 1) := by decide +kernel
theorem dX8_lay_14 : decode cX8_lay 14 = .ok (.iaload, 1) := by decide +kernel
theorem dX8_lay_15 : decode cX8_lay 15 = .ok (.ifCond .ge 9, 3) := by decide +kernel
theorem dX8_lay_18 : decode cX8_lay 18 = .ok (.aload_n 0, 1) := by decide +kernel
theorem dX8_lay_19 : decode cX8_lay 19 = .ok (.iconst 1, 1) := by decide +kernel
theorem dX8_lay_20 : decode cX8_lay 20 = .ok (.invokevirtual 75, 3) := by decide +kernel
theorem dX8_lay_23 : decode cX8_lay 23 = .ok (.ireturn, 1) := by decide +kernel
theorem dX8_lay_24 : decode cX8_lay 24 = .ok (.iload_n 2, 1) := by decide +kernel
theorem dX8_lay_25 : decode cX8_lay 25 = .ok (.i2l, 1) := by decide +kernel
theorem dX8_lay_26 : decode cX8_lay 26 = .ok (.lconst 0, 1) := by decide +kernel
theorem dX8_lay_27 : decode cX8_lay 27 = .ok (.aload_n 0, 1) := by decide +kernel
theorem dX8_lay_28 : decode cX8_lay 28 = .ok (.getfield 7, 3) := by decide +kernel
theorem dX8_lay_31 : decode cX8_lay 31 = .ok (.iload_n 1, 1) := by decide +kernel
theorem dX8_lay_32 : decode cX8_lay 32 = .ok (.iaload, 1) := by decide +kernel
theorem dX8_lay_33 : decode cX8_lay 33 = .ok (.iconst 1, 1) := by decide +kernel
theorem dX8_lay_34 : decode cX8_lay 34 = .ok (.isub, 1) := by decide +kernel
theorem dX8_lay_35 : decode cX8_lay 35 = .ok (.i2l, 1) := by decide +kernel
theorem dX8_lay_36 : decode cX8_lay 36 = .ok (.invokestatic 65, 3) := by decide +kernel
theorem dX8_lay_39 : decode cX8_lay 39 = .ok (.ifCond .ne 9, 3) := by decide +kernel
theorem dX8_lay_42 : decode cX8_lay 42 = .ok (.aload_n 0, 1) := by decide +kernel
theorem dX8_lay_43 : decode cX8_lay 43 = .ok (.iconst 2, 1) := by decide +kernel
theorem dX8_lay_44 : decode cX8_lay 44 = .ok (.invokevirtual 75, 3) := by decide +kernel
theorem dX8_lay_47 : decode cX8_lay 47 = .ok (.ireturn, 1) := by decide +kernel
theorem dX8_lay_48 : decode cX8_lay 48 = .ok (.aload_n 0, 1) := by decide +kernel
theorem dX8_lay_49 : decode cX8_lay 49 = .ok (.getfield 13, 3) := by decide +kernel
theorem dX8_lay_52 : decode cX8_lay 52 = .ok (.bipush 40, 2) := by decide +kernel
theorem dX8_lay_54 : decode cX8_lay 54 = .ok (.iload_n 1, 1) := by decide +kernel
theorem dX8_lay_55 : decode cX8_lay 55 = .ok (.imul, 1) := by decide +kernel
theorem dX8_lay_56 : decode cX8_lay 56 = .ok (.iload_n 2, 1) := by decide +kernel
theorem dX8_lay_57 : decode cX8_lay 57 = .ok (.iadd, 1) := by decide +kernel
theorem dX8_lay_58 : decode cX8_lay 58 = .ok (.iaload, 1) := by decide +kernel
theorem dX8_lay_59 : decode cX8_lay 59 = .ok (.istore 4, 2) := by decide +kernel
theorem dX8_lay_61 : decode cX8_lay 61 = .ok (.aload_n 0, 1) := by decide +kernel
theorem dX8_lay_62 : decode cX8_lay 62 = .ok (.getfield 13, 3) := by decide +kernel
theorem dX8_lay_65 : decode cX8_lay 65 = .ok (.bipush 40, 2) := by decide +kernel
theorem dX8_lay_67 : decode cX8_lay 67 = .ok (.iload_n 1, 1) := by decide +kernel
theorem dX8_lay_68 : decode cX8_lay 68 = .ok (.imul, 1) := by decide +kernel
theorem dX8_lay_69 : decode cX8_lay 69 = .ok (.iload_n 2, 1) := by decide +kernel
theorem dX8_lay_70 : decode cX8_lay 70 = .ok (.iadd, 1) := by decide +kernel
theorem dX8_lay_71 : decode cX8_lay 71 = .ok (.iload_n 3, 1) := by decide +kernel
theorem dX8_lay_72 : decode cX8_lay 72 = .ok (.iastore, 1) := by decide +kernel
theorem dX8_lay_73 : decode cX8_lay 73 = .ok (.aload_n 0, 1) := by decide +kernel
theorem dX8_lay_74 : decode cX8_lay 74 = .ok (.iload 4, 2) := by decide +kernel
theorem dX8_lay_76 : decode cX8_lay 76 = .ok (.invokevirtual 79, 3) := by decide +kernel
theorem dX8_lay_79 : decode cX8_lay 79 = .ok (.ireturn, 1) := by decide +kernel
set_option maxRecDepth 20000 in
theorem ggX8_at_X8_isRow : GoodIn wsX8_at wsX8_isRow := goodIn_r _ [6, 7, 8, 9, 5, 10] (by decide +kernel) (by decide +kernel)
set_option maxRecDepth 20000 in
theorem gX8_at_X8_isRow : GoodIn wsX8_at (va_wsS RX8 71 yX8_isRow wsX8_isRow) := goodIn_app (goodIn_of _ (by decide +kernel)) ggX8_at_X8_isRow
set_option maxRecDepth 20000 in
theorem ggX8_at_X8_found : GoodIn wsX8_at wsX8_found := goodIn_r _ [14, 15, 16, 22, 23, 24, 25, 26, 27, 28, 29, 30, 31, 32, 33, 34, 35, 36, 37, 38, 39, 40, 41, 42, 43] (by decide +kernel) (by decide +kernel)
set_option maxRecDepth 20000 in
theorem gX8_at_X8_found : GoodIn wsX8_at (wsV RX8 75 RX8 yX8_found wsX8_found) := goodIn_app (goodIn_of _ (by decide +kernel)) ggX8_at_X8_found
set_option maxRecDepth 20000 in
theorem ggX8_at_X8_in : GoodIn wsX8_at wsX8_in := goodIn_r _ [10] (by decide +kernel) (by decide +kernel)
set_option maxRecDepth 20000 in
theorem gX8_at_X8_in : GoodIn wsX8_at (va_wsS RX8 65 yX8_in wsX8_in) := goodIn_app (goodIn_of _ (by decide +kernel)) ggX8_at_X8_in
set_option maxRecDepth 20000 in
theorem ggX8_at_X8_tell : GoodIn wsX8_at wsX8_tell := goodIn_r _ [20, 21, 22, 23, 24, 25, 26, 27, 28, 29, 30, 31, 32, 33, 34, 35, 36, 37, 38, 39, 40, 41, 42, 43] (by decide +kernel) (by decide +kernel)
set_option maxRecDepth 20000 in
theorem gX8_at_X8_tell : GoodIn wsX8_at (wsV RX8 79 RX8 yX8_tell wsX8_tell) := goodIn_app (goodIn_of _ (by decide +kernel)) ggX8_at_X8_tell
theorem dX8_at_0 : decode cX8_at 0 = .ok (.iload_n 1, 1) := by decide +kernel
theorem dX8_at_1 : decode cX8_at 1 = .ok (.invokestatic 71, 3) := by decide +kernel
theorem dX8_at_4 : decode cX8_at 4 = .ok (.ifCond .ne 5, 3) := by decide +kernel
theorem dX8_at_7 : decode cX8_at 7 = .ok (.iconst (-1), 1) := by decide +kernel
theorem dX8_at_8 : decode cX8_at 8 = .ok (.ireturn, 1) := by decide +kernel
theorem dX8_at_9 : decode cX8_at 9 = .ok (.aload_n 0, 1) := by decide +kernel
theorem dX8_at_10 : decode cX8_at 10 = .ok (.getfield 7, 3) := by decide +kernel
theorem dX8_at_13 : decode cX8_at 13 = .ok (.iload_n 1, 1) := by decide +kernel
theorem dX8_at_14 : decode cX8_at 14 = .ok (.iaload, 1) := by decide +kernel
theorem dX8_at_15 : decode cX8_at 15 = .ok (.ifCond .ge 9, 3) := by decide +kernel
theorem dX8_at_18 : decode cX8_at 18 = .ok (.aload_n 0, 1) := by decide +kernel
theorem dX8_at_19 : decode cX8_at 19 = .ok (.iconst 1, 1) := by decide +kernel
theorem dX8_at_20 : decode cX8_at 20 = .ok (.invokevirtual 75, 3) := by decide +kernel
theorem dX8_at_23 : decode cX8_at 23 = .ok (.ireturn, 1) := by decide +kernel
theorem dX8_at_24 : decode cX8_at 24 = .ok (.iload_n 2, 1) := by decide +kernel
theorem dX8_at_25 : decode cX8_at 25 = .ok (.i2l, 1) := by decide +kernel
theorem dX8_at_26 : decode cX8_at 26 = .ok (.lconst 0, 1) := by decide +kernel
theorem dX8_at_27 : decode cX8_at 27 = .ok (.aload_n 0, 1) := by decide +kernel
theorem dX8_at_28 : decode cX8_at 28 = .ok (.getfield 7, 3) := by decide +kernel
theorem dX8_at_31 : decode cX8_at 31 = .ok (.iload_n 1, 1) := by decide +kernel
theorem dX8_at_32 : decode cX8_at 32 = .ok (.iaload, 1) := by decide +kernel
theorem dX8_at_33 : decode cX8_at 33 = .ok (.iconst 1, 1) := by decide +kernel
theorem dX8_at_34 : decode cX8_at 34 = .ok (.isub, 1) := by decide +kernel
theorem dX8_at_35 : decode cX8_at 35 = .ok (.i2l, 1) := by decide +kernel
theorem dX8_at_36 : decode cX8_at 36 = .ok (.invokestatic 65, 3) := by decide +kernel
theorem dX8_at_39 : decode cX8_at 39 = .ok (.ifCond .eq 21, 3) := by decide +kernel
theorem dX8_at_42 : decode cX8_at 42 = .ok (.aload_n 0, 1) := by decide +kernel
theorem dX8_at_43 : decode cX8_at 43 = .ok (.aload_n 0, 1) := by decide +kernel
theorem dX8_at_44 : decode cX8_at 44 = .ok (.getfield 13, 3) := by decide +kernel
theorem dX8_at_47 : decode cX8_at 47 = .ok (.bipush 40, 2) := by decide +kernel
theorem dX8_at_49 : decode cX8_at 49 = .ok (.iload_n 1, 1) := by decide +kernel
theorem dX8_at_50 : decode cX8_at 50 = .ok (.imul, 1) := by decide +kernel
theorem dX8_at_51 : decode cX8_at 51 = .ok (.iload_n 2, 1) := by decide +kernel
theorem dX8_at_52 : decode cX8_at 52 = .ok (.iadd, 1) := by decide +kernel
theorem dX8_at_53 : decode cX8_at 53 = .ok (.iaload, 1) := by decide +kernel
theorem dX8_at_54 : decode cX8_at 54 = .ok (.invokevirtual 79, 3) := by decide +kernel
theorem dX8_at_57 : decode cX8_at 57 = .ok (.goto 8, 3) := by decide +kernel
theorem dX8_at_60 : decode cX8_at 60 = .ok (.aload_n 0, 1) := by decide +kernel
theorem dX8_at_61 : decode cX8_at 61 = .ok (.iconst 2, 1) := by decide +kernel
theorem dX8_at_62 : decode cX8_at 62 = .ok (.invokevirtual 75, 3) := by decide +kernel
theorem dX8_at_65 : decode cX8_at 65 = .ok (.ireturn, 1) := by decide +kernel
set_option maxRecDepth 20000 in
theorem ggX8_tear_X8_isRow : GoodIn wsX8_tear wsX8_isRow := goodIn_r _ [5, 6, 7, 8, 4, 9] (by decide +kernel) (by decide +kernel)
set_option maxRecDepth 20000 in
theorem gX8_tear_X8_isRow : GoodIn wsX8_tear (va_wsS RX8 71 yX8_isRow wsX8_isRow) := goodIn_app (goodIn_of _ (by decide +kernel)) ggX8_tear_X8_isRow
set_option maxRecDepth 20000 in
theorem ggX8_tear_X8_found : GoodIn wsX8_tear wsX8_found := goodIn_r _ [13, 14, 15, 16, 17, 18, 19, 20, 21, 22, 23, 24, 25, 26, 27, 28, 29, 30, 31, 32, 33, 34, 35, 36, 37] (by decide +kernel) (by decide +kernel)
set_option maxRecDepth 20000 in
theorem gX8_tear_X8_found : GoodIn wsX8_tear (wsV RX8 75 RX8 yX8_found wsX8_found) := goodIn_app (goodIn_of _ (by decide +kernel)) ggX8_tear_X8_found
theorem dX8_tear_0 : decode cX8_tear 0 = .ok (.iload_n 1, 1) := by decide +kernel
theorem dX8_tear_1 : decode cX8_tear 1 = .ok (.invokestatic 71, 3) := by decide +kernel
theorem dX8_tear_4 : decode cX8_tear 4 = .ok (.ifCond .ne 5, 3) := by decide +kernel
theorem dX8_tear_7 : decode cX8_tear 7 = .ok (.iconst (-1), 1) := by decide +kernel
theorem dX8_tear_8 : decode cX8_tear 8 = .ok (.ireturn, 1) := by decide +kernel
theorem dX8_tear_9 : decode cX8_tear 9 = .ok (.aload_n 0, 1) := by decide +kernel
theorem dX8_tear_10 : decode cX8_tear 10 = .ok (.getfield 7, 3) := by decide +kernel
theorem dX8_tear_13 : decode cX8_tear 13 = .ok (.iload_n 1, 1) := by decide +kernel
theorem dX8_tear_14 : decode cX8_tear 14 = .ok (.iaload, 1) := by decide +kernel
theorem dX8_tear_15 : decode cX8_tear 15 = .ok (.ifCond .ge 9, 3) := by decide +kernel
theorem dX8_tear_18 : decode cX8_tear 18 = .ok (.aload_n 0, 1) := by decide +kernel
theorem dX8_tear_19 : decode cX8_tear 19 = .ok (.iconst 1, 1) := by decide +kernel
theorem dX8_tear_20 : decode cX8_tear 20 = .ok (.invokevirtual 75, 3) := by decide +kernel
theorem dX8_tear_23 : decode cX8_tear 23 = .ok (.ireturn, 1) := by decide +kernel
theorem dX8_tear_24 : decode cX8_tear 24 = .ok (.aload_n 0, 1) := by decide +kernel
theorem dX8_tear_25 : decode cX8_tear 25 = .ok (.getfield 7, 3) := by decide +kernel
theorem dX8_tear_28 : decode cX8_tear 28 = .ok (.iload_n 1, 1) := by decide +kernel
theorem dX8_tear_29 : decode cX8_tear 29 = .ok (.iconst (-1), 1) := by decide +kernel
theorem dX8_tear_30 : decode cX8_tear 30 = .ok (.iastore, 1) := by decide +kernel
theorem dX8_tear_31 : decode cX8_tear 31 = .ok (.iconst 1, 1) := by decide +kernel
theorem dX8_tear_32 : decode cX8_tear 32 = .ok (.ireturn, 1) := by decide +kernel
set_option maxRecDepth 20000 in
theorem ggX8_copy_X8_isRow : GoodIn wsX8_copy wsX8_isRow := goodIn_r _ [6, 7, 8, 9, 5, 10] (by decide +kernel) (by decide +kernel)
set_option maxRecDepth 20000 in
theorem gX8_copy_X8_isRow : GoodIn wsX8_copy (va_wsS RX8 71 yX8_isRow wsX8_isRow) := goodIn_app (goodIn_of _ (by decide +kernel)) ggX8_copy_X8_isRow
set_option maxRecDepth 20000 in
theorem ggX8_copy_X8_found : GoodIn wsX8_copy wsX8_found := goodIn_r _ [14, 15, 16, 17, 18, 19, 20, 21, 22, 23, 24, 25, 26, 27, 28, 29, 30, 31, 32, 33, 34, 35, 36, 37, 38] (by decide +kernel) (by decide +kernel)
set_option maxRecDepth 20000 in
theorem gX8_copy_X8_found : GoodIn wsX8_copy (wsV RX8 75 RX8 yX8_found wsX8_found) := goodIn_app (goodIn_of _ (by decide +kernel)) ggX8_copy_X8_found
theorem dX8_copy_0 : decode cX8_copy 0 = .ok (.iload_n 1, 1) := by decide +kernel
theorem dX8_copy_1 : decode cX8_copy 1 = .ok (.invokestatic 71, 3) := by decide +kernel
theorem dX8_copy_4 : decode cX8_copy 4 = .ok (.ifCond .eq 10, 3) := by decide +kernel
theorem dX8_copy_7 : decode cX8_copy 7 = .ok (.iload_n 3, 1) := by decide +kernel
theorem dX8_copy_8 : decode cX8_copy 8 = .ok (.invokestatic 71, 3) := by decide +kernel
theorem dX8_copy_11 : decode cX8_copy 11 = .ok (.ifCond .ne 5, 3) := by decide +kernel
theorem dX8_copy_14 : decode cX8_copy 14 = .ok (.iconst (-1), 1) := by decide +kernel
theorem dX8_copy_15 : decode cX8_copy 15 = .ok (.ireturn, 1) := by decide +kernel
theorem dX8_copy_16 : decode cX8_copy 16 = .ok (.iload 5, 2) := by decide +kernel
theorem dX8_copy_18 : decode cX8_copy 18 = .ok (.ifCond .ge 9, 3) := by decide +kernel
theorem dX8_copy_21 : decode cX8_copy 21 = .ok (.aload_n 0, 1) := by decide +kernel
theorem dX8_copy_22 : decode cX8_copy 22 = .ok (.iconst 5, 1) := by decide +kernel
theorem dX8_copy_23 : decode cX8_copy 23 = .ok (.invokevirtual 75, 3) := by decide +kernel
theorem dX8_copy_26 : decode cX8_copy 26 = .ok (.ireturn, 1) := by decide +kernel
theorem dX8_copy_27 : decode cX8_copy 27 = .ok (.aload_n 0, 1) := by decide +kernel
theorem dX8_copy_28 : decode cX8_copy 28 = .ok (.getfield 7, 3) := by decide +kernel
theorem dX8_copy_31 : decode cX8_copy 31 = .ok (.iload_n 1, 1) := by decide +kernel
theorem dX8_copy_32 : decode cX8_copy 32 = .ok (.iaload, 1) := by decide +kernel
theorem dX8_copy_33 : decode cX8_copy 33 = .ok (.ifCond .lt 12, 3) := by decide +kernel
theorem dX8_copy_36 : decode cX8_copy 36 = .ok (.aload_n 0, 1) := by decide +kernel
theorem dX8_copy_37 : decode cX8_copy 37 = .ok (.getfield 7, 3) := by decide +kernel
theorem dX8_copy_40 : decode cX8_copy 40 = .ok (.iload_n 3, 1) := by decide +kernel
theorem dX8_copy_41 : decode cX8_copy 41 = .ok (.iaload, 1) := by decide +kernel
theorem dX8_copy_42 : decode cX8_copy 42 = .ok (.ifCond .ge 9, 3) := by decide +kernel
theorem dX8_copy_45 : decode cX8_copy 45 = .ok (.aload_n 0, 1) := by decide +kernel
theorem dX8_copy_46 : decode cX8_copy 46 = .ok (.iconst 1, 1) := by decide +kernel
theorem dX8_copy_47 : decode cX8_copy 47 = .ok (.invokevirtual 75, 3) := by decide +kernel
theorem dX8_copy_50 : decode cX8_copy 50 = .ok (.ireturn, 1) := by decide +kernel
theorem dX8_copy_51 : decode cX8_copy 51 = .ok (.iload_n 2, 1) := by decide +kernel
theorem dX8_copy_52 : decode cX8_copy 52 = .ok (.ifCond .lt 43, 3) := by decide +kernel
theorem dX8_copy_55 : decode cX8_copy 55 = .ok (.iload 4, 2) := by decide +kernel
theorem dX8_copy_57 : decode cX8_copy 57 = .ok (.ifCond .lt 38, 3) := by decide +kernel
theorem dX8_copy_60 : decode cX8_copy 60 = .ok (.iload_n 2, 1) := by decide +kernel
theorem dX8_copy_61 : decode cX8_copy 61 = .ok (.i2l, 1) := by decide +kernel
theorem dX8_copy_62 : decode cX8_copy 62 = .ok (.iload 5, 2) := by decide +kernel
theorem dX8_copy_64 : decode cX8_copy 64 = .ok (.i2l, 1) := by decide +kernel
theorem dX8_copy_65 : decode cX8_copy 65 = .ok (.ladd, 1) := by decide +kernel
theorem dX8_copy_66 : decode cX8_copy 66 = .ok (.aload_n 0, 1) := by decide +kernel
theorem dX8_copy_67 : decode cX8_copy 67 = .ok (.getfield 7, 3) := by decide +kernel
theorem dX8_copy_70 : decode cX8_copy 70 = .ok (.iload_n 1, 1) := by decide +kernel
theorem dX8_copy_71 : decode cX8_copy 71 = .ok (.iaload, 1) := by decide +kernel
theorem dX8_copy_72 : decode cX8_copy 72 = .ok (.i2l, 1) := by decide +kernel
theorem dX8_copy_73 : decode cX8_copy 73 = .ok (.lcmp, 1) := by decide +kernel
theorem dX8_copy_74 : decode cX8_copy 74 = .ok (.ifCond .gt 21, 3) := by decide +kernel
theorem dX8_copy_77 : decode cX8_copy 77 = .ok (.iload 4, 2) := by decide +kernel
theorem dX8_copy_79 : decode cX8_copy 79 = .ok (.i2l, 1) := by decide +kernel
theorem dX8_copy_80 : decode cX8_copy 80 = .ok (.iload 5, 2) := by decide +kernel
theorem dX8_copy_82 : decode cX8_copy 82 = .ok (.i2l, 1) := by decide +kernel
theorem dX8_copy_83 : decode cX8_copy 83 = .ok (.ladd, 1) := by decide +kernel
theorem dX8_copy_84 : decode cX8_copy 84 = .ok (.aload_n 0, 1) := by decide +kernel
theorem dX8_copy_85 : decode cX8_copy 85 = .ok (.getfield 7, 3) := by decide +kernel
theorem dX8_copy_88 : decode cX8_copy 88 = .ok (.iload_n 3, 1) := by decide +kernel
theorem dX8_copy_89 : decode cX8_copy 89 = .ok (.iaload, 1) := by decide +kernel
theorem dX8_copy_90 : decode cX8_copy 90 = .ok (.i2l, 1) := by decide +kernel
theorem dX8_copy_91 : decode cX8_copy 91 = .ok (.lcmp, 1) := by decide +kernel
theorem dX8_copy_92 : decode cX8_copy 92 = .ok (.ifCond .le 9, 3) := by decide +kernel
theorem dX8_copy_95 : decode cX8_copy 95 = .ok (.aload_n 0, 1) := by decide +kernel
theorem dX8_copy_96 : decode cX8_copy 96 = .ok (.iconst 2, 1) := by decide +kernel
theorem dX8_copy_97 : decode cX8_copy 97 = .ok (.invokevirtual 75, 3) := by decide +kernel
theorem dX8_copy_100 : decode cX8_copy 100 = .ok (.ireturn, 1) := by decide +kernel
theorem dX8_copy_101 : decode cX8_copy 101 = .ok (.iconst 0, 1) := by decide +kernel
theorem dX8_copy_102 : decode cX8_copy 102 = .ok (.istore 6, 2) := by decide +kernel
theorem dX8_copy_104 : decode cX8_copy 104 = .ok (.iload 6, 2) := by decide +kernel
theorem dX8_copy_106 : decode cX8_copy 106 = .ok (.iload 5, 2) := by decide +kernel
theorem dX8_copy_108 : decode cX8_copy 108 = .ok (.if_icmp .ge 58, 3) := by decide +kernel
theorem dX8_copy_111 : decode cX8_copy 111 = .ok (.iload 4, 2) := by decide +kernel
theorem dX8_copy_113 : decode cX8_copy 113 = .ok (.iload_n 2, 1) := by decide +kernel
theorem dX8_copy_114 : decode cX8_copy 114 = .ok (.if_icmp .le 13, 3) := by decide +kernel
theorem dX8_copy_117 : decode cX8_copy 117 = .ok (.iload 5, 2) := by decide +kernel
theorem dX8_copy_119 : decode cX8_copy 119 = .ok (.iconst 1, 1) := by decide +kernel
theorem dX8_copy_120 : decode cX8_copy 120 = .ok (.isub, 1) := by decide +kernel
theorem dX8_copy_121 : decode cX8_copy 121 = .ok (.iload 6, 2) := by decide +kernel
theorem dX8_copy_123 : decode cX8_copy 123 = .ok (.isub, 1) := by decide +kernel
theorem dX8_copy_124 : decode cX8_copy 124 = .ok (.goto 5, 3) := by decide +kernel
theorem dX8_copy_127 : decode cX8_copy 127 = .ok (.iload 6, 2) := by decide +kernel
theorem dX8_copy_129 : decode cX8_copy 129 = .ok (.istore 7, 2) := by decide +kernel
theorem dX8_copy_131 : decode cX8_copy 131 = .ok (.aload_n 0, 1) := by decide +kernel
theorem dX8_copy_132 : decode cX8_copy 132 = .ok (.getfield 13, 3) := by decide +kernel
theorem dX8_copy_135 : decode cX8_copy 135 = .ok (.bipush 40, 2) := by decide +kernel
theorem dX8_copy_137 : decode cX8_copy 137 = .ok (.iload_n 3, 1) := by decide +kernel
theorem dX8_copy_138 : decode cX8_copy 138 = .ok (.imul, 1) := by decide +kernel
theorem dX8_copy_139 : decode cX8_copy 139 = .ok (.iload 4, 2) := by decide +kernel
theorem dX8_copy_141 : decode cX8_copy 141 = .ok (.iadd, 1) := by decide +kernel
theorem dX8_copy_142 : decode cX8_copy 142 = .ok (.iload 7, 2) := by decide +kernel
theorem dX8_copy_144 : decode cX8_copy 144 = .ok (.iadd, 1) := by decide +kernel
theorem dX8_copy_145 : decode cX8_copy 145 = .ok (.aload_n 0, 1) := by decide +kernel
theorem dX8_copy_146 : decode cX8_copy 146 = .ok (.getfield 13, 3) := by decide +kernel
theorem dX8_copy_149 : decode cX8_copy 149 = .ok (.bipush 40, 2) := by decide +kernel
theorem dX8_copy_151 : decode cX8_copy 151 = .ok (.iload_n 1, 1) := by decide +kernel
theorem dX8_copy_152 : decode cX8_copy 152 = .ok (.imul, 1) := by decide +kernel
theorem dX8_copy_153 : decode cX8_copy 153 = .ok (.iload_n 2, 1) := by decide +kernel
theorem dX8_copy_154 : decode cX8_copy 154 = .ok (.iadd, 1) := by decide +kernel
theorem dX8_copy_155 : decode cX8_copy 155 = .ok (.iload 7, 2) := by decide +kernel
theorem dX8_copy_157 : decode cX8_copy 157 = .ok (.iadd, 1) := by decide +kernel
theorem dX8_copy_158 : decode cX8_copy 158 = .ok (.iaload, 1) := by decide +kernel
theorem dX8_copy_159 : decode cX8_copy 159 = .ok (.iastore, 1) := by decide +kernel
theorem dX8_copy_160 : decode cX8_copy 160 = .ok (.iinc 6 1, 3) := by decide +kernel
theorem dX8_copy_163 : decode cX8_copy 163 = .ok (.goto (-59), 3) := by decide +kernel
theorem dX8_copy_166 : decode cX8_copy 166 = .ok (.iconst 1, 1) := by decide +kernel
theorem dX8_copy_167 : decode cX8_copy 167 = .ok (.ireturn, 1) := by decide +kernel
set_option maxRecDepth 20000 in
theorem ggX8_mean_X8_isRow : GoodIn wsX8_mean wsX8_isRow := goodIn_r _ [6, 7, 8, 9, 5, 10] (by decide +kernel) (by decide +kernel)
set_option maxRecDepth 20000 in
theorem gX8_mean_X8_isRow : GoodIn wsX8_mean (va_wsS RX8 71 yX8_isRow wsX8_isRow) := goodIn_app (goodIn_of _ (by decide +kernel)) ggX8_mean_X8_isRow
set_option maxRecDepth 20000 in
theorem ggX8_mean_X8_found : GoodIn wsX8_mean wsX8_found := goodIn_r _ [14, 15, 16, 22, 23, 24, 25, 26, 27, 28, 29, 30, 31, 32, 33, 34, 35, 36, 37, 38, 39, 40, 41, 42, 43] (by decide +kernel) (by decide +kernel)
set_option maxRecDepth 20000 in
theorem gX8_mean_X8_found : GoodIn wsX8_mean (wsV RX8 75 RX8 yX8_found wsX8_found) := goodIn_app (goodIn_of _ (by decide +kernel)) ggX8_mean_X8_found
set_option maxRecDepth 20000 in
theorem ggX8_mean_X8_tell : GoodIn wsX8_mean wsX8_tell := goodIn_r _ [20, 21, 22, 23, 24, 25, 26, 27, 28, 29, 30, 31, 32, 33, 34, 35, 36, 37, 38, 39, 40, 41, 42, 43] (by decide +kernel) (by decide +kernel)
set_option maxRecDepth 20000 in
theorem gX8_mean_X8_tell : GoodIn wsX8_mean (wsV RX8 79 RX8 yX8_tell wsX8_tell) := goodIn_app (goodIn_of _ (by decide +kernel)) ggX8_mean_X8_tell
theorem dX8_mean_0 : decode cX8_mean 0 = .ok (.iload_n 1, 1) := by decide +kernel
theorem dX8_mean_1 : decode cX8_mean 1 = .ok (.invokestatic 71, 3) := by decide +kernel
theorem dX8_mean_4 : decode cX8_mean 4 = .ok (.ifCond .ne 5, 3) := by decide +kernel
theorem dX8_mean_7 : decode cX8_mean 7 = .ok (.iconst (-1), 1) := by decide +kernel
theorem dX8_mean_8 : decode cX8_mean 8 = .ok (.ireturn, 1) := by decide +kernel
theorem dX8_mean_9 : decode cX8_mean 9 = .ok (.aload_n 0, 1) := by decide +kernel
theorem dX8_mean_10 : decode cX8_mean 10 = .ok (.getfield 7, 3) := by decide +kernel
theorem dX8_mean_13 : decode cX8_mean 13 = .ok (.iload_n 1, 1) := by decide +kernel
theorem dX8_mean_14 : decode cX8_mean 14 = .ok (.iaload, 1) := by decide +kernel
theorem dX8_mean_15 : decode cX8_mean 15 = .ok (.ifCond .ge 9, 3) := by decide +kernel
theorem dX8_mean_18 : decode cX8_mean 18 = .ok (.aload_n 0, 1) := by decide +kernel
theorem dX8_mean_19 : decode cX8_mean 19 = .ok (.iconst 1, 1) := by decide +kernel
theorem dX8_mean_20 : decode cX8_mean 20 = .ok (.invokevirtual 75, 3) := by decide +kernel
theorem dX8_mean_23 : decode cX8_mean 23 = .ok (.ireturn, 1) := by decide +kernel
theorem dX8_mean_24 : decode cX8_mean 24 = .ok (.aload_n 0, 1) := by decide +kernel
theorem dX8_mean_25 : decode cX8_mean 25 = .ok (.getfield 7, 3) := by decide +kernel
theorem dX8_mean_28 : decode cX8_mean 28 = .ok (.iload_n 1, 1) := by decide +kernel
theorem dX8_mean_29 : decode cX8_mean 29 = .ok (.iaload, 1) := by decide +kernel
theorem dX8_mean_30 : decode cX8_mean 30 = .ok (.ifCond .ne 9, 3) := by decide +kernel
theorem dX8_mean_33 : decode cX8_mean 33 = .ok (.aload_n 0, 1) := by decide +kernel
theorem dX8_mean_34 : decode cX8_mean 34 = .ok (.iconst 4, 1) := by decide +kernel
theorem dX8_mean_35 : decode cX8_mean 35 = .ok (.invokevirtual 75, 3) := by decide +kernel
theorem dX8_mean_38 : decode cX8_mean 38 = .ok (.ireturn, 1) := by decide +kernel
theorem dX8_mean_39 : decode cX8_mean 39 = .ok (.lconst 0, 1) := by decide +kernel
theorem dX8_mean_40 : decode cX8_mean 40 = .ok (.lstore_n 2, 1) := by decide +kernel
theorem dX8_mean_41 : decode cX8_mean 41 = .ok (.iconst 0, 1) := by decide +kernel
theorem dX8_mean_42 : decode cX8_mean 42 = .ok (.istore 4, 2) := by decide +kernel
theorem dX8_mean_44 : decode cX8_mean 44 = .ok (.iload 4, 2) := by decide +kernel
theorem dX8_mean_46 : decode cX8_mean 46 = .ok (.aload_n 0, 1) := by decide +kernel
theorem dX8_mean_47 : decode cX8_mean 47 = .ok (.getfield 7, 3) := by decide +kernel
theorem dX8_mean_50 : decode cX8_mean 50 = .ok (.iload_n 1, 1) := by decide +kernel
theorem dX8_mean_51 : decode cX8_mean 51 = .ok (.iaload, 1) := by decide +kernel
theorem dX8_mean_52 : decode cX8_mean 52 = .ok (.if_icmp .ge 25, 3) := by decide +kernel
theorem dX8_mean_55 : decode cX8_mean 55 = .ok (.lload_n 2, 1) := by decide +kernel
theorem dX8_mean_56 : decode cX8_mean 56 = .ok (.aload_n 0, 1) := by decide +kernel
theorem dX8_mean_57 : decode cX8_mean 57 = .ok (.getfield 13, 3) := by decide +kernel
theorem dX8_mean_60 : decode cX8_mean 60 = .ok (.bipush 40, 2) := by decide +kernel
theorem dX8_mean_62 : decode cX8_mean 62 = .ok (.iload_n 1, 1) := by decide +kernel
theorem dX8_mean_63 : decode cX8_mean 63 = .ok (.imul, 1) := by decide +kernel
theorem dX8_mean_64 : decode cX8_mean 64 = .ok (.iload 4, 2) := by decide +kernel
theorem dX8_mean_66 : decode cX8_mean 66 = .ok (.iadd, 1) := by decide +kernel
theorem dX8_mean_67 : decode cX8_mean 67 = .ok (.iaload, 1) := by decide +kernel
theorem dX8_mean_68 : decode cX8_mean 68 = .ok (.i2l, 1) := by decide +kernel
theorem dX8_mean_69 : decode cX8_mean 69 = .ok (.ladd, 1) := by decide +kernel
theorem dX8_mean_70 : decode cX8_mean 70 = .ok (.lstore_n 2, 1) := by decide +kernel
theorem dX8_mean_71 : decode cX8_mean 71 = .ok (.iinc 4 1, 3) := by decide +kernel
theorem dX8_mean_74 : decode cX8_mean 74 = .ok (.goto (-30), 3) := by decide +kernel
theorem dX8_mean_77 : decode cX8_mean 77 = .ok (.aload_n 0, 1) := by decide +kernel
theorem dX8_mean_78 : decode cX8_mean 78 = .ok (.lload_n 2, 1) := by decide +kernel
theorem dX8_mean_79 : decode cX8_mean 79 = .ok (.aload_n 0, 1) := by decide +kernel
theorem dX8_mean_80 : decode cX8_mean 80 = .ok (.getfield 7, 3) := by decide +kernel
theorem dX8_mean_83 : decode cX8_mean 83 = .ok (.iload_n 1, 1) := by decide +kernel
theorem dX8_mean_84 : decode cX8_mean 84 = .ok (.iaload, 1) := by decide +kernel
theorem dX8_mean_85 : decode cX8_mean 85 = .ok (.i2l, 1) := by decide +kernel
theorem dX8_mean_86 : decode cX8_mean 86 = .ok (.ldiv, 1) := by decide +kernel
theorem dX8_mean_87 : decode cX8_mean 87 = .ok (.l2i, 1) := by decide +kernel
theorem dX8_mean_88 : decode cX8_mean 88 = .ok (.invokevirtual 79, 3) := by decide +kernel
theorem dX8_mean_91 : decode cX8_mean 91 = .ok (.ireturn, 1) := by decide +kernel
set_option maxRecDepth 20000 in
theorem ggX8_text_X8_isText : GoodIn wsX8_text wsX8_isText := goodIn_r _ [6, 7, 8, 9, 5, 10] (by decide +kernel) (by decide +kernel)
set_option maxRecDepth 20000 in
theorem gX8_text_X8_isText : GoodIn wsX8_text (va_wsS RX8 82 yX8_isText wsX8_isText) := goodIn_app (goodIn_of _ (by decide +kernel)) ggX8_text_X8_isText
set_option maxRecDepth 20000 in
theorem ggX8_text_X8_found : GoodIn wsX8_text wsX8_found := goodIn_r _ [14, 15, 16, 17, 18, 19, 20, 21, 22, 23, 24, 25, 26, 27, 28, 29, 30, 31, 32, 33, 34, 35, 36, 37, 38] (by decide +kernel) (by decide +kernel)
set_option maxRecDepth 20000 in
theorem gX8_text_X8_found : GoodIn wsX8_text (wsV RX8 75 RX8 yX8_found wsX8_found) := goodIn_app (goodIn_of _ (by decide +kernel)) ggX8_text_X8_found
theorem dX8_text_0 : decode cX8_text 0 = .ok (.iload_n 1, 1) := by decide +kernel
theorem dX8_text_1 : decode cX8_text 1 = .ok (.invokestatic 82, 3) := by decide +kernel
theorem dX8_text_4 : decode cX8_text 4 = .ok (.ifCond .eq 9, 3) := by decide +kernel
theorem dX8_text_7 : decode cX8_text 7 = .ok (.iload_n 2, 1) := by decide +kernel
theorem dX8_text_8 : decode cX8_text 8 = .ok (.bipush 90, 2) := by decide +kernel
theorem dX8_text_10 : decode cX8_text 10 = .ok (.if_icmp .le 5, 3) := by decide +kernel
theorem dX8_text_13 : decode cX8_text 13 = .ok (.iconst (-1), 1) := by decide +kernel
theorem dX8_text_14 : decode cX8_text 14 = .ok (.ireturn, 1) := by decide +kernel
theorem dX8_text_15 : decode cX8_text 15 = .ok (.iload_n 2, 1) := by decide +kernel
theorem dX8_text_16 : decode cX8_text 16 = .ok (.ifCond .ge 9, 3) := by decide +kernel
theorem dX8_text_19 : decode cX8_text 19 = .ok (.aload_n 0, 1) := by decide +kernel
theorem dX8_text_20 : decode cX8_text 20 = .ok (.iconst 5, 1) := by decide +kernel
theorem dX8_text_21 : decode cX8_text 21 = .ok (.invokevirtual 75, 3) := by decide +kernel
theorem dX8_text_24 : decode cX8_text 24 = .ok (.ireturn, 1) := by decide +kernel
theorem dX8_text_25 : decode cX8_text 25 = .ok (.aload_n 0, 1) := by decide +kernel
theorem dX8_text_26 : decode cX8_text 26 = .ok (.getfield 16, 3) := by decide +kernel
theorem dX8_text_29 : decode cX8_text 29 = .ok (.iload_n 1, 1) := by decide +kernel
theorem dX8_text_30 : decode cX8_text 30 = .ok (.iload_n 2, 1) := by decide +kernel
theorem dX8_text_31 : decode cX8_text 31 = .ok (.iastore, 1) := by decide +kernel
theorem dX8_text_32 : decode cX8_text 32 = .ok (.iconst 0, 1) := by decide +kernel
theorem dX8_text_33 : decode cX8_text 33 = .ok (.istore_n 3, 1) := by decide +kernel
theorem dX8_text_34 : decode cX8_text 34 = .ok (.iload_n 3, 1) := by decide +kernel
theorem dX8_text_35 : decode cX8_text 35 = .ok (.bipush 90, 2) := by decide +kernel
theorem dX8_text_37 : decode cX8_text 37 = .ok (.if_icmp .ge 22, 3) := by decide +kernel
theorem dX8_text_40 : decode cX8_text 40 = .ok (.aload_n 0, 1) := by decide +kernel
theorem dX8_text_41 : decode cX8_text 41 = .ok (.getfield 19, 3) := by decide +kernel
theorem dX8_text_44 : decode cX8_text 44 = .ok (.bipush 90, 2) := by decide +kernel
theorem dX8_text_46 : decode cX8_text 46 = .ok (.iload_n 1, 1) := by decide +kernel
theorem dX8_text_47 : decode cX8_text 47 = .ok (.imul, 1) := by decide +kernel
theorem dX8_text_48 : decode cX8_text 48 = .ok (.iload_n 3, 1) := by decide +kernel
theorem dX8_text_49 : decode cX8_text 49 = .ok (.iadd, 1) := by decide +kernel
theorem dX8_text_50 : decode cX8_text 50 = .ok (.bipush 32, 2) := by decide +kernel
theorem dX8_text_52 : decode cX8_text 52 = .ok (.iastore, 1) := by decide +kernel
theorem dX8_text_53 : decode cX8_text 53 = .ok (.iinc 3 1, 3) := by decide +kernel
theorem dX8_text_56 : decode cX8_text 56 = .ok (.goto (-22), 3) := by decide +kernel
theorem dX8_text_59 : decode cX8_text 59 = .ok (.iload_n 2, 1) := by decide +kernel
theorem dX8_text_60 : decode cX8_text 60 = .ok (.ireturn, 1) := by decide +kernel
set_option maxRecDepth 20000 in
theorem ggX8_put_X8_isText : GoodIn wsX8_put wsX8_isText := goodIn_r _ [6, 7, 8, 9, 5, 10] (by decide +kernel) (by decide +kernel)
set_option maxRecDepth 20000 in
theorem gX8_put_X8_isText : GoodIn wsX8_put (va_wsS RX8 82 yX8_isText wsX8_isText) := goodIn_app (goodIn_of _ (by decide +kernel)) ggX8_put_X8_isText
set_option maxRecDepth 20000 in
theorem ggX8_put_X8_found : GoodIn wsX8_put wsX8_found := goodIn_r _ [14, 15, 16, 17, 18, 19, 20, 21, 22, 23, 24, 25, 26, 27, 28, 29, 30, 31, 32, 33, 34, 35, 36, 37, 38] (by decide +kernel) (by decide +kernel)
set_option maxRecDepth 20000 in
theorem gX8_put_X8_found : GoodIn wsX8_put (wsV RX8 75 RX8 yX8_found wsX8_found) := goodIn_app (goodIn_of _ (by decide +kernel)) ggX8_put_X8_found
set_option maxRecDepth 20000 in
theorem ggX8_put_X8_in : GoodIn wsX8_put wsX8_in := goodIn_r _ [10] (by decide +kernel) (by decide +kernel)
set_option maxRecDepth 20000 in
theorem gX8_put_X8_in : GoodIn wsX8_put (va_wsS RX8 65 yX8_in wsX8_in) := goodIn_app (goodIn_of _ (by decide +kernel)) ggX8_put_X8_in
theorem dX8_put_0 : decode cX8_put 0 = .ok (.iload_n 1, 1) := by decide +kernel
theorem dX8_put_1 : decode cX8_put 1 = .ok (.invokestatic 82, 3) := by decide +kernel
theorem dX8_put_4 : decode cX8_put 4 = .ok (.ifCond .ne 5, 3) := by decide +kernel
theorem dX8_put_7 : decode cX8_put 7 = .ok (.iconst (-1), 1) := by decide +kernel
theorem dX8_put_8 : decode cX8_put 8 = .ok (.ireturn, 1) := by decide +kernel
theorem dX8_put_9 : decode cX8_put 9 = .ok (.aload_n 0, 1) := by decide +kernel
theorem dX8_put_10 : decode cX8_put 10 = .ok (.getfield 16, 3) := by decide +kernel
theorem dX8_put_13 : decode cX8_put 13 = .ok (.iload_n 1, 1) := by decide +kernel
theorem dX8_put_14 : decode cX8_put 14 = .ok (.iaload, 1) := by decide +kernel
theorem dX8_put_15 : decode cX8_put 15 = .ok (.ifCond .ge 9, 3) := by decide +kernel
theorem dX8_put_18 : decode cX8_put 18 = .ok (.aload_n 0, 1) := by decide +kernel
theorem dX8_put_19 : decode cX8_put 19 = .ok (.iconst 1, 1) := by decide +kernel
theorem dX8_put_20 : decode cX8_put 20 = .ok (.invokevirtual 75, 3) := by decide +kernel
theorem dX8_put_23 : decode cX8_put 23 = .ok (.ireturn, 1) := by decide +kernel
theorem dX8_put_24 : decode cX8_put 24 = .ok (.iload_n 2, 1) := by decide +kernel
theorem dX8_put_25 : decode cX8_put 25 = .ok (.i2l, 1) := by decide +kernel
theorem dX8_put_26 : decode cX8_put 26 = .ok (.lconst 0, 1) := by decide +kernel
theorem dX8_put_27 : decode cX8_put 27 = .ok (.aload_n 0, 1) := by decide +kernel
theorem dX8_put_28 : decode cX8_put 28 = .ok (.getfield 16, 3) := by decide +kernel
theorem dX8_put_31 : decode cX8_put 31 = .ok (.iload_n 1, 1) := by decide +kernel
theorem dX8_put_32 : decode cX8_put 32 = .ok (.iaload, 1) := by decide +kernel
theorem dX8_put_33 : decode cX8_put 33 = .ok (.iconst 1, 1) := by decide +kernel
theorem dX8_put_34 : decode cX8_put 34 = .ok (.isub, 1) := by decide +kernel
theorem dX8_put_35 : decode cX8_put 35 = .ok (.i2l, 1) := by decide +kernel
theorem dX8_put_36 : decode cX8_put 36 = .ok (.invokestatic 65, 3) := by decide +kernel
theorem dX8_put_39 : decode cX8_put 39 = .ok (.ifCond .ne 9, 3) := by decide +kernel
theorem dX8_put_42 : decode cX8_put 42 = .ok (.aload_n 0, 1) := by decide +kernel
theorem dX8_put_43 : decode cX8_put 43 = .ok (.iconst 2, 1) := by decide +kernel
theorem dX8_put_44 : decode cX8_put 44 = .ok (.invokevirtual 75, 3) := by decide +kernel
theorem dX8_put_47 : decode cX8_put 47 = .ok (.ireturn, 1) := by decide +kernel
theorem dX8_put_48 : decode cX8_put 48 = .ok (.aload_n 0, 1) := by decide +kernel
theorem dX8_put_49 : decode cX8_put 49 = .ok (.getfield 19, 3) := by decide +kernel
theorem dX8_put_52 : decode cX8_put 52 = .ok (.bipush 90, 2) := by decide +kernel
theorem dX8_put_54 : decode cX8_put 54 = .ok (.iload_n 1, 1) := by decide +kernel
theorem dX8_put_55 : decode cX8_put 55 = .ok (.imul, 1) := by decide +kernel
theorem dX8_put_56 : decode cX8_put 56 = .ok (.iload_n 2, 1) := by decide +kernel
theorem dX8_put_57 : decode cX8_put 57 = .ok (.iadd, 1) := by decide +kernel
theorem dX8_put_58 : decode cX8_put 58 = .ok (.iaload, 1) := by decide +kernel
theorem dX8_put_59 : decode cX8_put 59 = .ok (.istore 4, 2) := by decide +kernel
theorem dX8_put_61 : decode cX8_put 61 = .ok (.aload_n 0, 1) := by decide +kernel
theorem dX8_put_62 : decode cX8_put 62 = .ok (.getfield 19, 3) := by decide +kernel
theorem dX8_put_65 : decode cX8_put 65 = .ok (.bipush 90, 2) := by decide +kernel
theorem dX8_put_67 : decode cX8_put 67 = .ok (.iload_n 1, 1) := by decide +kernel
theorem dX8_put_68 : decode cX8_put 68 = .ok (.imul, 1) := by decide +kernel
theorem dX8_put_69 : decode cX8_put 69 = .ok (.iload_n 2, 1) := by decide +kernel
theorem dX8_put_70 : decode cX8_put 70 = .ok (.iadd, 1) := by decide +kernel
theorem dX8_put_71 : decode cX8_put 71 = .ok (.iload_n 3, 1) := by decide +kernel
theorem dX8_put_72 : decode cX8_put 72 = .ok (.i2b, 1) := by decide +kernel
theorem dX8_put_73 : decode cX8_put 73 = .ok (.iastore, 1) := by decide +kernel
theorem dX8_put_74 : decode cX8_put 74 = .ok (.iload 4, 2) := by decide +kernel
theorem dX8_put_76 : decode cX8_put 76 = .ok (.sipush 1000, 3) := by decide +kernel
theorem dX8_put_79 : decode cX8_put 79 = .ok (.iadd, 1) := by decide +kernel
theorem dX8_put_80 : decode cX8_put 80 = .ok (.ireturn, 1) := by decide +kernel
theorem dX8_copies_0 : decode cX8_copies 0 = .ok (.iconst 0, 1) := by decide +kernel
theorem dX8_copies_1 : decode cX8_copies 1 = .ok (.istore 5, 2) := by decide +kernel
theorem dX8_copies_3 : decode cX8_copies 3 = .ok (.iload 5, 2) := by decide +kernel
theorem dX8_copies_5 : decode cX8_copies 5 = .ok (.iload 4, 2) := by decide +kernel
theorem dX8_copies_7 : decode cX8_copies 7 = .ok (.if_icmp .ge 21, 3) := by decide +kernel
theorem dX8_copies_10 : decode cX8_copies 10 = .ok (.aload_n 2, 1) := by decide +kernel
theorem dX8_copies_11 : decode cX8_copies 11 = .ok (.iload_n 3, 1) := by decide +kernel
theorem dX8_copies_12 : decode cX8_copies 12 = .ok (.iload 5, 2) := by decide +kernel
theorem dX8_copies_14 : decode cX8_copies 14 = .ok (.iadd, 1) := by decide +kernel
theorem dX8_copies_15 : decode cX8_copies 15 = .ok (.aload_n 0, 1) := by decide +kernel
theorem dX8_copies_16 : decode cX8_copies 16 = .ok (.iload_n 1, 1) := by decide +kernel
theorem dX8_copies_17 : decode cX8_copies 17 = .ok (.iload 5, 2) := by decide +kernel
theorem dX8_copies_19 : decode cX8_copies 19 = .ok (.iadd, 1) := by decide +kernel
theorem dX8_copies_20 : decode cX8_copies 20 = .ok (.iaload, 1) := by decide +kernel
theorem dX8_copies_21 : decode cX8_copies 21 = .ok (.iastore, 1) := by decide +kernel
theorem dX8_copies_22 : decode cX8_copies 22 = .ok (.iinc 5 1, 3) := by decide +kernel
theorem dX8_copies_25 : decode cX8_copies 25 = .ok (.goto (-22), 3) := by decide +kernel
theorem dX8_copies_28 : decode cX8_copies 28 = .ok (.return_, 1) := by decide +kernel
set_option maxRecDepth 20000 in
theorem ggX8_isWord_X8_in : GoodIn wsX8_isWord wsX8_in := goodIn_r _ [5] (by decide +kernel) (by decide +kernel)
set_option maxRecDepth 20000 in
theorem gX8_isWord_X8_in : GoodIn wsX8_isWord (va_wsS RX8 65 yX8_in wsX8_in) := goodIn_app (goodIn_of _ (by decide +kernel)) ggX8_isWord_X8_in
theorem dX8_isWord_0 : decode cX8_isWord 0 = .ok (.iload_n 1, 1) := by decide +kernel
theorem dX8_isWord_1 : decode cX8_isWord 1 = .ok (.i2l, 1) := by decide +kernel
theorem dX8_isWord_2 : decode cX8_isWord 2 = .ok (.iload_n 2, 1) := by decide +kernel
theorem dX8_isWord_3 : decode cX8_isWord 3 = .ok (.i2l, 1) := by decide +kernel
theorem dX8_isWord_4 : decode cX8_isWord 4 = .ok (.ldc2_w 85, 3) := by decide +kernel
theorem dX8_isWord_7 : decode cX8_isWord 7 = .ok (.invokestatic 65, 3) := by decide +kernel
theorem dX8_isWord_10 : decode cX8_isWord 10 = .ok (.ifCond .eq 23, 3) := by decide +kernel
theorem dX8_isWord_13 : decode cX8_isWord 13 = .ok (.iload_n 0, 1) := by decide +kernel
theorem dX8_isWord_14 : decode cX8_isWord 14 = .ok (.i2l, 1) := by decide +kernel
theorem dX8_isWord_15 : decode cX8_isWord 15 = .ok (.lconst 0, 1) := by decide +kernel
theorem dX8_isWord_16 : decode cX8_isWord 16 = .ok (.lconst 1, 1) := by decide +kernel
theorem dX8_isWord_17 : decode cX8_isWord 17 = .ok (.iconst 4, 1) := by decide +kernel
theorem dX8_isWord_18 : decode cX8_isWord 18 = .ok (.iload_n 1, 1) := by decide +kernel
theorem dX8_isWord_19 : decode cX8_isWord 19 = .ok (.imul, 1) := by decide +kernel
theorem dX8_isWord_20 : decode cX8_isWord 20 = .ok (.lshl, 1) := by decide +kernel
theorem dX8_isWord_21 : decode cX8_isWord 21 = .ok (.lconst 1, 1) := by decide +kernel
theorem dX8_isWord_22 : decode cX8_isWord 22 = .ok (.lsub, 1) := by decide +kernel
theorem dX8_isWord_23 : decode cX8_isWord 23 = .ok (.invokestatic 65, 3) := by decide +kernel
theorem dX8_isWord_26 : decode cX8_isWord 26 = .ok (.ifCond .eq 7, 3) := by decide +kernel
theorem dX8_isWord_29 : decode cX8_isWord 29 = .ok (.iconst 1, 1) := by decide +kernel
theorem dX8_isWord_30 : decode cX8_isWord 30 = .ok (.goto 4, 3) := by decide +kernel
theorem dX8_isWord_33 : decode cX8_isWord 33 = .ok (.iconst 0, 1) := by decide +kernel
theorem dX8_isWord_34 : decode cX8_isWord 34 = .ok (.ireturn, 1) := by decide +kernel
theorem dX8_word_0 : decode cX8_word 0 = .ok (.iload_n 0, 1) := by decide +kernel
theorem dX8_word_1 : decode cX8_word 1 = .ok (.iconst 4, 1) := by decide +kernel
theorem dX8_word_2 : decode cX8_word 2 = .ok (.bipush 6, 2) := by decide +kernel
theorem dX8_word_4 : decode cX8_word 4 = .ok (.iload_n 1, 1) := by decide +kernel
theorem dX8_word_5 : decode cX8_word 5 = .ok (.isub, 1) := by decide +kernel
theorem dX8_word_6 : decode cX8_word 6 = .ok (.imul, 1) := by decide +kernel
theorem dX8_word_7 : decode cX8_word 7 = .ok (.ishl, 1) := by decide +kernel
theorem dX8_word_8 : decode cX8_word 8 = .ok (.bipush 8, 2) := by decide +kernel
theorem dX8_word_10 : decode cX8_word 10 = .ok (.imul, 1) := by decide +kernel
theorem dX8_word_11 : decode cX8_word 11 = .ok (.iload_n 1, 1) := by decide +kernel
theorem dX8_word_12 : decode cX8_word 12 = .ok (.iadd, 1) := by decide +kernel
theorem dX8_word_13 : decode cX8_word 13 = .ok (.ireturn, 1) := by decide +kernel
theorem dX8_sizeOf_0 : decode cX8_sizeOf 0 = .ok (.iload_n 0, 1) := by decide +kernel
theorem dX8_sizeOf_1 : decode cX8_sizeOf 1 = .ok (.bipush 7, 2) := by decide +kernel
theorem dX8_sizeOf_3 : decode cX8_sizeOf 3 = .ok (.iand, 1) := by decide +kernel
theorem dX8_sizeOf_4 : decode cX8_sizeOf 4 = .ok (.ireturn, 1) := by decide +kernel
theorem dX8_figure_0 : decode cX8_figure 0 = .ok (.iload_n 0, 1) := by decide +kernel
theorem dX8_figure_1 : decode cX8_figure 1 = .ok (.iconst 3, 1) := by decide +kernel
theorem dX8_figure_2 : decode cX8_figure 2 = .ok (.ishr, 1) := by decide +kernel
theorem dX8_figure_3 : decode cX8_figure 3 = .ok (.iconst 4, 1) := by decide +kernel
theorem dX8_figure_4 : decode cX8_figure 4 = .ok (.iconst 5, 1) := by decide +kernel
theorem dX8_figure_5 : decode cX8_figure 5 = .ok (.iload_n 1, 1) := by decide +kernel
theorem dX8_figure_6 : decode cX8_figure 6 = .ok (.isub, 1) := by decide +kernel
theorem dX8_figure_7 : decode cX8_figure 7 = .ok (.imul, 1) := by decide +kernel
theorem dX8_figure_8 : decode cX8_figure 8 = .ok (.ishr, 1) := by decide +kernel
theorem dX8_figure_9 : decode cX8_figure 9 = .ok (.bipush 15, 2) := by decide +kernel
theorem dX8_figure_11 : decode cX8_figure 11 = .ok (.iand, 1) := by decide +kernel
theorem dX8_figure_12 : decode cX8_figure 12 = .ok (.ireturn, 1) := by decide +kernel
set_option maxRecDepth 20000 in
theorem ggX8_numberOf_X8_sizeOf : GoodIn wsX8_numberOf wsX8_sizeOf := goodIn_r _ [4] (by decide +kernel) (by decide +kernel)
set_option maxRecDepth 20000 in
theorem gX8_numberOf_X8_sizeOf : GoodIn wsX8_numberOf (va_wsS RX8 87 yX8_sizeOf wsX8_sizeOf) := goodIn_app (goodIn_of _ (by decide +kernel)) ggX8_numberOf_X8_sizeOf
theorem dX8_numberOf_0 : decode cX8_numberOf 0 = .ok (.iload_n 0, 1) := by decide +kernel
theorem dX8_numberOf_1 : decode cX8_numberOf 1 = .ok (.iconst 3, 1) := by decide +kernel
theorem dX8_numberOf_2 : decode cX8_numberOf 2 = .ok (.ishr, 1) := by decide +kernel
theorem dX8_numberOf_3 : decode cX8_numberOf 3 = .ok (.iconst 4, 1) := by decide +kernel
theorem dX8_numberOf_4 : decode cX8_numberOf 4 = .ok (.bipush 6, 2) := by decide +kernel
theorem dX8_numberOf_6 : decode cX8_numberOf 6 = .ok (.iload_n 0, 1) := by decide +kernel
theorem dX8_numberOf_7 : decode cX8_numberOf 7 = .ok (.invokestatic 87, 3) := by decide +kernel
theorem dX8_numberOf_10 : decode cX8_numberOf 10 = .ok (.isub, 1) := by decide +kernel
theorem dX8_numberOf_11 : decode cX8_numberOf 11 = .ok (.imul, 1) := by decide +kernel
theorem dX8_numberOf_12 : decode cX8_numberOf 12 = .ok (.ishr, 1) := by decide +kernel
theorem dX8_numberOf_13 : decode cX8_numberOf 13 = .ok (.ireturn, 1) := by decide +kernel
set_option maxRecDepth 20000 in
theorem ggX8_alikeOf_X8_sizeOf : GoodIn wsX8_alikeOf wsX8_sizeOf := goodIn_r _ [4] (by decide +kernel) (by decide +kernel)
set_option maxRecDepth 20000 in
theorem gX8_alikeOf_X8_sizeOf : GoodIn wsX8_alikeOf (va_wsS RX8 87 yX8_sizeOf wsX8_sizeOf) := goodIn_app (goodIn_of _ (by decide +kernel)) ggX8_alikeOf_X8_sizeOf
set_option maxRecDepth 20000 in
theorem ggX8_alikeOf_X8_figure : GoodIn wsX8_alikeOf wsX8_figure := goodIn_r _ [7] (by decide +kernel) (by decide +kernel)
set_option maxRecDepth 20000 in
theorem gX8_alikeOf_X8_figure : GoodIn wsX8_alikeOf (va_wsS RX8 90 yX8_figure wsX8_figure) := goodIn_app (goodIn_of _ (by decide +kernel)) ggX8_alikeOf_X8_figure
theorem dX8_alikeOf_0 : decode cX8_alikeOf 0 = .ok (.iconst 0, 1) := by decide +kernel
theorem dX8_alikeOf_1 : decode cX8_alikeOf 1 = .ok (.istore_n 2, 1) := by decide +kernel
theorem dX8_alikeOf_2 : decode cX8_alikeOf 2 = .ok (.iload_n 2, 1) := by decide +kernel
theorem dX8_alikeOf_3 : decode cX8_alikeOf 3 = .ok (.iload_n 0, 1) := by decide +kernel
theorem dX8_alikeOf_4 : decode cX8_alikeOf 4 = .ok (.invokestatic 87, 3) := by decide +kernel
theorem dX8_alikeOf_7 : decode cX8_alikeOf 7 = .ok (.if_icmp .ge 30, 3) := by decide +kernel
theorem dX8_alikeOf_10 : decode cX8_alikeOf 10 = .ok (.iload_n 2, 1) := by decide +kernel
theorem dX8_alikeOf_11 : decode cX8_alikeOf 11 = .ok (.iload_n 1, 1) := by decide +kernel
theorem dX8_alikeOf_12 : decode cX8_alikeOf 12 = .ok (.invokestatic 87, 3) := by decide +kernel
theorem dX8_alikeOf_15 : decode cX8_alikeOf 15 = .ok (.if_icmp .ge 22, 3) := by decide +kernel
theorem dX8_alikeOf_18 : decode cX8_alikeOf 18 = .ok (.iload_n 0, 1) := by decide +kernel
theorem dX8_alikeOf_19 : decode cX8_alikeOf 19 = .ok (.iload_n 2, 1) := by decide +kernel
theorem dX8_alikeOf_20 : decode cX8_alikeOf 20 = .ok (.invokestatic 90, 3) := by decide +kernel
theorem dX8_alikeOf_23 : decode cX8_alikeOf 23 = .ok (.iload_n 1, 1) := by decide +kernel
theorem dX8_alikeOf_24 : decode cX8_alikeOf 24 = .ok (.iload_n 2, 1) := by decide +kernel
theorem dX8_alikeOf_25 : decode cX8_alikeOf 25 = .ok (.invokestatic 90, 3) := by decide +kernel
theorem dX8_alikeOf_28 : decode cX8_alikeOf 28 = .ok (.if_icmp .ne 9, 3) := by decide +kernel
theorem dX8_alikeOf_31 : decode cX8_alikeOf 31 = .ok (.iinc 2 1, 3) := by decide +kernel
theorem dX8_alikeOf_34 : decode cX8_alikeOf 34 = .ok (.goto (-32), 3) := by decide +kernel
theorem dX8_alikeOf_37 : decode cX8_alikeOf 37 = .ok (.iload_n 2, 1) := by decide +kernel
theorem dX8_alikeOf_38 : decode cX8_alikeOf 38 = .ok (.ireturn, 1) := by decide +kernel
set_option maxRecDepth 20000 in
theorem ggX8_begins_X8_alikeOf : GoodIn wsX8_begins wsX8_alikeOf := goodIn_r _ [4, 5, 6, 3, 7, 8, 9, 10] (by decide +kernel) (by decide +kernel)
set_option maxRecDepth 20000 in
theorem gX8_begins_X8_alikeOf : GoodIn wsX8_begins (va_wsS RX8 94 yX8_alikeOf wsX8_alikeOf) := goodIn_app (goodIn_of _ (by decide +kernel)) ggX8_begins_X8_alikeOf
set_option maxRecDepth 20000 in
theorem ggX8_begins_X8_sizeOf : GoodIn wsX8_begins wsX8_sizeOf := goodIn_r _ [7] (by decide +kernel) (by decide +kernel)
set_option maxRecDepth 20000 in
theorem gX8_begins_X8_sizeOf : GoodIn wsX8_begins (va_wsS RX8 87 yX8_sizeOf wsX8_sizeOf) := goodIn_app (goodIn_of _ (by decide +kernel)) ggX8_begins_X8_sizeOf
theorem dX8_begins_0 : decode cX8_begins 0 = .ok (.iload_n 0, 1) := by decide +kernel
theorem dX8_begins_1 : decode cX8_begins 1 = .ok (.iload_n 1, 1) := by decide +kernel
theorem dX8_begins_2 : decode cX8_begins 2 = .ok (.invokestatic 94, 3) := by decide +kernel
theorem dX8_begins_5 : decode cX8_begins 5 = .ok (.iload_n 1, 1) := by decide +kernel
theorem dX8_begins_6 : decode cX8_begins 6 = .ok (.invokestatic 87, 3) := by decide +kernel
theorem dX8_begins_9 : decode cX8_begins 9 = .ok (.if_icmp .ne 7, 3) := by decide +kernel
theorem dX8_begins_12 : decode cX8_begins 12 = .ok (.iconst 1, 1) := by decide +kernel
theorem dX8_begins_13 : decode cX8_begins 13 = .ok (.goto 4, 3) := by decide +kernel
theorem dX8_begins_16 : decode cX8_begins 16 = .ok (.iconst 0, 1) := by decide +kernel
theorem dX8_begins_17 : decode cX8_begins 17 = .ok (.ireturn, 1) := by decide +kernel
set_option maxRecDepth 20000 in
theorem ggX8_head_X8_word : GoodIn wsX8_head wsX8_word := goodIn_r _ [4] (by decide +kernel) (by decide +kernel)
set_option maxRecDepth 20000 in
theorem gX8_head_X8_word : GoodIn wsX8_head (va_wsS RX8 97 yX8_word wsX8_word) := goodIn_app (goodIn_of _ (by decide +kernel)) ggX8_head_X8_word
theorem dX8_head_0 : decode cX8_head 0 = .ok (.iload_n 1, 1) := by decide +kernel
theorem dX8_head_1 : decode cX8_head 1 = .ok (.ifCond .ne 7, 3) := by decide +kernel
theorem dX8_head_4 : decode cX8_head 4 = .ok (.iconst 0, 1) := by decide +kernel
theorem dX8_head_5 : decode cX8_head 5 = .ok (.goto 13, 3) := by decide +kernel
theorem dX8_head_8 : decode cX8_head 8 = .ok (.iload_n 0, 1) := by decide +kernel
theorem dX8_head_9 : decode cX8_head 9 = .ok (.iconst 3, 1) := by decide +kernel
theorem dX8_head_10 : decode cX8_head 10 = .ok (.ishr, 1) := by decide +kernel
theorem dX8_head_11 : decode cX8_head 11 = .ok (.iconst 4, 1) := by decide +kernel
theorem dX8_head_12 : decode cX8_head 12 = .ok (.bipush 6, 2) := by decide +kernel
theorem dX8_head_14 : decode cX8_head 14 = .ok (.iload_n 1, 1) := by decide +kernel
theorem dX8_head_15 : decode cX8_head 15 = .ok (.isub, 1) := by decide +kernel
theorem dX8_head_16 : decode cX8_head 16 = .ok (.imul, 1) := by decide +kernel
theorem dX8_head_17 : decode cX8_head 17 = .ok (.ishr, 1) := by decide +kernel
theorem dX8_head_18 : decode cX8_head 18 = .ok (.iload_n 1, 1) := by decide +kernel
theorem dX8_head_19 : decode cX8_head 19 = .ok (.invokestatic 97, 3) := by decide +kernel
theorem dX8_head_22 : decode cX8_head 22 = .ok (.ireturn, 1) := by decide +kernel
theorem dX8_aheadOf_0 : decode cX8_aheadOf 0 = .ok (.iconst 0, 1) := by decide +kernel
theorem dX8_aheadOf_1 : decode cX8_aheadOf 1 = .ok (.istore_n 2, 1) := by decide +kernel
theorem dX8_aheadOf_2 : decode cX8_aheadOf 2 = .ok (.iload_n 2, 1) := by decide +kernel
theorem dX8_aheadOf_3 : decode cX8_aheadOf 3 = .ok (.aload_n 0, 1) := by decide +kernel
theorem dX8_aheadOf_4 : decode cX8_aheadOf 4 = .ok (.iconst 0, 1) := by decide +kernel
theorem dX8_aheadOf_5 : decode cX8_aheadOf 5 = .ok (.iaload, 1) := by decide +kernel
theorem dX8_aheadOf_6 : decode cX8_aheadOf 6 = .ok (.if_icmp .ge 18, 3) := by decide +kernel
theorem dX8_aheadOf_9 : decode cX8_aheadOf 9 = .ok (.aload_n 0, 1) := by decide +kernel
theorem dX8_aheadOf_10 : decode cX8_aheadOf 10 = .ok (.iconst 1, 1) := by decide +kernel
theorem dX8_aheadOf_11 : decode cX8_aheadOf 11 = .ok (.iload_n 2, 1) := by decide +kernel
theorem dX8_aheadOf_12 : decode cX8_aheadOf 12 = .ok (.iadd, 1) := by decide +kernel
theorem dX8_aheadOf_13 : decode cX8_aheadOf 13 = .ok (.iaload, 1) := by decide +kernel
theorem dX8_aheadOf_14 : decode cX8_aheadOf 14 = .ok (.iload_n 1, 1) := by decide +kernel
theorem dX8_aheadOf_15 : decode cX8_aheadOf 15 = .ok (.if_icmp .ge 9, 3) := by decide +kernel
theorem dX8_aheadOf_18 : decode cX8_aheadOf 18 = .ok (.iinc 2 1, 3) := by decide +kernel
theorem dX8_aheadOf_21 : decode cX8_aheadOf 21 = .ok (.goto (-19), 3) := by decide +kernel
theorem dX8_aheadOf_24 : decode cX8_aheadOf 24 = .ok (.iload_n 2, 1) := by decide +kernel
theorem dX8_aheadOf_25 : decode cX8_aheadOf 25 = .ok (.ireturn, 1) := by decide +kernel
