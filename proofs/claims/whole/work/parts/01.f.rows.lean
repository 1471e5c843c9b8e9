theorem dX5_looksAhead_80 : decode cX5_looksAhead 80 = .ok (.iload 4, 2) := by decide +kernel
theorem dX5_looksAhead_82 : decode cX5_looksAhead 82 = .ok (.iconst 4, 1) := by decide +kernel
theorem dX5_looksAhead_83 : decode cX5_looksAhead 83 = .ok (.irem, 1) := by decide +kernel
theorem dX5_looksAhead_84 : decode cX5_looksAhead 84 = .ok (.invokevirtual 118, 3) := by decide +kernel
theorem dX5_looksAhead_87 : decode cX5_looksAhead 87 = .ok (.istore 5, 2) := by decide +kernel
theorem dX5_looksAhead_89 : decode cX5_looksAhead 89 = .ok (.aload_n 0, 1) := by decide +kernel
theorem dX5_looksAhead_90 : decode cX5_looksAhead 90 = .ok (.getfield 38, 3) := by decide +kernel
theorem dX5_looksAhead_93 : decode cX5_looksAhead 93 = .ok (.iload_n 3, 1) := by decide +kernel
theorem dX5_looksAhead_94 : decode cX5_looksAhead 94 = .ok (.iload 5, 2) := by decide +kernel
theorem dX5_looksAhead_96 : decode cX5_looksAhead 96 = .ok (.aload_n 0, 1) := by decide +kernel
theorem dX5_looksAhead_97 : decode cX5_looksAhead 97 = .ok (.getfield 38, 3) := by decide +kernel
theorem dX5_looksAhead_100 : decode cX5_looksAhead 100 = .ok (.iload_n 3, 1) := by decide +kernel
theorem dX5_looksAhead_101 : decode cX5_looksAhead 101 = .ok (.iaload, 1) := by decide +kernel
theorem dX5_looksAhead_102 : decode cX5_looksAhead 102 = .ok (.if_icmp .ge 8, 3) := by decide +kernel
theorem dX5_looksAhead_105 : decode cX5_looksAhead 105 = .ok (.iload 5, 2) := by decide +kernel
theorem dX5_looksAhead_107 : decode cX5_looksAhead 107 = .ok (.goto 9, 3) := by decide +kernel
theorem dX5_looksAhead_110 : decode cX5_looksAhead 110 = .ok (.aload_n 0, 1) := by decide +kernel
theorem dX5_looksAhead_111 : decode cX5_looksAhead 111 = .ok (.getfield 38, 3) := by decide +kernel
theorem dX5_looksAhead_114 : decode cX5_looksAhead 114 = .ok (.iload_n 3, 1) := by decide +kernel
theorem dX5_looksAhead_115 : decode cX5_looksAhead 115 = .ok (.iaload, 1) := by decide +kernel
theorem dX5_looksAhead_116 : decode cX5_looksAhead 116 = .ok (.iastore, 1) := by decide +kernel
theorem dX5_looksAhead_117 : decode cX5_looksAhead 117 = .ok (.iinc 4 1, 3) := by decide +kernel
theorem dX5_looksAhead_120 : decode cX5_looksAhead 120 = .ok (.goto (-72), 3) := by decide +kernel
theorem dX5_looksAhead_123 : decode cX5_looksAhead 123 = .ok (.iinc 3 1, 3) := by decide +kernel
theorem dX5_looksAhead_126 : decode cX5_looksAhead 126 = .ok (.goto (-93), 3) := by decide +kernel
theorem dX5_looksAhead_129 : decode cX5_looksAhead 129 = .ok (.iinc 2 1, 3) := by decide +kernel
theorem dX5_looksAhead_132 : decode cX5_looksAhead 132 = .ok (.goto (-107), 3) := by decide +kernel
theorem dX5_looksAhead_135 : decode cX5_looksAhead 135 = .ok (.return_, 1) := by decide +kernel
set_option maxRecDepth 20000 in
theorem ggX5_shortest_X5_looksAhead : GoodIn wsX5_shortest wsX5_looksAhead := goodIn_r _ [7, 1, 8, 9, 10, 6, 11, 12, 13, 14, 15, 16, 17, 18, 19, 20, 21, 22, 23, 24, 25, 26, 27, 28, 29, 30, 31, 32, 33, 2, 34, 35, 36, 37, 38, 39, 40, 41, 42, 43, 44, 45, 46, 47, 48, 49, 50, 51, 52, 53, 54, 55, 56, 57, 58, 59, 60, 61, 62, 63, 64, 65, 66] (by decide +kernel) (by decide +kernel)
set_option maxRecDepth 20000 in
theorem gX5_shortest_X5_looksAhead : GoodIn wsX5_shortest (wsV RX5 122 RX5 yX5_looksAhead wsX5_looksAhead) := goodIn_app (goodIn_of _ (by decide +kernel)) ggX5_shortest_X5_looksAhead
set_option maxRecDepth 20000 in
theorem ggX5_shortest_X5_at : GoodIn wsX5_shortest wsX5_at := goodIn_r _ [46] (by decide +kernel) (by decide +kernel)
set_option maxRecDepth 20000 in
theorem gX5_shortest_X5_at : GoodIn wsX5_shortest (wsV RX5 115 RX5 yX5_at wsX5_at) := goodIn_app (goodIn_of _ (by decide +kernel)) ggX5_shortest_X5_at
theorem dX5_shortest_0 : decode cX5_shortest 0 = .ok (.aload_n 0, 1) := by decide +kernel
theorem dX5_shortest_1 : decode cX5_shortest 1 = .ok (.iload_n 1, 1) := by decide +kernel
theorem dX5_shortest_2 : decode cX5_shortest 2 = .ok (.invokevirtual 122, 3) := by decide +kernel
theorem dX5_shortest_5 : decode cX5_shortest 5 = .ok (.aload_n 0, 1) := by decide +kernel
theorem dX5_shortest_6 : decode cX5_shortest 6 = .ok (.getfield 38, 3) := by decide +kernel
theorem dX5_shortest_9 : decode cX5_shortest 9 = .ok (.aload_n 0, 1) := by decide +kernel
theorem dX5_shortest_10 : decode cX5_shortest 10 = .ok (.aload_n 0, 1) := by decide +kernel
theorem dX5_shortest_11 : decode cX5_shortest 11 = .ok (.getfield 13, 3) := by decide +kernel
theorem dX5_shortest_14 : decode cX5_shortest 14 = .ok (.iload_n 1, 1) := by decide +kernel
theorem dX5_shortest_15 : decode cX5_shortest 15 = .ok (.iaload, 1) := by decide +kernel
theorem dX5_shortest_16 : decode cX5_shortest 16 = .ok (.aload_n 0, 1) := by decide +kernel
theorem dX5_shortest_17 : decode cX5_shortest 17 = .ok (.getfield 13, 3) := by decide +kernel
theorem dX5_shortest_20 : decode cX5_shortest 20 = .ok (.iload_n 1, 1) := by decide +kernel
theorem dX5_shortest_21 : decode cX5_shortest 21 = .ok (.iaload, 1) := by decide +kernel
theorem dX5_shortest_22 : decode cX5_shortest 22 = .ok (.iconst 0, 1) := by decide +kernel
theorem dX5_shortest_23 : decode cX5_shortest 23 = .ok (.invokevirtual 115, 3) := by decide +kernel
theorem dX5_shortest_26 : decode cX5_shortest 26 = .ok (.iaload, 1) := by decide +kernel
theorem dX5_shortest_27 : decode cX5_shortest 27 = .ok (.istore_n 2, 1) := by decide +kernel
theorem dX5_shortest_28 : decode cX5_shortest 28 = .ok (.iload_n 2, 1) := by decide +kernel
theorem dX5_shortest_29 : decode cX5_shortest 29 = .ok (.sipush 1000, 3) := by decide +kernel
theorem dX5_shortest_32 : decode cX5_shortest 32 = .ok (.if_icmp .ge 7, 3) := by decide +kernel
theorem dX5_shortest_35 : decode cX5_shortest 35 = .ok (.iload_n 2, 1) := by decide +kernel
theorem dX5_shortest_36 : decode cX5_shortest 36 = .ok (.goto 4, 3) := by decide +kernel
theorem dX5_shortest_39 : decode cX5_shortest 39 = .ok (.iconst (-1), 1) := by decide +kernel
theorem dX5_shortest_40 : decode cX5_shortest 40 = .ok (.ireturn, 1) := by decide +kernel
set_option maxRecDepth 20000 in
theorem ggX5_silent_X5_isThing : GoodIn wsX5_silent wsX5_isThing := goodIn_r _ [5, 6, 7, 8, 4, 9, 59, 60, 61, 62, 63, 64, 65, 66, 67, 68, 69, 70, 71, 72, 73, 74, 75, 76, 77, 78] (by decide +kernel) (by decide +kernel)
set_option maxRecDepth 20000 in
theorem gX5_silent_X5_isThing : GoodIn wsX5_silent (wsV RX5 74 RX5 yX5_isThing wsX5_isThing) := goodIn_app (goodIn_of _ (by decide +kernel)) ggX5_silent_X5_isThing
set_option maxRecDepth 20000 in
theorem ggX5_silent_X5_shortest : GoodIn wsX5_silent wsX5_shortest := goodIn_r _ [13, 14, 15, 16, 17, 18, 4, 19, 20, 21, 22, 23, 24, 25, 26, 27, 28, 29, 30, 31, 32, 33, 34, 35, 36, 37, 38, 39, 40, 41, 42, 43, 44, 45, 46, 47, 48, 49, 50, 51, 52, 53, 54, 55, 56, 57, 58, 59, 60, 61, 62, 63, 64, 65, 66, 67, 68, 69, 70, 71, 72, 73, 74, 75, 76, 77, 78] (by decide +kernel) (by decide +kernel)
set_option maxRecDepth 20000 in
theorem gX5_silent_X5_shortest : GoodIn wsX5_silent (wsV RX5 126 RX5 yX5_shortest wsX5_shortest) := goodIn_app (goodIn_of _ (by decide +kernel)) ggX5_silent_X5_shortest
theorem dX5_silent_0 : decode cX5_silent 0 = .ok (.aload_n 0, 1) := by decide +kernel
theorem dX5_silent_1 : decode cX5_silent 1 = .ok (.iload_n 1, 1) := by decide +kernel
theorem dX5_silent_2 : decode cX5_silent 2 = .ok (.invokevirtual 74, 3) := by decide +kernel
theorem dX5_silent_5 : decode cX5_silent 5 = .ok (.ifCond .ne 7, 3) := by decide +kernel
theorem dX5_silent_8 : decode cX5_silent 8 = .ok (.iconst (-1), 1) := by decide +kernel
theorem dX5_silent_9 : decode cX5_silent 9 = .ok (.goto 17, 3) := by decide +kernel
theorem dX5_silent_12 : decode cX5_silent 12 = .ok (.aload_n 0, 1) := by decide +kernel
theorem dX5_silent_13 : decode cX5_silent 13 = .ok (.iload_n 1, 1) := by decide +kernel
theorem dX5_silent_14 : decode cX5_silent 14 = .ok (.invokevirtual 126, 3) := by decide +kernel
theorem dX5_silent_17 : decode cX5_silent 17 = .ok (.iconst (-1), 1) := by decide +kernel
theorem dX5_silent_18 : decode cX5_silent 18 = .ok (.if_icmp .ne 7, 3) := by decide +kernel
theorem dX5_silent_21 : decode cX5_silent 21 = .ok (.iconst 1, 1) := by decide +kernel
theorem dX5_silent_22 : decode cX5_silent 22 = .ok (.goto 4, 3) := by decide +kernel
theorem dX5_silent_25 : decode cX5_silent 25 = .ok (.iconst 0, 1) := by decide +kernel
theorem dX5_silent_26 : decode cX5_silent 26 = .ok (.ireturn, 1) := by decide +kernel
set_option maxRecDepth 20000 in
theorem ggX5_shown_X5_isThing : GoodIn wsX5_shown wsX5_isThing := goodIn_r _ [5, 6, 7, 8, 4, 9, 59, 60, 61, 62, 63, 64, 65, 66, 67, 68, 69, 70, 71, 72, 73, 74, 75, 76, 77, 78] (by decide +kernel) (by decide +kernel)
set_option maxRecDepth 20000 in
theorem gX5_shown_X5_isThing : GoodIn wsX5_shown (wsV RX5 74 RX5 yX5_isThing wsX5_isThing) := goodIn_app (goodIn_of _ (by decide +kernel)) ggX5_shown_X5_isThing
set_option maxRecDepth 20000 in
theorem ggX5_shown_X5_shortest : GoodIn wsX5_shown wsX5_shortest := goodIn_r _ [13, 14, 15, 16, 17, 18, 4, 19, 20, 21, 22, 23, 24, 25, 26, 27, 28, 29, 30, 31, 32, 33, 34, 35, 36, 37, 38, 39, 40, 41, 42, 43, 44, 45, 46, 47, 48, 49, 50, 51, 52, 53, 54, 55, 56, 57, 58, 59, 60, 61, 62, 63, 64, 65, 66, 67, 68, 69, 70, 71, 72, 73, 74, 75, 76, 77, 78] (by decide +kernel) (by decide +kernel)
set_option maxRecDepth 20000 in
theorem gX5_shown_X5_shortest : GoodIn wsX5_shown (wsV RX5 126 RX5 yX5_shortest wsX5_shortest) := goodIn_app (goodIn_of _ (by decide +kernel)) ggX5_shown_X5_shortest
theorem dX5_shown_0 : decode cX5_shown 0 = .ok (.aload_n 0, 1) := by decide +kernel
theorem dX5_shown_1 : decode cX5_shown 1 = .ok (.iload_n 1, 1) := by decide +kernel
theorem dX5_shown_2 : decode cX5_shown 2 = .ok (.invokevirtual 74, 3) := by decide +kernel
theorem dX5_shown_5 : decode cX5_shown 5 = .ok (.ifCond .eq 11, 3) := by decide +kernel
theorem dX5_shown_8 : decode cX5_shown 8 = .ok (.aload_n 0, 1) := by decide +kernel
theorem dX5_shown_9 : decode cX5_shown 9 = .ok (.iload_n 1, 1) := by decide +kernel
theorem dX5_shown_10 : decode cX5_shown 10 = .ok (.invokevirtual 126, 3) := by decide +kernel
theorem dX5_shown_13 : decode cX5_shown 13 = .ok (.goto 4, 3) := by decide +kernel
theorem dX5_shown_16 : decode cX5_shown 16 = .ok (.iconst (-1), 1) := by decide +kernel
theorem dX5_shown_17 : decode cX5_shown 17 = .ok (.ireturn, 1) := by decide +kernel
theorem dX5_named_0 : decode cX5_named 0 = .ok (.iload_n 1, 1) := by decide +kernel
theorem dX5_named_1 : decode cX5_named 1 = .ok (.iconst 3, 1) := by decide +kernel
theorem dX5_named_2 : decode cX5_named 2 = .ok (.if_icmp .ne 8, 3) := by decide +kernel
theorem dX5_named_5 : decode cX5_named 5 = .ok (.bipush 9, 2) := by decide +kernel
theorem dX5_named_7 : decode cX5_named 7 = .ok (.goto 8, 3) := by decide +kernel
theorem dX5_named_10 : decode cX5_named 10 = .ok (.iconst 3, 1) := by decide +kernel
theorem dX5_named_11 : decode cX5_named 11 = .ok (.iload_n 0, 1) := by decide +kernel
theorem dX5_named_12 : decode cX5_named 12 = .ok (.imul, 1) := by decide +kernel
theorem dX5_named_13 : decode cX5_named 13 = .ok (.iload_n 1, 1) := by decide +kernel
theorem dX5_named_14 : decode cX5_named 14 = .ok (.iadd, 1) := by decide +kernel
theorem dX5_named_15 : decode cX5_named 15 = .ok (.ireturn, 1) := by decide +kernel
set_option maxRecDepth 20000 in
theorem ggX5_show_X5_isThing : GoodIn wsX5_show wsX5_isThing := goodIn_r _ [6, 7, 8, 9, 5, 10, 62, 63, 64, 65, 66, 67, 68, 69, 70, 71, 72, 73, 74, 75, 76, 77, 78, 79, 80, 81] (by decide +kernel) (by decide +kernel)
set_option maxRecDepth 20000 in
theorem gX5_show_X5_isThing : GoodIn wsX5_show (wsV RX5 74 RX5 yX5_isThing wsX5_isThing) := goodIn_app (goodIn_of _ (by decide +kernel)) ggX5_show_X5_isThing
set_option maxRecDepth 20000 in
theorem ggX5_show_X5_isIn : GoodIn wsX5_show wsX5_isIn := goodIn_r _ [10] (by decide +kernel) (by decide +kernel)
set_option maxRecDepth 20000 in
theorem gX5_show_X5_isIn : GoodIn wsX5_show (va_wsS RX5 66 yX5_isIn wsX5_isIn) := goodIn_app (goodIn_of _ (by decide +kernel)) ggX5_show_X5_isIn
set_option maxRecDepth 20000 in
theorem ggX5_show_X5_shortest : GoodIn wsX5_show wsX5_shortest := goodIn_r _ [14, 15, 1, 16, 17, 18, 5, 19, 20, 21, 22, 23, 24, 25, 26, 27, 28, 29, 30, 31, 32, 33, 34, 35, 36, 37, 38, 39, 40, 41, 42, 43, 44, 45, 46, 47, 48, 49, 50, 51, 52, 53, 54, 55, 56, 57, 58, 62, 63, 64, 65, 66, 67, 68, 69, 70, 71, 72, 73, 74, 75, 76, 77, 78, 79, 80, 81] (by decide +kernel) (by decide +kernel)
set_option maxRecDepth 20000 in
theorem gX5_show_X5_shortest : GoodIn wsX5_show (wsV RX5 126 RX5 yX5_shortest wsX5_shortest) := goodIn_app (goodIn_of _ (by decide +kernel)) ggX5_show_X5_shortest
set_option maxRecDepth 20000 in
theorem ggX5_show_X5_phases : GoodIn wsX5_show wsX5_phases := goodIn_r _ [23, 24, 25, 62, 63, 64, 65, 66, 67, 68, 69, 70, 71, 72, 73, 74, 75, 76, 77, 78, 79, 80, 81] (by decide +kernel) (by decide +kernel)
set_option maxRecDepth 20000 in
theorem gX5_show_X5_phases : GoodIn wsX5_show (wsV RX5 112 RX5 yX5_phases wsX5_phases) := goodIn_app (goodIn_of _ (by decide +kernel)) ggX5_show_X5_phases
set_option maxRecDepth 20000 in
theorem ggX5_show_X5_after : GoodIn wsX5_show wsX5_after := goodIn_r _ [29, 15, 30, 31, 32, 5, 33, 24, 34, 35, 36, 37, 38, 39, 40, 41, 42, 43, 44, 45, 25, 1, 46, 47, 48, 49, 50, 51, 52, 53, 54, 20, 21, 22, 23, 55, 56, 57, 58, 62, 63, 64, 65, 66, 67, 68, 69, 70, 71, 72, 73, 74, 75, 76, 77, 78, 79, 80, 81] (by decide +kernel) (by decide +kernel)
set_option maxRecDepth 20000 in
theorem gX5_show_X5_after : GoodIn wsX5_show (wsV RX5 118 RX5 yX5_after wsX5_after) := goodIn_app (goodIn_of _ (by decide +kernel)) ggX5_show_X5_after
set_option maxRecDepth 20000 in
theorem ggX5_show_X5_sends : GoodIn wsX5_show wsX5_sends := goodIn_r _ [33, 24, 34, 35, 36, 5, 37, 38, 39, 40, 41, 62, 63, 64, 65, 66, 67, 68, 69, 70, 71, 72, 73, 74, 75, 76, 77, 78, 79, 80, 81] (by decide +kernel) (by decide +kernel)
set_option maxRecDepth 20000 in
theorem gX5_show_X5_sends : GoodIn wsX5_show (wsV RX5 99 RX5 yX5_sends wsX5_sends) := goodIn_app (goodIn_of _ (by decide +kernel)) ggX5_show_X5_sends
set_option maxRecDepth 20000 in
theorem ggX5_show_X5_cleans : GoodIn wsX5_show wsX5_cleans := goodIn_r _ [45, 24, 25, 1, 62, 63, 64, 65, 66, 67, 68, 69, 70, 71, 72, 73, 74, 75, 76, 77, 78, 79, 80, 81] (by decide +kernel) (by decide +kernel)
set_option maxRecDepth 20000 in
theorem gX5_show_X5_cleans : GoodIn wsX5_show (wsV RX5 103 RX5 yX5_cleans wsX5_cleans) := goodIn_app (goodIn_of _ (by decide +kernel)) ggX5_show_X5_cleans
set_option maxRecDepth 20000 in
theorem ggX5_show_X5_named : GoodIn wsX5_show wsX5_named := goodIn_r _ [61] (by decide +kernel) (by decide +kernel)
set_option maxRecDepth 20000 in
theorem gX5_show_X5_named : GoodIn wsX5_show (va_wsS RX5 129 yX5_named wsX5_named) := goodIn_app (goodIn_of _ (by decide +kernel)) ggX5_show_X5_named
set_option maxRecDepth 20000 in
theorem ggX5_show_X5_answers : GoodIn wsX5_show wsX5_answers := goodIn_r _ [49, 24, 50, 34, 35, 36, 5, 37, 38, 39, 40, 41, 62, 63, 64, 65, 66, 67, 68, 69, 70, 71, 72, 73, 74, 75, 76, 77, 78, 79, 80, 81] (by decide +kernel) (by decide +kernel)
set_option maxRecDepth 20000 in
theorem gX5_show_X5_answers : GoodIn wsX5_show (wsV RX5 106 RX5 yX5_answers wsX5_answers) := goodIn_app (goodIn_of _ (by decide +kernel)) ggX5_show_X5_answers
set_option maxRecDepth 20000 in
theorem ggX5_show_X5_hears : GoodIn wsX5_show wsX5_hears := goodIn_r _ [54, 34, 35, 36, 5, 37, 38, 39, 40, 41, 62, 63, 64, 65, 66, 67, 68, 69, 70, 71, 72, 73, 74, 75, 76, 77, 78, 79, 80, 81] (by decide +kernel) (by decide +kernel)
set_option maxRecDepth 20000 in
theorem gX5_show_X5_hears : GoodIn wsX5_show (wsV RX5 109 RX5 yX5_hears wsX5_hears) := goodIn_app (goodIn_of _ (by decide +kernel)) ggX5_show_X5_hears
theorem dX5_show_0 : decode cX5_show 0 = .ok (.aload_n 0, 1) := by decide +kernel
theorem dX5_show_1 : decode cX5_show 1 = .ok (.iload_n 1, 1) := by decide +kernel
theorem dX5_show_2 : decode cX5_show 2 = .ok (.invokevirtual 74, 3) := by decide +kernel
theorem dX5_show_5 : decode cX5_show 5 = .ok (.ifCond .eq 12, 3) := by decide +kernel
theorem dX5_show_8 : decode cX5_show 8 = .ok (.iload_n 3, 1) := by decide +kernel
theorem dX5_show_9 : decode cX5_show 9 = .ok (.iconst 0, 1) := by decide +kernel
theorem dX5_show_10 : decode cX5_show 10 = .ok (.iconst 4, 1) := by decide +kernel
theorem dX5_show_11 : decode cX5_show 11 = .ok (.invokestatic 66, 3) := by decide +kernel
theorem dX5_show_14 : decode cX5_show 14 = .ok (.ifCond .ne 5, 3) := by decide +kernel
theorem dX5_show_17 : decode cX5_show 17 = .ok (.iconst (-1), 1) := by decide +kernel
theorem dX5_show_18 : decode cX5_show 18 = .ok (.ireturn, 1) := by decide +kernel
theorem dX5_show_19 : decode cX5_show 19 = .ok (.aload_n 0, 1) := by decide +kernel
theorem dX5_show_20 : decode cX5_show 20 = .ok (.iload_n 1, 1) := by decide +kernel
theorem dX5_show_21 : decode cX5_show 21 = .ok (.invokevirtual 126, 3) := by decide +kernel
theorem dX5_show_24 : decode cX5_show 24 = .ok (.istore 4, 2) := by decide +kernel
theorem dX5_show_26 : decode cX5_show 26 = .ok (.iload_n 2, 1) := by decide +kernel
theorem dX5_show_27 : decode cX5_show 27 = .ok (.iconst 0, 1) := by decide +kernel
theorem dX5_show_28 : decode cX5_show 28 = .ok (.iload 4, 2) := by decide +kernel
theorem dX5_show_30 : decode cX5_show 30 = .ok (.iconst 1, 1) := by decide +kernel
theorem dX5_show_31 : decode cX5_show 31 = .ok (.isub, 1) := by decide +kernel
theorem dX5_show_32 : decode cX5_show 32 = .ok (.invokestatic 66, 3) := by decide +kernel
theorem dX5_show_35 : decode cX5_show 35 = .ok (.ifCond .ne 5, 3) := by decide +kernel
theorem dX5_show_38 : decode cX5_show 38 = .ok (.iconst (-1), 1) := by decide +kernel
theorem dX5_show_39 : decode cX5_show 39 = .ok (.ireturn, 1) := by decide +kernel
theorem dX5_show_40 : decode cX5_show 40 = .ok (.aload_n 0, 1) := by decide +kernel
theorem dX5_show_41 : decode cX5_show 41 = .ok (.getfield 13, 3) := by decide +kernel
theorem dX5_show_44 : decode cX5_show 44 = .ok (.iload_n 1, 1) := by decide +kernel
theorem dX5_show_45 : decode cX5_show 45 = .ok (.iaload, 1) := by decide +kernel
theorem dX5_show_46 : decode cX5_show 46 = .ok (.istore 5, 2) := by decide +kernel
theorem dX5_show_48 : decode cX5_show 48 = .ok (.aload_n 0, 1) := by decide +kernel
theorem dX5_show_49 : decode cX5_show 49 = .ok (.getfield 13, 3) := by decide +kernel
theorem dX5_show_52 : decode cX5_show 52 = .ok (.iload_n 1, 1) := by decide +kernel
theorem dX5_show_53 : decode cX5_show 53 = .ok (.iaload, 1) := by decide +kernel
theorem dX5_show_54 : decode cX5_show 54 = .ok (.istore 6, 2) := by decide +kernel
theorem dX5_show_56 : decode cX5_show 56 = .ok (.iconst 0, 1) := by decide +kernel
theorem dX5_show_57 : decode cX5_show 57 = .ok (.istore 7, 2) := by decide +kernel
theorem dX5_show_59 : decode cX5_show 59 = .ok (.iload 7, 2) := by decide +kernel
theorem dX5_show_61 : decode cX5_show 61 = .ok (.iload 4, 2) := by decide +kernel
theorem dX5_show_63 : decode cX5_show 63 = .ok (.if_icmp .ge 207, 3) := by decide +kernel
theorem dX5_show_66 : decode cX5_show 66 = .ok (.iload 7, 2) := by decide +kernel
theorem dX5_show_68 : decode cX5_show 68 = .ok (.aload_n 0, 1) := by decide +kernel
theorem dX5_show_69 : decode cX5_show 69 = .ok (.iload_n 1, 1) := by decide +kernel
theorem dX5_show_70 : decode cX5_show 70 = .ok (.invokevirtual 112, 3) := by decide +kernel
theorem dX5_show_73 : decode cX5_show 73 = .ok (.irem, 1) := by decide +kernel
theorem dX5_show_74 : decode cX5_show 74 = .ok (.istore 8, 2) := by decide +kernel
theorem dX5_show_76 : decode cX5_show 76 = .ok (.iconst 0, 1) := by decide +kernel
theorem dX5_show_77 : decode cX5_show 77 = .ok (.istore 9, 2) := by decide +kernel
theorem dX5_show_79 : decode cX5_show 79 = .ok (.aload_n 0, 1) := by decide +kernel
theorem dX5_show_80 : decode cX5_show 80 = .ok (.iload_n 1, 1) := by decide +kernel
theorem dX5_show_81 : decode cX5_show 81 = .ok (.iload 5, 2) := by decide +kernel
theorem dX5_show_83 : decode cX5_show 83 = .ok (.iload 6, 2) := by decide +kernel
theorem dX5_show_85 : decode cX5_show 85 = .ok (.iload 8, 2) := by decide +kernel
theorem dX5_show_87 : decode cX5_show 87 = .ok (.iload 9, 2) := by decide +kernel
theorem dX5_show_89 : decode cX5_show 89 = .ok (.bipush 16, 2) := by decide +kernel
theorem dX5_show_91 : decode cX5_show 91 = .ok (.idiv, 1) := by decide +kernel
theorem dX5_show_92 : decode cX5_show 92 = .ok (.iload 9, 2) := by decide +kernel
theorem dX5_show_94 : decode cX5_show 94 = .ok (.iconst 4, 1) := by decide +kernel
theorem dX5_show_95 : decode cX5_show 95 = .ok (.idiv, 1) := by decide +kernel
theorem dX5_show_96 : decode cX5_show 96 = .ok (.iconst 4, 1) := by decide +kernel
theorem dX5_show_97 : decode cX5_show 97 = .ok (.irem, 1) := by decide +kernel
theorem dX5_show_98 : decode cX5_show 98 = .ok (.iload 9, 2) := by decide +kernel
theorem dX5_show_100 : decode cX5_show 100 = .ok (.iconst 4, 1) := by decide +kernel
theorem dX5_show_101 : decode cX5_show 101 = .ok (.irem, 1) := by decide +kernel
theorem dX5_show_102 : decode cX5_show 102 = .ok (.invokevirtual 118, 3) := by decide +kernel
theorem dX5_show_105 : decode cX5_show 105 = .ok (.iload 4, 2) := by decide +kernel
theorem dX5_show_107 : decode cX5_show 107 = .ok (.iload 7, 2) := by decide +kernel
theorem dX5_show_109 : decode cX5_show 109 = .ok (.isub, 1) := by decide +kernel
theorem dX5_show_110 : decode cX5_show 110 = .ok (.if_icmp .eq 9, 3) := by decide +kernel
theorem dX5_show_113 : decode cX5_show 113 = .ok (.iinc 9 1, 3) := by decide +kernel
theorem dX5_show_116 : decode cX5_show 116 = .ok (.goto (-37), 3) := by decide +kernel
theorem dX5_show_119 : decode cX5_show 119 = .ok (.aload_n 0, 1) := by decide +kernel
theorem dX5_show_120 : decode cX5_show 120 = .ok (.iload_n 1, 1) := by decide +kernel
theorem dX5_show_121 : decode cX5_show 121 = .ok (.aload_n 0, 1) := by decide +kernel
theorem dX5_show_122 : decode cX5_show 122 = .ok (.iload_n 1, 1) := by decide +kernel
theorem dX5_show_123 : decode cX5_show 123 = .ok (.iload 5, 2) := by decide +kernel
theorem dX5_show_125 : decode cX5_show 125 = .ok (.iload 9, 2) := by decide +kernel
theorem dX5_show_127 : decode cX5_show 127 = .ok (.bipush 16, 2) := by decide +kernel
theorem dX5_show_129 : decode cX5_show 129 = .ok (.idiv, 1) := by decide +kernel
theorem dX5_show_130 : decode cX5_show 130 = .ok (.invokevirtual 99, 3) := by decide +kernel
theorem dX5_show_133 : decode cX5_show 133 = .ok (.iload 8, 2) := by decide +kernel
theorem dX5_show_135 : decode cX5_show 135 = .ok (.invokevirtual 103, 3) := by decide +kernel
theorem dX5_show_138 : decode cX5_show 138 = .ok (.istore 10, 2) := by decide +kernel
theorem dX5_show_140 : decode cX5_show 140 = .ok (.aload_n 0, 1) := by decide +kernel
theorem dX5_show_141 : decode cX5_show 141 = .ok (.iload_n 1, 1) := by decide +kernel
theorem dX5_show_142 : decode cX5_show 142 = .ok (.aload_n 0, 1) := by decide +kernel
theorem dX5_show_143 : decode cX5_show 143 = .ok (.iload_n 1, 1) := by decide +kernel
theorem dX5_show_144 : decode cX5_show 144 = .ok (.iload 6, 2) := by decide +kernel
theorem dX5_show_146 : decode cX5_show 146 = .ok (.iload 9, 2) := by decide +kernel
theorem dX5_show_148 : decode cX5_show 148 = .ok (.iconst 4, 1) := by decide +kernel
theorem dX5_show_149 : decode cX5_show 149 = .ok (.idiv, 1) := by decide +kernel
theorem dX5_show_150 : decode cX5_show 150 = .ok (.iconst 4, 1) := by decide +kernel
theorem dX5_show_151 : decode cX5_show 151 = .ok (.irem, 1) := by decide +kernel
theorem dX5_show_152 : decode cX5_show 152 = .ok (.invokevirtual 99, 3) := by decide +kernel
theorem dX5_show_155 : decode cX5_show 155 = .ok (.iload 8, 2) := by decide +kernel
theorem dX5_show_157 : decode cX5_show 157 = .ok (.invokevirtual 103, 3) := by decide +kernel
theorem dX5_show_160 : decode cX5_show 160 = .ok (.istore 11, 2) := by decide +kernel
theorem dX5_show_162 : decode cX5_show 162 = .ok (.iload 9, 2) := by decide +kernel
theorem dX5_show_164 : decode cX5_show 164 = .ok (.iconst 4, 1) := by decide +kernel
theorem dX5_show_165 : decode cX5_show 165 = .ok (.irem, 1) := by decide +kernel
theorem dX5_show_166 : decode cX5_show 166 = .ok (.istore 12, 2) := by decide +kernel
theorem dX5_show_168 : decode cX5_show 168 = .ok (.iload 7, 2) := by decide +kernel
theorem dX5_show_170 : decode cX5_show 170 = .ok (.iload_n 2, 1) := by decide +kernel
theorem dX5_show_171 : decode cX5_show 171 = .ok (.if_icmp .ne 71, 3) := by decide +kernel
theorem dX5_show_174 : decode cX5_show 174 = .ok (.iload_n 3, 1) := by decide +kernel
theorem dX5_show_175 : decode cX5_show 175 = .ok (.ifCond .ne 15, 3) := by decide +kernel
theorem dX5_show_178 : decode cX5_show 178 = .ok (.iload_n 1, 1) := by decide +kernel
theorem dX5_show_179 : decode cX5_show 179 = .ok (.iload 9, 2) := by decide +kernel
theorem dX5_show_181 : decode cX5_show 181 = .ok (.bipush 16, 2) := by decide +kernel
theorem dX5_show_183 : decode cX5_show 183 = .ok (.idiv, 1) := by decide +kernel
theorem dX5_show_184 : decode cX5_show 184 = .ok (.invokestatic 129, 3) := by decide +kernel
theorem dX5_show_187 : decode cX5_show 187 = .ok (.goto 54, 3) := by decide +kernel
theorem dX5_show_190 : decode cX5_show 190 = .ok (.iload_n 3, 1) := by decide +kernel
theorem dX5_show_191 : decode cX5_show 191 = .ok (.iconst 1, 1) := by decide +kernel
theorem dX5_show_192 : decode cX5_show 192 = .ok (.if_icmp .ne 16, 3) := by decide +kernel
theorem dX5_show_195 : decode cX5_show 195 = .ok (.iload_n 1, 1) := by decide +kernel
theorem dX5_show_196 : decode cX5_show 196 = .ok (.iload 9, 2) := by decide +kernel
theorem dX5_show_198 : decode cX5_show 198 = .ok (.iconst 4, 1) := by decide +kernel
theorem dX5_show_199 : decode cX5_show 199 = .ok (.idiv, 1) := by decide +kernel
theorem dX5_show_200 : decode cX5_show 200 = .ok (.iconst 4, 1) := by decide +kernel
theorem dX5_show_201 : decode cX5_show 201 = .ok (.irem, 1) := by decide +kernel
theorem dX5_show_202 : decode cX5_show 202 = .ok (.invokestatic 129, 3) := by decide +kernel
theorem dX5_show_205 : decode cX5_show 205 = .ok (.goto 36, 3) := by decide +kernel
theorem dX5_show_208 : decode cX5_show 208 = .ok (.iload_n 3, 1) := by decide +kernel
theorem dX5_show_209 : decode cX5_show 209 = .ok (.iconst 2, 1) := by decide +kernel
theorem dX5_show_210 : decode cX5_show 210 = .ok (.if_icmp .ne 12, 3) := by decide +kernel
theorem dX5_show_213 : decode cX5_show 213 = .ok (.iload_n 1, 1) := by decide +kernel
theorem dX5_show_214 : decode cX5_show 214 = .ok (.iload 12, 2) := by decide +kernel
theorem dX5_show_216 : decode cX5_show 216 = .ok (.invokestatic 129, 3) := by decide +kernel
theorem dX5_show_219 : decode cX5_show 219 = .ok (.goto 22, 3) := by decide +kernel
theorem dX5_show_222 : decode cX5_show 222 = .ok (.aload_n 0, 1) := by decide +kernel
theorem dX5_show_223 : decode cX5_show 223 = .ok (.iload_n 1, 1) := by decide +kernel
theorem dX5_show_224 : decode cX5_show 224 = .ok (.iload_n 3, 1) := by decide +kernel
theorem dX5_show_225 : decode cX5_show 225 = .ok (.iconst 3, 1) := by decide +kernel
theorem dX5_show_226 : decode cX5_show 226 = .ok (.if_icmp .ne 8, 3) := by decide +kernel
theorem dX5_show_229 : decode cX5_show 229 = .ok (.iload 10, 2) := by decide +kernel
theorem dX5_show_231 : decode cX5_show 231 = .ok (.goto 5, 3) := by decide +kernel
theorem dX5_show_234 : decode cX5_show 234 = .ok (.iload 11, 2) := by decide +kernel
theorem dX5_show_236 : decode cX5_show 236 = .ok (.iload 12, 2) := by decide +kernel
theorem dX5_show_238 : decode cX5_show 238 = .ok (.invokevirtual 106, 3) := by decide +kernel
theorem dX5_show_241 : decode cX5_show 241 = .ok (.ireturn, 1) := by decide +kernel
theorem dX5_show_242 : decode cX5_show 242 = .ok (.aload_n 0, 1) := by decide +kernel
theorem dX5_show_243 : decode cX5_show 243 = .ok (.iload_n 1, 1) := by decide +kernel
theorem dX5_show_244 : decode cX5_show 244 = .ok (.iload 10, 2) := by decide +kernel
theorem dX5_show_246 : decode cX5_show 246 = .ok (.iload 12, 2) := by decide +kernel
theorem dX5_show_248 : decode cX5_show 248 = .ok (.invokevirtual 109, 3) := by decide +kernel
theorem dX5_show_251 : decode cX5_show 251 = .ok (.istore 5, 2) := by decide +kernel
theorem dX5_show_253 : decode cX5_show 253 = .ok (.aload_n 0, 1) := by decide +kernel
theorem dX5_show_254 : decode cX5_show 254 = .ok (.iload_n 1, 1) := by decide +kernel
theorem dX5_show_255 : decode cX5_show 255 = .ok (.iload 11, 2) := by decide +kernel
theorem dX5_show_257 : decode cX5_show 257 = .ok (.iload 12, 2) := by decide +kernel
theorem dX5_show_259 : decode cX5_show 259 = .ok (.invokevirtual 109, 3) := by decide +kernel
theorem dX5_show_262 : decode cX5_show 262 = .ok (.istore 6, 2) := by decide +kernel
theorem dX5_show_264 : decode cX5_show 264 = .ok (.iinc 7 1, 3) := by decide +kernel
theorem dX5_show_267 : decode cX5_show 267 = .ok (.goto (-208), 3) := by decide +kernel
theorem dX5_show_270 : decode cX5_show 270 = .ok (.iconst (-1), 1) := by decide +kernel
theorem dX5_show_271 : decode cX5_show 271 = .ok (.ireturn, 1) := by decide +kernel
set_option maxRecDepth 20000 in
theorem ggX5_isAct_X5_isIn : GoodIn wsX5_isAct wsX5_isIn := goodIn_r _ [5] (by decide +kernel) (by decide +kernel)
set_option maxRecDepth 20000 in
theorem gX5_isAct_X5_isIn : GoodIn wsX5_isAct (va_wsS RX5 66 yX5_isIn wsX5_isIn) := goodIn_app (goodIn_of _ (by decide +kernel)) ggX5_isAct_X5_isIn
theorem dX5_isAct_0 : decode cX5_isAct 0 = .ok (.iload_n 1, 1) := by decide +kernel
theorem dX5_isAct_1 : decode cX5_isAct 1 = .ok (.bipush 9, 2) := by decide +kernel
theorem dX5_isAct_3 : decode cX5_isAct 3 = .ok (.if_icmp .eq 19, 3) := by decide +kernel
theorem dX5_isAct_6 : decode cX5_isAct 6 = .ok (.iload_n 1, 1) := by decide +kernel
theorem dX5_isAct_7 : decode cX5_isAct 7 = .ok (.iconst 0, 1) := by decide +kernel
theorem dX5_isAct_8 : decode cX5_isAct 8 = .ok (.iconst 3, 1) := by decide +kernel
theorem dX5_isAct_9 : decode cX5_isAct 9 = .ok (.aload_n 0, 1) := by decide +kernel
theorem dX5_isAct_10 : decode cX5_isAct 10 = .ok (.getfield 62, 3) := by decide +kernel
theorem dX5_isAct_13 : decode cX5_isAct 13 = .ok (.imul, 1) := by decide +kernel
theorem dX5_isAct_14 : decode cX5_isAct 14 = .ok (.iconst 1, 1) := by decide +kernel
theorem dX5_isAct_15 : decode cX5_isAct 15 = .ok (.isub, 1) := by decide +kernel
theorem dX5_isAct_16 : decode cX5_isAct 16 = .ok (.invokestatic 66, 3) := by decide +kernel
theorem dX5_isAct_19 : decode cX5_isAct 19 = .ok (.ifCond .eq 7, 3) := by decide +kernel
theorem dX5_isAct_22 : decode cX5_isAct 22 = .ok (.iconst 1, 1) := by decide +kernel
theorem dX5_isAct_23 : decode cX5_isAct 23 = .ok (.goto 4, 3) := by decide +kernel
theorem dX5_isAct_26 : decode cX5_isAct 26 = .ok (.iconst 0, 1) := by decide +kernel
theorem dX5_isAct_27 : decode cX5_isAct 27 = .ok (.ireturn, 1) := by decide +kernel
theorem dX5_startOf_0 : decode cX5_startOf 0 = .ok (.iconst 0, 1) := by decide +kernel
theorem dX5_startOf_1 : decode cX5_startOf 1 = .ok (.istore_n 1, 1) := by decide +kernel
theorem dX5_startOf_2 : decode cX5_startOf 2 = .ok (.iconst 0, 1) := by decide +kernel
theorem dX5_startOf_3 : decode cX5_startOf 3 = .ok (.istore_n 2, 1) := by decide +kernel
theorem dX5_startOf_4 : decode cX5_startOf 4 = .ok (.iload_n 2, 1) := by decide +kernel
theorem dX5_startOf_5 : decode cX5_startOf 5 = .ok (.aload_n 0, 1) := by decide +kernel
theorem dX5_startOf_6 : decode cX5_startOf 6 = .ok (.getfield 62, 3) := by decide +kernel
theorem dX5_startOf_9 : decode cX5_startOf 9 = .ok (.if_icmp .ge 22, 3) := by decide +kernel
theorem dX5_startOf_12 : decode cX5_startOf 12 = .ok (.iload_n 1, 1) := by decide +kernel
theorem dX5_startOf_13 : decode cX5_startOf 13 = .ok (.aload_n 0, 1) := by decide +kernel
theorem dX5_startOf_14 : decode cX5_startOf 14 = .ok (.getfield 13, 3) := by decide +kernel
theorem dX5_startOf_17 : decode cX5_startOf 17 = .ok (.iload_n 2, 1) := by decide +kernel
theorem dX5_startOf_18 : decode cX5_startOf 18 = .ok (.iaload, 1) := by decide +kernel
theorem dX5_startOf_19 : decode cX5_startOf 19 = .ok (.iconst 2, 1) := by decide +kernel
theorem dX5_startOf_20 : decode cX5_startOf 20 = .ok (.iload_n 2, 1) := by decide +kernel
theorem dX5_startOf_21 : decode cX5_startOf 21 = .ok (.imul, 1) := by decide +kernel
theorem dX5_startOf_22 : decode cX5_startOf 22 = .ok (.ishl, 1) := by decide +kernel
theorem dX5_startOf_23 : decode cX5_startOf 23 = .ok (.ior, 1) := by decide +kernel
theorem dX5_startOf_24 : decode cX5_startOf 24 = .ok (.istore_n 1, 1) := by decide +kernel
theorem dX5_startOf_25 : decode cX5_startOf 25 = .ok (.iinc 2 1, 3) := by decide +kernel
theorem dX5_startOf_28 : decode cX5_startOf 28 = .ok (.goto (-24), 3) := by decide +kernel
theorem dX5_startOf_31 : decode cX5_startOf 31 = .ok (.iload_n 1, 1) := by decide +kernel
theorem dX5_startOf_32 : decode cX5_startOf 32 = .ok (.ireturn, 1) := by decide +kernel
theorem dX5_part_0 : decode cX5_part 0 = .ok (.iload_n 0, 1) := by decide +kernel
theorem dX5_part_1 : decode cX5_part 1 = .ok (.iconst 2, 1) := by decide +kernel
theorem dX5_part_2 : decode cX5_part 2 = .ok (.iload_n 1, 1) := by decide +kernel
theorem dX5_part_3 : decode cX5_part 3 = .ok (.imul, 1) := by decide +kernel
theorem dX5_part_4 : decode cX5_part 4 = .ok (.ishr, 1) := by decide +kernel
theorem dX5_part_5 : decode cX5_part 5 = .ok (.iconst 3, 1) := by decide +kernel
theorem dX5_part_6 : decode cX5_part 6 = .ok (.iand, 1) := by decide +kernel
theorem dX5_part_7 : decode cX5_part 7 = .ok (.ireturn, 1) := by decide +kernel
theorem dX5_with_0 : decode cX5_with 0 = .ok (.iload_n 0, 1) := by decide +kernel
theorem dX5_with_1 : decode cX5_with 1 = .ok (.iconst 3, 1) := by decide +kernel
theorem dX5_with_2 : decode cX5_with 2 = .ok (.iconst 2, 1) := by decide +kernel
theorem dX5_with_3 : decode cX5_with 3 = .ok (.iload_n 1, 1) := by decide +kernel
theorem dX5_with_4 : decode cX5_with 4 = .ok (.imul, 1) := by decide +kernel
theorem dX5_with_5 : decode cX5_with 5 = .ok (.ishl, 1) := by decide +kernel
theorem dX5_with_6 : decode cX5_with 6 = .ok (.iconst (-1), 1) := by decide +kernel
theorem dX5_with_7 : decode cX5_with 7 = .ok (.ixor, 1) := by decide +kernel
theorem dX5_with_8 : decode cX5_with 8 = .ok (.iand, 1) := by decide +kernel
theorem dX5_with_9 : decode cX5_with 9 = .ok (.iload_n 2, 1) := by decide +kernel
theorem dX5_with_10 : decode cX5_with 10 = .ok (.iconst 2, 1) := by decide +kernel
theorem dX5_with_11 : decode cX5_with 11 = .ok (.iload_n 1, 1) := by decide +kernel
theorem dX5_with_12 : decode cX5_with 12 = .ok (.imul, 1) := by decide +kernel
theorem dX5_with_13 : decode cX5_with 13 = .ok (.ishl, 1) := by decide +kernel
theorem dX5_with_14 : decode cX5_with 14 = .ok (.ior, 1) := by decide +kernel
theorem dX5_with_15 : decode cX5_with 15 = .ok (.ireturn, 1) := by decide +kernel
set_option maxRecDepth 20000 in
theorem ggX5_sent_X5_part : GoodIn wsX5_sent wsX5_part := goodIn_r _ [8] (by decide +kernel) (by decide +kernel)
set_option maxRecDepth 20000 in
theorem gX5_sent_X5_part : GoodIn wsX5_sent (va_wsS RX5 132 yX5_part wsX5_part) := goodIn_app (goodIn_of _ (by decide +kernel)) ggX5_sent_X5_part
set_option maxRecDepth 20000 in
theorem ggX5_sent_X5_sends : GoodIn wsX5_sent wsX5_sends := goodIn_r _ [12, 2, 13, 14, 15, 7, 16, 17, 18, 19, 20, 24, 25, 26, 27, 28, 29, 30, 31, 32, 33, 34, 35, 36, 37, 38, 39, 40, 41, 42, 43] (by decide +kernel) (by decide +kernel)
set_option maxRecDepth 20000 in
theorem gX5_sent_X5_sends : GoodIn wsX5_sent (wsV RX5 99 RX5 yX5_sends wsX5_sends) := goodIn_app (goodIn_of _ (by decide +kernel)) ggX5_sent_X5_sends
set_option maxRecDepth 20000 in
theorem ggX5_sent_X5_with : GoodIn wsX5_sent wsX5_with := goodIn_r _ [23] (by decide +kernel) (by decide +kernel)
set_option maxRecDepth 20000 in
theorem gX5_sent_X5_with : GoodIn wsX5_sent (va_wsS RX5 135 yX5_with wsX5_with) := goodIn_app (goodIn_of _ (by decide +kernel)) ggX5_sent_X5_with
theorem dX5_sent_0 : decode cX5_sent 0 = .ok (.iload_n 1, 1) := by decide +kernel
theorem dX5_sent_1 : decode cX5_sent 1 = .ok (.istore 4, 2) := by decide +kernel
theorem dX5_sent_3 : decode cX5_sent 3 = .ok (.iload_n 2, 1) := by decide +kernel
theorem dX5_sent_4 : decode cX5_sent 4 = .ok (.bipush 9, 2) := by decide +kernel
theorem dX5_sent_6 : decode cX5_sent 6 = .ok (.if_icmp .eq 31, 3) := by decide +kernel
theorem dX5_sent_9 : decode cX5_sent 9 = .ok (.iload 4, 2) := by decide +kernel
theorem dX5_sent_11 : decode cX5_sent 11 = .ok (.iload_n 2, 1) := by decide +kernel
theorem dX5_sent_12 : decode cX5_sent 12 = .ok (.iconst 3, 1) := by decide +kernel
theorem dX5_sent_13 : decode cX5_sent 13 = .ok (.idiv, 1) := by decide +kernel
theorem dX5_sent_14 : decode cX5_sent 14 = .ok (.aload_n 0, 1) := by decide +kernel
theorem dX5_sent_15 : decode cX5_sent 15 = .ok (.iload_n 2, 1) := by decide +kernel
theorem dX5_sent_16 : decode cX5_sent 16 = .ok (.iconst 3, 1) := by decide +kernel
theorem dX5_sent_17 : decode cX5_sent 17 = .ok (.idiv, 1) := by decide +kernel
theorem dX5_sent_18 : decode cX5_sent 18 = .ok (.iload 4, 2) := by decide +kernel
theorem dX5_sent_20 : decode cX5_sent 20 = .ok (.iload_n 2, 1) := by decide +kernel
theorem dX5_sent_21 : decode cX5_sent 21 = .ok (.iconst 3, 1) := by decide +kernel
theorem dX5_sent_22 : decode cX5_sent 22 = .ok (.idiv, 1) := by decide +kernel
theorem dX5_sent_23 : decode cX5_sent 23 = .ok (.invokestatic 132, 3) := by decide +kernel
theorem dX5_sent_26 : decode cX5_sent 26 = .ok (.iload_n 2, 1) := by decide +kernel
theorem dX5_sent_27 : decode cX5_sent 27 = .ok (.iconst 3, 1) := by decide +kernel
theorem dX5_sent_28 : decode cX5_sent 28 = .ok (.irem, 1) := by decide +kernel
theorem dX5_sent_29 : decode cX5_sent 29 = .ok (.invokevirtual 99, 3) := by decide +kernel
theorem dX5_sent_32 : decode cX5_sent 32 = .ok (.invokestatic 135, 3) := by decide +kernel
theorem dX5_sent_35 : decode cX5_sent 35 = .ok (.istore 4, 2) := by decide +kernel
theorem dX5_sent_37 : decode cX5_sent 37 = .ok (.iconst 0, 1) := by decide +kernel
theorem dX5_sent_38 : decode cX5_sent 38 = .ok (.istore 5, 2) := by decide +kernel
theorem dX5_sent_40 : decode cX5_sent 40 = .ok (.iload 5, 2) := by decide +kernel
theorem dX5_sent_42 : decode cX5_sent 42 = .ok (.aload_n 0, 1) := by decide +kernel
theorem dX5_sent_43 : decode cX5_sent 43 = .ok (.getfield 62, 3) := by decide +kernel
theorem dX5_sent_46 : decode cX5_sent 46 = .ok (.if_icmp .ge 50, 3) := by decide +kernel
theorem dX5_sent_49 : decode cX5_sent 49 = .ok (.aload_n 0, 1) := by decide +kernel
theorem dX5_sent_50 : decode cX5_sent 50 = .ok (.getfield 16, 3) := by decide +kernel
theorem dX5_sent_53 : decode cX5_sent 53 = .ok (.iload 5, 2) := by decide +kernel
theorem dX5_sent_55 : decode cX5_sent 55 = .ok (.iaload, 1) := by decide +kernel
theorem dX5_sent_56 : decode cX5_sent 56 = .ok (.iconst 1, 1) := by decide +kernel
theorem dX5_sent_57 : decode cX5_sent 57 = .ok (.if_icmp .ne 33, 3) := by decide +kernel
theorem dX5_sent_60 : decode cX5_sent 60 = .ok (.iload_n 3, 1) := by decide +kernel
theorem dX5_sent_61 : decode cX5_sent 61 = .ok (.iconst 1, 1) := by decide +kernel
theorem dX5_sent_62 : decode cX5_sent 62 = .ok (.iadd, 1) := by decide +kernel
theorem dX5_sent_63 : decode cX5_sent 63 = .ok (.aload_n 0, 1) := by decide +kernel
theorem dX5_sent_64 : decode cX5_sent 64 = .ok (.getfield 19, 3) := by decide +kernel
theorem dX5_sent_67 : decode cX5_sent 67 = .ok (.iload 5, 2) := by decide +kernel
theorem dX5_sent_69 : decode cX5_sent 69 = .ok (.iaload, 1) := by decide +kernel
theorem dX5_sent_70 : decode cX5_sent 70 = .ok (.irem, 1) := by decide +kernel
theorem dX5_sent_71 : decode cX5_sent 71 = .ok (.ifCond .ne 19, 3) := by decide +kernel
theorem dX5_sent_74 : decode cX5_sent 74 = .ok (.iload 4, 2) := by decide +kernel
theorem dX5_sent_76 : decode cX5_sent 76 = .ok (.iload 5, 2) := by decide +kernel
theorem dX5_sent_78 : decode cX5_sent 78 = .ok (.aload_n 0, 1) := by decide +kernel
theorem dX5_sent_79 : decode cX5_sent 79 = .ok (.getfield 13, 3) := by decide +kernel
theorem dX5_sent_82 : decode cX5_sent 82 = .ok (.iload 5, 2) := by decide +kernel
theorem dX5_sent_84 : decode cX5_sent 84 = .ok (.iaload, 1) := by decide +kernel
theorem dX5_sent_85 : decode cX5_sent 85 = .ok (.invokestatic 135, 3) := by decide +kernel
theorem dX5_sent_88 : decode cX5_sent 88 = .ok (.istore 4, 2) := by decide +kernel
theorem dX5_sent_90 : decode cX5_sent 90 = .ok (.iinc 5 1, 3) := by decide +kernel
theorem dX5_sent_93 : decode cX5_sent 93 = .ok (.goto (-53), 3) := by decide +kernel
theorem dX5_sent_96 : decode cX5_sent 96 = .ok (.iload 4, 2) := by decide +kernel
theorem dX5_sent_98 : decode cX5_sent 98 = .ok (.ireturn, 1) := by decide +kernel
set_option maxRecDepth 20000 in
theorem ggX5_heard_X5_part : GoodIn wsX5_heard wsX5_part := goodIn_r _ [4] (by decide +kernel) (by decide +kernel)
set_option maxRecDepth 20000 in
theorem gX5_heard_X5_part : GoodIn wsX5_heard (va_wsS RX5 132 yX5_part wsX5_part) := goodIn_app (goodIn_of _ (by decide +kernel)) ggX5_heard_X5_part
set_option maxRecDepth 20000 in
theorem ggX5_heard_X5_hears : GoodIn wsX5_heard wsX5_hears := goodIn_r _ [8, 9, 10, 11, 3, 12, 13, 14, 15, 16, 20, 21, 22, 23, 24, 25, 26, 27, 28, 29, 30, 31, 32, 33, 34, 35, 36, 37, 38, 39] (by decide +kernel) (by decide +kernel)
set_option maxRecDepth 20000 in
theorem gX5_heard_X5_hears : GoodIn wsX5_heard (wsV RX5 109 RX5 yX5_hears wsX5_hears) := goodIn_app (goodIn_of _ (by decide +kernel)) ggX5_heard_X5_hears
set_option maxRecDepth 20000 in
theorem ggX5_heard_X5_with : GoodIn wsX5_heard wsX5_with := goodIn_r _ [19] (by decide +kernel) (by decide +kernel)
set_option maxRecDepth 20000 in
theorem gX5_heard_X5_with : GoodIn wsX5_heard (va_wsS RX5 135 yX5_with wsX5_with) := goodIn_app (goodIn_of _ (by decide +kernel)) ggX5_heard_X5_with
theorem dX5_heard_0 : decode cX5_heard 0 = .ok (.iload_n 2, 1) := by decide +kernel
theorem dX5_heard_1 : decode cX5_heard 1 = .ok (.bipush 9, 2) := by decide +kernel
theorem dX5_heard_3 : decode cX5_heard 3 = .ok (.if_icmp .ne 7, 3) := by decide +kernel
theorem dX5_heard_6 : decode cX5_heard 6 = .ok (.iload_n 1, 1) := by decide +kernel
theorem dX5_heard_7 : decode cX5_heard 7 = .ok (.goto 27, 3) := by decide +kernel
theorem dX5_heard_10 : decode cX5_heard 10 = .ok (.iload_n 1, 1) := by decide +kernel
theorem dX5_heard_11 : decode cX5_heard 11 = .ok (.iload_n 2, 1) := by decide +kernel
theorem dX5_heard_12 : decode cX5_heard 12 = .ok (.iconst 3, 1) := by decide +kernel
theorem dX5_heard_13 : decode cX5_heard 13 = .ok (.idiv, 1) := by decide +kernel
theorem dX5_heard_14 : decode cX5_heard 14 = .ok (.aload_n 0, 1) := by decide +kernel
theorem dX5_heard_15 : decode cX5_heard 15 = .ok (.iload_n 2, 1) := by decide +kernel
theorem dX5_heard_16 : decode cX5_heard 16 = .ok (.iconst 3, 1) := by decide +kernel
theorem dX5_heard_17 : decode cX5_heard 17 = .ok (.idiv, 1) := by decide +kernel
theorem dX5_heard_18 : decode cX5_heard 18 = .ok (.iload_n 1, 1) := by decide +kernel
theorem dX5_heard_19 : decode cX5_heard 19 = .ok (.iload_n 2, 1) := by decide +kernel
theorem dX5_heard_20 : decode cX5_heard 20 = .ok (.iconst 3, 1) := by decide +kernel
theorem dX5_heard_21 : decode cX5_heard 21 = .ok (.idiv, 1) := by decide +kernel
theorem dX5_heard_22 : decode cX5_heard 22 = .ok (.invokestatic 132, 3) := by decide +kernel
theorem dX5_heard_25 : decode cX5_heard 25 = .ok (.iload_n 2, 1) := by decide +kernel
theorem dX5_heard_26 : decode cX5_heard 26 = .ok (.iconst 3, 1) := by decide +kernel
theorem dX5_heard_27 : decode cX5_heard 27 = .ok (.irem, 1) := by decide +kernel
theorem dX5_heard_28 : decode cX5_heard 28 = .ok (.invokevirtual 109, 3) := by decide +kernel
theorem dX5_heard_31 : decode cX5_heard 31 = .ok (.invokestatic 135, 3) := by decide +kernel
theorem dX5_heard_34 : decode cX5_heard 34 = .ok (.ireturn, 1) := by decide +kernel
set_option maxRecDepth 20000 in
theorem ggX5_told_X5_part : GoodIn wsX5_told wsX5_part := goodIn_r _ [4] (by decide +kernel) (by decide +kernel)
set_option maxRecDepth 20000 in
theorem gX5_told_X5_part : GoodIn wsX5_told (va_wsS RX5 132 yX5_part wsX5_part) := goodIn_app (goodIn_of _ (by decide +kernel)) ggX5_told_X5_part
set_option maxRecDepth 20000 in
theorem ggX5_told_X5_answers : GoodIn wsX5_told wsX5_answers := goodIn_r _ [8, 9, 10, 11, 12, 13, 3, 14, 15, 16, 17, 18, 19, 20, 21, 22, 23, 24, 25, 26, 27, 28, 29, 30, 31, 32, 33, 34, 35, 36, 37, 38] (by decide +kernel) (by decide +kernel)
set_option maxRecDepth 20000 in
theorem gX5_told_X5_answers : GoodIn wsX5_told (wsV RX5 106 RX5 yX5_answers wsX5_answers) := goodIn_app (goodIn_of _ (by decide +kernel)) ggX5_told_X5_answers
theorem dX5_told_0 : decode cX5_told 0 = .ok (.iload_n 2, 1) := by decide +kernel
theorem dX5_told_1 : decode cX5_told 1 = .ok (.bipush 9, 2) := by decide +kernel
theorem dX5_told_3 : decode cX5_told 3 = .ok (.if_icmp .ne 7, 3) := by decide +kernel
theorem dX5_told_6 : decode cX5_told 6 = .ok (.iconst 0, 1) := by decide +kernel
theorem dX5_told_7 : decode cX5_told 7 = .ok (.goto 20, 3) := by decide +kernel
theorem dX5_told_10 : decode cX5_told 10 = .ok (.aload_n 0, 1) := by decide +kernel
theorem dX5_told_11 : decode cX5_told 11 = .ok (.iload_n 2, 1) := by decide +kernel
theorem dX5_told_12 : decode cX5_told 12 = .ok (.iconst 3, 1) := by decide +kernel
theorem dX5_told_13 : decode cX5_told 13 = .ok (.idiv, 1) := by decide +kernel
theorem dX5_told_14 : decode cX5_told 14 = .ok (.iload_n 1, 1) := by decide +kernel
theorem dX5_told_15 : decode cX5_told 15 = .ok (.iload_n 2, 1) := by decide +kernel
theorem dX5_told_16 : decode cX5_told 16 = .ok (.iconst 3, 1) := by decide +kernel
theorem dX5_told_17 : decode cX5_told 17 = .ok (.idiv, 1) := by decide +kernel
theorem dX5_told_18 : decode cX5_told 18 = .ok (.invokestatic 132, 3) := by decide +kernel
theorem dX5_told_21 : decode cX5_told 21 = .ok (.iload_n 2, 1) := by decide +kernel
theorem dX5_told_22 : decode cX5_told 22 = .ok (.iconst 3, 1) := by decide +kernel
theorem dX5_told_23 : decode cX5_told 23 = .ok (.irem, 1) := by decide +kernel
theorem dX5_told_24 : decode cX5_told 24 = .ok (.invokevirtual 106, 3) := by decide +kernel
theorem dX5_told_27 : decode cX5_told 27 = .ok (.ireturn, 1) := by decide +kernel
set_option maxRecDepth 20000 in
theorem ggX5_spreads_X5_isAct : GoodIn wsX5_spreads wsX5_isAct := goodIn_r _ [5, 6, 7, 8, 4, 9, 35, 36, 37, 38, 39, 40, 41, 42, 43, 44, 45, 46, 47, 48, 49, 50, 51, 52, 53, 54] (by decide +kernel) (by decide +kernel)
set_option maxRecDepth 20000 in
theorem gX5_spreads_X5_isAct : GoodIn wsX5_spreads (wsV RX5 138 RX5 yX5_isAct wsX5_isAct) := goodIn_app (goodIn_of _ (by decide +kernel)) ggX5_spreads_X5_isAct
set_option maxRecDepth 20000 in
theorem ggX5_spreads_X5_sent : GoodIn wsX5_spreads wsX5_sent := goodIn_r _ [13, 6, 14, 15, 16, 17, 18, 4, 19, 20, 21, 22, 23, 24, 25, 26, 27, 28, 29, 30, 31, 32, 33, 34, 35, 36, 37, 38, 39, 40, 41, 42, 43, 44, 45, 46, 47, 48, 49, 50, 51, 52, 53, 54] (by decide +kernel) (by decide +kernel)
set_option maxRecDepth 20000 in
theorem gX5_spreads_X5_sent : GoodIn wsX5_spreads (wsV RX5 141 RX5 yX5_sent wsX5_sent) := goodIn_app (goodIn_of _ (by decide +kernel)) ggX5_spreads_X5_sent
theorem dX5_spreads_0 : decode cX5_spreads 0 = .ok (.lconst 0, 1) := by decide +kernel
theorem dX5_spreads_1 : decode cX5_spreads 1 = .ok (.lstore 4, 2) := by decide +kernel
theorem dX5_spreads_3 : decode cX5_spreads 3 = .ok (.iconst 0, 1) := by decide +kernel
theorem dX5_spreads_4 : decode cX5_spreads 4 = .ok (.istore 6, 2) := by decide +kernel
theorem dX5_spreads_6 : decode cX5_spreads 6 = .ok (.iload 6, 2) := by decide +kernel
theorem dX5_spreads_8 : decode cX5_spreads 8 = .ok (.bipush 64, 2) := by decide +kernel
theorem dX5_spreads_10 : decode cX5_spreads 10 = .ok (.if_icmp .ge 64, 3) := by decide +kernel
theorem dX5_spreads_13 : decode cX5_spreads 13 = .ok (.lload_n 1, 1) := by decide +kernel
theorem dX5_spreads_14 : decode cX5_spreads 14 = .ok (.iload 6, 2) := by decide +kernel
theorem dX5_spreads_16 : decode cX5_spreads 16 = .ok (.lshr, 1) := by decide +kernel
theorem dX5_spreads_17 : decode cX5_spreads 17 = .ok (.lconst 1, 1) := by decide +kernel
theorem dX5_spreads_18 : decode cX5_spreads 18 = .ok (.land, 1) := by decide +kernel
theorem dX5_spreads_19 : decode cX5_spreads 19 = .ok (.lconst 0, 1) := by decide +kernel
theorem dX5_spreads_20 : decode cX5_spreads 20 = .ok (.lcmp, 1) := by decide +kernel
theorem dX5_spreads_21 : decode cX5_spreads 21 = .ok (.ifCond .ne 6, 3) := by decide +kernel
theorem dX5_spreads_24 : decode cX5_spreads 24 = .ok (.goto 44, 3) := by decide +kernel
theorem dX5_spreads_27 : decode cX5_spreads 27 = .ok (.iconst 0, 1) := by decide +kernel
theorem dX5_spreads_28 : decode cX5_spreads 28 = .ok (.istore 7, 2) := by decide +kernel
theorem dX5_spreads_30 : decode cX5_spreads 30 = .ok (.iload 7, 2) := by decide +kernel
theorem dX5_spreads_32 : decode cX5_spreads 32 = .ok (.bipush 9, 2) := by decide +kernel
theorem dX5_spreads_34 : decode cX5_spreads 34 = .ok (.if_icmp .gt 34, 3) := by decide +kernel
theorem dX5_spreads_37 : decode cX5_spreads 37 = .ok (.aload_n 0, 1) := by decide +kernel
theorem dX5_spreads_38 : decode cX5_spreads 38 = .ok (.iload 7, 2) := by decide +kernel
theorem dX5_spreads_40 : decode cX5_spreads 40 = .ok (.invokevirtual 138, 3) := by decide +kernel
theorem dX5_spreads_43 : decode cX5_spreads 43 = .ok (.ifCond .eq 19, 3) := by decide +kernel
theorem dX5_spreads_46 : decode cX5_spreads 46 = .ok (.lload 4, 2) := by decide +kernel
theorem dX5_spreads_48 : decode cX5_spreads 48 = .ok (.lconst 1, 1) := by decide +kernel
theorem dX5_spreads_49 : decode cX5_spreads 49 = .ok (.aload_n 0, 1) := by decide +kernel
theorem dX5_spreads_50 : decode cX5_spreads 50 = .ok (.iload 6, 2) := by decide +kernel
theorem dX5_spreads_52 : decode cX5_spreads 52 = .ok (.iload 7, 2) := by decide +kernel
theorem dX5_spreads_54 : decode cX5_spreads 54 = .ok (.iload_n 3, 1) := by decide +kernel
theorem dX5_spreads_55 : decode cX5_spreads 55 = .ok (.invokevirtual 141, 3) := by decide +kernel
theorem dX5_spreads_58 : decode cX5_spreads 58 = .ok (.lshl, 1) := by decide +kernel
theorem dX5_spreads_59 : decode cX5_spreads 59 = .ok (.lor, 1) := by decide +kernel
theorem dX5_spreads_60 : decode cX5_spreads 60 = .ok (.lstore 4, 2) := by decide +kernel
theorem dX5_spreads_62 : decode cX5_spreads 62 = .ok (.iinc 7 1, 3) := by decide +kernel
theorem dX5_spreads_65 : decode cX5_spreads 65 = .ok (.goto (-35), 3) := by decide +kernel
theorem dX5_spreads_68 : decode cX5_spreads 68 = .ok (.iinc 6 1, 3) := by decide +kernel
theorem dX5_spreads_71 : decode cX5_spreads 71 = .ok (.goto (-65), 3) := by decide +kernel
theorem dX5_spreads_74 : decode cX5_spreads 74 = .ok (.lload 4, 2) := by decide +kernel
theorem dX5_spreads_76 : decode cX5_spreads 76 = .ok (.lreturn, 1) := by decide +kernel
set_option maxRecDepth 20000 in
theorem ggX5_parts_X5_told : GoodIn wsX5_parts wsX5_told := goodIn_r _ [5, 6, 7, 4, 8, 9, 10, 11, 12, 13, 14, 15, 16, 17, 18, 19, 20, 21, 22, 34, 35, 36, 37, 38, 39, 40, 41, 42, 43, 44, 45, 46, 47, 48, 49, 50, 51, 52, 53] (by decide +kernel) (by decide +kernel)
set_option maxRecDepth 20000 in
theorem gX5_parts_X5_told : GoodIn wsX5_parts (wsV RX5 144 RX5 yX5_told wsX5_told) := goodIn_app (goodIn_of _ (by decide +kernel)) ggX5_parts_X5_told
set_option maxRecDepth 20000 in
theorem ggX5_parts_X5_heard : GoodIn wsX5_parts wsX5_heard := goodIn_r _ [26, 6, 7, 4, 8, 27, 28, 29, 30, 15, 16, 17, 18, 19, 20, 21, 22, 31, 32, 33, 34, 35, 36, 37, 38, 39, 40, 41, 42, 43, 44, 45, 46, 47, 48, 49, 50, 51, 52, 53] (by decide +kernel) (by decide +kernel)
set_option maxRecDepth 20000 in
theorem gX5_parts_X5_heard : GoodIn wsX5_parts (wsV RX5 147 RX5 yX5_heard wsX5_heard) := goodIn_app (goodIn_of _ (by decide +kernel)) ggX5_parts_X5_heard
theorem dX5_parts_0 : decode cX5_parts 0 = .ok (.lconst 0, 1) := by decide +kernel
theorem dX5_parts_1 : decode cX5_parts 1 = .ok (.lstore 5, 2) := by decide +kernel
theorem dX5_parts_3 : decode cX5_parts 3 = .ok (.iconst 0, 1) := by decide +kernel
theorem dX5_parts_4 : decode cX5_parts 4 = .ok (.istore 7, 2) := by decide +kernel
theorem dX5_parts_6 : decode cX5_parts 6 = .ok (.iload 7, 2) := by decide +kernel
theorem dX5_parts_8 : decode cX5_parts 8 = .ok (.bipush 64, 2) := by decide +kernel
theorem dX5_parts_10 : decode cX5_parts 10 = .ok (.if_icmp .ge 46, 3) := by decide +kernel
theorem dX5_parts_13 : decode cX5_parts 13 = .ok (.lload_n 1, 1) := by decide +kernel
theorem dX5_parts_14 : decode cX5_parts 14 = .ok (.iload 7, 2) := by decide +kernel
theorem dX5_parts_16 : decode cX5_parts 16 = .ok (.lshr, 1) := by decide +kernel
theorem dX5_parts_17 : decode cX5_parts 17 = .ok (.lconst 1, 1) := by decide +kernel
theorem dX5_parts_18 : decode cX5_parts 18 = .ok (.land, 1) := by decide +kernel
theorem dX5_parts_19 : decode cX5_parts 19 = .ok (.lconst 1, 1) := by decide +kernel
theorem dX5_parts_20 : decode cX5_parts 20 = .ok (.lcmp, 1) := by decide +kernel
theorem dX5_parts_21 : decode cX5_parts 21 = .ok (.ifCond .ne 29, 3) := by decide +kernel
theorem dX5_parts_24 : decode cX5_parts 24 = .ok (.aload_n 0, 1) := by decide +kernel
theorem dX5_parts_25 : decode cX5_parts 25 = .ok (.iload 7, 2) := by decide +kernel
theorem dX5_parts_27 : decode cX5_parts 27 = .ok (.iload_n 3, 1) := by decide +kernel
theorem dX5_parts_28 : decode cX5_parts 28 = .ok (.invokevirtual 144, 3) := by decide +kernel
theorem dX5_parts_31 : decode cX5_parts 31 = .ok (.iload 4, 2) := by decide +kernel
theorem dX5_parts_33 : decode cX5_parts 33 = .ok (.if_icmp .ne 17, 3) := by decide +kernel
theorem dX5_parts_36 : decode cX5_parts 36 = .ok (.lload 5, 2) := by decide +kernel
theorem dX5_parts_38 : decode cX5_parts 38 = .ok (.lconst 1, 1) := by decide +kernel
theorem dX5_parts_39 : decode cX5_parts 39 = .ok (.aload_n 0, 1) := by decide +kernel
theorem dX5_parts_40 : decode cX5_parts 40 = .ok (.iload 7, 2) := by decide +kernel
theorem dX5_parts_42 : decode cX5_parts 42 = .ok (.iload_n 3, 1) := by decide +kernel
theorem dX5_parts_43 : decode cX5_parts 43 = .ok (.invokevirtual 147, 3) := by decide +kernel
theorem dX5_parts_46 : decode cX5_parts 46 = .ok (.lshl, 1) := by decide +kernel
theorem dX5_parts_47 : decode cX5_parts 47 = .ok (.lor, 1) := by decide +kernel
theorem dX5_parts_48 : decode cX5_parts 48 = .ok (.lstore 5, 2) := by decide +kernel
theorem dX5_parts_50 : decode cX5_parts 50 = .ok (.iinc 7 1, 3) := by decide +kernel
theorem dX5_parts_53 : decode cX5_parts 53 = .ok (.goto (-47), 3) := by decide +kernel
theorem dX5_parts_56 : decode cX5_parts 56 = .ok (.lload 5, 2) := by decide +kernel
theorem dX5_parts_58 : decode cX5_parts 58 = .ok (.lreturn, 1) := by decide +kernel
set_option maxRecDepth 20000 in
theorem ggX5_most_X5_spreads : GoodIn wsX5_most wsX5_spreads := goodIn_r _ [13, 14, 15, 16, 12, 17, 18, 19, 20, 21, 22, 23, 24, 25, 26, 27, 28, 29, 30, 31, 32, 33, 34, 35, 36, 37, 38, 39, 40, 41, 42, 43, 44, 45, 46, 79, 80, 81, 82, 83, 84, 85, 86, 87, 88, 89, 90, 91, 92, 93, 94, 95, 96, 97, 98] (by decide +kernel) (by decide +kernel)
set_option maxRecDepth 20000 in
theorem gX5_most_X5_spreads : GoodIn wsX5_most (wsV RX5 159 RX5 yX5_spreads wsX5_spreads) := goodIn_app (goodIn_of _ (by decide +kernel)) ggX5_most_X5_spreads
set_option maxRecDepth 20000 in
theorem ggX5_most_X5_isAct : GoodIn wsX5_most wsX5_isAct := goodIn_r _ [17, 18, 19, 20, 12, 21, 79, 80, 81, 82, 83, 84, 85, 86, 87, 88, 89, 90, 91, 92, 93, 94, 95, 96, 97, 98] (by decide +kernel) (by decide +kernel)
set_option maxRecDepth 20000 in
theorem gX5_most_X5_isAct : GoodIn wsX5_most (wsV RX5 138 RX5 yX5_isAct wsX5_isAct) := goodIn_app (goodIn_of _ (by decide +kernel)) ggX5_most_X5_isAct
set_option maxRecDepth 20000 in
theorem ggX5_most_X5_answersOf : GoodIn wsX5_most wsX5_answersOf := goodIn_r _ [50, 51, 52, 53, 12, 54, 29, 30, 31, 55, 56, 57, 58, 26, 59, 36, 37, 38, 39, 40, 41, 42, 43, 79, 80, 81, 82, 83, 84, 85, 86, 87, 88, 89, 90, 91, 92, 93, 94, 95, 96, 97, 98] (by decide +kernel) (by decide +kernel)
set_option maxRecDepth 20000 in
theorem gX5_most_X5_answersOf : GoodIn wsX5_most (wsV RX5 163 RX5 yX5_answersOf wsX5_answersOf) := goodIn_app (goodIn_of _ (by decide +kernel)) ggX5_most_X5_answersOf
set_option maxRecDepth 20000 in
theorem ggX5_most_X5_by : GoodIn wsX5_most wsX5_by := goodIn_r _ [63, 64, 65, 66, 12, 67, 51, 52, 53, 54, 29, 30, 31, 55, 56, 57, 58, 26, 59, 36, 37, 38, 39, 40, 41, 42, 43, 68, 69, 70, 71, 72, 73, 74, 75, 44, 45, 46, 76, 77, 78, 0, 1, 2, 3, 4, 5, 6, 7, 8, 9, 10, 11, 13, 14, 15, 16, 17, 18, 19, 20, 21, 22, 23, 24, 25, 27, 28, 32, 33, 34, 35, 47, 48, 49, 50, 60, 61, 62, 79, 80, 81, 82, 83, 84, 85, 86, 87, 88, 89, 90, 91, 92, 93, 94, 95, 96, 97, 98] (by decide +kernel) (by decide +kernel)
set_option maxRecDepth 20000 in
theorem gX5_most_X5_by : GoodIn wsX5_most (wsV RX5 167 RX5 yX5_by wsX5_by) := goodIn_app (goodIn_of _ (by decide +kernel)) ggX5_most_X5_by
theorem dX5_most_0 : decode cX5_most 0 = .ok (.lload_n 1, 1) := by decide +kernel
theorem dX5_most_1 : decode cX5_most 1 = .ok (.lconst 0, 1) := by decide +kernel
theorem dX5_most_2 : decode cX5_most 2 = .ok (.lcmp, 1) := by decide +kernel
theorem dX5_most_3 : decode cX5_most 3 = .ok (.ifCond .ne 5, 3) := by decide +kernel
theorem dX5_most_6 : decode cX5_most 6 = .ok (.iconst 0, 1) := by decide +kernel
theorem dX5_most_7 : decode cX5_most 7 = .ok (.ireturn, 1) := by decide +kernel
theorem dX5_most_8 : decode cX5_most 8 = .ok (.iload_n 3, 1) := by decide +kernel
theorem dX5_most_9 : decode cX5_most 9 = .ok (.iload 4, 2) := by decide +kernel
theorem dX5_most_11 : decode cX5_most 11 = .ok (.if_icmp .ne 5, 3) := by decide +kernel
theorem dX5_most_14 : decode cX5_most 14 = .ok (.iconst 1, 1) := by decide +kernel
theorem dX5_most_15 : decode cX5_most 15 = .ok (.ireturn, 1) := by decide +kernel
theorem dX5_most_16 : decode cX5_most 16 = .ok (.lload_n 1, 1) := by decide +kernel
theorem dX5_most_17 : decode cX5_most 17 = .ok (.lload_n 1, 1) := by decide +kernel
theorem dX5_most_18 : decode cX5_most 18 = .ok (.bipush 23, 2) := by decide +kernel
theorem dX5_most_20 : decode cX5_most 20 = .ok (.lushr, 1) := by decide +kernel
theorem dX5_most_21 : decode cX5_most 21 = .ok (.lxor, 1) := by decide +kernel
theorem dX5_most_22 : decode cX5_most 22 = .ok (.lload_n 1, 1) := by decide +kernel
theorem dX5_most_23 : decode cX5_most 23 = .ok (.bipush 41, 2) := by decide +kernel
theorem dX5_most_25 : decode cX5_most 25 = .ok (.lushr, 1) := by decide +kernel
theorem dX5_most_26 : decode cX5_most 26 = .ok (.lxor, 1) := by decide +kernel
theorem dX5_most_27 : decode cX5_most 27 = .ok (.ldc2_w 150, 3) := by decide +kernel
theorem dX5_most_30 : decode cX5_most 30 = .ok (.lmul, 1) := by decide +kernel
theorem dX5_most_31 : decode cX5_most 31 = .ok (.ldc2_w 152, 3) := by decide +kernel
theorem dX5_most_34 : decode cX5_most 34 = .ok (.iload_n 3, 1) := by decide +kernel
theorem dX5_most_35 : decode cX5_most 35 = .ok (.i2l, 1) := by decide +kernel
theorem dX5_most_36 : decode cX5_most 36 = .ok (.lmul, 1) := by decide +kernel
theorem dX5_most_37 : decode cX5_most 37 = .ok (.ladd, 1) := by decide +kernel
theorem dX5_most_38 : decode cX5_most 38 = .ok (.ldc2_w 154, 3) := by decide +kernel
theorem dX5_most_41 : decode cX5_most 41 = .ok (.land, 1) := by decide +kernel
theorem dX5_most_42 : decode cX5_most 42 = .ok (.l2i, 1) := by decide +kernel
theorem dX5_most_43 : decode cX5_most 43 = .ok (.istore 5, 2) := by decide +kernel
theorem dX5_most_45 : decode cX5_most 45 = .ok (.aload_n 0, 1) := by decide +kernel
theorem dX5_most_46 : decode cX5_most 46 = .ok (.getfield 47, 3) := by decide +kernel
theorem dX5_most_49 : decode cX5_most 49 = .ok (.iload 5, 2) := by decide +kernel
theorem dX5_most_51 : decode cX5_most 51 = .ok (.iaload, 1) := by decide +kernel
theorem dX5_most_52 : decode cX5_most 52 = .ok (.aload_n 0, 1) := by decide +kernel
theorem dX5_most_53 : decode cX5_most 53 = .ok (.getfield 156, 3) := by decide +kernel
theorem dX5_most_56 : decode cX5_most 56 = .ok (.if_icmp .ne 34, 3) := by decide +kernel
theorem dX5_most_59 : decode cX5_most 59 = .ok (.aload_n 0, 1) := by decide +kernel
theorem dX5_most_60 : decode cX5_most 60 = .ok (.getfield 41, 3) := by decide +kernel
theorem dX5_most_63 : decode cX5_most 63 = .ok (.iload 5, 2) := by decide +kernel
theorem dX5_most_65 : decode cX5_most 65 = .ok (.laload, 1) := by decide +kernel
theorem dX5_most_66 : decode cX5_most 66 = .ok (.lload_n 1, 1) := by decide +kernel
theorem dX5_most_67 : decode cX5_most 67 = .ok (.lcmp, 1) := by decide +kernel
theorem dX5_most_68 : decode cX5_most 68 = .ok (.ifCond .ne 22, 3) := by decide +kernel
theorem dX5_most_71 : decode cX5_most 71 = .ok (.aload_n 0, 1) := by decide +kernel
theorem dX5_most_72 : decode cX5_most 72 = .ok (.getfield 44, 3) := by decide +kernel
theorem dX5_most_75 : decode cX5_most 75 = .ok (.iload 5, 2) := by decide +kernel
theorem dX5_most_77 : decode cX5_most 77 = .ok (.iaload, 1) := by decide +kernel
theorem dX5_most_78 : decode cX5_most 78 = .ok (.iload_n 3, 1) := by decide +kernel
theorem dX5_most_79 : decode cX5_most 79 = .ok (.if_icmp .ne 11, 3) := by decide +kernel
theorem dX5_most_82 : decode cX5_most 82 = .ok (.aload_n 0, 1) := by decide +kernel
theorem dX5_most_83 : decode cX5_most 83 = .ok (.getfield 50, 3) := by decide +kernel
theorem dX5_most_86 : decode cX5_most 86 = .ok (.iload 5, 2) := by decide +kernel
theorem dX5_most_88 : decode cX5_most 88 = .ok (.iaload, 1) := by decide +kernel
theorem dX5_most_89 : decode cX5_most 89 = .ok (.ireturn, 1) := by decide +kernel
theorem dX5_most_90 : decode cX5_most 90 = .ok (.aload_n 0, 1) := by decide +kernel
theorem dX5_most_91 : decode cX5_most 91 = .ok (.lload_n 1, 1) := by decide +kernel
theorem dX5_most_92 : decode cX5_most 92 = .ok (.iload_n 3, 1) := by decide +kernel
theorem dX5_most_93 : decode cX5_most 93 = .ok (.invokevirtual 159, 3) := by decide +kernel
theorem dX5_most_96 : decode cX5_most 96 = .ok (.lstore 6, 2) := by decide +kernel
theorem dX5_most_98 : decode cX5_most 98 = .ok (.iconst 0, 1) := by decide +kernel
theorem dX5_most_99 : decode cX5_most 99 = .ok (.istore 8, 2) := by decide +kernel
theorem dX5_most_101 : decode cX5_most 101 = .ok (.iconst 0, 1) := by decide +kernel
theorem dX5_most_102 : decode cX5_most 102 = .ok (.istore 9, 2) := by decide +kernel
theorem dX5_most_104 : decode cX5_most 104 = .ok (.iload 9, 2) := by decide +kernel
theorem dX5_most_106 : decode cX5_most 106 = .ok (.bipush 9, 2) := by decide +kernel
theorem dX5_most_108 : decode cX5_most 108 = .ok (.if_icmp .gt 70, 3) := by decide +kernel
theorem dX5_most_111 : decode cX5_most 111 = .ok (.aload_n 0, 1) := by decide +kernel
theorem dX5_most_112 : decode cX5_most 112 = .ok (.iload 9, 2) := by decide +kernel
theorem dX5_most_114 : decode cX5_most 114 = .ok (.invokevirtual 138, 3) := by decide +kernel
theorem dX5_most_117 : decode cX5_most 117 = .ok (.ifCond .ne 7, 3) := by decide +kernel
theorem dX5_most_120 : decode cX5_most 120 = .ok (.iconst 0, 1) := by decide +kernel
theorem dX5_most_121 : decode cX5_most 121 = .ok (.goto 33, 3) := by decide +kernel
theorem dX5_most_124 : decode cX5_most 124 = .ok (.iload_n 3, 1) := by decide +kernel
theorem dX5_most_125 : decode cX5_most 125 = .ok (.iload 4, 2) := by decide +kernel
theorem dX5_most_127 : decode cX5_most 127 = .ok (.iconst 1, 1) := by decide +kernel
theorem dX5_most_128 : decode cX5_most 128 = .ok (.isub, 1) := by decide +kernel
theorem dX5_most_129 : decode cX5_most 129 = .ok (.if_icmp .ne 14, 3) := by decide +kernel
theorem dX5_most_132 : decode cX5_most 132 = .ok (.aload_n 0, 1) := by decide +kernel
theorem dX5_most_133 : decode cX5_most 133 = .ok (.lload 6, 2) := by decide +kernel
theorem dX5_most_135 : decode cX5_most 135 = .ok (.iload 9, 2) := by decide +kernel
theorem dX5_most_137 : decode cX5_most 137 = .ok (.invokevirtual 163, 3) := by decide +kernel
theorem dX5_most_140 : decode cX5_most 140 = .ok (.goto 14, 3) := by decide +kernel
theorem dX5_most_143 : decode cX5_most 143 = .ok (.aload_n 0, 1) := by decide +kernel
theorem dX5_most_144 : decode cX5_most 144 = .ok (.lload 6, 2) := by decide +kernel
theorem dX5_most_146 : decode cX5_most 146 = .ok (.iload_n 3, 1) := by decide +kernel
theorem dX5_most_147 : decode cX5_most 147 = .ok (.iload 4, 2) := by decide +kernel
theorem dX5_most_149 : decode cX5_most 149 = .ok (.iload 9, 2) := by decide +kernel
theorem dX5_most_151 : decode cX5_most 151 = .ok (.invokevirtual 167, 3) := by decide +kernel
theorem dX5_most_154 : decode cX5_most 154 = .ok (.istore 10, 2) := by decide +kernel
theorem dX5_most_156 : decode cX5_most 156 = .ok (.iload 10, 2) := by decide +kernel
theorem dX5_most_158 : decode cX5_most 158 = .ok (.iload 8, 2) := by decide +kernel
theorem dX5_most_160 : decode cX5_most 160 = .ok (.if_icmp .le 8, 3) := by decide +kernel
theorem dX5_most_163 : decode cX5_most 163 = .ok (.iload 10, 2) := by decide +kernel
theorem dX5_most_165 : decode cX5_most 165 = .ok (.goto 5, 3) := by decide +kernel
theorem dX5_most_168 : decode cX5_most 168 = .ok (.iload 8, 2) := by decide +kernel
theorem dX5_most_170 : decode cX5_most 170 = .ok (.istore 8, 2) := by decide +kernel
theorem dX5_most_172 : decode cX5_most 172 = .ok (.iinc 9 1, 3) := by decide +kernel
theorem dX5_most_175 : decode cX5_most 175 = .ok (.goto (-71), 3) := by decide +kernel
theorem dX5_most_178 : decode cX5_most 178 = .ok (.aload_n 0, 1) := by decide +kernel
theorem dX5_most_179 : decode cX5_most 179 = .ok (.getfield 47, 3) := by decide +kernel
theorem dX5_most_182 : decode cX5_most 182 = .ok (.iload 5, 2) := by decide +kernel
theorem dX5_most_184 : decode cX5_most 184 = .ok (.aload_n 0, 1) := by decide +kernel
theorem dX5_most_185 : decode cX5_most 185 = .ok (.getfield 156, 3) := by decide +kernel
theorem dX5_most_188 : decode cX5_most 188 = .ok (.iastore, 1) := by decide +kernel
theorem dX5_most_189 : decode cX5_most 189 = .ok (.aload_n 0, 1) := by decide +kernel
theorem dX5_most_190 : decode cX5_most 190 = .ok (.getfield 41, 3) := by decide +kernel
theorem dX5_most_193 : decode cX5_most 193 = .ok (.iload 5, 2) := by decide +kernel
theorem dX5_most_195 : decode cX5_most 195 = .ok (.lload_n 1, 1) := by decide +kernel
theorem dX5_most_196 : decode cX5_most 196 = .ok (.lastore, 1) := by decide +kernel
theorem dX5_most_197 : decode cX5_most 197 = .ok (.aload_n 0, 1) := by decide +kernel
theorem dX5_most_198 : decode cX5_most 198 = .ok (.getfield 44, 3) := by decide +kernel
theorem dX5_most_201 : decode cX5_most 201 = .ok (.iload 5, 2) := by decide +kernel
theorem dX5_most_203 : decode cX5_most 203 = .ok (.iload_n 3, 1) := by decide +kernel
theorem dX5_most_204 : decode cX5_most 204 = .ok (.iastore, 1) := by decide +kernel
theorem dX5_most_205 : decode cX5_most 205 = .ok (.aload_n 0, 1) := by decide +kernel
theorem dX5_most_206 : decode cX5_most 206 = .ok (.getfield 50, 3) := by decide +kernel
theorem dX5_most_209 : decode cX5_most 209 = .ok (.iload 5, 2) := by decide +kernel
theorem dX5_most_211 : decode cX5_most 211 = .ok (.iload 8, 2) := by decide +kernel
theorem dX5_most_213 : decode cX5_most 213 = .ok (.iastore, 1) := by decide +kernel
theorem dX5_most_214 : decode cX5_most 214 = .ok (.iload 8, 2) := by decide +kernel
theorem dX5_most_216 : decode cX5_most 216 = .ok (.ireturn, 1) := by decide +kernel
set_option maxRecDepth 20000 in
theorem ggX5_answersOf_X5_told : GoodIn wsX5_answersOf wsX5_told := goodIn_r _ [5, 6, 7, 4, 8, 9, 10, 11, 12, 13, 14, 15, 16, 17, 18, 19, 20, 21, 22, 23, 24, 25, 26, 27, 28, 29, 30, 31, 32, 33, 34, 35, 36, 37, 38, 39, 40, 41, 42] (by decide +kernel) (by decide +kernel)
set_option maxRecDepth 20000 in
theorem gX5_answersOf_X5_told : GoodIn wsX5_answersOf (wsV RX5 144 RX5 yX5_told wsX5_told) := goodIn_app (goodIn_of _ (by decide +kernel)) ggX5_answersOf_X5_told
theorem dX5_answersOf_0 : decode cX5_answersOf 0 = .ok (.iconst 0, 1) := by decide +kernel
theorem dX5_answersOf_1 : decode cX5_answersOf 1 = .ok (.istore 4, 2) := by decide +kernel
theorem dX5_answersOf_3 : decode cX5_answersOf 3 = .ok (.iconst 0, 1) := by decide +kernel
theorem dX5_answersOf_4 : decode cX5_answersOf 4 = .ok (.istore 5, 2) := by decide +kernel
theorem dX5_answersOf_6 : decode cX5_answersOf 6 = .ok (.iload 5, 2) := by decide +kernel
theorem dX5_answersOf_8 : decode cX5_answersOf 8 = .ok (.bipush 64, 2) := by decide +kernel
theorem dX5_answersOf_10 : decode cX5_answersOf 10 = .ok (.if_icmp .ge 41, 3) := by decide +kernel
theorem dX5_answersOf_13 : decode cX5_answersOf 13 = .ok (.iload 4, 2) := by decide +kernel
theorem dX5_answersOf_15 : decode cX5_answersOf 15 = .ok (.bipush 15, 2) := by decide +kernel
theorem dX5_answersOf_17 : decode cX5_answersOf 17 = .ok (.if_icmp .eq 34, 3) := by decide +kernel
theorem dX5_answersOf_20 : decode cX5_answersOf 20 = .ok (.lload_n 1, 1) := by decide +kernel
theorem dX5_answersOf_21 : decode cX5_answersOf 21 = .ok (.iload 5, 2) := by decide +kernel
theorem dX5_answersOf_23 : decode cX5_answersOf 23 = .ok (.lshr, 1) := by decide +kernel
theorem dX5_answersOf_24 : decode cX5_answersOf 24 = .ok (.lconst 1, 1) := by decide +kernel
theorem dX5_answersOf_25 : decode cX5_answersOf 25 = .ok (.land, 1) := by decide +kernel
theorem dX5_answersOf_26 : decode cX5_answersOf 26 = .ok (.lconst 1, 1) := by decide +kernel
theorem dX5_answersOf_27 : decode cX5_answersOf 27 = .ok (.lcmp, 1) := by decide +kernel
theorem dX5_answersOf_28 : decode cX5_answersOf 28 = .ok (.ifCond .ne 17, 3) := by decide +kernel
theorem dX5_answersOf_31 : decode cX5_answersOf 31 = .ok (.iload 4, 2) := by decide +kernel
theorem dX5_answersOf_33 : decode cX5_answersOf 33 = .ok (.iconst 1, 1) := by decide +kernel
theorem dX5_answersOf_34 : decode cX5_answersOf 34 = .ok (.aload_n 0, 1) := by decide +kernel
theorem dX5_answersOf_35 : decode cX5_answersOf 35 = .ok (.iload 5, 2) := by decide +kernel
theorem dX5_answersOf_37 : decode cX5_answersOf 37 = .ok (.iload_n 3, 1) := by decide +kernel
theorem dX5_answersOf_38 : decode cX5_answersOf 38 = .ok (.invokevirtual 144, 3) := by decide +kernel
theorem dX5_answersOf_41 : decode cX5_answersOf 41 = .ok (.ishl, 1) := by decide +kernel
theorem dX5_answersOf_42 : decode cX5_answersOf 42 = .ok (.ior, 1) := by decide +kernel
theorem dX5_answersOf_43 : decode cX5_answersOf 43 = .ok (.istore 4, 2) := by decide +kernel
theorem dX5_answersOf_45 : decode cX5_answersOf 45 = .ok (.iinc 5 1, 3) := by decide +kernel
theorem dX5_answersOf_48 : decode cX5_answersOf 48 = .ok (.goto (-42), 3) := by decide +kernel
theorem dX5_answersOf_51 : decode cX5_answersOf 51 = .ok (.iload 4, 2) := by decide +kernel
theorem dX5_answersOf_53 : decode cX5_answersOf 53 = .ok (.iconst 1, 1) := by decide +kernel
theorem dX5_answersOf_54 : decode cX5_answersOf 54 = .ok (.iand, 1) := by decide +kernel
theorem dX5_answersOf_55 : decode cX5_answersOf 55 = .ok (.iload 4, 2) := by decide +kernel
theorem dX5_answersOf_57 : decode cX5_answersOf 57 = .ok (.iconst 1, 1) := by decide +kernel
theorem dX5_answersOf_58 : decode cX5_answersOf 58 = .ok (.ishr, 1) := by decide +kernel
theorem dX5_answersOf_59 : decode cX5_answersOf 59 = .ok (.iconst 1, 1) := by decide +kernel
theorem dX5_answersOf_60 : decode cX5_answersOf 60 = .ok (.iand, 1) := by decide +kernel
theorem dX5_answersOf_61 : decode cX5_answersOf 61 = .ok (.iadd, 1) := by decide +kernel
theorem dX5_answersOf_62 : decode cX5_answersOf 62 = .ok (.iload 4, 2) := by decide +kernel
theorem dX5_answersOf_64 : decode cX5_answersOf 64 = .ok (.iconst 2, 1) := by decide +kernel
theorem dX5_answersOf_65 : decode cX5_answersOf 65 = .ok (.ishr, 1) := by decide +kernel
theorem dX5_answersOf_66 : decode cX5_answersOf 66 = .ok (.iconst 1, 1) := by decide +kernel
theorem dX5_answersOf_67 : decode cX5_answersOf 67 = .ok (.iand, 1) := by decide +kernel
theorem dX5_answersOf_68 : decode cX5_answersOf 68 = .ok (.iadd, 1) := by decide +kernel
theorem dX5_answersOf_69 : decode cX5_answersOf 69 = .ok (.iload 4, 2) := by decide +kernel
theorem dX5_answersOf_71 : decode cX5_answersOf 71 = .ok (.iconst 3, 1) := by decide +kernel
theorem dX5_answersOf_72 : decode cX5_answersOf 72 = .ok (.ishr, 1) := by decide +kernel
theorem dX5_answersOf_73 : decode cX5_answersOf 73 = .ok (.iconst 1, 1) := by decide +kernel
theorem dX5_answersOf_74 : decode cX5_answersOf 74 = .ok (.iand, 1) := by decide +kernel
theorem dX5_answersOf_75 : decode cX5_answersOf 75 = .ok (.iadd, 1) := by decide +kernel
theorem dX5_answersOf_76 : decode cX5_answersOf 76 = .ok (.ireturn, 1) := by decide +kernel
set_option maxRecDepth 20000 in
theorem ggX5_by_X5_parts : GoodIn wsX5_by wsX5_parts := goodIn_r _ [5, 6, 7, 8, 4, 9, 10, 11, 12, 13, 14, 15, 16, 17, 18, 19, 20, 21, 22, 23, 24, 25, 26, 27, 28, 29, 30, 31, 32, 33, 34, 35, 36, 37, 79, 80, 81, 82, 83, 84, 85, 86, 87, 88, 89, 90, 91, 92, 93, 94, 95, 96, 97, 98] (by decide +kernel) (by decide +kernel)
set_option maxRecDepth 20000 in
theorem gX5_by_X5_parts : GoodIn wsX5_by (wsV RX5 171 RX5 yX5_parts wsX5_parts) := goodIn_app (goodIn_of _ (by decide +kernel)) ggX5_by_X5_parts
set_option maxRecDepth 20000 in
theorem ggX5_by_X5_most : GoodIn wsX5_by wsX5_most := goodIn_r _ [41, 42, 43, 44, 45, 46, 47, 48, 49, 50, 51, 52, 4, 53, 54, 55, 56, 57, 58, 59, 60, 61, 62, 63, 64, 65, 17, 66, 67, 10, 11, 12, 68, 69, 70, 71, 19, 20, 21, 22, 23, 24, 25, 26, 35, 36, 37, 72, 73, 74, 75, 6, 7, 8, 9, 13, 14, 15, 16, 18, 76, 77, 78, 0, 1, 2, 3, 5, 27, 28, 29, 30, 31, 32, 33, 34, 38, 39, 40, 79, 80, 81, 82, 83, 84, 85, 86, 87, 88, 89, 90, 91, 92, 93, 94, 95, 96, 97, 98] (by decide +kernel) (by decide +kernel)
set_option maxRecDepth 20000 in
theorem gX5_by_X5_most : GoodIn wsX5_by (wsV RX5 175 RX5 yX5_most wsX5_most) := goodIn_app (goodIn_of _ (by decide +kernel)) ggX5_by_X5_most
theorem dX5_by_0 : decode cX5_by 0 = .ok (.iconst 0, 1) := by decide +kernel
theorem dX5_by_1 : decode cX5_by 1 = .ok (.istore 6, 2) := by decide +kernel
theorem dX5_by_3 : decode cX5_by 3 = .ok (.iconst 0, 1) := by decide +kernel
theorem dX5_by_4 : decode cX5_by 4 = .ok (.istore 7, 2) := by decide +kernel
theorem dX5_by_6 : decode cX5_by 6 = .ok (.iload 7, 2) := by decide +kernel
theorem dX5_by_8 : decode cX5_by 8 = .ok (.iconst 4, 1) := by decide +kernel
theorem dX5_by_9 : decode cX5_by 9 = .ok (.if_icmp .ge 32, 3) := by decide +kernel
theorem dX5_by_12 : decode cX5_by 12 = .ok (.iload 6, 2) := by decide +kernel
theorem dX5_by_14 : decode cX5_by 14 = .ok (.aload_n 0, 1) := by decide +kernel
theorem dX5_by_15 : decode cX5_by 15 = .ok (.aload_n 0, 1) := by decide +kernel
theorem dX5_by_16 : decode cX5_by 16 = .ok (.lload_n 1, 1) := by decide +kernel
theorem dX5_by_17 : decode cX5_by 17 = .ok (.iload 5, 2) := by decide +kernel
theorem dX5_by_19 : decode cX5_by 19 = .ok (.iload 7, 2) := by decide +kernel
theorem dX5_by_21 : decode cX5_by 21 = .ok (.invokevirtual 171, 3) := by decide +kernel
theorem dX5_by_24 : decode cX5_by 24 = .ok (.iload_n 3, 1) := by decide +kernel
theorem dX5_by_25 : decode cX5_by 25 = .ok (.iconst 1, 1) := by decide +kernel
theorem dX5_by_26 : decode cX5_by 26 = .ok (.iadd, 1) := by decide +kernel
theorem dX5_by_27 : decode cX5_by 27 = .ok (.iload 4, 2) := by decide +kernel
theorem dX5_by_29 : decode cX5_by 29 = .ok (.invokevirtual 175, 3) := by decide +kernel
theorem dX5_by_32 : decode cX5_by 32 = .ok (.iadd, 1) := by decide +kernel
theorem dX5_by_33 : decode cX5_by 33 = .ok (.istore 6, 2) := by decide +kernel
theorem dX5_by_35 : decode cX5_by 35 = .ok (.iinc 7 1, 3) := by decide +kernel
theorem dX5_by_38 : decode cX5_by 38 = .ok (.goto (-32), 3) := by decide +kernel
theorem dX5_by_41 : decode cX5_by 41 = .ok (.iload 6, 2) := by decide +kernel
theorem dX5_by_43 : decode cX5_by 43 = .ok (.ireturn, 1) := by decide +kernel
set_option maxRecDepth 20000 in
theorem ggX5_letters_X5_isIn : GoodIn wsX5_letters wsX5_isIn := goodIn_r _ [5] (by decide +kernel) (by decide +kernel)
set_option maxRecDepth 20000 in
theorem gX5_letters_X5_isIn : GoodIn wsX5_letters (va_wsS RX5 66 yX5_isIn wsX5_isIn) := goodIn_app (goodIn_of _ (by decide +kernel)) ggX5_letters_X5_isIn
set_option maxRecDepth 20000 in
theorem ggX5_letters_X5_startOf : GoodIn wsX5_letters wsX5_startOf := goodIn_r _ [9, 10, 11, 84, 85, 86, 87, 88, 89, 90, 91, 92, 93, 94, 95, 96, 97, 98, 99, 100, 101, 102, 103] (by decide +kernel) (by decide +kernel)
set_option maxRecDepth 20000 in
theorem gX5_letters_X5_startOf : GoodIn wsX5_letters (wsV RX5 179 RX5 yX5_startOf wsX5_startOf) := goodIn_app (goodIn_of _ (by decide +kernel)) ggX5_letters_X5_startOf
set_option maxRecDepth 20000 in
theorem ggX5_letters_X5_most : GoodIn wsX5_letters wsX5_most := goodIn_r _ [15, 16, 17, 18, 19, 1, 20, 21, 22, 23, 24, 25, 4, 26, 27, 28, 29, 30, 10, 2, 3, 5, 31, 32, 33, 34, 35, 36, 11, 37, 38, 39, 40, 41, 42, 43, 44, 45, 46, 47, 48, 49, 50, 51, 52, 53, 54, 55, 56, 57, 58, 59, 60, 61, 62, 63, 64, 65, 66, 67, 68, 69, 70, 71, 72, 73, 74, 75, 76, 77, 78, 79, 80, 81, 82, 83, 12, 13, 14, 84, 85, 86, 87, 88, 89, 90, 91, 92, 93, 94, 95, 96, 97, 98, 99, 100, 101, 102, 103] (by decide +kernel) (by decide +kernel)
set_option maxRecDepth 20000 in
theorem gX5_letters_X5_most : GoodIn wsX5_letters (wsV RX5 175 RX5 yX5_most wsX5_most) := goodIn_app (goodIn_of _ (by decide +kernel)) ggX5_letters_X5_most
theorem dX5_letters_0 : decode cX5_letters 0 = .ok (.aload_n 0, 1) := by decide +kernel
theorem dX5_letters_1 : decode cX5_letters 1 = .ok (.dup, 1) := by decide +kernel
theorem dX5_letters_2 : decode cX5_letters 2 = .ok (.getfield 156, 3) := by decide +kernel
theorem dX5_letters_5 : decode cX5_letters 5 = .ok (.iconst 1, 1) := by decide +kernel
theorem dX5_letters_6 : decode cX5_letters 6 = .ok (.iadd, 1) := by decide +kernel
theorem dX5_letters_7 : decode cX5_letters 7 = .ok (.putfield 156, 3) := by decide +kernel
theorem dX5_letters_10 : decode cX5_letters 10 = .ok (.iload_n 1, 1) := by decide +kernel
theorem dX5_letters_11 : decode cX5_letters 11 = .ok (.iconst 0, 1) := by decide +kernel
theorem dX5_letters_12 : decode cX5_letters 12 = .ok (.iconst 3, 1) := by decide +kernel
theorem dX5_letters_13 : decode cX5_letters 13 = .ok (.invokestatic 66, 3) := by decide +kernel
theorem dX5_letters_16 : decode cX5_letters 16 = .ok (.ifCond .eq 18, 3) := by decide +kernel
theorem dX5_letters_19 : decode cX5_letters 19 = .ok (.aload_n 0, 1) := by decide +kernel
theorem dX5_letters_20 : decode cX5_letters 20 = .ok (.lconst 1, 1) := by decide +kernel
theorem dX5_letters_21 : decode cX5_letters 21 = .ok (.aload_n 0, 1) := by decide +kernel
theorem dX5_letters_22 : decode cX5_letters 22 = .ok (.invokevirtual 179, 3) := by decide +kernel
theorem dX5_letters_25 : decode cX5_letters 25 = .ok (.lshl, 1) := by decide +kernel
theorem dX5_letters_26 : decode cX5_letters 26 = .ok (.iconst 0, 1) := by decide +kernel
theorem dX5_letters_27 : decode cX5_letters 27 = .ok (.iload_n 1, 1) := by decide +kernel
theorem dX5_letters_28 : decode cX5_letters 28 = .ok (.invokevirtual 175, 3) := by decide +kernel
theorem dX5_letters_31 : decode cX5_letters 31 = .ok (.goto 4, 3) := by decide +kernel
theorem dX5_letters_34 : decode cX5_letters 34 = .ok (.iconst (-1), 1) := by decide +kernel
theorem dX5_letters_35 : decode cX5_letters 35 = .ok (.ireturn, 1) := by decide +kernel
set_option maxRecDepth 20000 in
theorem ggX5_finds_X5_startOf : GoodIn wsX5_finds wsX5_startOf := goodIn_r _ [8, 9, 10, 86, 87, 88, 89, 90, 91, 92, 93, 94, 95, 96, 97, 98, 99, 100, 101, 102, 103, 104, 105] (by decide +kernel) (by decide +kernel)
set_option maxRecDepth 20000 in
theorem gX5_finds_X5_startOf : GoodIn wsX5_finds (wsV RX5 179 RX5 yX5_startOf wsX5_startOf) := goodIn_app (goodIn_of _ (by decide +kernel)) ggX5_finds_X5_startOf
set_option maxRecDepth 20000 in
theorem ggX5_finds_X5_spreads : GoodIn wsX5_finds wsX5_spreads := goodIn_r _ [14, 15, 16, 17, 7, 18, 9, 19, 20, 21, 22, 23, 24, 25, 26, 27, 10, 28, 29, 30, 31, 32, 33, 34, 35, 36, 37, 38, 39, 40, 41, 42, 43, 44, 45, 86, 87, 88, 89, 90, 91, 92, 93, 94, 95, 96, 97, 98, 99, 100, 101, 102, 103, 104, 105] (by decide +kernel) (by decide +kernel)
set_option maxRecDepth 20000 in
theorem gX5_finds_X5_spreads : GoodIn wsX5_finds (wsV RX5 159 RX5 yX5_spreads wsX5_spreads) := goodIn_app (goodIn_of _ (by decide +kernel)) ggX5_finds_X5_spreads
set_option maxRecDepth 20000 in
theorem ggX5_finds_X5_most : GoodIn wsX5_finds wsX5_most := goodIn_r _ [49, 50, 51, 52, 53, 1, 54, 55, 56, 11, 12, 13, 7, 14, 15, 16, 17, 18, 9, 19, 20, 21, 22, 23, 24, 25, 26, 27, 10, 28, 29, 30, 31, 32, 33, 34, 35, 36, 37, 38, 39, 40, 41, 42, 43, 44, 45, 57, 58, 59, 60, 61, 62, 63, 64, 65, 66, 67, 68, 69, 70, 71, 72, 73, 74, 75, 76, 77, 78, 79, 80, 81, 82, 83, 84, 85, 46, 47, 48, 86, 87, 88, 89, 90, 91, 92, 93, 94, 95, 96, 97, 98, 99, 100, 101, 102, 103, 104, 105] (by decide +kernel) (by decide +kernel)
set_option maxRecDepth 20000 in
theorem gX5_finds_X5_most : GoodIn wsX5_finds (wsV RX5 175 RX5 yX5_most wsX5_most) := goodIn_app (goodIn_of _ (by decide +kernel)) ggX5_finds_X5_most
set_option maxRecDepth 20000 in
theorem ggX5_finds_X5_isAct : GoodIn wsX5_finds wsX5_isAct := goodIn_r _ [18, 9, 19, 20, 7, 21, 86, 87, 88, 89, 90, 91, 92, 93, 94, 95, 96, 97, 98, 99, 100, 101, 102, 103, 104, 105] (by decide +kernel) (by decide +kernel)
set_option maxRecDepth 20000 in
theorem gX5_finds_X5_isAct : GoodIn wsX5_finds (wsV RX5 138 RX5 yX5_isAct wsX5_isAct) := goodIn_app (goodIn_of _ (by decide +kernel)) ggX5_finds_X5_isAct
set_option maxRecDepth 20000 in
theorem ggX5_finds_X5_by : GoodIn wsX5_finds wsX5_by := goodIn_r _ [73, 74, 75, 76, 7, 77, 61, 62, 63, 64, 28, 29, 30, 65, 66, 67, 68, 26, 69, 35, 36, 37, 38, 39, 40, 41, 42, 78, 79, 80, 81, 82, 83, 84, 85, 43, 44, 45, 46, 47, 48, 49, 50, 51, 52, 53, 1, 54, 55, 56, 11, 12, 13, 14, 15, 16, 17, 18, 9, 19, 20, 21, 22, 23, 24, 25, 27, 10, 31, 32, 33, 34, 57, 58, 59, 60, 70, 71, 72, 86, 87, 88, 89, 90, 91, 92, 93, 94, 95, 96, 97, 98, 99, 100, 101, 102, 103, 104, 105] (by decide +kernel) (by decide +kernel)
set_option maxRecDepth 20000 in
theorem gX5_finds_X5_by : GoodIn wsX5_finds (wsV RX5 167 RX5 yX5_by wsX5_by) := goodIn_app (goodIn_of _ (by decide +kernel)) ggX5_finds_X5_by
set_option maxRecDepth 20000 in
theorem ggX5_finds_X5_parts : GoodIn wsX5_finds wsX5_parts := goodIn_r _ [77, 61, 62, 63, 7, 64, 28, 29, 30, 65, 66, 67, 68, 26, 69, 35, 36, 37, 38, 39, 40, 41, 42, 78, 79, 80, 81, 82, 83, 84, 85, 43, 44, 45, 86, 87, 88, 89, 90, 91, 92, 93, 94, 95, 96, 97, 98, 99, 100, 101, 102, 103, 104, 105] (by decide +kernel) (by decide +kernel)
set_option maxRecDepth 20000 in
theorem gX5_finds_X5_parts : GoodIn wsX5_finds (wsV RX5 171 RX5 yX5_parts wsX5_parts) := goodIn_app (goodIn_of _ (by decide +kernel)) ggX5_finds_X5_parts
theorem dX5_finds_0 : decode cX5_finds 0 = .ok (.aload_n 0, 1) := by decide +kernel
theorem dX5_finds_1 : decode cX5_finds 1 = .ok (.dup, 1) := by decide +kernel
theorem dX5_finds_2 : decode cX5_finds 2 = .ok (.getfield 156, 3) := by decide +kernel
theorem dX5_finds_5 : decode cX5_finds 5 = .ok (.iconst 1, 1) := by decide +kernel
theorem dX5_finds_6 : decode cX5_finds 6 = .ok (.iadd, 1) := by decide +kernel
theorem dX5_finds_7 : decode cX5_finds 7 = .ok (.putfield 156, 3) := by decide +kernel
theorem dX5_finds_10 : decode cX5_finds 10 = .ok (.lconst 1, 1) := by decide +kernel
theorem dX5_finds_11 : decode cX5_finds 11 = .ok (.aload_n 0, 1) := by decide +kernel
theorem dX5_finds_12 : decode cX5_finds 12 = .ok (.invokevirtual 179, 3) := by decide +kernel
theorem dX5_finds_15 : decode cX5_finds 15 = .ok (.lshl, 1) := by decide +kernel
theorem dX5_finds_16 : decode cX5_finds 16 = .ok (.lstore_n 3, 1) := by decide +kernel
theorem dX5_finds_17 : decode cX5_finds 17 = .ok (.iload_n 2, 1) := by decide +kernel
theorem dX5_finds_18 : decode cX5_finds 18 = .ok (.istore 5, 2) := by decide +kernel
theorem dX5_finds_20 : decode cX5_finds 20 = .ok (.iconst 0, 1) := by decide +kernel
theorem dX5_finds_21 : decode cX5_finds 21 = .ok (.istore 6, 2) := by decide +kernel
theorem dX5_finds_23 : decode cX5_finds 23 = .ok (.iload 6, 2) := by decide +kernel
theorem dX5_finds_25 : decode cX5_finds 25 = .ok (.iload_n 1, 1) := by decide +kernel
theorem dX5_finds_26 : decode cX5_finds 26 = .ok (.if_icmp .ge 162, 3) := by decide +kernel
theorem dX5_finds_29 : decode cX5_finds 29 = .ok (.aload_n 0, 1) := by decide +kernel
theorem dX5_finds_30 : decode cX5_finds 30 = .ok (.lload_n 3, 1) := by decide +kernel
theorem dX5_finds_31 : decode cX5_finds 31 = .ok (.iload 6, 2) := by decide +kernel
theorem dX5_finds_33 : decode cX5_finds 33 = .ok (.invokevirtual 159, 3) := by decide +kernel
theorem dX5_finds_36 : decode cX5_finds 36 = .ok (.lstore 7, 2) := by decide +kernel
theorem dX5_finds_38 : decode cX5_finds 38 = .ok (.aload_n 0, 1) := by decide +kernel
theorem dX5_finds_39 : decode cX5_finds 39 = .ok (.lload_n 3, 1) := by decide +kernel
theorem dX5_finds_40 : decode cX5_finds 40 = .ok (.iload 6, 2) := by decide +kernel
theorem dX5_finds_42 : decode cX5_finds 42 = .ok (.iload_n 1, 1) := by decide +kernel
theorem dX5_finds_43 : decode cX5_finds 43 = .ok (.invokevirtual 175, 3) := by decide +kernel
theorem dX5_finds_46 : decode cX5_finds 46 = .ok (.istore 9, 2) := by decide +kernel
theorem dX5_finds_48 : decode cX5_finds 48 = .ok (.iconst 0, 1) := by decide +kernel
theorem dX5_finds_49 : decode cX5_finds 49 = .ok (.istore 10, 2) := by decide +kernel
theorem dX5_finds_51 : decode cX5_finds 51 = .ok (.aload_n 0, 1) := by decide +kernel
theorem dX5_finds_52 : decode cX5_finds 52 = .ok (.iload 10, 2) := by decide +kernel
theorem dX5_finds_54 : decode cX5_finds 54 = .ok (.invokevirtual 138, 3) := by decide +kernel
theorem dX5_finds_57 : decode cX5_finds 57 = .ok (.ifCond .eq 19, 3) := by decide +kernel
theorem dX5_finds_60 : decode cX5_finds 60 = .ok (.aload_n 0, 1) := by decide +kernel
theorem dX5_finds_61 : decode cX5_finds 61 = .ok (.lload 7, 2) := by decide +kernel
theorem dX5_finds_63 : decode cX5_finds 63 = .ok (.iload 6, 2) := by decide +kernel
theorem dX5_finds_65 : decode cX5_finds 65 = .ok (.iload_n 1, 1) := by decide +kernel
theorem dX5_finds_66 : decode cX5_finds 66 = .ok (.iload 10, 2) := by decide +kernel
theorem dX5_finds_68 : decode cX5_finds 68 = .ok (.invokevirtual 167, 3) := by decide +kernel
theorem dX5_finds_71 : decode cX5_finds 71 = .ok (.iload 9, 2) := by decide +kernel
theorem dX5_finds_73 : decode cX5_finds 73 = .ok (.if_icmp .eq 9, 3) := by decide +kernel
theorem dX5_finds_76 : decode cX5_finds 76 = .ok (.iinc 10 1, 3) := by decide +kernel
theorem dX5_finds_79 : decode cX5_finds 79 = .ok (.goto (-28), 3) := by decide +kernel
theorem dX5_finds_82 : decode cX5_finds 82 = .ok (.aload_n 0, 1) := by decide +kernel
theorem dX5_finds_83 : decode cX5_finds 83 = .ok (.getfield 53, 3) := by decide +kernel
theorem dX5_finds_86 : decode cX5_finds 86 = .ok (.iload 6, 2) := by decide +kernel
theorem dX5_finds_88 : decode cX5_finds 88 = .ok (.iload 10, 2) := by decide +kernel
theorem dX5_finds_90 : decode cX5_finds 90 = .ok (.iastore, 1) := by decide +kernel
theorem dX5_finds_91 : decode cX5_finds 91 = .ok (.iconst 0, 1) := by decide +kernel
theorem dX5_finds_92 : decode cX5_finds 92 = .ok (.istore 11, 2) := by decide +kernel
theorem dX5_finds_94 : decode cX5_finds 94 = .ok (.iload 11, 2) := by decide +kernel
theorem dX5_finds_96 : decode cX5_finds 96 = .ok (.iconst 4, 1) := by decide +kernel
theorem dX5_finds_97 : decode cX5_finds 97 = .ok (.if_icmp .ge 57, 3) := by decide +kernel
