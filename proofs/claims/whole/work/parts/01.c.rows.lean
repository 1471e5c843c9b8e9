theorem dX2_come_12 : decode cX2_come 12 = .ok (.putfield 22, 3) := by decide +kernel
theorem dX2_come_15 : decode cX2_come 15 = .ok (.aload_n 0, 1) := by decide +kernel
theorem dX2_come_16 : decode cX2_come 16 = .ok (.lload_n 3, 1) := by decide +kernel
theorem dX2_come_17 : decode cX2_come 17 = .ok (.putfield 25, 3) := by decide +kernel
theorem dX2_come_20 : decode cX2_come 20 = .ok (.aload_n 0, 1) := by decide +kernel
theorem dX2_come_21 : decode cX2_come 21 = .ok (.lload 5, 2) := by decide +kernel
theorem dX2_come_23 : decode cX2_come 23 = .ok (.putfield 29, 3) := by decide +kernel
theorem dX2_come_26 : decode cX2_come 26 = .ok (.aload_n 0, 1) := by decide +kernel
theorem dX2_come_27 : decode cX2_come 27 = .ok (.iconst 0, 1) := by decide +kernel
theorem dX2_come_28 : decode cX2_come 28 = .ok (.putfield 32, 3) := by decide +kernel
theorem dX2_come_31 : decode cX2_come 31 = .ok (.aload_n 0, 1) := by decide +kernel
theorem dX2_come_32 : decode cX2_come 32 = .ok (.iconst 1, 1) := by decide +kernel
theorem dX2_come_33 : decode cX2_come 33 = .ok (.putfield 35, 3) := by decide +kernel
theorem dX2_come_36 : decode cX2_come 36 = .ok (.aload_n 0, 1) := by decide +kernel
theorem dX2_come_37 : decode cX2_come 37 = .ok (.iconst 0, 1) := by decide +kernel
theorem dX2_come_38 : decode cX2_come 38 = .ok (.putfield 38, 3) := by decide +kernel
theorem dX2_come_41 : decode cX2_come 41 = .ok (.aload_n 0, 1) := by decide +kernel
theorem dX2_come_42 : decode cX2_come 42 = .ok (.getfield 9, 3) := by decide +kernel
theorem dX2_come_45 : decode cX2_come 45 = .ok (.iconst 1, 1) := by decide +kernel
theorem dX2_come_46 : decode cX2_come 46 = .ok (.invokestatic 41, 3) := by decide +kernel
theorem dX2_come_49 : decode cX2_come 49 = .ok (.aload_n 0, 1) := by decide +kernel
theorem dX2_come_50 : decode cX2_come 50 = .ok (.getfield 9, 3) := by decide +kernel
theorem dX2_come_53 : decode cX2_come 53 = .ok (.iconst 0, 1) := by decide +kernel
theorem dX2_come_54 : decode cX2_come 54 = .ok (.iconst 0, 1) := by decide +kernel
theorem dX2_come_55 : decode cX2_come 55 = .ok (.iastore, 1) := by decide +kernel
theorem dX2_come_56 : decode cX2_come 56 = .ok (.return_, 1) := by decide +kernel
theorem dX2_keep_0 : decode cX2_keep 0 = .ok (.iload_n 1, 1) := by decide +kernel
theorem dX2_keep_1 : decode cX2_keep 1 = .ok (.iconst 1, 1) := by decide +kernel
theorem dX2_keep_2 : decode cX2_keep 2 = .ok (.if_icmp .ne 11, 3) := by decide +kernel
theorem dX2_keep_5 : decode cX2_keep 5 = .ok (.aload_n 0, 1) := by decide +kernel
theorem dX2_keep_6 : decode cX2_keep 6 = .ok (.iload_n 2, 1) := by decide +kernel
theorem dX2_keep_7 : decode cX2_keep 7 = .ok (.putfield 35, 3) := by decide +kernel
theorem dX2_keep_10 : decode cX2_keep 10 = .ok (.goto 13, 3) := by decide +kernel
theorem dX2_keep_13 : decode cX2_keep 13 = .ok (.iload_n 1, 1) := by decide +kernel
theorem dX2_keep_14 : decode cX2_keep 14 = .ok (.iconst 3, 1) := by decide +kernel
theorem dX2_keep_15 : decode cX2_keep 15 = .ok (.if_icmp .ne 8, 3) := by decide +kernel
theorem dX2_keep_18 : decode cX2_keep 18 = .ok (.aload_n 0, 1) := by decide +kernel
theorem dX2_keep_19 : decode cX2_keep 19 = .ok (.iload_n 2, 1) := by decide +kernel
theorem dX2_keep_20 : decode cX2_keep 20 = .ok (.putfield 38, 3) := by decide +kernel
theorem dX2_keep_23 : decode cX2_keep 23 = .ok (.return_, 1) := by decide +kernel
set_option maxRecDepth 20000 in
theorem ggX2_next_X2_told : GoodIn wsX2_next wsX2_told := goodIn_r _ [6] (by decide +kernel) (by decide +kernel)
set_option maxRecDepth 20000 in
theorem gX2_next_X2_told : GoodIn wsX2_next (va_wsS RX2 47 yX2_told wsX2_told) := goodIn_app (goodIn_of _ (by decide +kernel)) ggX2_next_X2_told
set_option maxRecDepth 20000 in
theorem ggX2_next_X2_nextByKind : GoodIn wsX2_next wsX2_nextByKind := goodIn_r _ [10, 1, 11, 12, 13, 14, 15, 16, 17, 18, 19, 20, 21, 22, 23, 24, 25, 26] (by decide +kernel) (by decide +kernel)
set_option maxRecDepth 20000 in
theorem gX2_next_X2_nextByKind : GoodIn wsX2_next (wsV RX2 51 RX2 yX2_nextByKind wsX2_nextByKind) := goodIn_app (goodIn_of _ (by decide +kernel)) ggX2_next_X2_nextByKind
theorem dX2_next_0 : decode cX2_next 0 = .ok (.aload_n 0, 1) := by decide +kernel
theorem dX2_next_1 : decode cX2_next 1 = .ok (.getfield 15, 3) := by decide +kernel
theorem dX2_next_4 : decode cX2_next 4 = .ok (.iconst 4, 1) := by decide +kernel
theorem dX2_next_5 : decode cX2_next 5 = .ok (.if_icmp .ne 16, 3) := by decide +kernel
theorem dX2_next_8 : decode cX2_next 8 = .ok (.aload_n 0, 1) := by decide +kernel
theorem dX2_next_9 : decode cX2_next 9 = .ok (.getfield 25, 3) := by decide +kernel
theorem dX2_next_12 : decode cX2_next 12 = .ok (.iload_n 1, 1) := by decide +kernel
theorem dX2_next_13 : decode cX2_next 13 = .ok (.iload_n 2, 1) := by decide +kernel
theorem dX2_next_14 : decode cX2_next 14 = .ok (.iload_n 3, 1) := by decide +kernel
theorem dX2_next_15 : decode cX2_next 15 = .ok (.invokestatic 47, 3) := by decide +kernel
theorem dX2_next_18 : decode cX2_next 18 = .ok (.goto 12, 3) := by decide +kernel
theorem dX2_next_21 : decode cX2_next 21 = .ok (.aload_n 0, 1) := by decide +kernel
theorem dX2_next_22 : decode cX2_next 22 = .ok (.iload_n 1, 1) := by decide +kernel
theorem dX2_next_23 : decode cX2_next 23 = .ok (.iconst 1, 1) := by decide +kernel
theorem dX2_next_24 : decode cX2_next 24 = .ok (.iadd, 1) := by decide +kernel
theorem dX2_next_25 : decode cX2_next 25 = .ok (.iload_n 2, 1) := by decide +kernel
theorem dX2_next_26 : decode cX2_next 26 = .ok (.iload_n 3, 1) := by decide +kernel
theorem dX2_next_27 : decode cX2_next 27 = .ok (.invokevirtual 51, 3) := by decide +kernel
theorem dX2_next_30 : decode cX2_next 30 = .ok (.ireturn, 1) := by decide +kernel
set_option maxRecDepth 20000 in
theorem ggX2_answer_X2_told : GoodIn wsX2_answer wsX2_told := goodIn_r _ [6] (by decide +kernel) (by decide +kernel)
set_option maxRecDepth 20000 in
theorem gX2_answer_X2_told : GoodIn wsX2_answer (va_wsS RX2 47 yX2_told wsX2_told) := goodIn_app (goodIn_of _ (by decide +kernel)) ggX2_answer_X2_told
set_option maxRecDepth 20000 in
theorem ggX2_answer_X2_answerByKind : GoodIn wsX2_answer wsX2_answerByKind := goodIn_r _ [10, 1, 11, 12, 13, 14, 15, 16, 17, 18, 19] (by decide +kernel) (by decide +kernel)
set_option maxRecDepth 20000 in
theorem gX2_answer_X2_answerByKind : GoodIn wsX2_answer (wsV RX2 55 RX2 yX2_answerByKind wsX2_answerByKind) := goodIn_app (goodIn_of _ (by decide +kernel)) ggX2_answer_X2_answerByKind
theorem dX2_answer_0 : decode cX2_answer 0 = .ok (.aload_n 0, 1) := by decide +kernel
theorem dX2_answer_1 : decode cX2_answer 1 = .ok (.getfield 15, 3) := by decide +kernel
theorem dX2_answer_4 : decode cX2_answer 4 = .ok (.iconst 4, 1) := by decide +kernel
theorem dX2_answer_5 : decode cX2_answer 5 = .ok (.if_icmp .ne 16, 3) := by decide +kernel
theorem dX2_answer_8 : decode cX2_answer 8 = .ok (.aload_n 0, 1) := by decide +kernel
theorem dX2_answer_9 : decode cX2_answer 9 = .ok (.getfield 29, 3) := by decide +kernel
theorem dX2_answer_12 : decode cX2_answer 12 = .ok (.iload_n 1, 1) := by decide +kernel
theorem dX2_answer_13 : decode cX2_answer 13 = .ok (.iload_n 2, 1) := by decide +kernel
theorem dX2_answer_14 : decode cX2_answer 14 = .ok (.iload_n 3, 1) := by decide +kernel
theorem dX2_answer_15 : decode cX2_answer 15 = .ok (.invokestatic 47, 3) := by decide +kernel
theorem dX2_answer_18 : decode cX2_answer 18 = .ok (.goto 12, 3) := by decide +kernel
theorem dX2_answer_21 : decode cX2_answer 21 = .ok (.aload_n 0, 1) := by decide +kernel
theorem dX2_answer_22 : decode cX2_answer 22 = .ok (.iload_n 1, 1) := by decide +kernel
theorem dX2_answer_23 : decode cX2_answer 23 = .ok (.iconst 1, 1) := by decide +kernel
theorem dX2_answer_24 : decode cX2_answer 24 = .ok (.iadd, 1) := by decide +kernel
theorem dX2_answer_25 : decode cX2_answer 25 = .ok (.iload_n 2, 1) := by decide +kernel
theorem dX2_answer_26 : decode cX2_answer 26 = .ok (.iload_n 3, 1) := by decide +kernel
theorem dX2_answer_27 : decode cX2_answer 27 = .ok (.invokevirtual 55, 3) := by decide +kernel
theorem dX2_answer_30 : decode cX2_answer 30 = .ok (.ireturn, 1) := by decide +kernel
theorem dX2_told_0 : decode cX2_told 0 = .ok (.lload_n 0, 1) := by decide +kernel
theorem dX2_told_1 : decode cX2_told 1 = .ok (.iconst 2, 1) := by decide +kernel
theorem dX2_told_2 : decode cX2_told 2 = .ok (.bipush 12, 2) := by decide +kernel
theorem dX2_told_4 : decode cX2_told 4 = .ok (.iload_n 2, 1) := by decide +kernel
theorem dX2_told_5 : decode cX2_told 5 = .ok (.imul, 1) := by decide +kernel
theorem dX2_told_6 : decode cX2_told 6 = .ok (.iconst 3, 1) := by decide +kernel
theorem dX2_told_7 : decode cX2_told 7 = .ok (.iload_n 3, 1) := by decide +kernel
theorem dX2_told_8 : decode cX2_told 8 = .ok (.imul, 1) := by decide +kernel
theorem dX2_told_9 : decode cX2_told 9 = .ok (.iadd, 1) := by decide +kernel
theorem dX2_told_10 : decode cX2_told 10 = .ok (.iload 4, 2) := by decide +kernel
theorem dX2_told_12 : decode cX2_told 12 = .ok (.iadd, 1) := by decide +kernel
theorem dX2_told_13 : decode cX2_told 13 = .ok (.imul, 1) := by decide +kernel
theorem dX2_told_14 : decode cX2_told 14 = .ok (.lushr, 1) := by decide +kernel
theorem dX2_told_15 : decode cX2_told 15 = .ok (.l2i, 1) := by decide +kernel
theorem dX2_told_16 : decode cX2_told 16 = .ok (.iconst 3, 1) := by decide +kernel
theorem dX2_told_17 : decode cX2_told 17 = .ok (.iand, 1) := by decide +kernel
theorem dX2_told_18 : decode cX2_told 18 = .ok (.ireturn, 1) := by decide +kernel
theorem dX2_nextByKind_0 : decode cX2_nextByKind 0 = .ok (.iload_n 3, 1) := by decide +kernel
theorem dX2_nextByKind_1 : decode cX2_nextByKind 1 = .ok (.iconst 1, 1) := by decide +kernel
theorem dX2_nextByKind_2 : decode cX2_nextByKind 2 = .ok (.if_icmp .le 5, 3) := by decide +kernel
theorem dX2_nextByKind_5 : decode cX2_nextByKind 5 = .ok (.iload_n 2, 1) := by decide +kernel
theorem dX2_nextByKind_6 : decode cX2_nextByKind 6 = .ok (.ireturn, 1) := by decide +kernel
theorem dX2_nextByKind_7 : decode cX2_nextByKind 7 = .ok (.aload_n 0, 1) := by decide +kernel
theorem dX2_nextByKind_8 : decode cX2_nextByKind 8 = .ok (.getfield 15, 3) := by decide +kernel
theorem dX2_nextByKind_11 : decode cX2_nextByKind 11 = .ok (.tableswitch 82 0 2 #[25, 35, 57], 25) := by decide +kernel
theorem dX2_nextByKind_36 : decode cX2_nextByKind 36 = .ok (.iload_n 3, 1) := by decide +kernel
theorem dX2_nextByKind_37 : decode cX2_nextByKind 37 = .ok (.ifCond .ne 7, 3) := by decide +kernel
theorem dX2_nextByKind_40 : decode cX2_nextByKind 40 = .ok (.iload_n 1, 1) := by decide +kernel
theorem dX2_nextByKind_41 : decode cX2_nextByKind 41 = .ok (.goto 4, 3) := by decide +kernel
theorem dX2_nextByKind_44 : decode cX2_nextByKind 44 = .ok (.iconst 0, 1) := by decide +kernel
theorem dX2_nextByKind_45 : decode cX2_nextByKind 45 = .ok (.ireturn, 1) := by decide +kernel
theorem dX2_nextByKind_46 : decode cX2_nextByKind 46 = .ok (.iload_n 3, 1) := by decide +kernel
theorem dX2_nextByKind_47 : decode cX2_nextByKind 47 = .ok (.ifCond .ne 13, 3) := by decide +kernel
theorem dX2_nextByKind_50 : decode cX2_nextByKind 50 = .ok (.iload_n 2, 1) := by decide +kernel
theorem dX2_nextByKind_51 : decode cX2_nextByKind 51 = .ok (.iconst 1, 1) := by decide +kernel
theorem dX2_nextByKind_52 : decode cX2_nextByKind 52 = .ok (.iadd, 1) := by decide +kernel
theorem dX2_nextByKind_53 : decode cX2_nextByKind 53 = .ok (.iconst 3, 1) := by decide +kernel
theorem dX2_nextByKind_54 : decode cX2_nextByKind 54 = .ok (.invokestatic 58, 3) := by decide +kernel
theorem dX2_nextByKind_57 : decode cX2_nextByKind 57 = .ok (.goto 10, 3) := by decide +kernel
theorem dX2_nextByKind_60 : decode cX2_nextByKind 60 = .ok (.iload_n 2, 1) := by decide +kernel
theorem dX2_nextByKind_61 : decode cX2_nextByKind 61 = .ok (.iconst 1, 1) := by decide +kernel
theorem dX2_nextByKind_62 : decode cX2_nextByKind 62 = .ok (.isub, 1) := by decide +kernel
theorem dX2_nextByKind_63 : decode cX2_nextByKind 63 = .ok (.iconst 0, 1) := by decide +kernel
theorem dX2_nextByKind_64 : decode cX2_nextByKind 64 = .ok (.invokestatic 64, 3) := by decide +kernel
theorem dX2_nextByKind_67 : decode cX2_nextByKind 67 = .ok (.ireturn, 1) := by decide +kernel
theorem dX2_nextByKind_68 : decode cX2_nextByKind 68 = .ok (.iload_n 3, 1) := by decide +kernel
theorem dX2_nextByKind_69 : decode cX2_nextByKind 69 = .ok (.ifCond .ne 13, 3) := by decide +kernel
theorem dX2_nextByKind_72 : decode cX2_nextByKind 72 = .ok (.iload_n 2, 1) := by decide +kernel
theorem dX2_nextByKind_73 : decode cX2_nextByKind 73 = .ok (.ifCond .ne 7, 3) := by decide +kernel
theorem dX2_nextByKind_76 : decode cX2_nextByKind 76 = .ok (.iload_n 1, 1) := by decide +kernel
theorem dX2_nextByKind_77 : decode cX2_nextByKind 77 = .ok (.goto 4, 3) := by decide +kernel
theorem dX2_nextByKind_80 : decode cX2_nextByKind 80 = .ok (.iload_n 2, 1) := by decide +kernel
theorem dX2_nextByKind_81 : decode cX2_nextByKind 81 = .ok (.ireturn, 1) := by decide +kernel
theorem dX2_nextByKind_82 : decode cX2_nextByKind 82 = .ok (.iload_n 2, 1) := by decide +kernel
theorem dX2_nextByKind_83 : decode cX2_nextByKind 83 = .ok (.iload_n 1, 1) := by decide +kernel
theorem dX2_nextByKind_84 : decode cX2_nextByKind 84 = .ok (.if_icmp .ne 7, 3) := by decide +kernel
theorem dX2_nextByKind_87 : decode cX2_nextByKind 87 = .ok (.iconst 0, 1) := by decide +kernel
theorem dX2_nextByKind_88 : decode cX2_nextByKind 88 = .ok (.goto 4, 3) := by decide +kernel
theorem dX2_nextByKind_91 : decode cX2_nextByKind 91 = .ok (.iload_n 2, 1) := by decide +kernel
theorem dX2_nextByKind_92 : decode cX2_nextByKind 92 = .ok (.ireturn, 1) := by decide +kernel
theorem dX2_nextByKind_93 : decode cX2_nextByKind 93 = .ok (.iload_n 3, 1) := by decide +kernel
theorem dX2_nextByKind_94 : decode cX2_nextByKind 94 = .ok (.ifCond .ne 7, 3) := by decide +kernel
theorem dX2_nextByKind_97 : decode cX2_nextByKind 97 = .ok (.iload_n 2, 1) := by decide +kernel
theorem dX2_nextByKind_98 : decode cX2_nextByKind 98 = .ok (.goto 8, 3) := by decide +kernel
theorem dX2_nextByKind_101 : decode cX2_nextByKind 101 = .ok (.iload_n 2, 1) := by decide +kernel
theorem dX2_nextByKind_102 : decode cX2_nextByKind 102 = .ok (.iconst 1, 1) := by decide +kernel
theorem dX2_nextByKind_103 : decode cX2_nextByKind 103 = .ok (.iadd, 1) := by decide +kernel
theorem dX2_nextByKind_104 : decode cX2_nextByKind 104 = .ok (.iconst 3, 1) := by decide +kernel
theorem dX2_nextByKind_105 : decode cX2_nextByKind 105 = .ok (.iand, 1) := by decide +kernel
theorem dX2_nextByKind_106 : decode cX2_nextByKind 106 = .ok (.ireturn, 1) := by decide +kernel
theorem dX2_answerByKind_0 : decode cX2_answerByKind 0 = .ok (.iload_n 3, 1) := by decide +kernel
theorem dX2_answerByKind_1 : decode cX2_answerByKind 1 = .ok (.iconst 1, 1) := by decide +kernel
theorem dX2_answerByKind_2 : decode cX2_answerByKind 2 = .ok (.if_icmp .le 5, 3) := by decide +kernel
theorem dX2_answerByKind_5 : decode cX2_answerByKind 5 = .ok (.iconst 0, 1) := by decide +kernel
theorem dX2_answerByKind_6 : decode cX2_answerByKind 6 = .ok (.ireturn, 1) := by decide +kernel
theorem dX2_answerByKind_7 : decode cX2_answerByKind 7 = .ok (.aload_n 0, 1) := by decide +kernel
theorem dX2_answerByKind_8 : decode cX2_answerByKind 8 = .ok (.getfield 15, 3) := by decide +kernel
theorem dX2_answerByKind_11 : decode cX2_answerByKind 11 = .ok (.tableswitch 78 0 2 #[25, 40, 59], 25) := by decide +kernel
theorem dX2_answerByKind_36 : decode cX2_answerByKind 36 = .ok (.iload_n 3, 1) := by decide +kernel
theorem dX2_answerByKind_37 : decode cX2_answerByKind 37 = .ok (.ifCond .ne 12, 3) := by decide +kernel
theorem dX2_answerByKind_40 : decode cX2_answerByKind 40 = .ok (.iload_n 2, 1) := by decide +kernel
theorem dX2_answerByKind_41 : decode cX2_answerByKind 41 = .ok (.iload_n 1, 1) := by decide +kernel
theorem dX2_answerByKind_42 : decode cX2_answerByKind 42 = .ok (.if_icmp .eq 7, 3) := by decide +kernel
theorem dX2_answerByKind_45 : decode cX2_answerByKind 45 = .ok (.iconst 1, 1) := by decide +kernel
theorem dX2_answerByKind_46 : decode cX2_answerByKind 46 = .ok (.goto 4, 3) := by decide +kernel
theorem dX2_answerByKind_49 : decode cX2_answerByKind 49 = .ok (.iconst 0, 1) := by decide +kernel
theorem dX2_answerByKind_50 : decode cX2_answerByKind 50 = .ok (.ireturn, 1) := by decide +kernel
theorem dX2_answerByKind_51 : decode cX2_answerByKind 51 = .ok (.iload_n 2, 1) := by decide +kernel
theorem dX2_answerByKind_52 : decode cX2_answerByKind 52 = .ok (.iload_n 3, 1) := by decide +kernel
theorem dX2_answerByKind_53 : decode cX2_answerByKind 53 = .ok (.ifCond .ne 7, 3) := by decide +kernel
theorem dX2_answerByKind_56 : decode cX2_answerByKind 56 = .ok (.iconst 3, 1) := by decide +kernel
theorem dX2_answerByKind_57 : decode cX2_answerByKind 57 = .ok (.goto 4, 3) := by decide +kernel
theorem dX2_answerByKind_60 : decode cX2_answerByKind 60 = .ok (.iconst 0, 1) := by decide +kernel
theorem dX2_answerByKind_61 : decode cX2_answerByKind 61 = .ok (.if_icmp .ne 7, 3) := by decide +kernel
theorem dX2_answerByKind_64 : decode cX2_answerByKind 64 = .ok (.iconst 1, 1) := by decide +kernel
theorem dX2_answerByKind_65 : decode cX2_answerByKind 65 = .ok (.goto 4, 3) := by decide +kernel
theorem dX2_answerByKind_68 : decode cX2_answerByKind 68 = .ok (.iconst 0, 1) := by decide +kernel
theorem dX2_answerByKind_69 : decode cX2_answerByKind 69 = .ok (.ireturn, 1) := by decide +kernel
theorem dX2_answerByKind_70 : decode cX2_answerByKind 70 = .ok (.iload_n 2, 1) := by decide +kernel
theorem dX2_answerByKind_71 : decode cX2_answerByKind 71 = .ok (.iload_n 1, 1) := by decide +kernel
theorem dX2_answerByKind_72 : decode cX2_answerByKind 72 = .ok (.if_icmp .eq 11, 3) := by decide +kernel
theorem dX2_answerByKind_75 : decode cX2_answerByKind 75 = .ok (.iload_n 3, 1) := by decide +kernel
theorem dX2_answerByKind_76 : decode cX2_answerByKind 76 = .ok (.ifCond .ne 11, 3) := by decide +kernel
theorem dX2_answerByKind_79 : decode cX2_answerByKind 79 = .ok (.iload_n 2, 1) := by decide +kernel
theorem dX2_answerByKind_80 : decode cX2_answerByKind 80 = .ok (.ifCond .ne 7, 3) := by decide +kernel
theorem dX2_answerByKind_83 : decode cX2_answerByKind 83 = .ok (.iconst 0, 1) := by decide +kernel
theorem dX2_answerByKind_84 : decode cX2_answerByKind 84 = .ok (.goto 4, 3) := by decide +kernel
theorem dX2_answerByKind_87 : decode cX2_answerByKind 87 = .ok (.iconst 1, 1) := by decide +kernel
theorem dX2_answerByKind_88 : decode cX2_answerByKind 88 = .ok (.ireturn, 1) := by decide +kernel
theorem dX2_answerByKind_89 : decode cX2_answerByKind 89 = .ok (.iload_n 3, 1) := by decide +kernel
theorem dX2_answerByKind_90 : decode cX2_answerByKind 90 = .ok (.ifCond .ne 7, 3) := by decide +kernel
theorem dX2_answerByKind_93 : decode cX2_answerByKind 93 = .ok (.iload_n 2, 1) := by decide +kernel
theorem dX2_answerByKind_94 : decode cX2_answerByKind 94 = .ok (.goto 4, 3) := by decide +kernel
theorem dX2_answerByKind_97 : decode cX2_answerByKind 97 = .ok (.iconst 0, 1) := by decide +kernel
theorem dX2_answerByKind_98 : decode cX2_answerByKind 98 = .ok (.ireturn, 1) := by decide +kernel
theorem dX3_init_0 : decode cX3_init 0 = .ok (.aload_n 0, 1) := by decide +kernel
theorem dX3_init_1 : decode cX3_init 1 = .ok (.invokespecial 3, 3) := by decide +kernel
theorem dX3_init_4 : decode cX3_init 4 = .ok (.aload_n 0, 1) := by decide +kernel
theorem dX3_init_5 : decode cX3_init 5 = .ok (.sipush 576, 3) := by decide +kernel
theorem dX3_init_8 : decode cX3_init 8 = .ok (.newarray .int, 2) := by decide +kernel
theorem dX3_init_10 : decode cX3_init 10 = .ok (.putfield 11, 3) := by decide +kernel
theorem dX3_init_13 : decode cX3_init 13 = .ok (.aload_n 0, 1) := by decide +kernel
theorem dX3_init_14 : decode cX3_init 14 = .ok (.iconst 3, 1) := by decide +kernel
theorem dX3_init_15 : decode cX3_init 15 = .ok (.newarray .int, 2) := by decide +kernel
theorem dX3_init_17 : decode cX3_init 17 = .ok (.putfield 15, 3) := by decide +kernel
theorem dX3_init_20 : decode cX3_init 20 = .ok (.aload_n 0, 1) := by decide +kernel
theorem dX3_init_21 : decode cX3_init 21 = .ok (.iconst 3, 1) := by decide +kernel
theorem dX3_init_22 : decode cX3_init 22 = .ok (.newarray .int, 2) := by decide +kernel
theorem dX3_init_24 : decode cX3_init 24 = .ok (.putfield 18, 3) := by decide +kernel
theorem dX3_init_27 : decode cX3_init 27 = .ok (.aload_n 0, 1) := by decide +kernel
theorem dX3_init_28 : decode cX3_init 28 = .ok (.iconst (-1), 1) := by decide +kernel
theorem dX3_init_29 : decode cX3_init 29 = .ok (.putfield 21, 3) := by decide +kernel
theorem dX3_init_32 : decode cX3_init 32 = .ok (.aload_n 0, 1) := by decide +kernel
theorem dX3_init_33 : decode cX3_init 33 = .ok (.iload_n 1, 1) := by decide +kernel
theorem dX3_init_34 : decode cX3_init 34 = .ok (.putfield 25, 3) := by decide +kernel
theorem dX3_init_37 : decode cX3_init 37 = .ok (.return_, 1) := by decide +kernel
theorem dX3_place_0 : decode cX3_place 0 = .ok (.iconst 3, 1) := by decide +kernel
theorem dX3_place_1 : decode cX3_place 1 = .ok (.iconst 3, 1) := by decide +kernel
theorem dX3_place_2 : decode cX3_place 2 = .ok (.iload_n 0, 1) := by decide +kernel
theorem dX3_place_3 : decode cX3_place 3 = .ok (.imul, 1) := by decide +kernel
theorem dX3_place_4 : decode cX3_place 4 = .ok (.iload_n 1, 1) := by decide +kernel
theorem dX3_place_5 : decode cX3_place 5 = .ok (.iadd, 1) := by decide +kernel
theorem dX3_place_6 : decode cX3_place 6 = .ok (.imul, 1) := by decide +kernel
theorem dX3_place_7 : decode cX3_place 7 = .ok (.ireturn, 1) := by decide +kernel
set_option maxRecDepth 20000 in
theorem ggX3_grow_X3_addLetter : GoodIn wsX3_grow wsX3_addLetter := goodIn_r _ [9, 10, 1, 11, 3, 4, 12, 13, 8, 14, 68, 69, 70, 71, 72, 73] (by decide +kernel) (by decide +kernel)
set_option maxRecDepth 20000 in
theorem gX3_grow_X3_addLetter : GoodIn wsX3_grow (wsV RX3 28 RX3 yX3_addLetter wsX3_addLetter) := goodIn_app (goodIn_of _ (by decide +kernel)) ggX3_grow_X3_addLetter
set_option maxRecDepth 20000 in
theorem ggX3_grow_X1_sent : GoodIn wsX3_grow wsX1_sent := goodIn_r _ [19, 20, 21, 22, 23, 24, 18, 25, 26, 27, 28, 29, 30, 31, 32, 33, 74, 75, 76, 77, 78, 79, 80] (by decide +kernel) (by decide +kernel)
set_option maxRecDepth 20000 in
theorem gX3_grow_X1_sent : GoodIn wsX3_grow (wsV RX3 35 RX1 yX1_sent wsX1_sent) := goodIn_app (goodIn_of _ (by decide +kernel)) ggX3_grow_X1_sent
set_option maxRecDepth 20000 in
theorem ggX3_grow_X4_mostBy : GoodIn wsX3_grow wsX4_mostBy := goodIn_r _ [36, 37, 38, 39, 18, 40, 20, 41, 23, 24, 25, 26, 27, 28, 42, 43, 44, 45, 46, 47, 48, 49, 50, 51, 52, 53, 54, 55, 35, 56, 57, 58, 59, 60, 61, 62, 16, 17, 19, 21, 22, 29, 30, 31, 32, 33, 63, 34, 74, 75, 76, 77, 78, 79, 80] (by decide +kernel) (by decide +kernel)
set_option maxRecDepth 20000 in
theorem gX3_grow_X4_mostBy_n39 : GoodIn wsX3_grow (wsX4_mostBy) := ggX3_grow_X4_mostBy
set_option maxRecDepth 20000 in
theorem ggX3_grow_X1_answers : GoodIn wsX3_grow wsX1_answers := goodIn_r _ [40, 20, 41, 23, 24, 18, 25, 26, 27, 28, 74, 75, 76, 77, 78, 79, 80] (by decide +kernel) (by decide +kernel)
set_option maxRecDepth 20000 in
theorem gX3_grow_X1_answers : GoodIn wsX3_grow (wsV RX3 43 RX1 yX1_answers wsX1_answers) := goodIn_app (goodIn_of _ (by decide +kernel)) ggX3_grow_X1_answers
set_option maxRecDepth 20000 in
theorem ggX3_grow_X1_heard : GoodIn wsX3_grow wsX1_heard := goodIn_r _ [52, 20, 41, 53, 23, 24, 18, 25, 26, 27, 28, 74, 75, 76, 77, 78, 79, 80] (by decide +kernel) (by decide +kernel)
set_option maxRecDepth 20000 in
theorem gX3_grow_X1_heard : GoodIn wsX3_grow (wsV RX3 46 RX1 yX1_heard wsX1_heard) := goodIn_app (goodIn_of _ (by decide +kernel)) ggX3_grow_X1_heard
set_option maxRecDepth 20000 in
theorem ggX3_grow_X3_grow : GoodIn wsX3_grow wsX3_grow := goodIn_r _ [0, 1, 2, 3, 4, 5, 6, 7, 8, 9, 10, 11, 12, 13, 14, 15, 16, 17, 18, 19, 20, 21, 22, 23, 24, 25, 26, 27, 28, 29, 30, 31, 32, 33, 34, 35, 36, 37, 38, 39, 40, 41, 42, 43, 44, 45, 46, 47, 48, 49, 50, 51, 52, 53, 54, 55, 56, 57, 58, 59, 60, 61, 62, 63, 64, 65, 66, 67, 68, 69, 70, 71, 72, 73, 74, 75, 76, 77, 78, 79, 80] (by decide +kernel) (by decide +kernel)
set_option maxRecDepth 20000 in
theorem gX3_grow_X3_grow : GoodIn wsX3_grow (va_wsS RX3 50 yX3_grow wsX3_grow) := goodIn_app (goodIn_of _ (by decide +kernel)) ggX3_grow_X3_grow
theorem dX3_grow_0 : decode cX3_grow 0 = .ok (.iload 4, 2) := by decide +kernel
theorem dX3_grow_2 : decode cX3_grow 2 = .ok (.aload_n 0, 1) := by decide +kernel
theorem dX3_grow_3 : decode cX3_grow 3 = .ok (.getfield 25, 3) := by decide +kernel
theorem dX3_grow_6 : decode cX3_grow 6 = .ok (.if_icmp .lt 8, 3) := by decide +kernel
theorem dX3_grow_9 : decode cX3_grow 9 = .ok (.aload_n 0, 1) := by decide +kernel
theorem dX3_grow_10 : decode cX3_grow 10 = .ok (.invokevirtual 28, 3) := by decide +kernel
theorem dX3_grow_13 : decode cX3_grow 13 = .ok (.return_, 1) := by decide +kernel
theorem dX3_grow_14 : decode cX3_grow 14 = .ok (.aload_n 1, 1) := by decide +kernel
theorem dX3_grow_15 : decode cX3_grow 15 = .ok (.lload_n 2, 1) := by decide +kernel
theorem dX3_grow_16 : decode cX3_grow 16 = .ok (.iconst 0, 1) := by decide +kernel
theorem dX3_grow_17 : decode cX3_grow 17 = .ok (.aload_n 1, 1) := by decide +kernel
theorem dX3_grow_18 : decode cX3_grow 18 = .ok (.getfield 31, 3) := by decide +kernel
theorem dX3_grow_21 : decode cX3_grow 21 = .ok (.iload 4, 2) := by decide +kernel
theorem dX3_grow_23 : decode cX3_grow 23 = .ok (.invokevirtual 35, 3) := by decide +kernel
theorem dX3_grow_26 : decode cX3_grow 26 = .ok (.lstore 5, 2) := by decide +kernel
theorem dX3_grow_28 : decode cX3_grow 28 = .ok (.iconst 0, 1) := by decide +kernel
theorem dX3_grow_29 : decode cX3_grow 29 = .ok (.istore 7, 2) := by decide +kernel
theorem dX3_grow_31 : decode cX3_grow 31 = .ok (.iconst 0, 1) := by decide +kernel
theorem dX3_grow_32 : decode cX3_grow 32 = .ok (.istore 8, 2) := by decide +kernel
theorem dX3_grow_34 : decode cX3_grow 34 = .ok (.iconst 0, 1) := by decide +kernel
theorem dX3_grow_35 : decode cX3_grow 35 = .ok (.istore 9, 2) := by decide +kernel
theorem dX3_grow_37 : decode cX3_grow 37 = .ok (.iload 9, 2) := by decide +kernel
theorem dX3_grow_39 : decode cX3_grow 39 = .ok (.aload_n 1, 1) := by decide +kernel
theorem dX3_grow_40 : decode cX3_grow 40 = .ok (.getfield 31, 3) := by decide +kernel
theorem dX3_grow_43 : decode cX3_grow 43 = .ok (.if_icmp .gt 40, 3) := by decide +kernel
theorem dX3_grow_46 : decode cX3_grow 46 = .ok (.aload_n 1, 1) := by decide +kernel
theorem dX3_grow_47 : decode cX3_grow 47 = .ok (.lload 5, 2) := by decide +kernel
theorem dX3_grow_49 : decode cX3_grow 49 = .ok (.iload 9, 2) := by decide +kernel
theorem dX3_grow_51 : decode cX3_grow 51 = .ok (.iload 4, 2) := by decide +kernel
theorem dX3_grow_53 : decode cX3_grow 53 = .ok (.aload_n 0, 1) := by decide +kernel
theorem dX3_grow_54 : decode cX3_grow 54 = .ok (.getfield 25, 3) := by decide +kernel
theorem dX3_grow_57 : decode cX3_grow 57 = .ok (.invokestatic 39, 3) := by decide +kernel
theorem dX3_grow_60 : decode cX3_grow 60 = .ok (.istore 10, 2) := by decide +kernel
theorem dX3_grow_62 : decode cX3_grow 62 = .ok (.iload 10, 2) := by decide +kernel
theorem dX3_grow_64 : decode cX3_grow 64 = .ok (.iload 8, 2) := by decide +kernel
theorem dX3_grow_66 : decode cX3_grow 66 = .ok (.if_icmp .le 11, 3) := by decide +kernel
theorem dX3_grow_69 : decode cX3_grow 69 = .ok (.iload 9, 2) := by decide +kernel
theorem dX3_grow_71 : decode cX3_grow 71 = .ok (.istore 7, 2) := by decide +kernel
theorem dX3_grow_73 : decode cX3_grow 73 = .ok (.iload 10, 2) := by decide +kernel
theorem dX3_grow_75 : decode cX3_grow 75 = .ok (.istore 8, 2) := by decide +kernel
theorem dX3_grow_77 : decode cX3_grow 77 = .ok (.iinc 9 1, 3) := by decide +kernel
theorem dX3_grow_80 : decode cX3_grow 80 = .ok (.goto (-43), 3) := by decide +kernel
theorem dX3_grow_83 : decode cX3_grow 83 = .ok (.aload_n 1, 1) := by decide +kernel
theorem dX3_grow_84 : decode cX3_grow 84 = .ok (.lload 5, 2) := by decide +kernel
theorem dX3_grow_86 : decode cX3_grow 86 = .ok (.iload 7, 2) := by decide +kernel
theorem dX3_grow_88 : decode cX3_grow 88 = .ok (.invokevirtual 43, 3) := by decide +kernel
theorem dX3_grow_91 : decode cX3_grow 91 = .ok (.istore 9, 2) := by decide +kernel
theorem dX3_grow_93 : decode cX3_grow 93 = .ok (.iconst 0, 1) := by decide +kernel
theorem dX3_grow_94 : decode cX3_grow 94 = .ok (.istore 10, 2) := by decide +kernel
theorem dX3_grow_96 : decode cX3_grow 96 = .ok (.iload 10, 2) := by decide +kernel
theorem dX3_grow_98 : decode cX3_grow 98 = .ok (.iconst 4, 1) := by decide +kernel
theorem dX3_grow_99 : decode cX3_grow 99 = .ok (.if_icmp .ge 70, 3) := by decide +kernel
theorem dX3_grow_102 : decode cX3_grow 102 = .ok (.iload 9, 2) := by decide +kernel
theorem dX3_grow_104 : decode cX3_grow 104 = .ok (.iload 10, 2) := by decide +kernel
theorem dX3_grow_106 : decode cX3_grow 106 = .ok (.ishr, 1) := by decide +kernel
theorem dX3_grow_107 : decode cX3_grow 107 = .ok (.iconst 1, 1) := by decide +kernel
theorem dX3_grow_108 : decode cX3_grow 108 = .ok (.iand, 1) := by decide +kernel
theorem dX3_grow_109 : decode cX3_grow 109 = .ok (.ifCond .eq 54, 3) := by decide +kernel
theorem dX3_grow_112 : decode cX3_grow 112 = .ok (.aload_n 0, 1) := by decide +kernel
theorem dX3_grow_113 : decode cX3_grow 113 = .ok (.getfield 15, 3) := by decide +kernel
theorem dX3_grow_116 : decode cX3_grow 116 = .ok (.iload 4, 2) := by decide +kernel
theorem dX3_grow_118 : decode cX3_grow 118 = .ok (.iload 7, 2) := by decide +kernel
theorem dX3_grow_120 : decode cX3_grow 120 = .ok (.aload_n 1, 1) := by decide +kernel
theorem dX3_grow_121 : decode cX3_grow 121 = .ok (.getfield 31, 3) := by decide +kernel
theorem dX3_grow_124 : decode cX3_grow 124 = .ok (.if_icmp .ge 8, 3) := by decide +kernel
theorem dX3_grow_127 : decode cX3_grow 127 = .ok (.iload 7, 2) := by decide +kernel
theorem dX3_grow_129 : decode cX3_grow 129 = .ok (.goto 5, 3) := by decide +kernel
theorem dX3_grow_132 : decode cX3_grow 132 = .ok (.bipush 9, 2) := by decide +kernel
theorem dX3_grow_134 : decode cX3_grow 134 = .ok (.iastore, 1) := by decide +kernel
theorem dX3_grow_135 : decode cX3_grow 135 = .ok (.aload_n 0, 1) := by decide +kernel
theorem dX3_grow_136 : decode cX3_grow 136 = .ok (.getfield 18, 3) := by decide +kernel
theorem dX3_grow_139 : decode cX3_grow 139 = .ok (.iload 4, 2) := by decide +kernel
theorem dX3_grow_141 : decode cX3_grow 141 = .ok (.iload 10, 2) := by decide +kernel
theorem dX3_grow_143 : decode cX3_grow 143 = .ok (.iastore, 1) := by decide +kernel
theorem dX3_grow_144 : decode cX3_grow 144 = .ok (.aload_n 0, 1) := by decide +kernel
theorem dX3_grow_145 : decode cX3_grow 145 = .ok (.aload_n 1, 1) := by decide +kernel
theorem dX3_grow_146 : decode cX3_grow 146 = .ok (.aload_n 1, 1) := by decide +kernel
theorem dX3_grow_147 : decode cX3_grow 147 = .ok (.lload 5, 2) := by decide +kernel
theorem dX3_grow_149 : decode cX3_grow 149 = .ok (.iload 7, 2) := by decide +kernel
theorem dX3_grow_151 : decode cX3_grow 151 = .ok (.iload 10, 2) := by decide +kernel
theorem dX3_grow_153 : decode cX3_grow 153 = .ok (.invokevirtual 46, 3) := by decide +kernel
theorem dX3_grow_156 : decode cX3_grow 156 = .ok (.iload 4, 2) := by decide +kernel
theorem dX3_grow_158 : decode cX3_grow 158 = .ok (.iconst 1, 1) := by decide +kernel
theorem dX3_grow_159 : decode cX3_grow 159 = .ok (.iadd, 1) := by decide +kernel
theorem dX3_grow_160 : decode cX3_grow 160 = .ok (.invokestatic 50, 3) := by decide +kernel
theorem dX3_grow_163 : decode cX3_grow 163 = .ok (.iinc 10 1, 3) := by decide +kernel
theorem dX3_grow_166 : decode cX3_grow 166 = .ok (.goto (-70), 3) := by decide +kernel
theorem dX3_grow_169 : decode cX3_grow 169 = .ok (.return_, 1) := by decide +kernel
set_option maxRecDepth 20000 in
theorem ggX3_addLetter_X3_place : GoodIn wsX3_addLetter wsX3_place := goodIn_r _ [9] (by decide +kernel) (by decide +kernel)
set_option maxRecDepth 20000 in
theorem gX3_addLetter_X3_place : GoodIn wsX3_addLetter (va_wsS RX3 57 yX3_place wsX3_place) := goodIn_app (goodIn_of _ (by decide +kernel)) ggX3_addLetter_X3_place
theorem dX3_addLetter_0 : decode cX3_addLetter 0 = .ok (.aload_n 0, 1) := by decide +kernel
theorem dX3_addLetter_1 : decode cX3_addLetter 1 = .ok (.getfield 54, 3) := by decide +kernel
theorem dX3_addLetter_4 : decode cX3_addLetter 4 = .ok (.bipush 64, 2) := by decide +kernel
theorem dX3_addLetter_6 : decode cX3_addLetter 6 = .ok (.if_icmp .lt 4, 3) := by decide +kernel
theorem dX3_addLetter_9 : decode cX3_addLetter 9 = .ok (.return_, 1) := by decide +kernel
theorem dX3_addLetter_10 : decode cX3_addLetter 10 = .ok (.iconst 0, 1) := by decide +kernel
theorem dX3_addLetter_11 : decode cX3_addLetter 11 = .ok (.istore_n 1, 1) := by decide +kernel
theorem dX3_addLetter_12 : decode cX3_addLetter 12 = .ok (.iload_n 1, 1) := by decide +kernel
theorem dX3_addLetter_13 : decode cX3_addLetter 13 = .ok (.aload_n 0, 1) := by decide +kernel
theorem dX3_addLetter_14 : decode cX3_addLetter 14 = .ok (.getfield 25, 3) := by decide +kernel
theorem dX3_addLetter_17 : decode cX3_addLetter 17 = .ok (.if_icmp .ge 49, 3) := by decide +kernel
theorem dX3_addLetter_20 : decode cX3_addLetter 20 = .ok (.aload_n 0, 1) := by decide +kernel
theorem dX3_addLetter_21 : decode cX3_addLetter 21 = .ok (.getfield 11, 3) := by decide +kernel
theorem dX3_addLetter_24 : decode cX3_addLetter 24 = .ok (.aload_n 0, 1) := by decide +kernel
theorem dX3_addLetter_25 : decode cX3_addLetter 25 = .ok (.getfield 54, 3) := by decide +kernel
theorem dX3_addLetter_28 : decode cX3_addLetter 28 = .ok (.iload_n 1, 1) := by decide +kernel
theorem dX3_addLetter_29 : decode cX3_addLetter 29 = .ok (.invokestatic 57, 3) := by decide +kernel
theorem dX3_addLetter_32 : decode cX3_addLetter 32 = .ok (.aload_n 0, 1) := by decide +kernel
theorem dX3_addLetter_33 : decode cX3_addLetter 33 = .ok (.getfield 15, 3) := by decide +kernel
theorem dX3_addLetter_36 : decode cX3_addLetter 36 = .ok (.iload_n 1, 1) := by decide +kernel
theorem dX3_addLetter_37 : decode cX3_addLetter 37 = .ok (.iaload, 1) := by decide +kernel
theorem dX3_addLetter_38 : decode cX3_addLetter 38 = .ok (.iastore, 1) := by decide +kernel
theorem dX3_addLetter_39 : decode cX3_addLetter 39 = .ok (.aload_n 0, 1) := by decide +kernel
theorem dX3_addLetter_40 : decode cX3_addLetter 40 = .ok (.getfield 11, 3) := by decide +kernel
theorem dX3_addLetter_43 : decode cX3_addLetter 43 = .ok (.aload_n 0, 1) := by decide +kernel
theorem dX3_addLetter_44 : decode cX3_addLetter 44 = .ok (.getfield 54, 3) := by decide +kernel
theorem dX3_addLetter_47 : decode cX3_addLetter 47 = .ok (.iload_n 1, 1) := by decide +kernel
theorem dX3_addLetter_48 : decode cX3_addLetter 48 = .ok (.invokestatic 57, 3) := by decide +kernel
theorem dX3_addLetter_51 : decode cX3_addLetter 51 = .ok (.iconst 1, 1) := by decide +kernel
theorem dX3_addLetter_52 : decode cX3_addLetter 52 = .ok (.iadd, 1) := by decide +kernel
theorem dX3_addLetter_53 : decode cX3_addLetter 53 = .ok (.aload_n 0, 1) := by decide +kernel
theorem dX3_addLetter_54 : decode cX3_addLetter 54 = .ok (.getfield 18, 3) := by decide +kernel
theorem dX3_addLetter_57 : decode cX3_addLetter 57 = .ok (.iload_n 1, 1) := by decide +kernel
theorem dX3_addLetter_58 : decode cX3_addLetter 58 = .ok (.iaload, 1) := by decide +kernel
theorem dX3_addLetter_59 : decode cX3_addLetter 59 = .ok (.iastore, 1) := by decide +kernel
theorem dX3_addLetter_60 : decode cX3_addLetter 60 = .ok (.iinc 1 1, 3) := by decide +kernel
theorem dX3_addLetter_63 : decode cX3_addLetter 63 = .ok (.goto (-51), 3) := by decide +kernel
theorem dX3_addLetter_66 : decode cX3_addLetter 66 = .ok (.aload_n 0, 1) := by decide +kernel
theorem dX3_addLetter_67 : decode cX3_addLetter 67 = .ok (.dup, 1) := by decide +kernel
theorem dX3_addLetter_68 : decode cX3_addLetter 68 = .ok (.getfield 54, 3) := by decide +kernel
theorem dX3_addLetter_71 : decode cX3_addLetter 71 = .ok (.iconst 1, 1) := by decide +kernel
theorem dX3_addLetter_72 : decode cX3_addLetter 72 = .ok (.iadd, 1) := by decide +kernel
theorem dX3_addLetter_73 : decode cX3_addLetter 73 = .ok (.putfield 54, 3) := by decide +kernel
theorem dX3_addLetter_76 : decode cX3_addLetter 76 = .ok (.return_, 1) := by decide +kernel
set_option maxRecDepth 20000 in
theorem ggX3_addSenders_X3_step : GoodIn wsX3_addSenders wsX3_step := goodIn_r _ [10, 5, 11, 12, 13, 14, 15, 16, 17, 18, 19, 20, 21, 22, 23, 24, 25, 26, 27, 28, 29, 30, 31, 9, 32, 33, 34, 35, 36, 37, 38, 43, 44, 45, 46, 47, 48, 49, 50, 51, 52, 53, 54, 55] (by decide +kernel) (by decide +kernel)
set_option maxRecDepth 20000 in
theorem gX3_addSenders_X3_step : GoodIn wsX3_addSenders (wsV RX3 65 RX3 yX3_step wsX3_step) := goodIn_app (goodIn_of _ (by decide +kernel)) ggX3_addSenders_X3_step
set_option maxRecDepth 20000 in
theorem ggX3_addSenders_X3_leads : GoodIn wsX3_addSenders wsX3_leads := goodIn_r _ [42, 3, 4, 5, 11, 12, 13, 14, 15, 16, 17, 18, 19, 20, 21, 22, 23, 24, 25, 26, 27, 28, 29, 30, 31, 9, 32, 33, 34, 35, 36, 37, 38, 43, 44, 45, 46, 47, 48, 49, 50, 51, 52, 53, 54, 55] (by decide +kernel) (by decide +kernel)
set_option maxRecDepth 20000 in
theorem gX3_addSenders_X3_leads : GoodIn wsX3_addSenders (wsV RX3 69 RX3 yX3_leads wsX3_leads) := goodIn_app (goodIn_of _ (by decide +kernel)) ggX3_addSenders_X3_leads
set_option maxRecDepth 20000 in
theorem ggX3_addSenders_X3_place : GoodIn wsX3_addSenders wsX3_place := goodIn_r _ [32] (by decide +kernel) (by decide +kernel)
set_option maxRecDepth 20000 in
theorem gX3_addSenders_X3_place : GoodIn wsX3_addSenders (va_wsS RX3 57 yX3_place wsX3_place) := goodIn_app (goodIn_of _ (by decide +kernel)) ggX3_addSenders_X3_place
theorem dX3_addSenders_0 : decode cX3_addSenders 0 = .ok (.iconst 0, 1) := by decide +kernel
theorem dX3_addSenders_1 : decode cX3_addSenders 1 = .ok (.istore_n 2, 1) := by decide +kernel
theorem dX3_addSenders_2 : decode cX3_addSenders 2 = .ok (.iload_n 2, 1) := by decide +kernel
theorem dX3_addSenders_3 : decode cX3_addSenders 3 = .ok (.aload_n 0, 1) := by decide +kernel
theorem dX3_addSenders_4 : decode cX3_addSenders 4 = .ok (.getfield 54, 3) := by decide +kernel
theorem dX3_addSenders_7 : decode cX3_addSenders 7 = .ok (.if_icmp .ge 115, 3) := by decide +kernel
theorem dX3_addSenders_10 : decode cX3_addSenders 10 = .ok (.aload_n 1, 1) := by decide +kernel
theorem dX3_addSenders_11 : decode cX3_addSenders 11 = .ok (.getfield 61, 3) := by decide +kernel
theorem dX3_addSenders_14 : decode cX3_addSenders 14 = .ok (.lstore_n 3, 1) := by decide +kernel
theorem dX3_addSenders_15 : decode cX3_addSenders 15 = .ok (.iconst 0, 1) := by decide +kernel
theorem dX3_addSenders_16 : decode cX3_addSenders 16 = .ok (.istore 5, 2) := by decide +kernel
theorem dX3_addSenders_18 : decode cX3_addSenders 18 = .ok (.iload 5, 2) := by decide +kernel
theorem dX3_addSenders_20 : decode cX3_addSenders 20 = .ok (.aload_n 0, 1) := by decide +kernel
theorem dX3_addSenders_21 : decode cX3_addSenders 21 = .ok (.getfield 25, 3) := by decide +kernel
theorem dX3_addSenders_24 : decode cX3_addSenders 24 = .ok (.if_icmp .ge 92, 3) := by decide +kernel
theorem dX3_addSenders_27 : decode cX3_addSenders 27 = .ok (.iconst 0, 1) := by decide +kernel
theorem dX3_addSenders_28 : decode cX3_addSenders 28 = .ok (.istore 6, 2) := by decide +kernel
theorem dX3_addSenders_30 : decode cX3_addSenders 30 = .ok (.iload 6, 2) := by decide +kernel
theorem dX3_addSenders_32 : decode cX3_addSenders 32 = .ok (.aload_n 1, 1) := by decide +kernel
theorem dX3_addSenders_33 : decode cX3_addSenders 33 = .ok (.getfield 31, 3) := by decide +kernel
theorem dX3_addSenders_36 : decode cX3_addSenders 36 = .ok (.if_icmp .ge 33, 3) := by decide +kernel
theorem dX3_addSenders_39 : decode cX3_addSenders 39 = .ok (.aload_n 0, 1) := by decide +kernel
theorem dX3_addSenders_40 : decode cX3_addSenders 40 = .ok (.aload_n 1, 1) := by decide +kernel
theorem dX3_addSenders_41 : decode cX3_addSenders 41 = .ok (.aload_n 0, 1) := by decide +kernel
theorem dX3_addSenders_42 : decode cX3_addSenders 42 = .ok (.aload_n 1, 1) := by decide +kernel
theorem dX3_addSenders_43 : decode cX3_addSenders 43 = .ok (.lload_n 3, 1) := by decide +kernel
theorem dX3_addSenders_44 : decode cX3_addSenders 44 = .ok (.iload 6, 2) := by decide +kernel
theorem dX3_addSenders_46 : decode cX3_addSenders 46 = .ok (.iload_n 2, 1) := by decide +kernel
theorem dX3_addSenders_47 : decode cX3_addSenders 47 = .ok (.iload 5, 2) := by decide +kernel
theorem dX3_addSenders_49 : decode cX3_addSenders 49 = .ok (.invokevirtual 65, 3) := by decide +kernel
theorem dX3_addSenders_52 : decode cX3_addSenders 52 = .ok (.iload_n 2, 1) := by decide +kernel
theorem dX3_addSenders_53 : decode cX3_addSenders 53 = .ok (.iload 5, 2) := by decide +kernel
theorem dX3_addSenders_55 : decode cX3_addSenders 55 = .ok (.iconst 1, 1) := by decide +kernel
theorem dX3_addSenders_56 : decode cX3_addSenders 56 = .ok (.iadd, 1) := by decide +kernel
theorem dX3_addSenders_57 : decode cX3_addSenders 57 = .ok (.invokevirtual 69, 3) := by decide +kernel
theorem dX3_addSenders_60 : decode cX3_addSenders 60 = .ok (.ifCond .ne 9, 3) := by decide +kernel
theorem dX3_addSenders_63 : decode cX3_addSenders 63 = .ok (.iinc 6 1, 3) := by decide +kernel
theorem dX3_addSenders_66 : decode cX3_addSenders 66 = .ok (.goto (-36), 3) := by decide +kernel
theorem dX3_addSenders_69 : decode cX3_addSenders 69 = .ok (.aload_n 0, 1) := by decide +kernel
theorem dX3_addSenders_70 : decode cX3_addSenders 70 = .ok (.getfield 11, 3) := by decide +kernel
theorem dX3_addSenders_73 : decode cX3_addSenders 73 = .ok (.iload_n 2, 1) := by decide +kernel
theorem dX3_addSenders_74 : decode cX3_addSenders 74 = .ok (.iload 5, 2) := by decide +kernel
theorem dX3_addSenders_76 : decode cX3_addSenders 76 = .ok (.invokestatic 57, 3) := by decide +kernel
theorem dX3_addSenders_79 : decode cX3_addSenders 79 = .ok (.iconst 2, 1) := by decide +kernel
theorem dX3_addSenders_80 : decode cX3_addSenders 80 = .ok (.iadd, 1) := by decide +kernel
theorem dX3_addSenders_81 : decode cX3_addSenders 81 = .ok (.iload 6, 2) := by decide +kernel
theorem dX3_addSenders_83 : decode cX3_addSenders 83 = .ok (.aload_n 1, 1) := by decide +kernel
theorem dX3_addSenders_84 : decode cX3_addSenders 84 = .ok (.getfield 31, 3) := by decide +kernel
theorem dX3_addSenders_87 : decode cX3_addSenders 87 = .ok (.if_icmp .ge 8, 3) := by decide +kernel
theorem dX3_addSenders_90 : decode cX3_addSenders 90 = .ok (.iload 6, 2) := by decide +kernel
theorem dX3_addSenders_92 : decode cX3_addSenders 92 = .ok (.goto 5, 3) := by decide +kernel
theorem dX3_addSenders_95 : decode cX3_addSenders 95 = .ok (.bipush 9, 2) := by decide +kernel
theorem dX3_addSenders_97 : decode cX3_addSenders 97 = .ok (.iastore, 1) := by decide +kernel
theorem dX3_addSenders_98 : decode cX3_addSenders 98 = .ok (.aload_n 0, 1) := by decide +kernel
theorem dX3_addSenders_99 : decode cX3_addSenders 99 = .ok (.aload_n 1, 1) := by decide +kernel
theorem dX3_addSenders_100 : decode cX3_addSenders 100 = .ok (.lload_n 3, 1) := by decide +kernel
theorem dX3_addSenders_101 : decode cX3_addSenders 101 = .ok (.iload 6, 2) := by decide +kernel
theorem dX3_addSenders_103 : decode cX3_addSenders 103 = .ok (.iload_n 2, 1) := by decide +kernel
theorem dX3_addSenders_104 : decode cX3_addSenders 104 = .ok (.iload 5, 2) := by decide +kernel
theorem dX3_addSenders_106 : decode cX3_addSenders 106 = .ok (.invokevirtual 65, 3) := by decide +kernel
theorem dX3_addSenders_109 : decode cX3_addSenders 109 = .ok (.lstore_n 3, 1) := by decide +kernel
theorem dX3_addSenders_110 : decode cX3_addSenders 110 = .ok (.iinc 5 1, 3) := by decide +kernel
theorem dX3_addSenders_113 : decode cX3_addSenders 113 = .ok (.goto (-95), 3) := by decide +kernel
theorem dX3_addSenders_116 : decode cX3_addSenders 116 = .ok (.iinc 2 1, 3) := by decide +kernel
theorem dX3_addSenders_119 : decode cX3_addSenders 119 = .ok (.goto (-117), 3) := by decide +kernel
theorem dX3_addSenders_122 : decode cX3_addSenders 122 = .ok (.return_, 1) := by decide +kernel
set_option maxRecDepth 20000 in
theorem ggX3_step_X1_sent : GoodIn wsX3_step wsX1_sent := goodIn_r _ [6, 7, 8, 9, 10, 11, 5, 12, 13, 14, 15, 16, 17, 18, 19, 20, 37, 38, 39, 40, 41, 42, 43] (by decide +kernel) (by decide +kernel)
set_option maxRecDepth 20000 in
theorem gX3_step_X1_sent : GoodIn wsX3_step (wsV RX3 35 RX1 yX1_sent wsX1_sent) := goodIn_app (goodIn_of _ (by decide +kernel)) ggX3_step_X1_sent
set_option maxRecDepth 20000 in
theorem ggX3_step_X3_place : GoodIn wsX3_step wsX3_place := goodIn_r _ [24] (by decide +kernel) (by decide +kernel)
set_option maxRecDepth 20000 in
theorem gX3_step_X3_place : GoodIn wsX3_step (va_wsS RX3 57 yX3_place wsX3_place) := goodIn_app (goodIn_of _ (by decide +kernel)) ggX3_step_X3_place
set_option maxRecDepth 20000 in
theorem ggX3_step_X1_heard : GoodIn wsX3_step wsX1_heard := goodIn_r _ [28, 7, 29, 30, 10, 11, 5, 12, 13, 14, 15, 37, 38, 39, 40, 41, 42, 43] (by decide +kernel) (by decide +kernel)
set_option maxRecDepth 20000 in
theorem gX3_step_X1_heard : GoodIn wsX3_step (wsV RX3 46 RX1 yX1_heard wsX1_heard) := goodIn_app (goodIn_of _ (by decide +kernel)) ggX3_step_X1_heard
theorem dX3_step_0 : decode cX3_step 0 = .ok (.aload_n 1, 1) := by decide +kernel
theorem dX3_step_1 : decode cX3_step 1 = .ok (.aload_n 1, 1) := by decide +kernel
theorem dX3_step_2 : decode cX3_step 2 = .ok (.lload_n 2, 1) := by decide +kernel
theorem dX3_step_3 : decode cX3_step 3 = .ok (.iload 4, 2) := by decide +kernel
theorem dX3_step_5 : decode cX3_step 5 = .ok (.iload 4, 2) := by decide +kernel
theorem dX3_step_7 : decode cX3_step 7 = .ok (.iload 6, 2) := by decide +kernel
theorem dX3_step_9 : decode cX3_step 9 = .ok (.invokevirtual 35, 3) := by decide +kernel
theorem dX3_step_12 : decode cX3_step 12 = .ok (.aload_n 0, 1) := by decide +kernel
theorem dX3_step_13 : decode cX3_step 13 = .ok (.getfield 11, 3) := by decide +kernel
theorem dX3_step_16 : decode cX3_step 16 = .ok (.iload 5, 2) := by decide +kernel
theorem dX3_step_18 : decode cX3_step 18 = .ok (.iload 6, 2) := by decide +kernel
theorem dX3_step_20 : decode cX3_step 20 = .ok (.invokestatic 57, 3) := by decide +kernel
theorem dX3_step_23 : decode cX3_step 23 = .ok (.iaload, 1) := by decide +kernel
theorem dX3_step_24 : decode cX3_step 24 = .ok (.aload_n 0, 1) := by decide +kernel
theorem dX3_step_25 : decode cX3_step 25 = .ok (.getfield 11, 3) := by decide +kernel
theorem dX3_step_28 : decode cX3_step 28 = .ok (.iload 5, 2) := by decide +kernel
theorem dX3_step_30 : decode cX3_step 30 = .ok (.iload 6, 2) := by decide +kernel
theorem dX3_step_32 : decode cX3_step 32 = .ok (.invokestatic 57, 3) := by decide +kernel
theorem dX3_step_35 : decode cX3_step 35 = .ok (.iconst 1, 1) := by decide +kernel
theorem dX3_step_36 : decode cX3_step 36 = .ok (.iadd, 1) := by decide +kernel
theorem dX3_step_37 : decode cX3_step 37 = .ok (.iaload, 1) := by decide +kernel
theorem dX3_step_38 : decode cX3_step 38 = .ok (.invokevirtual 46, 3) := by decide +kernel
theorem dX3_step_41 : decode cX3_step 41 = .ok (.lreturn, 1) := by decide +kernel
set_option maxRecDepth 20000 in
theorem ggX3_leads_X1_sent : GoodIn wsX3_leads wsX1_sent := goodIn_r _ [8, 9, 10, 11, 12, 13, 7, 14, 15, 16, 17, 18, 19, 20, 21, 22, 39, 40, 41, 42, 43, 44, 45] (by decide +kernel) (by decide +kernel)
set_option maxRecDepth 20000 in
theorem gX3_leads_X1_sent : GoodIn wsX3_leads (wsV RX3 35 RX1 yX1_sent wsX1_sent) := goodIn_app (goodIn_of _ (by decide +kernel)) ggX3_leads_X1_sent
set_option maxRecDepth 20000 in
theorem ggX3_leads_X3_place : GoodIn wsX3_leads wsX3_place := goodIn_r _ [26] (by decide +kernel) (by decide +kernel)
set_option maxRecDepth 20000 in
theorem gX3_leads_X3_place : GoodIn wsX3_leads (va_wsS RX3 57 yX3_place wsX3_place) := goodIn_app (goodIn_of _ (by decide +kernel)) ggX3_leads_X3_place
set_option maxRecDepth 20000 in
theorem ggX3_leads_X1_heard : GoodIn wsX3_leads wsX1_heard := goodIn_r _ [30, 9, 31, 32, 12, 13, 7, 14, 15, 16, 17, 39, 40, 41, 42, 43, 44, 45] (by decide +kernel) (by decide +kernel)
set_option maxRecDepth 20000 in
theorem gX3_leads_X1_heard : GoodIn wsX3_leads (wsV RX3 46 RX1 yX1_heard wsX1_heard) := goodIn_app (goodIn_of _ (by decide +kernel)) ggX3_leads_X1_heard
theorem dX3_leads_0 : decode cX3_leads 0 = .ok (.lload_n 2, 1) := by decide +kernel
theorem dX3_leads_1 : decode cX3_leads 1 = .ok (.lstore 6, 2) := by decide +kernel
theorem dX3_leads_3 : decode cX3_leads 3 = .ok (.iload 5, 2) := by decide +kernel
theorem dX3_leads_5 : decode cX3_leads 5 = .ok (.istore 8, 2) := by decide +kernel
theorem dX3_leads_7 : decode cX3_leads 7 = .ok (.iload 8, 2) := by decide +kernel
theorem dX3_leads_9 : decode cX3_leads 9 = .ok (.aload_n 0, 1) := by decide +kernel
theorem dX3_leads_10 : decode cX3_leads 10 = .ok (.getfield 25, 3) := by decide +kernel
theorem dX3_leads_13 : decode cX3_leads 13 = .ok (.if_icmp .ge 61, 3) := by decide +kernel
theorem dX3_leads_16 : decode cX3_leads 16 = .ok (.lload 6, 2) := by decide +kernel
theorem dX3_leads_18 : decode cX3_leads 18 = .ok (.lconst 0, 1) := by decide +kernel
theorem dX3_leads_19 : decode cX3_leads 19 = .ok (.lcmp, 1) := by decide +kernel
theorem dX3_leads_20 : decode cX3_leads 20 = .ok (.ifCond .eq 54, 3) := by decide +kernel
theorem dX3_leads_23 : decode cX3_leads 23 = .ok (.aload_n 1, 1) := by decide +kernel
theorem dX3_leads_24 : decode cX3_leads 24 = .ok (.aload_n 1, 1) := by decide +kernel
theorem dX3_leads_25 : decode cX3_leads 25 = .ok (.lload 6, 2) := by decide +kernel
theorem dX3_leads_27 : decode cX3_leads 27 = .ok (.iconst 0, 1) := by decide +kernel
theorem dX3_leads_28 : decode cX3_leads 28 = .ok (.aload_n 1, 1) := by decide +kernel
theorem dX3_leads_29 : decode cX3_leads 29 = .ok (.getfield 31, 3) := by decide +kernel
theorem dX3_leads_32 : decode cX3_leads 32 = .ok (.iload 8, 2) := by decide +kernel
theorem dX3_leads_34 : decode cX3_leads 34 = .ok (.invokevirtual 35, 3) := by decide +kernel
theorem dX3_leads_37 : decode cX3_leads 37 = .ok (.aload_n 0, 1) := by decide +kernel
theorem dX3_leads_38 : decode cX3_leads 38 = .ok (.getfield 11, 3) := by decide +kernel
theorem dX3_leads_41 : decode cX3_leads 41 = .ok (.iload 4, 2) := by decide +kernel
theorem dX3_leads_43 : decode cX3_leads 43 = .ok (.iload 8, 2) := by decide +kernel
theorem dX3_leads_45 : decode cX3_leads 45 = .ok (.invokestatic 57, 3) := by decide +kernel
theorem dX3_leads_48 : decode cX3_leads 48 = .ok (.iaload, 1) := by decide +kernel
theorem dX3_leads_49 : decode cX3_leads 49 = .ok (.aload_n 0, 1) := by decide +kernel
theorem dX3_leads_50 : decode cX3_leads 50 = .ok (.getfield 11, 3) := by decide +kernel
theorem dX3_leads_53 : decode cX3_leads 53 = .ok (.iload 4, 2) := by decide +kernel
theorem dX3_leads_55 : decode cX3_leads 55 = .ok (.iload 8, 2) := by decide +kernel
theorem dX3_leads_57 : decode cX3_leads 57 = .ok (.invokestatic 57, 3) := by decide +kernel
theorem dX3_leads_60 : decode cX3_leads 60 = .ok (.iconst 1, 1) := by decide +kernel
theorem dX3_leads_61 : decode cX3_leads 61 = .ok (.iadd, 1) := by decide +kernel
theorem dX3_leads_62 : decode cX3_leads 62 = .ok (.iaload, 1) := by decide +kernel
theorem dX3_leads_63 : decode cX3_leads 63 = .ok (.invokevirtual 46, 3) := by decide +kernel
theorem dX3_leads_66 : decode cX3_leads 66 = .ok (.lstore 6, 2) := by decide +kernel
theorem dX3_leads_68 : decode cX3_leads 68 = .ok (.iinc 8 1, 3) := by decide +kernel
theorem dX3_leads_71 : decode cX3_leads 71 = .ok (.goto (-64), 3) := by decide +kernel
theorem dX3_leads_74 : decode cX3_leads 74 = .ok (.lload 6, 2) := by decide +kernel
theorem dX3_leads_76 : decode cX3_leads 76 = .ok (.lconst 0, 1) := by decide +kernel
theorem dX3_leads_77 : decode cX3_leads 77 = .ok (.lcmp, 1) := by decide +kernel
theorem dX3_leads_78 : decode cX3_leads 78 = .ok (.ifCond .eq 7, 3) := by decide +kernel
theorem dX3_leads_81 : decode cX3_leads 81 = .ok (.iconst 1, 1) := by decide +kernel
theorem dX3_leads_82 : decode cX3_leads 82 = .ok (.goto 4, 3) := by decide +kernel
theorem dX3_leads_85 : decode cX3_leads 85 = .ok (.iconst 0, 1) := by decide +kernel
theorem dX3_leads_86 : decode cX3_leads 86 = .ok (.ireturn, 1) := by decide +kernel
set_option maxRecDepth 20000 in
theorem ggX4_init_X1_init : GoodIn wsX4_init wsX1_init := goodIn_r _ [21, 22, 2, 3, 23, 24, 25, 26, 27, 28, 58, 59, 60, 61, 62, 63, 64] (by decide +kernel) (by decide +kernel)
set_option maxRecDepth 20000 in
theorem gX4_init_X1_init_n29 : GoodIn wsX4_init (wsX1_init) := ggX4_init_X1_init
set_option maxRecDepth 20000 in
theorem ggX4_init_X2_init : GoodIn wsX4_init wsX2_init := goodIn_r _ [30, 31, 2, 3, 23, 32, 65, 66, 67, 68, 69, 70, 71, 72, 73] (by decide +kernel) (by decide +kernel)
set_option maxRecDepth 20000 in
theorem gX4_init_X2_init_n34 : GoodIn wsX4_init (wsX2_init) := ggX4_init_X2_init
set_option maxRecDepth 20000 in
theorem ggX4_init_X0_init : GoodIn wsX4_init wsX0_init := goodIn_r _ [34, 35, 2, 3, 23, 36, 37, 38, 39, 40, 41, 74, 75, 76, 77, 78, 79, 80, 81] (by decide +kernel) (by decide +kernel)
set_option maxRecDepth 20000 in
theorem gX4_init_X0_init_n35 : GoodIn wsX4_init (wsX0_init) := ggX4_init_X0_init
set_option maxRecDepth 20000 in
theorem ggX4_init_X3_init : GoodIn wsX4_init wsX3_init := goodIn_r _ [44, 45, 2, 3, 23, 46, 47, 48, 49, 50, 82, 83, 84, 85, 86, 87] (by decide +kernel) (by decide +kernel)
set_option maxRecDepth 20000 in
theorem gX4_init_X3_init : GoodIn wsX4_init (wsX3_init) := ggX4_init_X3_init
theorem dX4_init_0 : decode cX4_init 0 = .ok (.aload_n 0, 1) := by decide +kernel
theorem dX4_init_1 : decode cX4_init 1 = .ok (.invokespecial 1, 3) := by decide +kernel
theorem dX4_init_4 : decode cX4_init 4 = .ok (.aload_n 0, 1) := by decide +kernel
theorem dX4_init_5 : decode cX4_init 5 = .ok (.iconst 3, 1) := by decide +kernel
theorem dX4_init_6 : decode cX4_init 6 = .ok (.anewarray 9, 3) := by decide +kernel
theorem dX4_init_9 : decode cX4_init 9 = .ok (.putfield 11, 3) := by decide +kernel
theorem dX4_init_12 : decode cX4_init 12 = .ok (.aload_n 0, 1) := by decide +kernel
theorem dX4_init_13 : decode cX4_init 13 = .ok (.iconst 3, 1) := by decide +kernel
theorem dX4_init_14 : decode cX4_init 14 = .ok (.anewarray 15, 3) := by decide +kernel
theorem dX4_init_17 : decode cX4_init 17 = .ok (.putfield 17, 3) := by decide +kernel
theorem dX4_init_20 : decode cX4_init 20 = .ok (.aload_n 0, 1) := by decide +kernel
theorem dX4_init_21 : decode cX4_init 21 = .ok (.iconst 4, 1) := by decide +kernel
theorem dX4_init_22 : decode cX4_init 22 = .ok (.anewarray 21, 3) := by decide +kernel
theorem dX4_init_25 : decode cX4_init 25 = .ok (.putfield 23, 3) := by decide +kernel
theorem dX4_init_28 : decode cX4_init 28 = .ok (.aload_n 0, 1) := by decide +kernel
theorem dX4_init_29 : decode cX4_init 29 = .ok (.new 27, 3) := by decide +kernel
theorem dX4_init_32 : decode cX4_init 32 = .ok (.dup, 1) := by decide +kernel
theorem dX4_init_33 : decode cX4_init 33 = .ok (.invokespecial 29, 3) := by decide +kernel
theorem dX4_init_36 : decode cX4_init 36 = .ok (.putfield 30, 3) := by decide +kernel
theorem dX4_init_39 : decode cX4_init 39 = .ok (.iconst 0, 1) := by decide +kernel
theorem dX4_init_40 : decode cX4_init 40 = .ok (.istore_n 1, 1) := by decide +kernel
theorem dX4_init_41 : decode cX4_init 41 = .ok (.iload_n 1, 1) := by decide +kernel
theorem dX4_init_42 : decode cX4_init 42 = .ok (.iconst 3, 1) := by decide +kernel
theorem dX4_init_43 : decode cX4_init 43 = .ok (.if_icmp .ge 35, 3) := by decide +kernel
theorem dX4_init_46 : decode cX4_init 46 = .ok (.aload_n 0, 1) := by decide +kernel
theorem dX4_init_47 : decode cX4_init 47 = .ok (.getfield 11, 3) := by decide +kernel
theorem dX4_init_50 : decode cX4_init 50 = .ok (.iload_n 1, 1) := by decide +kernel
theorem dX4_init_51 : decode cX4_init 51 = .ok (.new 9, 3) := by decide +kernel
theorem dX4_init_54 : decode cX4_init 54 = .ok (.dup, 1) := by decide +kernel
theorem dX4_init_55 : decode cX4_init 55 = .ok (.invokespecial 34, 3) := by decide +kernel
theorem dX4_init_58 : decode cX4_init 58 = .ok (.aastore, 1) := by decide +kernel
theorem dX4_init_59 : decode cX4_init 59 = .ok (.aload_n 0, 1) := by decide +kernel
theorem dX4_init_60 : decode cX4_init 60 = .ok (.getfield 17, 3) := by decide +kernel
theorem dX4_init_63 : decode cX4_init 63 = .ok (.iload_n 1, 1) := by decide +kernel
theorem dX4_init_64 : decode cX4_init 64 = .ok (.new 15, 3) := by decide +kernel
theorem dX4_init_67 : decode cX4_init 67 = .ok (.dup, 1) := by decide +kernel
theorem dX4_init_68 : decode cX4_init 68 = .ok (.invokespecial 35, 3) := by decide +kernel
theorem dX4_init_71 : decode cX4_init 71 = .ok (.aastore, 1) := by decide +kernel
theorem dX4_init_72 : decode cX4_init 72 = .ok (.iinc 1 1, 3) := by decide +kernel
theorem dX4_init_75 : decode cX4_init 75 = .ok (.goto (-34), 3) := by decide +kernel
theorem dX4_init_78 : decode cX4_init 78 = .ok (.iconst 0, 1) := by decide +kernel
theorem dX4_init_79 : decode cX4_init 79 = .ok (.istore_n 1, 1) := by decide +kernel
theorem dX4_init_80 : decode cX4_init 80 = .ok (.iload_n 1, 1) := by decide +kernel
theorem dX4_init_81 : decode cX4_init 81 = .ok (.iconst 3, 1) := by decide +kernel
theorem dX4_init_82 : decode cX4_init 82 = .ok (.if_icmp .gt 23, 3) := by decide +kernel
theorem dX4_init_85 : decode cX4_init 85 = .ok (.aload_n 0, 1) := by decide +kernel
theorem dX4_init_86 : decode cX4_init 86 = .ok (.getfield 23, 3) := by decide +kernel
theorem dX4_init_89 : decode cX4_init 89 = .ok (.iload_n 1, 1) := by decide +kernel
theorem dX4_init_90 : decode cX4_init 90 = .ok (.new 21, 3) := by decide +kernel
theorem dX4_init_93 : decode cX4_init 93 = .ok (.dup, 1) := by decide +kernel
theorem dX4_init_94 : decode cX4_init 94 = .ok (.iload_n 1, 1) := by decide +kernel
theorem dX4_init_95 : decode cX4_init 95 = .ok (.invokespecial 36, 3) := by decide +kernel
theorem dX4_init_98 : decode cX4_init 98 = .ok (.aastore, 1) := by decide +kernel
theorem dX4_init_99 : decode cX4_init 99 = .ok (.iinc 1 1, 3) := by decide +kernel
theorem dX4_init_102 : decode cX4_init 102 = .ok (.goto (-22), 3) := by decide +kernel
theorem dX4_init_105 : decode cX4_init 105 = .ok (.return_, 1) := by decide +kernel
theorem dX4_clear_0 : decode cX4_clear 0 = .ok (.aload_n 0, 1) := by decide +kernel
theorem dX4_clear_1 : decode cX4_clear 1 = .ok (.iconst 0, 1) := by decide +kernel
theorem dX4_clear_2 : decode cX4_clear 2 = .ok (.putfield 39, 3) := by decide +kernel
theorem dX4_clear_5 : decode cX4_clear 5 = .ok (.aload_n 0, 1) := by decide +kernel
theorem dX4_clear_6 : decode cX4_clear 6 = .ok (.dup, 1) := by decide +kernel
theorem dX4_clear_7 : decode cX4_clear 7 = .ok (.getfield 43, 3) := by decide +kernel
theorem dX4_clear_10 : decode cX4_clear 10 = .ok (.iconst 1, 1) := by decide +kernel
theorem dX4_clear_11 : decode cX4_clear 11 = .ok (.iadd, 1) := by decide +kernel
theorem dX4_clear_12 : decode cX4_clear 12 = .ok (.putfield 43, 3) := by decide +kernel
theorem dX4_clear_15 : decode cX4_clear 15 = .ok (.return_, 1) := by decide +kernel
set_option maxRecDepth 20000 in
theorem ggX4_thing_X4_come : GoodIn wsX4_thing wsX4_come := goodIn_r _ [5, 6, 7, 8, 9, 10, 4, 11, 12, 13, 14, 15, 16, 17, 18, 19, 20, 21, 22, 23, 24, 25, 26, 27, 28, 29, 30, 31, 32, 33, 34, 35, 36, 37, 38, 39, 40, 41, 42, 43, 44, 45] (by decide +kernel) (by decide +kernel)
set_option maxRecDepth 20000 in
theorem gX4_thing_X4_come : GoodIn wsX4_thing (wsV RX4 46 RX4 yX4_come wsX4_come) := goodIn_app (goodIn_of _ (by decide +kernel)) ggX4_thing_X4_come
theorem dX4_thing_0 : decode cX4_thing 0 = .ok (.iload_n 1, 1) := by decide +kernel
theorem dX4_thing_1 : decode cX4_thing 1 = .ok (.ifCond .lt 8, 3) := by decide +kernel
theorem dX4_thing_4 : decode cX4_thing 4 = .ok (.iload_n 1, 1) := by decide +kernel
theorem dX4_thing_5 : decode cX4_thing 5 = .ok (.iconst 3, 1) := by decide +kernel
theorem dX4_thing_6 : decode cX4_thing 6 = .ok (.if_icmp .le 7, 3) := by decide +kernel
theorem dX4_thing_9 : decode cX4_thing 9 = .ok (.iconst (-1), 1) := by decide +kernel
theorem dX4_thing_10 : decode cX4_thing 10 = .ok (.goto 11, 3) := by decide +kernel
theorem dX4_thing_13 : decode cX4_thing 13 = .ok (.aload_n 0, 1) := by decide +kernel
theorem dX4_thing_14 : decode cX4_thing 14 = .ok (.iload_n 1, 1) := by decide +kernel
theorem dX4_thing_15 : decode cX4_thing 15 = .ok (.iload_n 2, 1) := by decide +kernel
theorem dX4_thing_16 : decode cX4_thing 16 = .ok (.lconst 0, 1) := by decide +kernel
theorem dX4_thing_17 : decode cX4_thing 17 = .ok (.lconst 0, 1) := by decide +kernel
theorem dX4_thing_18 : decode cX4_thing 18 = .ok (.invokevirtual 46, 3) := by decide +kernel
theorem dX4_thing_21 : decode cX4_thing 21 = .ok (.ireturn, 1) := by decide +kernel
set_option maxRecDepth 20000 in
theorem ggX4_table_X4_come : GoodIn wsX4_table wsX4_come := goodIn_r _ [5, 6, 7, 8, 9, 10, 4, 11, 12, 13, 14, 15, 16, 17, 18, 19, 20, 21, 22, 23, 24, 25, 26, 27, 28, 29, 30, 31, 32, 33, 34, 35, 36, 37, 38, 39, 40, 41, 42, 43, 44, 45] (by decide +kernel) (by decide +kernel)
set_option maxRecDepth 20000 in
theorem gX4_table_X4_come : GoodIn wsX4_table (wsV RX4 46 RX4 yX4_come wsX4_come) := goodIn_app (goodIn_of _ (by decide +kernel)) ggX4_table_X4_come
theorem dX4_table_0 : decode cX4_table 0 = .ok (.aload_n 0, 1) := by decide +kernel
theorem dX4_table_1 : decode cX4_table 1 = .ok (.iconst 4, 1) := by decide +kernel
theorem dX4_table_2 : decode cX4_table 2 = .ok (.iload_n 1, 1) := by decide +kernel
theorem dX4_table_3 : decode cX4_table 3 = .ok (.lload_n 2, 1) := by decide +kernel
theorem dX4_table_4 : decode cX4_table 4 = .ok (.lload 4, 2) := by decide +kernel
theorem dX4_table_6 : decode cX4_table 6 = .ok (.invokevirtual 46, 3) := by decide +kernel
theorem dX4_table_9 : decode cX4_table 9 = .ok (.ireturn, 1) := by decide +kernel
set_option maxRecDepth 20000 in
theorem ggX4_wall_X4_isThing : GoodIn wsX4_wall wsX4_isThing := goodIn_r _ [8, 9, 20, 21, 22, 23, 24, 25, 26] (by decide +kernel) (by decide +kernel)
set_option maxRecDepth 20000 in
theorem gX4_wall_X4_isThing : GoodIn wsX4_wall (wsV RX4 50 RX4 yX4_isThing wsX4_isThing) := goodIn_app (goodIn_of _ (by decide +kernel)) ggX4_wall_X4_isThing
set_option maxRecDepth 20000 in
theorem ggX4_wall_X4_canHave : GoodIn wsX4_wall wsX4_canHave := goodIn_r _ [12] (by decide +kernel) (by decide +kernel)
set_option maxRecDepth 20000 in
theorem gX4_wall_X4_canHave : GoodIn wsX4_wall (va_wsS RX4 54 yX4_canHave wsX4_canHave) := goodIn_app (goodIn_of _ (by decide +kernel)) ggX4_wall_X4_canHave
set_option maxRecDepth 20000 in
theorem ggX4_wall_X2_keep : GoodIn wsX4_wall wsX2_keep := goodIn_r _ [17, 18, 19, 27, 28, 29, 30, 31, 32, 33, 34, 35] (by decide +kernel) (by decide +kernel)
set_option maxRecDepth 20000 in
theorem gX4_wall_X2_keep : GoodIn wsX4_wall (wsV RX4 61 RX2 yX2_keep wsX2_keep) := goodIn_app (goodIn_of _ (by decide +kernel)) ggX4_wall_X2_keep
theorem dX4_wall_0 : decode cX4_wall 0 = .ok (.aload_n 0, 1) := by decide +kernel
theorem dX4_wall_1 : decode cX4_wall 1 = .ok (.iload_n 1, 1) := by decide +kernel
theorem dX4_wall_2 : decode cX4_wall 2 = .ok (.invokevirtual 50, 3) := by decide +kernel
theorem dX4_wall_5 : decode cX4_wall 5 = .ok (.ifCond .eq 11, 3) := by decide +kernel
theorem dX4_wall_8 : decode cX4_wall 8 = .ok (.iload_n 2, 1) := by decide +kernel
theorem dX4_wall_9 : decode cX4_wall 9 = .ok (.iload_n 3, 1) := by decide +kernel
theorem dX4_wall_10 : decode cX4_wall 10 = .ok (.invokestatic 54, 3) := by decide +kernel
theorem dX4_wall_13 : decode cX4_wall 13 = .ok (.ifCond .ne 5, 3) := by decide +kernel
theorem dX4_wall_16 : decode cX4_wall 16 = .ok (.iconst 0, 1) := by decide +kernel
theorem dX4_wall_17 : decode cX4_wall 17 = .ok (.ireturn, 1) := by decide +kernel
theorem dX4_wall_18 : decode cX4_wall 18 = .ok (.aload_n 0, 1) := by decide +kernel
theorem dX4_wall_19 : decode cX4_wall 19 = .ok (.getfield 11, 3) := by decide +kernel
theorem dX4_wall_22 : decode cX4_wall 22 = .ok (.iload_n 1, 1) := by decide +kernel
theorem dX4_wall_23 : decode cX4_wall 23 = .ok (.aaload, 1) := by decide +kernel
theorem dX4_wall_24 : decode cX4_wall 24 = .ok (.iload_n 2, 1) := by decide +kernel
theorem dX4_wall_25 : decode cX4_wall 25 = .ok (.putfield 58, 3) := by decide +kernel
theorem dX4_wall_28 : decode cX4_wall 28 = .ok (.aload_n 0, 1) := by decide +kernel
theorem dX4_wall_29 : decode cX4_wall 29 = .ok (.getfield 11, 3) := by decide +kernel
theorem dX4_wall_32 : decode cX4_wall 32 = .ok (.iload_n 1, 1) := by decide +kernel
theorem dX4_wall_33 : decode cX4_wall 33 = .ok (.aaload, 1) := by decide +kernel
theorem dX4_wall_34 : decode cX4_wall 34 = .ok (.iload_n 2, 1) := by decide +kernel
theorem dX4_wall_35 : decode cX4_wall 35 = .ok (.iload_n 3, 1) := by decide +kernel
theorem dX4_wall_36 : decode cX4_wall 36 = .ok (.invokevirtual 61, 3) := by decide +kernel
theorem dX4_wall_39 : decode cX4_wall 39 = .ok (.aload_n 0, 1) := by decide +kernel
theorem dX4_wall_40 : decode cX4_wall 40 = .ok (.dup, 1) := by decide +kernel
theorem dX4_wall_41 : decode cX4_wall 41 = .ok (.getfield 43, 3) := by decide +kernel
theorem dX4_wall_44 : decode cX4_wall 44 = .ok (.iconst 1, 1) := by decide +kernel
theorem dX4_wall_45 : decode cX4_wall 45 = .ok (.iadd, 1) := by decide +kernel
theorem dX4_wall_46 : decode cX4_wall 46 = .ok (.putfield 43, 3) := by decide +kernel
theorem dX4_wall_49 : decode cX4_wall 49 = .ok (.iconst 1, 1) := by decide +kernel
theorem dX4_wall_50 : decode cX4_wall 50 = .ok (.ireturn, 1) := by decide +kernel
set_option maxRecDepth 20000 in
theorem ggX4_set_X4_isThing : GoodIn wsX4_set wsX4_isThing := goodIn_r _ [7, 8, 19, 20, 21, 22, 23, 24, 25] (by decide +kernel) (by decide +kernel)
set_option maxRecDepth 20000 in
theorem gX4_set_X4_isThing : GoodIn wsX4_set (wsV RX4 50 RX4 yX4_isThing wsX4_isThing) := goodIn_app (goodIn_of _ (by decide +kernel)) ggX4_set_X4_isThing
set_option maxRecDepth 20000 in
theorem ggX4_set_X4_canHave : GoodIn wsX4_set wsX4_canHave := goodIn_r _ [11] (by decide +kernel) (by decide +kernel)
set_option maxRecDepth 20000 in
theorem gX4_set_X4_canHave : GoodIn wsX4_set (va_wsS RX4 54 yX4_canHave wsX4_canHave) := goodIn_app (goodIn_of _ (by decide +kernel)) ggX4_set_X4_canHave
set_option maxRecDepth 20000 in
theorem ggX4_set_X2_keep : GoodIn wsX4_set wsX2_keep := goodIn_r _ [16, 17, 18, 26, 27, 28, 29, 30, 31, 32, 33, 34] (by decide +kernel) (by decide +kernel)
set_option maxRecDepth 20000 in
theorem gX4_set_X2_keep : GoodIn wsX4_set (wsV RX4 61 RX2 yX2_keep wsX2_keep) := goodIn_app (goodIn_of _ (by decide +kernel)) ggX4_set_X2_keep
theorem dX4_set_0 : decode cX4_set 0 = .ok (.aload_n 0, 1) := by decide +kernel
theorem dX4_set_1 : decode cX4_set 1 = .ok (.iload_n 1, 1) := by decide +kernel
theorem dX4_set_2 : decode cX4_set 2 = .ok (.invokevirtual 50, 3) := by decide +kernel
theorem dX4_set_5 : decode cX4_set 5 = .ok (.ifCond .eq 21, 3) := by decide +kernel
theorem dX4_set_8 : decode cX4_set 8 = .ok (.iload_n 2, 1) := by decide +kernel
theorem dX4_set_9 : decode cX4_set 9 = .ok (.iconst 1, 1) := by decide +kernel
theorem dX4_set_10 : decode cX4_set 10 = .ok (.if_icmp .eq 8, 3) := by decide +kernel
theorem dX4_set_13 : decode cX4_set 13 = .ok (.iload_n 2, 1) := by decide +kernel
theorem dX4_set_14 : decode cX4_set 14 = .ok (.iconst 3, 1) := by decide +kernel
theorem dX4_set_15 : decode cX4_set 15 = .ok (.if_icmp .ne 11, 3) := by decide +kernel
theorem dX4_set_18 : decode cX4_set 18 = .ok (.iload_n 2, 1) := by decide +kernel
theorem dX4_set_19 : decode cX4_set 19 = .ok (.iload_n 3, 1) := by decide +kernel
theorem dX4_set_20 : decode cX4_set 20 = .ok (.invokestatic 54, 3) := by decide +kernel
theorem dX4_set_23 : decode cX4_set 23 = .ok (.ifCond .ne 5, 3) := by decide +kernel
theorem dX4_set_26 : decode cX4_set 26 = .ok (.iconst 0, 1) := by decide +kernel
theorem dX4_set_27 : decode cX4_set 27 = .ok (.ireturn, 1) := by decide +kernel
theorem dX4_set_28 : decode cX4_set 28 = .ok (.aload_n 0, 1) := by decide +kernel
theorem dX4_set_29 : decode cX4_set 29 = .ok (.getfield 11, 3) := by decide +kernel
theorem dX4_set_32 : decode cX4_set 32 = .ok (.iload_n 1, 1) := by decide +kernel
theorem dX4_set_33 : decode cX4_set 33 = .ok (.aaload, 1) := by decide +kernel
theorem dX4_set_34 : decode cX4_set 34 = .ok (.iload_n 2, 1) := by decide +kernel
theorem dX4_set_35 : decode cX4_set 35 = .ok (.iload_n 3, 1) := by decide +kernel
theorem dX4_set_36 : decode cX4_set 36 = .ok (.invokevirtual 61, 3) := by decide +kernel
theorem dX4_set_39 : decode cX4_set 39 = .ok (.aload_n 0, 1) := by decide +kernel
theorem dX4_set_40 : decode cX4_set 40 = .ok (.dup, 1) := by decide +kernel
theorem dX4_set_41 : decode cX4_set 41 = .ok (.getfield 43, 3) := by decide +kernel
theorem dX4_set_44 : decode cX4_set 44 = .ok (.iconst 1, 1) := by decide +kernel
theorem dX4_set_45 : decode cX4_set 45 = .ok (.iadd, 1) := by decide +kernel
theorem dX4_set_46 : decode cX4_set 46 = .ok (.putfield 43, 3) := by decide +kernel
theorem dX4_set_49 : decode cX4_set 49 = .ok (.iconst 1, 1) := by decide +kernel
theorem dX4_set_50 : decode cX4_set 50 = .ok (.ireturn, 1) := by decide +kernel
set_option maxRecDepth 20000 in
theorem ggX4_price_X4_isThing : GoodIn wsX4_price wsX4_isThing := goodIn_r _ [7, 8, 9, 10, 11, 12, 13, 14, 15] (by decide +kernel) (by decide +kernel)
set_option maxRecDepth 20000 in
theorem gX4_price_X4_isThing : GoodIn wsX4_price (wsV RX4 50 RX4 yX4_isThing wsX4_isThing) := goodIn_app (goodIn_of _ (by decide +kernel)) ggX4_price_X4_isThing
theorem dX4_price_0 : decode cX4_price 0 = .ok (.aload_n 0, 1) := by decide +kernel
theorem dX4_price_1 : decode cX4_price 1 = .ok (.iload_n 1, 1) := by decide +kernel
theorem dX4_price_2 : decode cX4_price 2 = .ok (.invokevirtual 50, 3) := by decide +kernel
theorem dX4_price_5 : decode cX4_price 5 = .ok (.ifCond .eq 23, 3) := by decide +kernel
theorem dX4_price_8 : decode cX4_price 8 = .ok (.iload_n 2, 1) := by decide +kernel
theorem dX4_price_9 : decode cX4_price 9 = .ok (.iconst 1, 1) := by decide +kernel
theorem dX4_price_10 : decode cX4_price 10 = .ok (.if_icmp .lt 18, 3) := by decide +kernel
theorem dX4_price_13 : decode cX4_price 13 = .ok (.iload_n 2, 1) := by decide +kernel
theorem dX4_price_14 : decode cX4_price 14 = .ok (.iconst 3, 1) := by decide +kernel
theorem dX4_price_15 : decode cX4_price 15 = .ok (.if_icmp .gt 13, 3) := by decide +kernel
theorem dX4_price_18 : decode cX4_price 18 = .ok (.iload_n 3, 1) := by decide +kernel
theorem dX4_price_19 : decode cX4_price 19 = .ok (.ifCond .lt 9, 3) := by decide +kernel
theorem dX4_price_22 : decode cX4_price 22 = .ok (.iload_n 3, 1) := by decide +kernel
theorem dX4_price_23 : decode cX4_price 23 = .ok (.bipush 99, 2) := by decide +kernel
theorem dX4_price_25 : decode cX4_price 25 = .ok (.if_icmp .le 5, 3) := by decide +kernel
theorem dX4_price_28 : decode cX4_price 28 = .ok (.iconst 0, 1) := by decide +kernel
theorem dX4_price_29 : decode cX4_price 29 = .ok (.ireturn, 1) := by decide +kernel
theorem dX4_price_30 : decode cX4_price 30 = .ok (.aload_n 0, 1) := by decide +kernel
theorem dX4_price_31 : decode cX4_price 31 = .ok (.getfield 11, 3) := by decide +kernel
theorem dX4_price_34 : decode cX4_price 34 = .ok (.iload_n 1, 1) := by decide +kernel
theorem dX4_price_35 : decode cX4_price 35 = .ok (.aaload, 1) := by decide +kernel
theorem dX4_price_36 : decode cX4_price 36 = .ok (.getfield 65, 3) := by decide +kernel
theorem dX4_price_39 : decode cX4_price 39 = .ok (.iload_n 2, 1) := by decide +kernel
theorem dX4_price_40 : decode cX4_price 40 = .ok (.iload_n 3, 1) := by decide +kernel
theorem dX4_price_41 : decode cX4_price 41 = .ok (.iastore, 1) := by decide +kernel
theorem dX4_price_42 : decode cX4_price 42 = .ok (.iconst 1, 1) := by decide +kernel
theorem dX4_price_43 : decode cX4_price 43 = .ok (.ireturn, 1) := by decide +kernel
set_option maxRecDepth 20000 in
theorem ggX4_look_X4_countSilent : GoodIn wsX4_look wsX4_countSilent := goodIn_r _ [6, 1, 7, 8, 9, 10, 5, 11, 12, 13, 14, 15, 16, 17, 18, 19, 20, 21, 22, 23, 24, 25, 26, 27, 28, 29, 30, 31, 32, 33, 34, 35, 36, 37, 38, 39, 40, 41, 42, 43, 44, 45, 46, 47, 48, 49, 50, 51, 52, 53, 54, 55, 56, 57, 58, 59, 60, 61, 62, 63, 64, 65, 66, 67, 68, 69, 70, 71, 72, 73, 74, 75, 76, 77, 78, 79, 80, 81, 82, 83, 84, 85, 86, 87, 88, 89, 90, 91, 92, 93, 94, 95, 96, 97, 98, 99, 100, 101, 102, 103, 104, 105, 106, 107, 108, 109, 110, 111, 112, 113, 114, 115, 116, 117, 118, 119, 120, 121, 122, 123, 124, 125, 126, 127, 128, 129, 130, 137, 138, 139, 140, 141, 142, 143, 144, 145, 146, 147, 148, 149, 150, 151, 152, 153, 154, 155, 156, 157, 158, 159, 160, 161, 162, 163, 164, 165, 166, 167] (by decide +kernel) (by decide +kernel)
set_option maxRecDepth 20000 in
theorem gX4_look_X4_countSilent : GoodIn wsX4_look (wsV RX4 69 RX4 yX4_countSilent wsX4_countSilent) := goodIn_app (goodIn_of _ (by decide +kernel)) ggX4_look_X4_countSilent
set_option maxRecDepth 20000 in
theorem ggX4_look_X4_wallsNow : GoodIn wsX4_look wsX4_wallsNow := goodIn_r _ [20, 1, 16, 21, 137, 138, 139, 140, 141, 142, 143, 152, 153, 154, 155, 156, 157, 158, 159, 160] (by decide +kernel) (by decide +kernel)
set_option maxRecDepth 20000 in
theorem gX4_look_X4_wallsNow : GoodIn wsX4_look (wsV RX4 73 RX4 yX4_wallsNow wsX4_wallsNow) := goodIn_app (goodIn_of _ (by decide +kernel)) ggX4_look_X4_wallsNow
set_option maxRecDepth 20000 in
theorem ggX4_look_X4_sumOf : GoodIn wsX4_look wsX4_sumOf := goodIn_r _ [134, 1, 16, 135, 136, 33, 5, 34, 137, 138, 139, 140, 141, 142, 143, 152, 153, 154, 155, 156, 157, 158, 159, 160] (by decide +kernel) (by decide +kernel)
set_option maxRecDepth 20000 in
theorem gX4_look_X4_sumOf : GoodIn wsX4_look (wsV RX4 76 RX4 yX4_sumOf wsX4_sumOf) := goodIn_app (goodIn_of _ (by decide +kernel)) ggX4_look_X4_sumOf
theorem dX4_look_0 : decode cX4_look 0 = .ok (.iload_n 1, 1) := by decide +kernel
theorem dX4_look_1 : decode cX4_look 1 = .ok (.tableswitch 55 0 3 #[31, 36, 41, 50], 31) := by decide +kernel
theorem dX4_look_32 : decode cX4_look 32 = .ok (.aload_n 0, 1) := by decide +kernel
theorem dX4_look_33 : decode cX4_look 33 = .ok (.getfield 39, 3) := by decide +kernel
theorem dX4_look_36 : decode cX4_look 36 = .ok (.ireturn, 1) := by decide +kernel
theorem dX4_look_37 : decode cX4_look 37 = .ok (.aload_n 0, 1) := by decide +kernel
theorem dX4_look_38 : decode cX4_look 38 = .ok (.invokevirtual 69, 3) := by decide +kernel
theorem dX4_look_41 : decode cX4_look 41 = .ok (.ireturn, 1) := by decide +kernel
theorem dX4_look_42 : decode cX4_look 42 = .ok (.aload_n 0, 1) := by decide +kernel
theorem dX4_look_43 : decode cX4_look 43 = .ok (.aload_n 0, 1) := by decide +kernel
theorem dX4_look_44 : decode cX4_look 44 = .ok (.invokevirtual 73, 3) := by decide +kernel
theorem dX4_look_47 : decode cX4_look 47 = .ok (.invokevirtual 76, 3) := by decide +kernel
theorem dX4_look_50 : decode cX4_look 50 = .ok (.ireturn, 1) := by decide +kernel
theorem dX4_look_51 : decode cX4_look 51 = .ok (.aload_n 0, 1) := by decide +kernel
theorem dX4_look_52 : decode cX4_look 52 = .ok (.invokevirtual 73, 3) := by decide +kernel
theorem dX4_look_55 : decode cX4_look 55 = .ok (.ireturn, 1) := by decide +kernel
theorem dX4_look_56 : decode cX4_look 56 = .ok (.iconst (-1), 1) := by decide +kernel
theorem dX4_look_57 : decode cX4_look 57 = .ok (.ireturn, 1) := by decide +kernel
set_option maxRecDepth 20000 in
theorem ggX4_of_X4_isThing : GoodIn wsX4_of wsX4_isThing := goodIn_r _ [11, 12, 13, 14, 15, 16, 17, 18, 19] (by decide +kernel) (by decide +kernel)
set_option maxRecDepth 20000 in
theorem gX4_of_X4_isThing : GoodIn wsX4_of (wsV RX4 50 RX4 yX4_isThing wsX4_isThing) := goodIn_app (goodIn_of _ (by decide +kernel)) ggX4_of_X4_isThing
theorem dX4_of_0 : decode cX4_of 0 = .ok (.aload_n 0, 1) := by decide +kernel
theorem dX4_of_1 : decode cX4_of 1 = .ok (.iload_n 1, 1) := by decide +kernel
theorem dX4_of_2 : decode cX4_of 2 = .ok (.invokevirtual 50, 3) := by decide +kernel
theorem dX4_of_5 : decode cX4_of 5 = .ok (.ifCond .ne 5, 3) := by decide +kernel
theorem dX4_of_8 : decode cX4_of 8 = .ok (.iconst (-1), 1) := by decide +kernel
theorem dX4_of_9 : decode cX4_of 9 = .ok (.ireturn, 1) := by decide +kernel
theorem dX4_of_10 : decode cX4_of 10 = .ok (.iload_n 2, 1) := by decide +kernel
theorem dX4_of_11 : decode cX4_of 11 = .ok (.tableswitch 83 0 4 #[33, 43, 53, 63, 73], 33) := by decide +kernel
theorem dX4_of_44 : decode cX4_of 44 = .ok (.aload_n 0, 1) := by decide +kernel
theorem dX4_of_45 : decode cX4_of 45 = .ok (.getfield 11, 3) := by decide +kernel
theorem dX4_of_48 : decode cX4_of 48 = .ok (.iload_n 1, 1) := by decide +kernel
theorem dX4_of_49 : decode cX4_of 49 = .ok (.aaload, 1) := by decide +kernel
theorem dX4_of_50 : decode cX4_of 50 = .ok (.getfield 80, 3) := by decide +kernel
theorem dX4_of_53 : decode cX4_of 53 = .ok (.ireturn, 1) := by decide +kernel
theorem dX4_of_54 : decode cX4_of 54 = .ok (.aload_n 0, 1) := by decide +kernel
theorem dX4_of_55 : decode cX4_of 55 = .ok (.getfield 11, 3) := by decide +kernel
theorem dX4_of_58 : decode cX4_of 58 = .ok (.iload_n 1, 1) := by decide +kernel
theorem dX4_of_59 : decode cX4_of 59 = .ok (.aaload, 1) := by decide +kernel
theorem dX4_of_60 : decode cX4_of 60 = .ok (.getfield 83, 3) := by decide +kernel
theorem dX4_of_63 : decode cX4_of 63 = .ok (.ireturn, 1) := by decide +kernel
theorem dX4_of_64 : decode cX4_of 64 = .ok (.aload_n 0, 1) := by decide +kernel
theorem dX4_of_65 : decode cX4_of 65 = .ok (.getfield 11, 3) := by decide +kernel
theorem dX4_of_68 : decode cX4_of 68 = .ok (.iload_n 1, 1) := by decide +kernel
theorem dX4_of_69 : decode cX4_of 69 = .ok (.aaload, 1) := by decide +kernel
theorem dX4_of_70 : decode cX4_of 70 = .ok (.getfield 58, 3) := by decide +kernel
theorem dX4_of_73 : decode cX4_of 73 = .ok (.ireturn, 1) := by decide +kernel
theorem dX4_of_74 : decode cX4_of 74 = .ok (.aload_n 0, 1) := by decide +kernel
theorem dX4_of_75 : decode cX4_of 75 = .ok (.getfield 11, 3) := by decide +kernel
theorem dX4_of_78 : decode cX4_of 78 = .ok (.iload_n 1, 1) := by decide +kernel
theorem dX4_of_79 : decode cX4_of 79 = .ok (.aaload, 1) := by decide +kernel
theorem dX4_of_80 : decode cX4_of 80 = .ok (.getfield 86, 3) := by decide +kernel
theorem dX4_of_83 : decode cX4_of 83 = .ok (.ireturn, 1) := by decide +kernel
theorem dX4_of_84 : decode cX4_of 84 = .ok (.aload_n 0, 1) := by decide +kernel
theorem dX4_of_85 : decode cX4_of 85 = .ok (.getfield 11, 3) := by decide +kernel
theorem dX4_of_88 : decode cX4_of 88 = .ok (.iload_n 1, 1) := by decide +kernel
theorem dX4_of_89 : decode cX4_of 89 = .ok (.aaload, 1) := by decide +kernel
theorem dX4_of_90 : decode cX4_of 90 = .ok (.getfield 89, 3) := by decide +kernel
theorem dX4_of_93 : decode cX4_of 93 = .ok (.ireturn, 1) := by decide +kernel
theorem dX4_of_94 : decode cX4_of 94 = .ok (.iconst (-1), 1) := by decide +kernel
theorem dX4_of_95 : decode cX4_of 95 = .ok (.ireturn, 1) := by decide +kernel
set_option maxRecDepth 20000 in
theorem ggX4_does_X4_isThing : GoodIn wsX4_does wsX4_isThing := goodIn_r _ [7, 8, 42, 43, 44, 45, 46, 47, 48] (by decide +kernel) (by decide +kernel)
set_option maxRecDepth 20000 in
theorem gX4_does_X4_isThing : GoodIn wsX4_does (wsV RX4 50 RX4 yX4_isThing wsX4_isThing) := goodIn_app (goodIn_of _ (by decide +kernel)) ggX4_does_X4_isThing
set_option maxRecDepth 20000 in
theorem ggX4_does_X4_canBe : GoodIn wsX4_does wsX4_canBe := goodIn_r _ [11] (by decide +kernel) (by decide +kernel)
set_option maxRecDepth 20000 in
theorem gX4_does_X4_canBe : GoodIn wsX4_does (va_wsS RX4 92 yX4_canBe wsX4_canBe) := goodIn_app (goodIn_of _ (by decide +kernel)) ggX4_does_X4_canBe
set_option maxRecDepth 20000 in
theorem ggX4_does_X2_next : GoodIn wsX4_does wsX2_next := goodIn_r _ [16, 17, 18, 19, 20, 15, 21, 22, 23, 24, 25, 26, 27, 28, 29, 30, 31, 32, 49, 50, 51, 52, 53, 54, 55, 56, 57] (by decide +kernel) (by decide +kernel)
set_option maxRecDepth 20000 in
theorem gX4_does_X2_next : GoodIn wsX4_does (wsV RX4 95 RX2 yX2_next wsX2_next) := goodIn_app (goodIn_of _ (by decide +kernel)) ggX4_does_X2_next
set_option maxRecDepth 20000 in
theorem ggX4_does_X2_answer : GoodIn wsX4_does wsX2_answer := goodIn_r _ [36, 17, 37, 19, 20, 15, 21, 38, 39, 40, 41, 49, 50, 51, 52, 53, 54, 55, 56, 57] (by decide +kernel) (by decide +kernel)
set_option maxRecDepth 20000 in
theorem gX4_does_X2_answer : GoodIn wsX4_does (wsV RX4 99 RX2 yX2_answer wsX2_answer) := goodIn_app (goodIn_of _ (by decide +kernel)) ggX4_does_X2_answer
theorem dX4_does_0 : decode cX4_does 0 = .ok (.aload_n 0, 1) := by decide +kernel
theorem dX4_does_1 : decode cX4_does 1 = .ok (.iload_n 1, 1) := by decide +kernel
theorem dX4_does_2 : decode cX4_does 2 = .ok (.invokevirtual 50, 3) := by decide +kernel
theorem dX4_does_5 : decode cX4_does 5 = .ok (.ifCond .eq 23, 3) := by decide +kernel
theorem dX4_does_8 : decode cX4_does 8 = .ok (.iload_n 2, 1) := by decide +kernel
theorem dX4_does_9 : decode cX4_does 9 = .ok (.ifCond .lt 19, 3) := by decide +kernel
theorem dX4_does_12 : decode cX4_does 12 = .ok (.iload_n 2, 1) := by decide +kernel
theorem dX4_does_13 : decode cX4_does 13 = .ok (.iconst 1, 1) := by decide +kernel
theorem dX4_does_14 : decode cX4_does 14 = .ok (.if_icmp .gt 14, 3) := by decide +kernel
theorem dX4_does_17 : decode cX4_does 17 = .ok (.iload 4, 2) := by decide +kernel
theorem dX4_does_19 : decode cX4_does 19 = .ok (.ifCond .lt 9, 3) := by decide +kernel
theorem dX4_does_22 : decode cX4_does 22 = .ok (.iload 4, 2) := by decide +kernel
theorem dX4_does_24 : decode cX4_does 24 = .ok (.iconst 3, 1) := by decide +kernel
theorem dX4_does_25 : decode cX4_does 25 = .ok (.if_icmp .lt 5, 3) := by decide +kernel
theorem dX4_does_28 : decode cX4_does 28 = .ok (.iconst (-1), 1) := by decide +kernel
theorem dX4_does_29 : decode cX4_does 29 = .ok (.ireturn, 1) := by decide +kernel
theorem dX4_does_30 : decode cX4_does 30 = .ok (.aload_n 0, 1) := by decide +kernel
theorem dX4_does_31 : decode cX4_does 31 = .ok (.getfield 11, 3) := by decide +kernel
theorem dX4_does_34 : decode cX4_does 34 = .ok (.iload_n 1, 1) := by decide +kernel
theorem dX4_does_35 : decode cX4_does 35 = .ok (.aaload, 1) := by decide +kernel
theorem dX4_does_36 : decode cX4_does 36 = .ok (.getfield 80, 3) := by decide +kernel
theorem dX4_does_39 : decode cX4_does 39 = .ok (.iload_n 3, 1) := by decide +kernel
theorem dX4_does_40 : decode cX4_does 40 = .ok (.invokestatic 92, 3) := by decide +kernel
theorem dX4_does_43 : decode cX4_does 43 = .ok (.ifCond .eq 14, 3) := by decide +kernel
theorem dX4_does_46 : decode cX4_does 46 = .ok (.iload 5, 2) := by decide +kernel
theorem dX4_does_48 : decode cX4_does 48 = .ok (.ifCond .lt 9, 3) := by decide +kernel
theorem dX4_does_51 : decode cX4_does 51 = .ok (.iload 5, 2) := by decide +kernel
theorem dX4_does_53 : decode cX4_does 53 = .ok (.iconst 1, 1) := by decide +kernel
theorem dX4_does_54 : decode cX4_does 54 = .ok (.if_icmp .le 5, 3) := by decide +kernel
theorem dX4_does_57 : decode cX4_does 57 = .ok (.iconst (-1), 1) := by decide +kernel
theorem dX4_does_58 : decode cX4_does 58 = .ok (.ireturn, 1) := by decide +kernel
theorem dX4_does_59 : decode cX4_does 59 = .ok (.iload 5, 2) := by decide +kernel
theorem dX4_does_61 : decode cX4_does 61 = .ok (.ifCond .ne 19, 3) := by decide +kernel
theorem dX4_does_64 : decode cX4_does 64 = .ok (.aload_n 0, 1) := by decide +kernel
theorem dX4_does_65 : decode cX4_does 65 = .ok (.getfield 11, 3) := by decide +kernel
theorem dX4_does_68 : decode cX4_does 68 = .ok (.iload_n 1, 1) := by decide +kernel
theorem dX4_does_69 : decode cX4_does 69 = .ok (.aaload, 1) := by decide +kernel
theorem dX4_does_70 : decode cX4_does 70 = .ok (.iload_n 2, 1) := by decide +kernel
theorem dX4_does_71 : decode cX4_does 71 = .ok (.iload_n 3, 1) := by decide +kernel
theorem dX4_does_72 : decode cX4_does 72 = .ok (.iload 4, 2) := by decide +kernel
theorem dX4_does_74 : decode cX4_does 74 = .ok (.invokevirtual 95, 3) := by decide +kernel
theorem dX4_does_77 : decode cX4_does 77 = .ok (.goto 16, 3) := by decide +kernel
theorem dX4_does_80 : decode cX4_does 80 = .ok (.aload_n 0, 1) := by decide +kernel
theorem dX4_does_81 : decode cX4_does 81 = .ok (.getfield 11, 3) := by decide +kernel
theorem dX4_does_84 : decode cX4_does 84 = .ok (.iload_n 1, 1) := by decide +kernel
