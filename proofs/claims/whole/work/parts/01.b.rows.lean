theorem dX0_init_0 : decode cX0_init 0 = .ok (.aload_n 0, 1) := by decide +kernel
theorem dX0_init_1 : decode cX0_init 1 = .ok (.invokespecial 3, 3) := by decide +kernel
theorem dX0_init_4 : decode cX0_init 4 = .ok (.aload_n 0, 1) := by decide +kernel
theorem dX0_init_5 : decode cX0_init 5 = .ok (.sipush 320, 3) := by decide +kernel
theorem dX0_init_8 : decode cX0_init 8 = .ok (.newarray .int, 2) := by decide +kernel
theorem dX0_init_10 : decode cX0_init 10 = .ok (.putfield 11, 3) := by decide +kernel
theorem dX0_init_13 : decode cX0_init 13 = .ok (.aload_n 0, 1) := by decide +kernel
theorem dX0_init_14 : decode cX0_init 14 = .ok (.bipush 64, 2) := by decide +kernel
theorem dX0_init_16 : decode cX0_init 16 = .ok (.newarray .int, 2) := by decide +kernel
theorem dX0_init_18 : decode cX0_init 18 = .ok (.putfield 15, 3) := by decide +kernel
theorem dX0_init_21 : decode cX0_init 21 = .ok (.aload_n 0, 1) := by decide +kernel
theorem dX0_init_22 : decode cX0_init 22 = .ok (.bipush 64, 2) := by decide +kernel
theorem dX0_init_24 : decode cX0_init 24 = .ok (.newarray .int, 2) := by decide +kernel
theorem dX0_init_26 : decode cX0_init 26 = .ok (.putfield 18, 3) := by decide +kernel
theorem dX0_init_29 : decode cX0_init 29 = .ok (.aload_n 0, 1) := by decide +kernel
theorem dX0_init_30 : decode cX0_init 30 = .ok (.bipush 64, 2) := by decide +kernel
theorem dX0_init_32 : decode cX0_init 32 = .ok (.newarray .int, 2) := by decide +kernel
theorem dX0_init_34 : decode cX0_init 34 = .ok (.putfield 21, 3) := by decide +kernel
theorem dX0_init_37 : decode cX0_init 37 = .ok (.aload_n 0, 1) := by decide +kernel
theorem dX0_init_38 : decode cX0_init 38 = .ok (.bipush 64, 2) := by decide +kernel
theorem dX0_init_40 : decode cX0_init 40 = .ok (.newarray .int, 2) := by decide +kernel
theorem dX0_init_42 : decode cX0_init 42 = .ok (.putfield 24, 3) := by decide +kernel
theorem dX0_init_45 : decode cX0_init 45 = .ok (.aload_n 0, 1) := by decide +kernel
theorem dX0_init_46 : decode cX0_init 46 = .ok (.iconst (-1), 1) := by decide +kernel
theorem dX0_init_47 : decode cX0_init 47 = .ok (.putfield 27, 3) := by decide +kernel
theorem dX0_init_50 : decode cX0_init 50 = .ok (.return_, 1) := by decide +kernel
set_option maxRecDepth 20000 in
theorem ggX0_find_J7_fill_53178 : GoodIn wsX0_find wsJ7_fill_53178 := goodIn_r _ [8] (by decide +kernel) (by decide +kernel)
set_option maxRecDepth 20000 in
theorem gX0_find_J7_fill_53178 : GoodIn wsX0_find (va_wsS RX0 37 yJ7_fill_53178 wsJ7_fill_53178) := goodIn_app (goodIn_of _ (by decide +kernel)) ggX0_find_J7_fill_53178
set_option maxRecDepth 20000 in
theorem ggX0_find_X0_node : GoodIn wsX0_find wsX0_node := goodIn_r _ [12] (by decide +kernel) (by decide +kernel)
set_option maxRecDepth 20000 in
theorem gX0_find_X0_node : GoodIn wsX0_find (va_wsS RX0 48 yX0_node wsX0_node) := goodIn_app (goodIn_of _ (by decide +kernel)) ggX0_find_X0_node
set_option maxRecDepth 20000 in
theorem ggX0_find_X0_reach : GoodIn wsX0_find wsX0_reach := goodIn_r _ [16, 3, 2, 17, 18, 4, 60, 61, 62, 63, 64, 65, 66, 67] (by decide +kernel) (by decide +kernel)
set_option maxRecDepth 20000 in
theorem gX0_find_X0_reach : GoodIn wsX0_find (wsV RX0 52 RX0 yX0_reach wsX0_reach) := goodIn_app (goodIn_of _ (by decide +kernel)) ggX0_find_X0_reach
set_option maxRecDepth 20000 in
theorem ggX0_find_X0_goOn : GoodIn wsX0_find wsX0_goOn := goodIn_r _ [22, 1, 23, 24, 25, 26, 27, 28, 29, 30, 31, 32, 33, 34, 35, 36, 37, 38, 39, 40, 41, 42, 43, 44, 45, 11, 46, 3, 47, 18, 17, 48, 49, 50, 51, 52, 53, 54, 55, 56, 57, 58, 59, 9, 10, 12, 13, 14, 15, 16, 2, 4, 60, 61, 62, 63, 64, 65, 66, 67, 68, 69, 70, 71, 72, 73, 74] (by decide +kernel) (by decide +kernel)
set_option maxRecDepth 20000 in
theorem gX0_find_X0_goOn : GoodIn wsX0_find (wsV RX0 56 RX0 yX0_goOn wsX0_goOn) := goodIn_app (goodIn_of _ (by decide +kernel)) ggX0_find_X0_goOn
theorem dX0_find_0 : decode cX0_find 0 = .ok (.aload_n 0, 1) := by decide +kernel
theorem dX0_find_1 : decode cX0_find 1 = .ok (.iconst 0, 1) := by decide +kernel
theorem dX0_find_2 : decode cX0_find 2 = .ok (.putfield 31, 3) := by decide +kernel
theorem dX0_find_5 : decode cX0_find 5 = .ok (.aload_n 0, 1) := by decide +kernel
theorem dX0_find_6 : decode cX0_find 6 = .ok (.iconst 0, 1) := by decide +kernel
theorem dX0_find_7 : decode cX0_find 7 = .ok (.putfield 34, 3) := by decide +kernel
theorem dX0_find_10 : decode cX0_find 10 = .ok (.aload_n 0, 1) := by decide +kernel
theorem dX0_find_11 : decode cX0_find 11 = .ok (.getfield 24, 3) := by decide +kernel
theorem dX0_find_14 : decode cX0_find 14 = .ok (.iconst (-1), 1) := by decide +kernel
theorem dX0_find_15 : decode cX0_find 15 = .ok (.invokestatic 37, 3) := by decide +kernel
theorem dX0_find_18 : decode cX0_find 18 = .ok (.aload_n 0, 1) := by decide +kernel
theorem dX0_find_19 : decode cX0_find 19 = .ok (.aload_n 1, 1) := by decide +kernel
theorem dX0_find_20 : decode cX0_find 20 = .ok (.getfield 43, 3) := by decide +kernel
theorem dX0_find_23 : decode cX0_find 23 = .ok (.iload_n 2, 1) := by decide +kernel
theorem dX0_find_24 : decode cX0_find 24 = .ok (.iaload, 1) := by decide +kernel
theorem dX0_find_25 : decode cX0_find 25 = .ok (.aload_n 1, 1) := by decide +kernel
theorem dX0_find_26 : decode cX0_find 26 = .ok (.getfield 43, 3) := by decide +kernel
theorem dX0_find_29 : decode cX0_find 29 = .ok (.iload_n 2, 1) := by decide +kernel
theorem dX0_find_30 : decode cX0_find 30 = .ok (.iaload, 1) := by decide +kernel
theorem dX0_find_31 : decode cX0_find 31 = .ok (.iconst 0, 1) := by decide +kernel
theorem dX0_find_32 : decode cX0_find 32 = .ok (.invokestatic 48, 3) := by decide +kernel
theorem dX0_find_35 : decode cX0_find 35 = .ok (.iconst (-1), 1) := by decide +kernel
theorem dX0_find_36 : decode cX0_find 36 = .ok (.iconst 0, 1) := by decide +kernel
theorem dX0_find_37 : decode cX0_find 37 = .ok (.invokevirtual 52, 3) := by decide +kernel
theorem dX0_find_40 : decode cX0_find 40 = .ok (.iconst 0, 1) := by decide +kernel
theorem dX0_find_41 : decode cX0_find 41 = .ok (.istore_n 3, 1) := by decide +kernel
theorem dX0_find_42 : decode cX0_find 42 = .ok (.iload_n 3, 1) := by decide +kernel
theorem dX0_find_43 : decode cX0_find 43 = .ok (.aload_n 0, 1) := by decide +kernel
theorem dX0_find_44 : decode cX0_find 44 = .ok (.getfield 34, 3) := by decide +kernel
theorem dX0_find_47 : decode cX0_find 47 = .ok (.if_icmp .ge 28, 3) := by decide +kernel
theorem dX0_find_50 : decode cX0_find 50 = .ok (.aload_n 0, 1) := by decide +kernel
theorem dX0_find_51 : decode cX0_find 51 = .ok (.getfield 31, 3) := by decide +kernel
theorem dX0_find_54 : decode cX0_find 54 = .ok (.ifCond .ne 21, 3) := by decide +kernel
theorem dX0_find_57 : decode cX0_find 57 = .ok (.aload_n 0, 1) := by decide +kernel
theorem dX0_find_58 : decode cX0_find 58 = .ok (.aload_n 1, 1) := by decide +kernel
theorem dX0_find_59 : decode cX0_find 59 = .ok (.iload_n 2, 1) := by decide +kernel
theorem dX0_find_60 : decode cX0_find 60 = .ok (.aload_n 0, 1) := by decide +kernel
theorem dX0_find_61 : decode cX0_find 61 = .ok (.getfield 15, 3) := by decide +kernel
theorem dX0_find_64 : decode cX0_find 64 = .ok (.iload_n 3, 1) := by decide +kernel
theorem dX0_find_65 : decode cX0_find 65 = .ok (.iaload, 1) := by decide +kernel
theorem dX0_find_66 : decode cX0_find 66 = .ok (.invokevirtual 56, 3) := by decide +kernel
theorem dX0_find_69 : decode cX0_find 69 = .ok (.iinc 3 1, 3) := by decide +kernel
theorem dX0_find_72 : decode cX0_find 72 = .ok (.goto (-30), 3) := by decide +kernel
theorem dX0_find_75 : decode cX0_find 75 = .ok (.return_, 1) := by decide +kernel
theorem dX0_node_0 : decode cX0_node 0 = .ok (.iload_n 0, 1) := by decide +kernel
theorem dX0_node_1 : decode cX0_node 1 = .ok (.iconst 4, 1) := by decide +kernel
theorem dX0_node_2 : decode cX0_node 2 = .ok (.ishl, 1) := by decide +kernel
theorem dX0_node_3 : decode cX0_node 3 = .ok (.iload_n 1, 1) := by decide +kernel
theorem dX0_node_4 : decode cX0_node 4 = .ok (.iconst 2, 1) := by decide +kernel
theorem dX0_node_5 : decode cX0_node 5 = .ok (.ishl, 1) := by decide +kernel
theorem dX0_node_6 : decode cX0_node 6 = .ok (.ior, 1) := by decide +kernel
theorem dX0_node_7 : decode cX0_node 7 = .ok (.iload_n 2, 1) := by decide +kernel
theorem dX0_node_8 : decode cX0_node 8 = .ok (.ior, 1) := by decide +kernel
theorem dX0_node_9 : decode cX0_node 9 = .ok (.bipush 63, 2) := by decide +kernel
theorem dX0_node_11 : decode cX0_node 11 = .ok (.iand, 1) := by decide +kernel
theorem dX0_node_12 : decode cX0_node 12 = .ok (.ireturn, 1) := by decide +kernel
theorem dX0_reach_0 : decode cX0_reach 0 = .ok (.aload_n 0, 1) := by decide +kernel
theorem dX0_reach_1 : decode cX0_reach 1 = .ok (.getfield 24, 3) := by decide +kernel
theorem dX0_reach_4 : decode cX0_reach 4 = .ok (.iload_n 1, 1) := by decide +kernel
theorem dX0_reach_5 : decode cX0_reach 5 = .ok (.iaload, 1) := by decide +kernel
theorem dX0_reach_6 : decode cX0_reach 6 = .ok (.iconst (-1), 1) := by decide +kernel
theorem dX0_reach_7 : decode cX0_reach 7 = .ok (.if_icmp .ne 12, 3) := by decide +kernel
theorem dX0_reach_10 : decode cX0_reach 10 = .ok (.aload_n 0, 1) := by decide +kernel
theorem dX0_reach_11 : decode cX0_reach 11 = .ok (.getfield 34, 3) := by decide +kernel
theorem dX0_reach_14 : decode cX0_reach 14 = .ok (.bipush 64, 2) := by decide +kernel
theorem dX0_reach_16 : decode cX0_reach 16 = .ok (.if_icmp .lt 4, 3) := by decide +kernel
theorem dX0_reach_19 : decode cX0_reach 19 = .ok (.return_, 1) := by decide +kernel
theorem dX0_reach_20 : decode cX0_reach 20 = .ok (.aload_n 0, 1) := by decide +kernel
theorem dX0_reach_21 : decode cX0_reach 21 = .ok (.getfield 24, 3) := by decide +kernel
theorem dX0_reach_24 : decode cX0_reach 24 = .ok (.iload_n 1, 1) := by decide +kernel
theorem dX0_reach_25 : decode cX0_reach 25 = .ok (.iload_n 2, 1) := by decide +kernel
theorem dX0_reach_26 : decode cX0_reach 26 = .ok (.iconst (-1), 1) := by decide +kernel
theorem dX0_reach_27 : decode cX0_reach 27 = .ok (.if_icmp .ne 7, 3) := by decide +kernel
theorem dX0_reach_30 : decode cX0_reach 30 = .ok (.iconst 0, 1) := by decide +kernel
theorem dX0_reach_31 : decode cX0_reach 31 = .ok (.goto 11, 3) := by decide +kernel
theorem dX0_reach_34 : decode cX0_reach 34 = .ok (.aload_n 0, 1) := by decide +kernel
theorem dX0_reach_35 : decode cX0_reach 35 = .ok (.getfield 24, 3) := by decide +kernel
theorem dX0_reach_38 : decode cX0_reach 38 = .ok (.iload_n 2, 1) := by decide +kernel
theorem dX0_reach_39 : decode cX0_reach 39 = .ok (.iaload, 1) := by decide +kernel
theorem dX0_reach_40 : decode cX0_reach 40 = .ok (.iconst 1, 1) := by decide +kernel
theorem dX0_reach_41 : decode cX0_reach 41 = .ok (.iadd, 1) := by decide +kernel
theorem dX0_reach_42 : decode cX0_reach 42 = .ok (.iastore, 1) := by decide +kernel
theorem dX0_reach_43 : decode cX0_reach 43 = .ok (.aload_n 0, 1) := by decide +kernel
theorem dX0_reach_44 : decode cX0_reach 44 = .ok (.getfield 18, 3) := by decide +kernel
theorem dX0_reach_47 : decode cX0_reach 47 = .ok (.iload_n 1, 1) := by decide +kernel
theorem dX0_reach_48 : decode cX0_reach 48 = .ok (.iload_n 2, 1) := by decide +kernel
theorem dX0_reach_49 : decode cX0_reach 49 = .ok (.iastore, 1) := by decide +kernel
theorem dX0_reach_50 : decode cX0_reach 50 = .ok (.aload_n 0, 1) := by decide +kernel
theorem dX0_reach_51 : decode cX0_reach 51 = .ok (.getfield 21, 3) := by decide +kernel
theorem dX0_reach_54 : decode cX0_reach 54 = .ok (.iload_n 1, 1) := by decide +kernel
theorem dX0_reach_55 : decode cX0_reach 55 = .ok (.iload_n 3, 1) := by decide +kernel
theorem dX0_reach_56 : decode cX0_reach 56 = .ok (.iastore, 1) := by decide +kernel
theorem dX0_reach_57 : decode cX0_reach 57 = .ok (.aload_n 0, 1) := by decide +kernel
theorem dX0_reach_58 : decode cX0_reach 58 = .ok (.getfield 15, 3) := by decide +kernel
theorem dX0_reach_61 : decode cX0_reach 61 = .ok (.aload_n 0, 1) := by decide +kernel
theorem dX0_reach_62 : decode cX0_reach 62 = .ok (.getfield 34, 3) := by decide +kernel
theorem dX0_reach_65 : decode cX0_reach 65 = .ok (.iload_n 1, 1) := by decide +kernel
theorem dX0_reach_66 : decode cX0_reach 66 = .ok (.iastore, 1) := by decide +kernel
theorem dX0_reach_67 : decode cX0_reach 67 = .ok (.aload_n 0, 1) := by decide +kernel
theorem dX0_reach_68 : decode cX0_reach 68 = .ok (.dup, 1) := by decide +kernel
theorem dX0_reach_69 : decode cX0_reach 69 = .ok (.getfield 34, 3) := by decide +kernel
theorem dX0_reach_72 : decode cX0_reach 72 = .ok (.iconst 1, 1) := by decide +kernel
theorem dX0_reach_73 : decode cX0_reach 73 = .ok (.iadd, 1) := by decide +kernel
theorem dX0_reach_74 : decode cX0_reach 74 = .ok (.putfield 34, 3) := by decide +kernel
theorem dX0_reach_77 : decode cX0_reach 77 = .ok (.return_, 1) := by decide +kernel
set_option maxRecDepth 20000 in
theorem ggX0_goOn_X1_met : GoodIn wsX0_goOn wsX1_met := goodIn_r _ [6, 7, 8, 9, 10, 11, 5, 12, 13, 14, 15, 16, 60, 61, 62, 63, 64, 65, 66] (by decide +kernel) (by decide +kernel)
set_option maxRecDepth 20000 in
theorem gX0_goOn_X1_met : GoodIn wsX0_goOn (wsV RX0 60 RX1 yX1_met wsX1_met) := goodIn_app (goodIn_of _ (by decide +kernel)) ggX0_goOn_X1_met
set_option maxRecDepth 20000 in
theorem ggX0_goOn_X1_answer : GoodIn wsX0_goOn wsX1_answer := goodIn_r _ [20, 21, 14, 15, 5, 16, 60, 61, 62, 63, 64, 65, 66] (by decide +kernel) (by decide +kernel)
set_option maxRecDepth 20000 in
theorem gX0_goOn_X1_answer : GoodIn wsX0_goOn (wsV RX0 64 RX1 yX1_answer wsX1_answer) := goodIn_app (goodIn_of _ (by decide +kernel)) ggX0_goOn_X1_answer
set_option maxRecDepth 20000 in
theorem ggX0_goOn_X0_write : GoodIn wsX0_goOn wsX0_write := goodIn_r _ [26, 27, 1, 28, 29, 30, 31, 32, 25, 33, 52, 53, 54, 55, 56, 57, 58, 59] (by decide +kernel) (by decide +kernel)
set_option maxRecDepth 20000 in
theorem gX0_goOn_X0_write : GoodIn wsX0_goOn (wsV RX0 67 RX0 yX0_write wsX0_write) := goodIn_app (goodIn_of _ (by decide +kernel)) ggX0_goOn_X0_write
set_option maxRecDepth 20000 in
theorem ggX0_goOn_X1_left : GoodIn wsX0_goOn wsX1_left := goodIn_r _ [37, 38, 14, 15, 5, 16, 60, 61, 62, 63, 64, 65, 66] (by decide +kernel) (by decide +kernel)
set_option maxRecDepth 20000 in
theorem gX0_goOn_X1_left : GoodIn wsX0_goOn (wsV RX0 70 RX1 yX1_left wsX1_left) := goodIn_app (goodIn_of _ (by decide +kernel)) ggX0_goOn_X1_left
set_option maxRecDepth 20000 in
theorem ggX0_goOn_X1_period : GoodIn wsX0_goOn wsX1_period := goodIn_r _ [42, 13, 60, 61, 62, 63, 64, 65, 66] (by decide +kernel) (by decide +kernel)
set_option maxRecDepth 20000 in
theorem gX0_goOn_X1_period : GoodIn wsX0_goOn (wsV RX0 73 RX1 yX1_period wsX1_period) := goodIn_app (goodIn_of _ (by decide +kernel)) ggX0_goOn_X1_period
set_option maxRecDepth 20000 in
theorem ggX0_goOn_X0_node : GoodIn wsX0_goOn wsX0_node := goodIn_r _ [45] (by decide +kernel) (by decide +kernel)
set_option maxRecDepth 20000 in
theorem gX0_goOn_X0_node : GoodIn wsX0_goOn (va_wsS RX0 48 yX0_node wsX0_node) := goodIn_app (goodIn_of _ (by decide +kernel)) ggX0_goOn_X0_node
set_option maxRecDepth 20000 in
theorem ggX0_goOn_X0_reach : GoodIn wsX0_goOn wsX0_reach := goodIn_r _ [49, 27, 50, 30, 29, 51, 52, 53, 54, 55, 56, 57, 58, 59] (by decide +kernel) (by decide +kernel)
set_option maxRecDepth 20000 in
theorem gX0_goOn_X0_reach : GoodIn wsX0_goOn (wsV RX0 52 RX0 yX0_reach wsX0_reach) := goodIn_app (goodIn_of _ (by decide +kernel)) ggX0_goOn_X0_reach
theorem dX0_goOn_0 : decode cX0_goOn 0 = .ok (.iload_n 3, 1) := by decide +kernel
theorem dX0_goOn_1 : decode cX0_goOn 1 = .ok (.iconst 3, 1) := by decide +kernel
theorem dX0_goOn_2 : decode cX0_goOn 2 = .ok (.iand, 1) := by decide +kernel
theorem dX0_goOn_3 : decode cX0_goOn 3 = .ok (.istore 4, 2) := by decide +kernel
theorem dX0_goOn_5 : decode cX0_goOn 5 = .ok (.iconst 0, 1) := by decide +kernel
theorem dX0_goOn_6 : decode cX0_goOn 6 = .ok (.istore 5, 2) := by decide +kernel
theorem dX0_goOn_8 : decode cX0_goOn 8 = .ok (.iload 5, 2) := by decide +kernel
theorem dX0_goOn_10 : decode cX0_goOn 10 = .ok (.bipush 64, 2) := by decide +kernel
theorem dX0_goOn_12 : decode cX0_goOn 12 = .ok (.if_icmp .ge 152, 3) := by decide +kernel
theorem dX0_goOn_15 : decode cX0_goOn 15 = .ok (.aload_n 0, 1) := by decide +kernel
theorem dX0_goOn_16 : decode cX0_goOn 16 = .ok (.getfield 31, 3) := by decide +kernel
theorem dX0_goOn_19 : decode cX0_goOn 19 = .ok (.ifCond .ne 145, 3) := by decide +kernel
theorem dX0_goOn_22 : decode cX0_goOn 22 = .ok (.iload 5, 2) := by decide +kernel
theorem dX0_goOn_24 : decode cX0_goOn 24 = .ok (.iconst 3, 1) := by decide +kernel
theorem dX0_goOn_25 : decode cX0_goOn 25 = .ok (.iand, 1) := by decide +kernel
theorem dX0_goOn_26 : decode cX0_goOn 26 = .ok (.istore 6, 2) := by decide +kernel
theorem dX0_goOn_28 : decode cX0_goOn 28 = .ok (.aload_n 1, 1) := by decide +kernel
theorem dX0_goOn_29 : decode cX0_goOn 29 = .ok (.iload_n 2, 1) := by decide +kernel
theorem dX0_goOn_30 : decode cX0_goOn 30 = .ok (.iload_n 3, 1) := by decide +kernel
theorem dX0_goOn_31 : decode cX0_goOn 31 = .ok (.iconst 4, 1) := by decide +kernel
theorem dX0_goOn_32 : decode cX0_goOn 32 = .ok (.ishr, 1) := by decide +kernel
theorem dX0_goOn_33 : decode cX0_goOn 33 = .ok (.iload 5, 2) := by decide +kernel
theorem dX0_goOn_35 : decode cX0_goOn 35 = .ok (.iconst 4, 1) := by decide +kernel
theorem dX0_goOn_36 : decode cX0_goOn 36 = .ok (.ishr, 1) := by decide +kernel
theorem dX0_goOn_37 : decode cX0_goOn 37 = .ok (.iload 4, 2) := by decide +kernel
theorem dX0_goOn_39 : decode cX0_goOn 39 = .ok (.invokevirtual 60, 3) := by decide +kernel
theorem dX0_goOn_42 : decode cX0_goOn 42 = .ok (.istore 7, 2) := by decide +kernel
theorem dX0_goOn_44 : decode cX0_goOn 44 = .ok (.aload_n 1, 1) := by decide +kernel
theorem dX0_goOn_45 : decode cX0_goOn 45 = .ok (.iload_n 2, 1) := by decide +kernel
theorem dX0_goOn_46 : decode cX0_goOn 46 = .ok (.iload_n 3, 1) := by decide +kernel
theorem dX0_goOn_47 : decode cX0_goOn 47 = .ok (.iconst 2, 1) := by decide +kernel
theorem dX0_goOn_48 : decode cX0_goOn 48 = .ok (.ishr, 1) := by decide +kernel
theorem dX0_goOn_49 : decode cX0_goOn 49 = .ok (.iconst 3, 1) := by decide +kernel
theorem dX0_goOn_50 : decode cX0_goOn 50 = .ok (.iand, 1) := by decide +kernel
theorem dX0_goOn_51 : decode cX0_goOn 51 = .ok (.iload 5, 2) := by decide +kernel
theorem dX0_goOn_53 : decode cX0_goOn 53 = .ok (.iconst 2, 1) := by decide +kernel
theorem dX0_goOn_54 : decode cX0_goOn 54 = .ok (.ishr, 1) := by decide +kernel
theorem dX0_goOn_55 : decode cX0_goOn 55 = .ok (.iconst 3, 1) := by decide +kernel
theorem dX0_goOn_56 : decode cX0_goOn 56 = .ok (.iand, 1) := by decide +kernel
theorem dX0_goOn_57 : decode cX0_goOn 57 = .ok (.iload 4, 2) := by decide +kernel
theorem dX0_goOn_59 : decode cX0_goOn 59 = .ok (.invokevirtual 60, 3) := by decide +kernel
theorem dX0_goOn_62 : decode cX0_goOn 62 = .ok (.istore 8, 2) := by decide +kernel
theorem dX0_goOn_64 : decode cX0_goOn 64 = .ok (.aload_n 1, 1) := by decide +kernel
theorem dX0_goOn_65 : decode cX0_goOn 65 = .ok (.iload_n 2, 1) := by decide +kernel
theorem dX0_goOn_66 : decode cX0_goOn 66 = .ok (.iload 7, 2) := by decide +kernel
theorem dX0_goOn_68 : decode cX0_goOn 68 = .ok (.iload 6, 2) := by decide +kernel
theorem dX0_goOn_70 : decode cX0_goOn 70 = .ok (.invokevirtual 64, 3) := by decide +kernel
theorem dX0_goOn_73 : decode cX0_goOn 73 = .ok (.istore 9, 2) := by decide +kernel
theorem dX0_goOn_75 : decode cX0_goOn 75 = .ok (.aload_n 1, 1) := by decide +kernel
theorem dX0_goOn_76 : decode cX0_goOn 76 = .ok (.iload_n 2, 1) := by decide +kernel
theorem dX0_goOn_77 : decode cX0_goOn 77 = .ok (.iload 8, 2) := by decide +kernel
theorem dX0_goOn_79 : decode cX0_goOn 79 = .ok (.iload 6, 2) := by decide +kernel
theorem dX0_goOn_81 : decode cX0_goOn 81 = .ok (.invokevirtual 64, 3) := by decide +kernel
theorem dX0_goOn_84 : decode cX0_goOn 84 = .ok (.istore 10, 2) := by decide +kernel
theorem dX0_goOn_86 : decode cX0_goOn 86 = .ok (.iload 5, 2) := by decide +kernel
theorem dX0_goOn_88 : decode cX0_goOn 88 = .ok (.iload 9, 2) := by decide +kernel
theorem dX0_goOn_90 : decode cX0_goOn 90 = .ok (.bipush 6, 2) := by decide +kernel
theorem dX0_goOn_92 : decode cX0_goOn 92 = .ok (.ishl, 1) := by decide +kernel
theorem dX0_goOn_93 : decode cX0_goOn 93 = .ok (.ior, 1) := by decide +kernel
theorem dX0_goOn_94 : decode cX0_goOn 94 = .ok (.iload 10, 2) := by decide +kernel
theorem dX0_goOn_96 : decode cX0_goOn 96 = .ok (.bipush 8, 2) := by decide +kernel
theorem dX0_goOn_98 : decode cX0_goOn 98 = .ok (.ishl, 1) := by decide +kernel
theorem dX0_goOn_99 : decode cX0_goOn 99 = .ok (.ior, 1) := by decide +kernel
theorem dX0_goOn_100 : decode cX0_goOn 100 = .ok (.istore 11, 2) := by decide +kernel
theorem dX0_goOn_102 : decode cX0_goOn 102 = .ok (.iload 9, 2) := by decide +kernel
theorem dX0_goOn_104 : decode cX0_goOn 104 = .ok (.iload 10, 2) := by decide +kernel
theorem dX0_goOn_106 : decode cX0_goOn 106 = .ok (.if_icmp .eq 14, 3) := by decide +kernel
theorem dX0_goOn_109 : decode cX0_goOn 109 = .ok (.aload_n 0, 1) := by decide +kernel
theorem dX0_goOn_110 : decode cX0_goOn 110 = .ok (.iload_n 2, 1) := by decide +kernel
theorem dX0_goOn_111 : decode cX0_goOn 111 = .ok (.iload_n 3, 1) := by decide +kernel
theorem dX0_goOn_112 : decode cX0_goOn 112 = .ok (.iload 11, 2) := by decide +kernel
theorem dX0_goOn_114 : decode cX0_goOn 114 = .ok (.invokevirtual 67, 3) := by decide +kernel
theorem dX0_goOn_117 : decode cX0_goOn 117 = .ok (.goto 41, 3) := by decide +kernel
theorem dX0_goOn_120 : decode cX0_goOn 120 = .ok (.aload_n 0, 1) := by decide +kernel
theorem dX0_goOn_121 : decode cX0_goOn 121 = .ok (.aload_n 1, 1) := by decide +kernel
theorem dX0_goOn_122 : decode cX0_goOn 122 = .ok (.iload_n 2, 1) := by decide +kernel
theorem dX0_goOn_123 : decode cX0_goOn 123 = .ok (.iload 7, 2) := by decide +kernel
theorem dX0_goOn_125 : decode cX0_goOn 125 = .ok (.iload 6, 2) := by decide +kernel
theorem dX0_goOn_127 : decode cX0_goOn 127 = .ok (.invokevirtual 70, 3) := by decide +kernel
theorem dX0_goOn_130 : decode cX0_goOn 130 = .ok (.aload_n 1, 1) := by decide +kernel
theorem dX0_goOn_131 : decode cX0_goOn 131 = .ok (.iload_n 2, 1) := by decide +kernel
theorem dX0_goOn_132 : decode cX0_goOn 132 = .ok (.iload 8, 2) := by decide +kernel
theorem dX0_goOn_134 : decode cX0_goOn 134 = .ok (.iload 6, 2) := by decide +kernel
theorem dX0_goOn_136 : decode cX0_goOn 136 = .ok (.invokevirtual 70, 3) := by decide +kernel
theorem dX0_goOn_139 : decode cX0_goOn 139 = .ok (.iload 4, 2) := by decide +kernel
theorem dX0_goOn_141 : decode cX0_goOn 141 = .ok (.iconst 1, 1) := by decide +kernel
theorem dX0_goOn_142 : decode cX0_goOn 142 = .ok (.iadd, 1) := by decide +kernel
theorem dX0_goOn_143 : decode cX0_goOn 143 = .ok (.aload_n 1, 1) := by decide +kernel
theorem dX0_goOn_144 : decode cX0_goOn 144 = .ok (.iload_n 2, 1) := by decide +kernel
theorem dX0_goOn_145 : decode cX0_goOn 145 = .ok (.invokevirtual 73, 3) := by decide +kernel
theorem dX0_goOn_148 : decode cX0_goOn 148 = .ok (.irem, 1) := by decide +kernel
theorem dX0_goOn_149 : decode cX0_goOn 149 = .ok (.invokestatic 48, 3) := by decide +kernel
theorem dX0_goOn_152 : decode cX0_goOn 152 = .ok (.iload_n 3, 1) := by decide +kernel
theorem dX0_goOn_153 : decode cX0_goOn 153 = .ok (.iload 11, 2) := by decide +kernel
theorem dX0_goOn_155 : decode cX0_goOn 155 = .ok (.invokevirtual 52, 3) := by decide +kernel
theorem dX0_goOn_158 : decode cX0_goOn 158 = .ok (.iinc 5 1, 3) := by decide +kernel
theorem dX0_goOn_161 : decode cX0_goOn 161 = .ok (.goto (-153), 3) := by decide +kernel
theorem dX0_goOn_164 : decode cX0_goOn 164 = .ok (.return_, 1) := by decide +kernel
set_option maxRecDepth 20000 in
theorem ggX0_write_X0_number : GoodIn wsX0_write wsX0_number := goodIn_r _ [9] (by decide +kernel) (by decide +kernel)
set_option maxRecDepth 20000 in
theorem gX0_write_X0_number : GoodIn wsX0_write (va_wsS RX0 77 yX0_number wsX0_number) := goodIn_app (goodIn_of _ (by decide +kernel)) ggX0_write_X0_number
theorem dX0_write_0 : decode cX0_write 0 = .ok (.aload_n 0, 1) := by decide +kernel
theorem dX0_write_1 : decode cX0_write 1 = .ok (.aload_n 0, 1) := by decide +kernel
theorem dX0_write_2 : decode cX0_write 2 = .ok (.getfield 24, 3) := by decide +kernel
theorem dX0_write_5 : decode cX0_write 5 = .ok (.iload_n 2, 1) := by decide +kernel
theorem dX0_write_6 : decode cX0_write 6 = .ok (.iaload, 1) := by decide +kernel
theorem dX0_write_7 : decode cX0_write 7 = .ok (.iconst 1, 1) := by decide +kernel
theorem dX0_write_8 : decode cX0_write 8 = .ok (.iadd, 1) := by decide +kernel
theorem dX0_write_9 : decode cX0_write 9 = .ok (.putfield 31, 3) := by decide +kernel
theorem dX0_write_12 : decode cX0_write 12 = .ok (.iload_n 2, 1) := by decide +kernel
theorem dX0_write_13 : decode cX0_write 13 = .ok (.istore 4, 2) := by decide +kernel
theorem dX0_write_15 : decode cX0_write 15 = .ok (.iload_n 3, 1) := by decide +kernel
theorem dX0_write_16 : decode cX0_write 16 = .ok (.istore 5, 2) := by decide +kernel
theorem dX0_write_18 : decode cX0_write 18 = .ok (.aload_n 0, 1) := by decide +kernel
theorem dX0_write_19 : decode cX0_write 19 = .ok (.getfield 31, 3) := by decide +kernel
theorem dX0_write_22 : decode cX0_write 22 = .ok (.iconst 1, 1) := by decide +kernel
theorem dX0_write_23 : decode cX0_write 23 = .ok (.isub, 1) := by decide +kernel
theorem dX0_write_24 : decode cX0_write 24 = .ok (.istore 6, 2) := by decide +kernel
theorem dX0_write_26 : decode cX0_write 26 = .ok (.iload 6, 2) := by decide +kernel
theorem dX0_write_28 : decode cX0_write 28 = .ok (.ifCond .lt 128, 3) := by decide +kernel
theorem dX0_write_31 : decode cX0_write 31 = .ok (.iload 4, 2) := by decide +kernel
theorem dX0_write_33 : decode cX0_write 33 = .ok (.iconst (-1), 1) := by decide +kernel
theorem dX0_write_34 : decode cX0_write 34 = .ok (.if_icmp .eq 122, 3) := by decide +kernel
theorem dX0_write_37 : decode cX0_write 37 = .ok (.aload_n 0, 1) := by decide +kernel
theorem dX0_write_38 : decode cX0_write 38 = .ok (.getfield 11, 3) := by decide +kernel
theorem dX0_write_41 : decode cX0_write 41 = .ok (.iconst 5, 1) := by decide +kernel
theorem dX0_write_42 : decode cX0_write 42 = .ok (.iload 6, 2) := by decide +kernel
theorem dX0_write_44 : decode cX0_write 44 = .ok (.imul, 1) := by decide +kernel
theorem dX0_write_45 : decode cX0_write 45 = .ok (.iload_n 1, 1) := by decide +kernel
theorem dX0_write_46 : decode cX0_write 46 = .ok (.iload 5, 2) := by decide +kernel
theorem dX0_write_48 : decode cX0_write 48 = .ok (.iconst 4, 1) := by decide +kernel
theorem dX0_write_49 : decode cX0_write 49 = .ok (.ishr, 1) := by decide +kernel
theorem dX0_write_50 : decode cX0_write 50 = .ok (.iconst 3, 1) := by decide +kernel
theorem dX0_write_51 : decode cX0_write 51 = .ok (.iand, 1) := by decide +kernel
theorem dX0_write_52 : decode cX0_write 52 = .ok (.invokestatic 77, 3) := by decide +kernel
theorem dX0_write_55 : decode cX0_write 55 = .ok (.iastore, 1) := by decide +kernel
theorem dX0_write_56 : decode cX0_write 56 = .ok (.aload_n 0, 1) := by decide +kernel
theorem dX0_write_57 : decode cX0_write 57 = .ok (.getfield 11, 3) := by decide +kernel
theorem dX0_write_60 : decode cX0_write 60 = .ok (.iconst 5, 1) := by decide +kernel
theorem dX0_write_61 : decode cX0_write 61 = .ok (.iload 6, 2) := by decide +kernel
theorem dX0_write_63 : decode cX0_write 63 = .ok (.imul, 1) := by decide +kernel
theorem dX0_write_64 : decode cX0_write 64 = .ok (.iconst 1, 1) := by decide +kernel
theorem dX0_write_65 : decode cX0_write 65 = .ok (.iadd, 1) := by decide +kernel
theorem dX0_write_66 : decode cX0_write 66 = .ok (.iload_n 1, 1) := by decide +kernel
theorem dX0_write_67 : decode cX0_write 67 = .ok (.iload 5, 2) := by decide +kernel
theorem dX0_write_69 : decode cX0_write 69 = .ok (.iconst 2, 1) := by decide +kernel
theorem dX0_write_70 : decode cX0_write 70 = .ok (.ishr, 1) := by decide +kernel
theorem dX0_write_71 : decode cX0_write 71 = .ok (.iconst 3, 1) := by decide +kernel
theorem dX0_write_72 : decode cX0_write 72 = .ok (.iand, 1) := by decide +kernel
theorem dX0_write_73 : decode cX0_write 73 = .ok (.invokestatic 77, 3) := by decide +kernel
theorem dX0_write_76 : decode cX0_write 76 = .ok (.iastore, 1) := by decide +kernel
theorem dX0_write_77 : decode cX0_write 77 = .ok (.aload_n 0, 1) := by decide +kernel
theorem dX0_write_78 : decode cX0_write 78 = .ok (.getfield 11, 3) := by decide +kernel
theorem dX0_write_81 : decode cX0_write 81 = .ok (.iconst 5, 1) := by decide +kernel
theorem dX0_write_82 : decode cX0_write 82 = .ok (.iload 6, 2) := by decide +kernel
theorem dX0_write_84 : decode cX0_write 84 = .ok (.imul, 1) := by decide +kernel
theorem dX0_write_85 : decode cX0_write 85 = .ok (.iconst 2, 1) := by decide +kernel
theorem dX0_write_86 : decode cX0_write 86 = .ok (.iadd, 1) := by decide +kernel
theorem dX0_write_87 : decode cX0_write 87 = .ok (.iload_n 1, 1) := by decide +kernel
theorem dX0_write_88 : decode cX0_write 88 = .ok (.iload 5, 2) := by decide +kernel
theorem dX0_write_90 : decode cX0_write 90 = .ok (.iconst 3, 1) := by decide +kernel
theorem dX0_write_91 : decode cX0_write 91 = .ok (.iand, 1) := by decide +kernel
theorem dX0_write_92 : decode cX0_write 92 = .ok (.invokestatic 77, 3) := by decide +kernel
theorem dX0_write_95 : decode cX0_write 95 = .ok (.iastore, 1) := by decide +kernel
theorem dX0_write_96 : decode cX0_write 96 = .ok (.aload_n 0, 1) := by decide +kernel
theorem dX0_write_97 : decode cX0_write 97 = .ok (.getfield 11, 3) := by decide +kernel
theorem dX0_write_100 : decode cX0_write 100 = .ok (.iconst 5, 1) := by decide +kernel
theorem dX0_write_101 : decode cX0_write 101 = .ok (.iload 6, 2) := by decide +kernel
theorem dX0_write_103 : decode cX0_write 103 = .ok (.imul, 1) := by decide +kernel
theorem dX0_write_104 : decode cX0_write 104 = .ok (.iconst 3, 1) := by decide +kernel
theorem dX0_write_105 : decode cX0_write 105 = .ok (.iadd, 1) := by decide +kernel
theorem dX0_write_106 : decode cX0_write 106 = .ok (.iload 5, 2) := by decide +kernel
theorem dX0_write_108 : decode cX0_write 108 = .ok (.bipush 6, 2) := by decide +kernel
theorem dX0_write_110 : decode cX0_write 110 = .ok (.ishr, 1) := by decide +kernel
theorem dX0_write_111 : decode cX0_write 111 = .ok (.iconst 3, 1) := by decide +kernel
theorem dX0_write_112 : decode cX0_write 112 = .ok (.iand, 1) := by decide +kernel
theorem dX0_write_113 : decode cX0_write 113 = .ok (.iastore, 1) := by decide +kernel
theorem dX0_write_114 : decode cX0_write 114 = .ok (.aload_n 0, 1) := by decide +kernel
theorem dX0_write_115 : decode cX0_write 115 = .ok (.getfield 11, 3) := by decide +kernel
theorem dX0_write_118 : decode cX0_write 118 = .ok (.iconst 5, 1) := by decide +kernel
theorem dX0_write_119 : decode cX0_write 119 = .ok (.iload 6, 2) := by decide +kernel
theorem dX0_write_121 : decode cX0_write 121 = .ok (.imul, 1) := by decide +kernel
theorem dX0_write_122 : decode cX0_write 122 = .ok (.iconst 4, 1) := by decide +kernel
theorem dX0_write_123 : decode cX0_write 123 = .ok (.iadd, 1) := by decide +kernel
theorem dX0_write_124 : decode cX0_write 124 = .ok (.iload 5, 2) := by decide +kernel
theorem dX0_write_126 : decode cX0_write 126 = .ok (.bipush 8, 2) := by decide +kernel
theorem dX0_write_128 : decode cX0_write 128 = .ok (.ishr, 1) := by decide +kernel
theorem dX0_write_129 : decode cX0_write 129 = .ok (.iconst 3, 1) := by decide +kernel
theorem dX0_write_130 : decode cX0_write 130 = .ok (.iand, 1) := by decide +kernel
theorem dX0_write_131 : decode cX0_write 131 = .ok (.iastore, 1) := by decide +kernel
theorem dX0_write_132 : decode cX0_write 132 = .ok (.aload_n 0, 1) := by decide +kernel
theorem dX0_write_133 : decode cX0_write 133 = .ok (.getfield 21, 3) := by decide +kernel
theorem dX0_write_136 : decode cX0_write 136 = .ok (.iload 4, 2) := by decide +kernel
theorem dX0_write_138 : decode cX0_write 138 = .ok (.iaload, 1) := by decide +kernel
theorem dX0_write_139 : decode cX0_write 139 = .ok (.istore 5, 2) := by decide +kernel
theorem dX0_write_141 : decode cX0_write 141 = .ok (.aload_n 0, 1) := by decide +kernel
theorem dX0_write_142 : decode cX0_write 142 = .ok (.getfield 18, 3) := by decide +kernel
theorem dX0_write_145 : decode cX0_write 145 = .ok (.iload 4, 2) := by decide +kernel
theorem dX0_write_147 : decode cX0_write 147 = .ok (.iaload, 1) := by decide +kernel
theorem dX0_write_148 : decode cX0_write 148 = .ok (.istore 4, 2) := by decide +kernel
theorem dX0_write_150 : decode cX0_write 150 = .ok (.iinc 6 (-1), 3) := by decide +kernel
theorem dX0_write_153 : decode cX0_write 153 = .ok (.goto (-127), 3) := by decide +kernel
theorem dX0_write_156 : decode cX0_write 156 = .ok (.return_, 1) := by decide +kernel
theorem dX0_number_0 : decode cX0_number 0 = .ok (.iload_n 1, 1) := by decide +kernel
theorem dX0_number_1 : decode cX0_number 1 = .ok (.iconst 3, 1) := by decide +kernel
theorem dX0_number_2 : decode cX0_number 2 = .ok (.if_icmp .ge 11, 3) := by decide +kernel
theorem dX0_number_5 : decode cX0_number 5 = .ok (.iconst 3, 1) := by decide +kernel
theorem dX0_number_6 : decode cX0_number 6 = .ok (.iload_n 0, 1) := by decide +kernel
theorem dX0_number_7 : decode cX0_number 7 = .ok (.imul, 1) := by decide +kernel
theorem dX0_number_8 : decode cX0_number 8 = .ok (.iload_n 1, 1) := by decide +kernel
theorem dX0_number_9 : decode cX0_number 9 = .ok (.iadd, 1) := by decide +kernel
theorem dX0_number_10 : decode cX0_number 10 = .ok (.goto 5, 3) := by decide +kernel
theorem dX0_number_13 : decode cX0_number 13 = .ok (.bipush 9, 2) := by decide +kernel
theorem dX0_number_15 : decode cX0_number 15 = .ok (.ireturn, 1) := by decide +kernel
theorem dX1_init_0 : decode cX1_init 0 = .ok (.aload_n 0, 1) := by decide +kernel
theorem dX1_init_1 : decode cX1_init 1 = .ok (.invokespecial 3, 3) := by decide +kernel
theorem dX1_init_4 : decode cX1_init 4 = .ok (.aload_n 0, 1) := by decide +kernel
theorem dX1_init_5 : decode cX1_init 5 = .ok (.bipush 36, 2) := by decide +kernel
theorem dX1_init_7 : decode cX1_init 7 = .ok (.newarray .int, 2) := by decide +kernel
theorem dX1_init_9 : decode cX1_init 9 = .ok (.putfield 9, 3) := by decide +kernel
theorem dX1_init_12 : decode cX1_init 12 = .ok (.aload_n 0, 1) := by decide +kernel
theorem dX1_init_13 : decode cX1_init 13 = .ok (.bipush 36, 2) := by decide +kernel
theorem dX1_init_15 : decode cX1_init 15 = .ok (.newarray .int, 2) := by decide +kernel
theorem dX1_init_17 : decode cX1_init 17 = .ok (.putfield 15, 3) := by decide +kernel
theorem dX1_init_20 : decode cX1_init 20 = .ok (.aload_n 0, 1) := by decide +kernel
theorem dX1_init_21 : decode cX1_init 21 = .ok (.bipush 36, 2) := by decide +kernel
theorem dX1_init_23 : decode cX1_init 23 = .ok (.newarray .int, 2) := by decide +kernel
theorem dX1_init_25 : decode cX1_init 25 = .ok (.putfield 18, 3) := by decide +kernel
theorem dX1_init_28 : decode cX1_init 28 = .ok (.aload_n 0, 1) := by decide +kernel
theorem dX1_init_29 : decode cX1_init 29 = .ok (.iconst 3, 1) := by decide +kernel
theorem dX1_init_30 : decode cX1_init 30 = .ok (.newarray .int, 2) := by decide +kernel
theorem dX1_init_32 : decode cX1_init 32 = .ok (.putfield 21, 3) := by decide +kernel
theorem dX1_init_35 : decode cX1_init 35 = .ok (.aload_n 0, 1) := by decide +kernel
theorem dX1_init_36 : decode cX1_init 36 = .ok (.iconst 3, 1) := by decide +kernel
theorem dX1_init_37 : decode cX1_init 37 = .ok (.newarray .int, 2) := by decide +kernel
theorem dX1_init_39 : decode cX1_init 39 = .ok (.putfield 24, 3) := by decide +kernel
theorem dX1_init_42 : decode cX1_init 42 = .ok (.return_, 1) := by decide +kernel
set_option maxRecDepth 20000 in
theorem ggX1_build_X4_wallIn : GoodIn wsX1_build wsX4_wallIn := goodIn_r _ [9] (by decide +kernel) (by decide +kernel)
set_option maxRecDepth 20000 in
theorem gX1_build_X4_wallIn_n40 : GoodIn wsX1_build (wsX4_wallIn) := ggX1_build_X4_wallIn
set_option maxRecDepth 20000 in
theorem ggX1_build_X1_buildAct : GoodIn wsX1_build wsX1_buildAct := goodIn_r _ [14, 15, 16, 17, 18, 19, 20, 21, 22, 23, 24, 25, 26, 27, 28, 29, 30, 31, 32, 33, 34, 35, 36, 37, 38, 13, 39, 40, 41, 42, 43, 44, 45, 46, 47, 48, 49, 50, 51, 52, 53, 54, 55, 56, 57, 58, 59, 60, 61, 62, 63, 64, 65, 66, 67, 68] (by decide +kernel) (by decide +kernel)
set_option maxRecDepth 20000 in
theorem gX1_build_X1_buildAct : GoodIn wsX1_build (wsV RX1 47 RX1 yX1_buildAct wsX1_buildAct) := goodIn_app (goodIn_of _ (by decide +kernel)) ggX1_build_X1_buildAct
theorem dX1_build_0 : decode cX1_build 0 = .ok (.aload_n 0, 1) := by decide +kernel
theorem dX1_build_1 : decode cX1_build 1 = .ok (.iconst 3, 1) := by decide +kernel
theorem dX1_build_2 : decode cX1_build 2 = .ok (.iload_n 2, 1) := by decide +kernel
theorem dX1_build_3 : decode cX1_build 3 = .ok (.imul, 1) := by decide +kernel
theorem dX1_build_4 : decode cX1_build 4 = .ok (.putfield 27, 3) := by decide +kernel
theorem dX1_build_7 : decode cX1_build 7 = .ok (.aload_n 0, 1) := by decide +kernel
theorem dX1_build_8 : decode cX1_build 8 = .ok (.lconst 1, 1) := by decide +kernel
theorem dX1_build_9 : decode cX1_build 9 = .ok (.putfield 31, 3) := by decide +kernel
theorem dX1_build_12 : decode cX1_build 12 = .ok (.iconst 0, 1) := by decide +kernel
theorem dX1_build_13 : decode cX1_build 13 = .ok (.istore 4, 2) := by decide +kernel
theorem dX1_build_15 : decode cX1_build 15 = .ok (.iload 4, 2) := by decide +kernel
theorem dX1_build_17 : decode cX1_build 17 = .ok (.iload_n 2, 1) := by decide +kernel
theorem dX1_build_18 : decode cX1_build 18 = .ok (.if_icmp .ge 105, 3) := by decide +kernel
theorem dX1_build_21 : decode cX1_build 21 = .ok (.aload_n 0, 1) := by decide +kernel
theorem dX1_build_22 : decode cX1_build 22 = .ok (.dup, 1) := by decide +kernel
theorem dX1_build_23 : decode cX1_build 23 = .ok (.getfield 31, 3) := by decide +kernel
theorem dX1_build_26 : decode cX1_build 26 = .ok (.aload_n 1, 1) := by decide +kernel
theorem dX1_build_27 : decode cX1_build 27 = .ok (.iload 4, 2) := by decide +kernel
theorem dX1_build_29 : decode cX1_build 29 = .ok (.aaload, 1) := by decide +kernel
theorem dX1_build_30 : decode cX1_build 30 = .ok (.getfield 35, 3) := by decide +kernel
theorem dX1_build_33 : decode cX1_build 33 = .ok (.iconst 2, 1) := by decide +kernel
theorem dX1_build_34 : decode cX1_build 34 = .ok (.iload 4, 2) := by decide +kernel
theorem dX1_build_36 : decode cX1_build 36 = .ok (.imul, 1) := by decide +kernel
theorem dX1_build_37 : decode cX1_build 37 = .ok (.ishl, 1) := by decide +kernel
theorem dX1_build_38 : decode cX1_build 38 = .ok (.lshl, 1) := by decide +kernel
theorem dX1_build_39 : decode cX1_build 39 = .ok (.putfield 31, 3) := by decide +kernel
theorem dX1_build_42 : decode cX1_build 42 = .ok (.aload_n 0, 1) := by decide +kernel
theorem dX1_build_43 : decode cX1_build 43 = .ok (.getfield 24, 3) := by decide +kernel
theorem dX1_build_46 : decode cX1_build 46 = .ok (.iload 4, 2) := by decide +kernel
theorem dX1_build_48 : decode cX1_build 48 = .ok (.aload_n 1, 1) := by decide +kernel
theorem dX1_build_49 : decode cX1_build 49 = .ok (.iload 4, 2) := by decide +kernel
theorem dX1_build_51 : decode cX1_build 51 = .ok (.aaload, 1) := by decide +kernel
theorem dX1_build_52 : decode cX1_build 52 = .ok (.getfield 35, 3) := by decide +kernel
theorem dX1_build_55 : decode cX1_build 55 = .ok (.iastore, 1) := by decide +kernel
theorem dX1_build_56 : decode cX1_build 56 = .ok (.aload_n 0, 1) := by decide +kernel
theorem dX1_build_57 : decode cX1_build 57 = .ok (.getfield 21, 3) := by decide +kernel
theorem dX1_build_60 : decode cX1_build 60 = .ok (.iload 4, 2) := by decide +kernel
theorem dX1_build_62 : decode cX1_build 62 = .ok (.iload_n 3, 1) := by decide +kernel
theorem dX1_build_63 : decode cX1_build 63 = .ok (.iload 4, 2) := by decide +kernel
theorem dX1_build_65 : decode cX1_build 65 = .ok (.invokestatic 40, 3) := by decide +kernel
theorem dX1_build_68 : decode cX1_build 68 = .ok (.iconst 1, 1) := by decide +kernel
theorem dX1_build_69 : decode cX1_build 69 = .ok (.if_icmp .ne 13, 3) := by decide +kernel
theorem dX1_build_72 : decode cX1_build 72 = .ok (.aload_n 1, 1) := by decide +kernel
theorem dX1_build_73 : decode cX1_build 73 = .ok (.iload 4, 2) := by decide +kernel
theorem dX1_build_75 : decode cX1_build 75 = .ok (.aaload, 1) := by decide +kernel
theorem dX1_build_76 : decode cX1_build 76 = .ok (.getfield 44, 3) := by decide +kernel
theorem dX1_build_79 : decode cX1_build 79 = .ok (.goto 4, 3) := by decide +kernel
theorem dX1_build_82 : decode cX1_build 82 = .ok (.iconst 0, 1) := by decide +kernel
theorem dX1_build_83 : decode cX1_build 83 = .ok (.iastore, 1) := by decide +kernel
theorem dX1_build_84 : decode cX1_build 84 = .ok (.iconst 0, 1) := by decide +kernel
theorem dX1_build_85 : decode cX1_build 85 = .ok (.istore 5, 2) := by decide +kernel
theorem dX1_build_87 : decode cX1_build 87 = .ok (.iload 5, 2) := by decide +kernel
theorem dX1_build_89 : decode cX1_build 89 = .ok (.iconst 3, 1) := by decide +kernel
theorem dX1_build_90 : decode cX1_build 90 = .ok (.if_icmp .ge 27, 3) := by decide +kernel
theorem dX1_build_93 : decode cX1_build 93 = .ok (.aload_n 0, 1) := by decide +kernel
theorem dX1_build_94 : decode cX1_build 94 = .ok (.aload_n 1, 1) := by decide +kernel
theorem dX1_build_95 : decode cX1_build 95 = .ok (.iload 4, 2) := by decide +kernel
theorem dX1_build_97 : decode cX1_build 97 = .ok (.aaload, 1) := by decide +kernel
theorem dX1_build_98 : decode cX1_build 98 = .ok (.iload_n 3, 1) := by decide +kernel
theorem dX1_build_99 : decode cX1_build 99 = .ok (.iload 4, 2) := by decide +kernel
theorem dX1_build_101 : decode cX1_build 101 = .ok (.invokestatic 40, 3) := by decide +kernel
theorem dX1_build_104 : decode cX1_build 104 = .ok (.iload 4, 2) := by decide +kernel
theorem dX1_build_106 : decode cX1_build 106 = .ok (.iload 5, 2) := by decide +kernel
theorem dX1_build_108 : decode cX1_build 108 = .ok (.invokevirtual 47, 3) := by decide +kernel
theorem dX1_build_111 : decode cX1_build 111 = .ok (.iinc 5 1, 3) := by decide +kernel
theorem dX1_build_114 : decode cX1_build 114 = .ok (.goto (-27), 3) := by decide +kernel
theorem dX1_build_117 : decode cX1_build 117 = .ok (.iinc 4 1, 3) := by decide +kernel
theorem dX1_build_120 : decode cX1_build 120 = .ok (.goto (-105), 3) := by decide +kernel
theorem dX1_build_123 : decode cX1_build 123 = .ok (.return_, 1) := by decide +kernel
set_option maxRecDepth 20000 in
theorem ggX1_buildAct_X2_answer : GoodIn wsX1_buildAct wsX2_answer := goodIn_r _ [13, 14, 15, 16, 17, 12, 18, 19, 20, 21, 22, 47, 48, 49, 50, 51, 52, 53, 54, 55] (by decide +kernel) (by decide +kernel)
set_option maxRecDepth 20000 in
theorem gX1_buildAct_X2_answer : GoodIn wsX1_buildAct (wsV RX1 51 RX2 yX2_answer wsX2_answer) := goodIn_app (goodIn_of _ (by decide +kernel)) ggX1_buildAct_X2_answer
set_option maxRecDepth 20000 in
theorem ggX1_buildAct_X1_place : GoodIn wsX1_buildAct wsX1_place := goodIn_r _ [26] (by decide +kernel) (by decide +kernel)
set_option maxRecDepth 20000 in
theorem gX1_buildAct_X1_place : GoodIn wsX1_buildAct (va_wsS RX1 55 yX1_place wsX1_place) := goodIn_app (goodIn_of _ (by decide +kernel)) ggX1_buildAct_X1_place
set_option maxRecDepth 20000 in
theorem ggX1_buildAct_X2_next : GoodIn wsX1_buildAct wsX2_next := goodIn_r _ [30, 14, 31, 16, 17, 12, 18, 32, 33, 34, 35, 36, 6, 7, 8, 37, 38, 39, 47, 48, 49, 50, 51, 52, 53, 54, 55] (by decide +kernel) (by decide +kernel)
set_option maxRecDepth 20000 in
theorem gX1_buildAct_X2_next : GoodIn wsX1_buildAct (wsV RX1 58 RX2 yX2_next wsX2_next) := goodIn_app (goodIn_of _ (by decide +kernel)) ggX1_buildAct_X2_next
theorem dX1_buildAct_0 : decode cX1_buildAct 0 = .ok (.iconst 0, 1) := by decide +kernel
theorem dX1_buildAct_1 : decode cX1_buildAct 1 = .ok (.istore 5, 2) := by decide +kernel
theorem dX1_buildAct_3 : decode cX1_buildAct 3 = .ok (.iload 5, 2) := by decide +kernel
theorem dX1_buildAct_5 : decode cX1_buildAct 5 = .ok (.iconst 4, 1) := by decide +kernel
theorem dX1_buildAct_6 : decode cX1_buildAct 6 = .ok (.if_icmp .ge 109, 3) := by decide +kernel
theorem dX1_buildAct_9 : decode cX1_buildAct 9 = .ok (.aload_n 1, 1) := by decide +kernel
theorem dX1_buildAct_10 : decode cX1_buildAct 10 = .ok (.iconst 1, 1) := by decide +kernel
theorem dX1_buildAct_11 : decode cX1_buildAct 11 = .ok (.iload 5, 2) := by decide +kernel
theorem dX1_buildAct_13 : decode cX1_buildAct 13 = .ok (.iload 4, 2) := by decide +kernel
theorem dX1_buildAct_15 : decode cX1_buildAct 15 = .ok (.invokevirtual 51, 3) := by decide +kernel
theorem dX1_buildAct_18 : decode cX1_buildAct 18 = .ok (.istore 6, 2) := by decide +kernel
theorem dX1_buildAct_20 : decode cX1_buildAct 20 = .ok (.aload_n 0, 1) := by decide +kernel
theorem dX1_buildAct_21 : decode cX1_buildAct 21 = .ok (.getfield 9, 3) := by decide +kernel
theorem dX1_buildAct_24 : decode cX1_buildAct 24 = .ok (.iload_n 3, 1) := by decide +kernel
theorem dX1_buildAct_25 : decode cX1_buildAct 25 = .ok (.iload 4, 2) := by decide +kernel
theorem dX1_buildAct_27 : decode cX1_buildAct 27 = .ok (.invokestatic 55, 3) := by decide +kernel
theorem dX1_buildAct_30 : decode cX1_buildAct 30 = .ok (.iload 5, 2) := by decide +kernel
theorem dX1_buildAct_32 : decode cX1_buildAct 32 = .ok (.iadd, 1) := by decide +kernel
theorem dX1_buildAct_33 : decode cX1_buildAct 33 = .ok (.iload_n 2, 1) := by decide +kernel
theorem dX1_buildAct_34 : decode cX1_buildAct 34 = .ok (.iconst 2, 1) := by decide +kernel
theorem dX1_buildAct_35 : decode cX1_buildAct 35 = .ok (.if_icmp .ne 8, 3) := by decide +kernel
theorem dX1_buildAct_38 : decode cX1_buildAct 38 = .ok (.iload 5, 2) := by decide +kernel
theorem dX1_buildAct_40 : decode cX1_buildAct 40 = .ok (.goto 12, 3) := by decide +kernel
theorem dX1_buildAct_43 : decode cX1_buildAct 43 = .ok (.aload_n 1, 1) := by decide +kernel
theorem dX1_buildAct_44 : decode cX1_buildAct 44 = .ok (.iconst 0, 1) := by decide +kernel
theorem dX1_buildAct_45 : decode cX1_buildAct 45 = .ok (.iload 5, 2) := by decide +kernel
theorem dX1_buildAct_47 : decode cX1_buildAct 47 = .ok (.iload 4, 2) := by decide +kernel
theorem dX1_buildAct_49 : decode cX1_buildAct 49 = .ok (.invokevirtual 58, 3) := by decide +kernel
theorem dX1_buildAct_52 : decode cX1_buildAct 52 = .ok (.iastore, 1) := by decide +kernel
theorem dX1_buildAct_53 : decode cX1_buildAct 53 = .ok (.aload_n 0, 1) := by decide +kernel
theorem dX1_buildAct_54 : decode cX1_buildAct 54 = .ok (.getfield 15, 3) := by decide +kernel
theorem dX1_buildAct_57 : decode cX1_buildAct 57 = .ok (.iload_n 3, 1) := by decide +kernel
theorem dX1_buildAct_58 : decode cX1_buildAct 58 = .ok (.iload 4, 2) := by decide +kernel
theorem dX1_buildAct_60 : decode cX1_buildAct 60 = .ok (.invokestatic 55, 3) := by decide +kernel
theorem dX1_buildAct_63 : decode cX1_buildAct 63 = .ok (.iload 5, 2) := by decide +kernel
theorem dX1_buildAct_65 : decode cX1_buildAct 65 = .ok (.iadd, 1) := by decide +kernel
theorem dX1_buildAct_66 : decode cX1_buildAct 66 = .ok (.aload_n 1, 1) := by decide +kernel
theorem dX1_buildAct_67 : decode cX1_buildAct 67 = .ok (.iconst 1, 1) := by decide +kernel
theorem dX1_buildAct_68 : decode cX1_buildAct 68 = .ok (.iload 5, 2) := by decide +kernel
theorem dX1_buildAct_70 : decode cX1_buildAct 70 = .ok (.iload 4, 2) := by decide +kernel
theorem dX1_buildAct_72 : decode cX1_buildAct 72 = .ok (.invokevirtual 58, 3) := by decide +kernel
theorem dX1_buildAct_75 : decode cX1_buildAct 75 = .ok (.iastore, 1) := by decide +kernel
theorem dX1_buildAct_76 : decode cX1_buildAct 76 = .ok (.aload_n 0, 1) := by decide +kernel
theorem dX1_buildAct_77 : decode cX1_buildAct 77 = .ok (.getfield 18, 3) := by decide +kernel
theorem dX1_buildAct_80 : decode cX1_buildAct 80 = .ok (.iload_n 3, 1) := by decide +kernel
theorem dX1_buildAct_81 : decode cX1_buildAct 81 = .ok (.iload 4, 2) := by decide +kernel
theorem dX1_buildAct_83 : decode cX1_buildAct 83 = .ok (.invokestatic 55, 3) := by decide +kernel
theorem dX1_buildAct_86 : decode cX1_buildAct 86 = .ok (.iload 5, 2) := by decide +kernel
theorem dX1_buildAct_88 : decode cX1_buildAct 88 = .ok (.iadd, 1) := by decide +kernel
theorem dX1_buildAct_89 : decode cX1_buildAct 89 = .ok (.iload_n 2, 1) := by decide +kernel
theorem dX1_buildAct_90 : decode cX1_buildAct 90 = .ok (.iconst 3, 1) := by decide +kernel
theorem dX1_buildAct_91 : decode cX1_buildAct 91 = .ok (.if_icmp .ne 15, 3) := by decide +kernel
theorem dX1_buildAct_94 : decode cX1_buildAct 94 = .ok (.iload 6, 2) := by decide +kernel
theorem dX1_buildAct_96 : decode cX1_buildAct 96 = .ok (.aload_n 1, 1) := by decide +kernel
theorem dX1_buildAct_97 : decode cX1_buildAct 97 = .ok (.getfield 61, 3) := by decide +kernel
theorem dX1_buildAct_100 : decode cX1_buildAct 100 = .ok (.invokestatic 64, 3) := by decide +kernel
theorem dX1_buildAct_103 : decode cX1_buildAct 103 = .ok (.goto 5, 3) := by decide +kernel
theorem dX1_buildAct_106 : decode cX1_buildAct 106 = .ok (.iload 6, 2) := by decide +kernel
theorem dX1_buildAct_108 : decode cX1_buildAct 108 = .ok (.iastore, 1) := by decide +kernel
theorem dX1_buildAct_109 : decode cX1_buildAct 109 = .ok (.iinc 5 1, 3) := by decide +kernel
theorem dX1_buildAct_112 : decode cX1_buildAct 112 = .ok (.goto (-109), 3) := by decide +kernel
theorem dX1_buildAct_115 : decode cX1_buildAct 115 = .ok (.return_, 1) := by decide +kernel
theorem dX1_place_0 : decode cX1_place 0 = .ok (.iconst 4, 1) := by decide +kernel
theorem dX1_place_1 : decode cX1_place 1 = .ok (.iconst 3, 1) := by decide +kernel
theorem dX1_place_2 : decode cX1_place 2 = .ok (.iload_n 0, 1) := by decide +kernel
theorem dX1_place_3 : decode cX1_place 3 = .ok (.imul, 1) := by decide +kernel
theorem dX1_place_4 : decode cX1_place 4 = .ok (.iload_n 1, 1) := by decide +kernel
theorem dX1_place_5 : decode cX1_place 5 = .ok (.iadd, 1) := by decide +kernel
theorem dX1_place_6 : decode cX1_place 6 = .ok (.imul, 1) := by decide +kernel
theorem dX1_place_7 : decode cX1_place 7 = .ok (.ireturn, 1) := by decide +kernel
theorem dX1_period_0 : decode cX1_period 0 = .ok (.aload_n 0, 1) := by decide +kernel
theorem dX1_period_1 : decode cX1_period 1 = .ok (.getfield 21, 3) := by decide +kernel
theorem dX1_period_4 : decode cX1_period 4 = .ok (.iload_n 1, 1) := by decide +kernel
theorem dX1_period_5 : decode cX1_period 5 = .ok (.iaload, 1) := by decide +kernel
theorem dX1_period_6 : decode cX1_period 6 = .ok (.ifCond .le 12, 3) := by decide +kernel
theorem dX1_period_9 : decode cX1_period 9 = .ok (.aload_n 0, 1) := by decide +kernel
theorem dX1_period_10 : decode cX1_period 10 = .ok (.getfield 21, 3) := by decide +kernel
theorem dX1_period_13 : decode cX1_period 13 = .ok (.iload_n 1, 1) := by decide +kernel
theorem dX1_period_14 : decode cX1_period 14 = .ok (.iaload, 1) := by decide +kernel
theorem dX1_period_15 : decode cX1_period 15 = .ok (.goto 4, 3) := by decide +kernel
theorem dX1_period_18 : decode cX1_period 18 = .ok (.iconst 1, 1) := by decide +kernel
theorem dX1_period_19 : decode cX1_period 19 = .ok (.ireturn, 1) := by decide +kernel
theorem dX1_isCleaned_0 : decode cX1_isCleaned 0 = .ok (.aload_n 0, 1) := by decide +kernel
theorem dX1_isCleaned_1 : decode cX1_isCleaned 1 = .ok (.getfield 21, 3) := by decide +kernel
theorem dX1_isCleaned_4 : decode cX1_isCleaned 4 = .ok (.iload_n 1, 1) := by decide +kernel
theorem dX1_isCleaned_5 : decode cX1_isCleaned 5 = .ok (.iaload, 1) := by decide +kernel
theorem dX1_isCleaned_6 : decode cX1_isCleaned 6 = .ok (.ifCond .le 20, 3) := by decide +kernel
theorem dX1_isCleaned_9 : decode cX1_isCleaned 9 = .ok (.iload_n 2, 1) := by decide +kernel
theorem dX1_isCleaned_10 : decode cX1_isCleaned 10 = .ok (.iconst 1, 1) := by decide +kernel
theorem dX1_isCleaned_11 : decode cX1_isCleaned 11 = .ok (.iadd, 1) := by decide +kernel
theorem dX1_isCleaned_12 : decode cX1_isCleaned 12 = .ok (.aload_n 0, 1) := by decide +kernel
theorem dX1_isCleaned_13 : decode cX1_isCleaned 13 = .ok (.getfield 21, 3) := by decide +kernel
theorem dX1_isCleaned_16 : decode cX1_isCleaned 16 = .ok (.iload_n 1, 1) := by decide +kernel
theorem dX1_isCleaned_17 : decode cX1_isCleaned 17 = .ok (.iaload, 1) := by decide +kernel
theorem dX1_isCleaned_18 : decode cX1_isCleaned 18 = .ok (.irem, 1) := by decide +kernel
theorem dX1_isCleaned_19 : decode cX1_isCleaned 19 = .ok (.ifCond .ne 7, 3) := by decide +kernel
theorem dX1_isCleaned_22 : decode cX1_isCleaned 22 = .ok (.iconst 1, 1) := by decide +kernel
theorem dX1_isCleaned_23 : decode cX1_isCleaned 23 = .ok (.goto 4, 3) := by decide +kernel
theorem dX1_isCleaned_26 : decode cX1_isCleaned 26 = .ok (.iconst 0, 1) := by decide +kernel
theorem dX1_isCleaned_27 : decode cX1_isCleaned 27 = .ok (.ireturn, 1) := by decide +kernel
set_option maxRecDepth 20000 in
theorem ggX1_met_X1_isCleaned : GoodIn wsX1_met wsX1_isCleaned := goodIn_r _ [7, 8, 12, 13, 14, 15, 16, 17, 18] (by decide +kernel) (by decide +kernel)
set_option maxRecDepth 20000 in
theorem gX1_met_X1_isCleaned : GoodIn wsX1_met (wsV RX1 69 RX1 yX1_isCleaned wsX1_isCleaned) := goodIn_app (goodIn_of _ (by decide +kernel)) ggX1_met_X1_isCleaned
set_option maxRecDepth 20000 in
theorem ggX1_met_X1_place : GoodIn wsX1_met wsX1_place := goodIn_r _ [11] (by decide +kernel) (by decide +kernel)
set_option maxRecDepth 20000 in
theorem gX1_met_X1_place : GoodIn wsX1_met (va_wsS RX1 55 yX1_place wsX1_place) := goodIn_app (goodIn_of _ (by decide +kernel)) ggX1_met_X1_place
theorem dX1_met_0 : decode cX1_met 0 = .ok (.aload_n 0, 1) := by decide +kernel
theorem dX1_met_1 : decode cX1_met 1 = .ok (.iload_n 1, 1) := by decide +kernel
theorem dX1_met_2 : decode cX1_met 2 = .ok (.iload 4, 2) := by decide +kernel
theorem dX1_met_4 : decode cX1_met 4 = .ok (.invokevirtual 69, 3) := by decide +kernel
theorem dX1_met_7 : decode cX1_met 7 = .ok (.ifCond .eq 10, 3) := by decide +kernel
theorem dX1_met_10 : decode cX1_met 10 = .ok (.aload_n 0, 1) := by decide +kernel
theorem dX1_met_11 : decode cX1_met 11 = .ok (.getfield 24, 3) := by decide +kernel
theorem dX1_met_14 : decode cX1_met 14 = .ok (.iload_n 1, 1) := by decide +kernel
theorem dX1_met_15 : decode cX1_met 15 = .ok (.iaload, 1) := by decide +kernel
theorem dX1_met_16 : decode cX1_met 16 = .ok (.ireturn, 1) := by decide +kernel
theorem dX1_met_17 : decode cX1_met 17 = .ok (.iload_n 3, 1) := by decide +kernel
theorem dX1_met_18 : decode cX1_met 18 = .ok (.iconst 3, 1) := by decide +kernel
theorem dX1_met_19 : decode cX1_met 19 = .ok (.if_icmp .lt 7, 3) := by decide +kernel
theorem dX1_met_22 : decode cX1_met 22 = .ok (.iload_n 2, 1) := by decide +kernel
theorem dX1_met_23 : decode cX1_met 23 = .ok (.goto 15, 3) := by decide +kernel
theorem dX1_met_26 : decode cX1_met 26 = .ok (.aload_n 0, 1) := by decide +kernel
theorem dX1_met_27 : decode cX1_met 27 = .ok (.getfield 9, 3) := by decide +kernel
theorem dX1_met_30 : decode cX1_met 30 = .ok (.iload_n 1, 1) := by decide +kernel
theorem dX1_met_31 : decode cX1_met 31 = .ok (.iload_n 3, 1) := by decide +kernel
theorem dX1_met_32 : decode cX1_met 32 = .ok (.invokestatic 55, 3) := by decide +kernel
theorem dX1_met_35 : decode cX1_met 35 = .ok (.iload_n 2, 1) := by decide +kernel
theorem dX1_met_36 : decode cX1_met 36 = .ok (.iadd, 1) := by decide +kernel
theorem dX1_met_37 : decode cX1_met 37 = .ok (.iaload, 1) := by decide +kernel
theorem dX1_met_38 : decode cX1_met 38 = .ok (.ireturn, 1) := by decide +kernel
set_option maxRecDepth 20000 in
theorem ggX1_answer_X1_place : GoodIn wsX1_answer wsX1_place := goodIn_r _ [5] (by decide +kernel) (by decide +kernel)
set_option maxRecDepth 20000 in
theorem gX1_answer_X1_place : GoodIn wsX1_answer (va_wsS RX1 55 yX1_place wsX1_place) := goodIn_app (goodIn_of _ (by decide +kernel)) ggX1_answer_X1_place
theorem dX1_answer_0 : decode cX1_answer 0 = .ok (.iload_n 3, 1) := by decide +kernel
theorem dX1_answer_1 : decode cX1_answer 1 = .ok (.iconst 3, 1) := by decide +kernel
theorem dX1_answer_2 : decode cX1_answer 2 = .ok (.if_icmp .lt 7, 3) := by decide +kernel
theorem dX1_answer_5 : decode cX1_answer 5 = .ok (.iconst 0, 1) := by decide +kernel
theorem dX1_answer_6 : decode cX1_answer 6 = .ok (.goto 15, 3) := by decide +kernel
theorem dX1_answer_9 : decode cX1_answer 9 = .ok (.aload_n 0, 1) := by decide +kernel
theorem dX1_answer_10 : decode cX1_answer 10 = .ok (.getfield 18, 3) := by decide +kernel
theorem dX1_answer_13 : decode cX1_answer 13 = .ok (.iload_n 1, 1) := by decide +kernel
theorem dX1_answer_14 : decode cX1_answer 14 = .ok (.iload_n 3, 1) := by decide +kernel
theorem dX1_answer_15 : decode cX1_answer 15 = .ok (.invokestatic 55, 3) := by decide +kernel
theorem dX1_answer_18 : decode cX1_answer 18 = .ok (.iload_n 2, 1) := by decide +kernel
theorem dX1_answer_19 : decode cX1_answer 19 = .ok (.iadd, 1) := by decide +kernel
theorem dX1_answer_20 : decode cX1_answer 20 = .ok (.iaload, 1) := by decide +kernel
theorem dX1_answer_21 : decode cX1_answer 21 = .ok (.ireturn, 1) := by decide +kernel
set_option maxRecDepth 20000 in
theorem ggX1_left_X1_place : GoodIn wsX1_left wsX1_place := goodIn_r _ [5] (by decide +kernel) (by decide +kernel)
set_option maxRecDepth 20000 in
theorem gX1_left_X1_place : GoodIn wsX1_left (va_wsS RX1 55 yX1_place wsX1_place) := goodIn_app (goodIn_of _ (by decide +kernel)) ggX1_left_X1_place
theorem dX1_left_0 : decode cX1_left 0 = .ok (.iload_n 3, 1) := by decide +kernel
theorem dX1_left_1 : decode cX1_left 1 = .ok (.iconst 3, 1) := by decide +kernel
theorem dX1_left_2 : decode cX1_left 2 = .ok (.if_icmp .lt 7, 3) := by decide +kernel
theorem dX1_left_5 : decode cX1_left 5 = .ok (.iload_n 2, 1) := by decide +kernel
theorem dX1_left_6 : decode cX1_left 6 = .ok (.goto 15, 3) := by decide +kernel
theorem dX1_left_9 : decode cX1_left 9 = .ok (.aload_n 0, 1) := by decide +kernel
theorem dX1_left_10 : decode cX1_left 10 = .ok (.getfield 15, 3) := by decide +kernel
theorem dX1_left_13 : decode cX1_left 13 = .ok (.iload_n 1, 1) := by decide +kernel
theorem dX1_left_14 : decode cX1_left 14 = .ok (.iload_n 3, 1) := by decide +kernel
theorem dX1_left_15 : decode cX1_left 15 = .ok (.invokestatic 55, 3) := by decide +kernel
theorem dX1_left_18 : decode cX1_left 18 = .ok (.iload_n 2, 1) := by decide +kernel
theorem dX1_left_19 : decode cX1_left 19 = .ok (.iadd, 1) := by decide +kernel
theorem dX1_left_20 : decode cX1_left 20 = .ok (.iaload, 1) := by decide +kernel
theorem dX1_left_21 : decode cX1_left 21 = .ok (.ireturn, 1) := by decide +kernel
set_option maxRecDepth 20000 in
theorem ggX1_sent_X1_moved : GoodIn wsX1_sent wsX1_moved := goodIn_r _ [7, 8, 9, 10] (by decide +kernel) (by decide +kernel)
set_option maxRecDepth 20000 in
theorem gX1_sent_X1_moved : GoodIn wsX1_sent (va_wsS RX1 73 yX1_moved wsX1_moved) := goodIn_app (goodIn_of _ (by decide +kernel)) ggX1_sent_X1_moved
set_option maxRecDepth 20000 in
theorem ggX1_sent_X1_isCleaned : GoodIn wsX1_sent wsX1_isCleaned := goodIn_r _ [14, 15, 16, 17, 18, 19, 20, 21, 22] (by decide +kernel) (by decide +kernel)
set_option maxRecDepth 20000 in
theorem gX1_sent_X1_isCleaned : GoodIn wsX1_sent (wsV RX1 69 RX1 yX1_isCleaned wsX1_isCleaned) := goodIn_app (goodIn_of _ (by decide +kernel)) ggX1_sent_X1_isCleaned
theorem dX1_sent_0 : decode cX1_sent 0 = .ok (.lconst 0, 1) := by decide +kernel
theorem dX1_sent_1 : decode cX1_sent 1 = .ok (.lstore 6, 2) := by decide +kernel
theorem dX1_sent_3 : decode cX1_sent 3 = .ok (.iload_n 3, 1) := by decide +kernel
theorem dX1_sent_4 : decode cX1_sent 4 = .ok (.istore 8, 2) := by decide +kernel
theorem dX1_sent_6 : decode cX1_sent 6 = .ok (.iload 8, 2) := by decide +kernel
theorem dX1_sent_8 : decode cX1_sent 8 = .ok (.iload 4, 2) := by decide +kernel
theorem dX1_sent_10 : decode cX1_sent 10 = .ok (.if_icmp .gt 69, 3) := by decide +kernel
theorem dX1_sent_13 : decode cX1_sent 13 = .ok (.iload 8, 2) := by decide +kernel
theorem dX1_sent_15 : decode cX1_sent 15 = .ok (.aload_n 0, 1) := by decide +kernel
theorem dX1_sent_16 : decode cX1_sent 16 = .ok (.getfield 27, 3) := by decide +kernel
theorem dX1_sent_19 : decode cX1_sent 19 = .ok (.if_icmp .lt 12, 3) := by decide +kernel
theorem dX1_sent_22 : decode cX1_sent 22 = .ok (.lload 6, 2) := by decide +kernel
theorem dX1_sent_24 : decode cX1_sent 24 = .ok (.lload_n 1, 1) := by decide +kernel
theorem dX1_sent_25 : decode cX1_sent 25 = .ok (.lor, 1) := by decide +kernel
theorem dX1_sent_26 : decode cX1_sent 26 = .ok (.lstore 6, 2) := by decide +kernel
theorem dX1_sent_28 : decode cX1_sent 28 = .ok (.goto 45, 3) := by decide +kernel
theorem dX1_sent_31 : decode cX1_sent 31 = .ok (.iconst 0, 1) := by decide +kernel
theorem dX1_sent_32 : decode cX1_sent 32 = .ok (.istore 9, 2) := by decide +kernel
theorem dX1_sent_34 : decode cX1_sent 34 = .ok (.iload 9, 2) := by decide +kernel
theorem dX1_sent_36 : decode cX1_sent 36 = .ok (.iconst 4, 1) := by decide +kernel
theorem dX1_sent_37 : decode cX1_sent 37 = .ok (.if_icmp .ge 36, 3) := by decide +kernel
theorem dX1_sent_40 : decode cX1_sent 40 = .ok (.lload 6, 2) := by decide +kernel
theorem dX1_sent_42 : decode cX1_sent 42 = .ok (.lload_n 1, 1) := by decide +kernel
theorem dX1_sent_43 : decode cX1_sent 43 = .ok (.iload 8, 2) := by decide +kernel
theorem dX1_sent_45 : decode cX1_sent 45 = .ok (.iconst 3, 1) := by decide +kernel
theorem dX1_sent_46 : decode cX1_sent 46 = .ok (.idiv, 1) := by decide +kernel
theorem dX1_sent_47 : decode cX1_sent 47 = .ok (.iload 9, 2) := by decide +kernel
theorem dX1_sent_49 : decode cX1_sent 49 = .ok (.aload_n 0, 1) := by decide +kernel
theorem dX1_sent_50 : decode cX1_sent 50 = .ok (.getfield 9, 3) := by decide +kernel
theorem dX1_sent_53 : decode cX1_sent 53 = .ok (.iconst 4, 1) := by decide +kernel
theorem dX1_sent_54 : decode cX1_sent 54 = .ok (.iload 8, 2) := by decide +kernel
theorem dX1_sent_56 : decode cX1_sent 56 = .ok (.imul, 1) := by decide +kernel
theorem dX1_sent_57 : decode cX1_sent 57 = .ok (.iload 9, 2) := by decide +kernel
theorem dX1_sent_59 : decode cX1_sent 59 = .ok (.iadd, 1) := by decide +kernel
theorem dX1_sent_60 : decode cX1_sent 60 = .ok (.iaload, 1) := by decide +kernel
theorem dX1_sent_61 : decode cX1_sent 61 = .ok (.invokestatic 73, 3) := by decide +kernel
theorem dX1_sent_64 : decode cX1_sent 64 = .ok (.lor, 1) := by decide +kernel
theorem dX1_sent_65 : decode cX1_sent 65 = .ok (.lstore 6, 2) := by decide +kernel
theorem dX1_sent_67 : decode cX1_sent 67 = .ok (.iinc 9 1, 3) := by decide +kernel
theorem dX1_sent_70 : decode cX1_sent 70 = .ok (.goto (-36), 3) := by decide +kernel
theorem dX1_sent_73 : decode cX1_sent 73 = .ok (.iinc 8 1, 3) := by decide +kernel
theorem dX1_sent_76 : decode cX1_sent 76 = .ok (.goto (-70), 3) := by decide +kernel
theorem dX1_sent_79 : decode cX1_sent 79 = .ok (.iconst 0, 1) := by decide +kernel
theorem dX1_sent_80 : decode cX1_sent 80 = .ok (.istore 8, 2) := by decide +kernel
theorem dX1_sent_82 : decode cX1_sent 82 = .ok (.iload 8, 2) := by decide +kernel
theorem dX1_sent_84 : decode cX1_sent 84 = .ok (.iconst 3, 1) := by decide +kernel
theorem dX1_sent_85 : decode cX1_sent 85 = .ok (.imul, 1) := by decide +kernel
theorem dX1_sent_86 : decode cX1_sent 86 = .ok (.aload_n 0, 1) := by decide +kernel
theorem dX1_sent_87 : decode cX1_sent 87 = .ok (.getfield 27, 3) := by decide +kernel
theorem dX1_sent_90 : decode cX1_sent 90 = .ok (.if_icmp .ge 66, 3) := by decide +kernel
theorem dX1_sent_93 : decode cX1_sent 93 = .ok (.aload_n 0, 1) := by decide +kernel
theorem dX1_sent_94 : decode cX1_sent 94 = .ok (.iload 8, 2) := by decide +kernel
theorem dX1_sent_96 : decode cX1_sent 96 = .ok (.iload 5, 2) := by decide +kernel
theorem dX1_sent_98 : decode cX1_sent 98 = .ok (.invokevirtual 69, 3) := by decide +kernel
theorem dX1_sent_101 : decode cX1_sent 101 = .ok (.ifCond .ne 6, 3) := by decide +kernel
theorem dX1_sent_104 : decode cX1_sent 104 = .ok (.goto 46, 3) := by decide +kernel
theorem dX1_sent_107 : decode cX1_sent 107 = .ok (.lload 6, 2) := by decide +kernel
theorem dX1_sent_109 : decode cX1_sent 109 = .ok (.lstore 9, 2) := by decide +kernel
theorem dX1_sent_111 : decode cX1_sent 111 = .ok (.lconst 0, 1) := by decide +kernel
theorem dX1_sent_112 : decode cX1_sent 112 = .ok (.lstore 6, 2) := by decide +kernel
theorem dX1_sent_114 : decode cX1_sent 114 = .ok (.iconst 0, 1) := by decide +kernel
theorem dX1_sent_115 : decode cX1_sent 115 = .ok (.istore 11, 2) := by decide +kernel
theorem dX1_sent_117 : decode cX1_sent 117 = .ok (.iload 11, 2) := by decide +kernel
theorem dX1_sent_119 : decode cX1_sent 119 = .ok (.iconst 4, 1) := by decide +kernel
theorem dX1_sent_120 : decode cX1_sent 120 = .ok (.if_icmp .ge 30, 3) := by decide +kernel
theorem dX1_sent_123 : decode cX1_sent 123 = .ok (.lload 6, 2) := by decide +kernel
theorem dX1_sent_125 : decode cX1_sent 125 = .ok (.lload 9, 2) := by decide +kernel
theorem dX1_sent_127 : decode cX1_sent 127 = .ok (.iload 8, 2) := by decide +kernel
theorem dX1_sent_129 : decode cX1_sent 129 = .ok (.iload 11, 2) := by decide +kernel
theorem dX1_sent_131 : decode cX1_sent 131 = .ok (.aload_n 0, 1) := by decide +kernel
theorem dX1_sent_132 : decode cX1_sent 132 = .ok (.getfield 24, 3) := by decide +kernel
theorem dX1_sent_135 : decode cX1_sent 135 = .ok (.iload 8, 2) := by decide +kernel
theorem dX1_sent_137 : decode cX1_sent 137 = .ok (.iaload, 1) := by decide +kernel
theorem dX1_sent_138 : decode cX1_sent 138 = .ok (.invokestatic 73, 3) := by decide +kernel
theorem dX1_sent_141 : decode cX1_sent 141 = .ok (.lor, 1) := by decide +kernel
theorem dX1_sent_142 : decode cX1_sent 142 = .ok (.lstore 6, 2) := by decide +kernel
theorem dX1_sent_144 : decode cX1_sent 144 = .ok (.iinc 11 1, 3) := by decide +kernel
theorem dX1_sent_147 : decode cX1_sent 147 = .ok (.goto (-30), 3) := by decide +kernel
theorem dX1_sent_150 : decode cX1_sent 150 = .ok (.iinc 8 1, 3) := by decide +kernel
theorem dX1_sent_153 : decode cX1_sent 153 = .ok (.goto (-71), 3) := by decide +kernel
theorem dX1_sent_156 : decode cX1_sent 156 = .ok (.lload 6, 2) := by decide +kernel
theorem dX1_sent_158 : decode cX1_sent 158 = .ok (.lreturn, 1) := by decide +kernel
set_option maxRecDepth 20000 in
theorem ggX1_answers_X1_moved : GoodIn wsX1_answers wsX1_moved := goodIn_r _ [6, 7, 8, 9] (by decide +kernel) (by decide +kernel)
set_option maxRecDepth 20000 in
theorem gX1_answers_X1_moved : GoodIn wsX1_answers (va_wsS RX1 73 yX1_moved wsX1_moved) := goodIn_app (goodIn_of _ (by decide +kernel)) ggX1_answers_X1_moved
theorem dX1_answers_0 : decode cX1_answers 0 = .ok (.iload_n 3, 1) := by decide +kernel
theorem dX1_answers_1 : decode cX1_answers 1 = .ok (.aload_n 0, 1) := by decide +kernel
theorem dX1_answers_2 : decode cX1_answers 2 = .ok (.getfield 27, 3) := by decide +kernel
theorem dX1_answers_5 : decode cX1_answers 5 = .ok (.if_icmp .lt 5, 3) := by decide +kernel
theorem dX1_answers_8 : decode cX1_answers 8 = .ok (.iconst 1, 1) := by decide +kernel
theorem dX1_answers_9 : decode cX1_answers 9 = .ok (.ireturn, 1) := by decide +kernel
theorem dX1_answers_10 : decode cX1_answers 10 = .ok (.iconst 0, 1) := by decide +kernel
theorem dX1_answers_11 : decode cX1_answers 11 = .ok (.istore 4, 2) := by decide +kernel
theorem dX1_answers_13 : decode cX1_answers 13 = .ok (.iconst 0, 1) := by decide +kernel
theorem dX1_answers_14 : decode cX1_answers 14 = .ok (.istore 5, 2) := by decide +kernel
theorem dX1_answers_16 : decode cX1_answers 16 = .ok (.iload 5, 2) := by decide +kernel
theorem dX1_answers_18 : decode cX1_answers 18 = .ok (.iconst 4, 1) := by decide +kernel
theorem dX1_answers_19 : decode cX1_answers 19 = .ok (.if_icmp .ge 42, 3) := by decide +kernel
theorem dX1_answers_22 : decode cX1_answers 22 = .ok (.lload_n 1, 1) := by decide +kernel
theorem dX1_answers_23 : decode cX1_answers 23 = .ok (.iload_n 3, 1) := by decide +kernel
theorem dX1_answers_24 : decode cX1_answers 24 = .ok (.iconst 3, 1) := by decide +kernel
theorem dX1_answers_25 : decode cX1_answers 25 = .ok (.idiv, 1) := by decide +kernel
theorem dX1_answers_26 : decode cX1_answers 26 = .ok (.iload 5, 2) := by decide +kernel
theorem dX1_answers_28 : decode cX1_answers 28 = .ok (.iconst 0, 1) := by decide +kernel
theorem dX1_answers_29 : decode cX1_answers 29 = .ok (.invokestatic 73, 3) := by decide +kernel
theorem dX1_answers_32 : decode cX1_answers 32 = .ok (.lconst 0, 1) := by decide +kernel
theorem dX1_answers_33 : decode cX1_answers 33 = .ok (.lcmp, 1) := by decide +kernel
theorem dX1_answers_34 : decode cX1_answers 34 = .ok (.ifCond .eq 21, 3) := by decide +kernel
theorem dX1_answers_37 : decode cX1_answers 37 = .ok (.iload 4, 2) := by decide +kernel
theorem dX1_answers_39 : decode cX1_answers 39 = .ok (.iconst 1, 1) := by decide +kernel
theorem dX1_answers_40 : decode cX1_answers 40 = .ok (.aload_n 0, 1) := by decide +kernel
theorem dX1_answers_41 : decode cX1_answers 41 = .ok (.getfield 18, 3) := by decide +kernel
theorem dX1_answers_44 : decode cX1_answers 44 = .ok (.iconst 4, 1) := by decide +kernel
theorem dX1_answers_45 : decode cX1_answers 45 = .ok (.iload_n 3, 1) := by decide +kernel
theorem dX1_answers_46 : decode cX1_answers 46 = .ok (.imul, 1) := by decide +kernel
theorem dX1_answers_47 : decode cX1_answers 47 = .ok (.iload 5, 2) := by decide +kernel
theorem dX1_answers_49 : decode cX1_answers 49 = .ok (.iadd, 1) := by decide +kernel
theorem dX1_answers_50 : decode cX1_answers 50 = .ok (.iaload, 1) := by decide +kernel
theorem dX1_answers_51 : decode cX1_answers 51 = .ok (.ishl, 1) := by decide +kernel
theorem dX1_answers_52 : decode cX1_answers 52 = .ok (.ior, 1) := by decide +kernel
theorem dX1_answers_53 : decode cX1_answers 53 = .ok (.istore 4, 2) := by decide +kernel
theorem dX1_answers_55 : decode cX1_answers 55 = .ok (.iinc 5 1, 3) := by decide +kernel
theorem dX1_answers_58 : decode cX1_answers 58 = .ok (.goto (-42), 3) := by decide +kernel
theorem dX1_answers_61 : decode cX1_answers 61 = .ok (.iload 4, 2) := by decide +kernel
theorem dX1_answers_63 : decode cX1_answers 63 = .ok (.ireturn, 1) := by decide +kernel
set_option maxRecDepth 20000 in
theorem ggX1_heard_X1_moved : GoodIn wsX1_heard wsX1_moved := goodIn_r _ [7, 8, 9, 10] (by decide +kernel) (by decide +kernel)
set_option maxRecDepth 20000 in
theorem gX1_heard_X1_moved : GoodIn wsX1_heard (va_wsS RX1 73 yX1_moved wsX1_moved) := goodIn_app (goodIn_of _ (by decide +kernel)) ggX1_heard_X1_moved
theorem dX1_heard_0 : decode cX1_heard 0 = .ok (.iload_n 3, 1) := by decide +kernel
theorem dX1_heard_1 : decode cX1_heard 1 = .ok (.aload_n 0, 1) := by decide +kernel
theorem dX1_heard_2 : decode cX1_heard 2 = .ok (.getfield 27, 3) := by decide +kernel
theorem dX1_heard_5 : decode cX1_heard 5 = .ok (.if_icmp .lt 14, 3) := by decide +kernel
theorem dX1_heard_8 : decode cX1_heard 8 = .ok (.iload 4, 2) := by decide +kernel
theorem dX1_heard_10 : decode cX1_heard 10 = .ok (.ifCond .ne 7, 3) := by decide +kernel
theorem dX1_heard_13 : decode cX1_heard 13 = .ok (.lload_n 1, 1) := by decide +kernel
theorem dX1_heard_14 : decode cX1_heard 14 = .ok (.goto 4, 3) := by decide +kernel
theorem dX1_heard_17 : decode cX1_heard 17 = .ok (.lconst 0, 1) := by decide +kernel
theorem dX1_heard_18 : decode cX1_heard 18 = .ok (.lreturn, 1) := by decide +kernel
theorem dX1_heard_19 : decode cX1_heard 19 = .ok (.lconst 0, 1) := by decide +kernel
theorem dX1_heard_20 : decode cX1_heard 20 = .ok (.lstore 5, 2) := by decide +kernel
theorem dX1_heard_22 : decode cX1_heard 22 = .ok (.iconst 0, 1) := by decide +kernel
theorem dX1_heard_23 : decode cX1_heard 23 = .ok (.istore 7, 2) := by decide +kernel
theorem dX1_heard_25 : decode cX1_heard 25 = .ok (.iload 7, 2) := by decide +kernel
theorem dX1_heard_27 : decode cX1_heard 27 = .ok (.iconst 4, 1) := by decide +kernel
theorem dX1_heard_28 : decode cX1_heard 28 = .ok (.if_icmp .ge 50, 3) := by decide +kernel
theorem dX1_heard_31 : decode cX1_heard 31 = .ok (.aload_n 0, 1) := by decide +kernel
theorem dX1_heard_32 : decode cX1_heard 32 = .ok (.getfield 18, 3) := by decide +kernel
theorem dX1_heard_35 : decode cX1_heard 35 = .ok (.iconst 4, 1) := by decide +kernel
theorem dX1_heard_36 : decode cX1_heard 36 = .ok (.iload_n 3, 1) := by decide +kernel
theorem dX1_heard_37 : decode cX1_heard 37 = .ok (.imul, 1) := by decide +kernel
theorem dX1_heard_38 : decode cX1_heard 38 = .ok (.iload 7, 2) := by decide +kernel
theorem dX1_heard_40 : decode cX1_heard 40 = .ok (.iadd, 1) := by decide +kernel
theorem dX1_heard_41 : decode cX1_heard 41 = .ok (.iaload, 1) := by decide +kernel
theorem dX1_heard_42 : decode cX1_heard 42 = .ok (.iload 4, 2) := by decide +kernel
theorem dX1_heard_44 : decode cX1_heard 44 = .ok (.if_icmp .ne 28, 3) := by decide +kernel
theorem dX1_heard_47 : decode cX1_heard 47 = .ok (.lload 5, 2) := by decide +kernel
theorem dX1_heard_49 : decode cX1_heard 49 = .ok (.lload_n 1, 1) := by decide +kernel
theorem dX1_heard_50 : decode cX1_heard 50 = .ok (.iload_n 3, 1) := by decide +kernel
theorem dX1_heard_51 : decode cX1_heard 51 = .ok (.iconst 3, 1) := by decide +kernel
theorem dX1_heard_52 : decode cX1_heard 52 = .ok (.idiv, 1) := by decide +kernel
theorem dX1_heard_53 : decode cX1_heard 53 = .ok (.iload 7, 2) := by decide +kernel
theorem dX1_heard_55 : decode cX1_heard 55 = .ok (.aload_n 0, 1) := by decide +kernel
theorem dX1_heard_56 : decode cX1_heard 56 = .ok (.getfield 15, 3) := by decide +kernel
theorem dX1_heard_59 : decode cX1_heard 59 = .ok (.iconst 4, 1) := by decide +kernel
theorem dX1_heard_60 : decode cX1_heard 60 = .ok (.iload_n 3, 1) := by decide +kernel
theorem dX1_heard_61 : decode cX1_heard 61 = .ok (.imul, 1) := by decide +kernel
theorem dX1_heard_62 : decode cX1_heard 62 = .ok (.iload 7, 2) := by decide +kernel
theorem dX1_heard_64 : decode cX1_heard 64 = .ok (.iadd, 1) := by decide +kernel
theorem dX1_heard_65 : decode cX1_heard 65 = .ok (.iaload, 1) := by decide +kernel
theorem dX1_heard_66 : decode cX1_heard 66 = .ok (.invokestatic 73, 3) := by decide +kernel
theorem dX1_heard_69 : decode cX1_heard 69 = .ok (.lor, 1) := by decide +kernel
theorem dX1_heard_70 : decode cX1_heard 70 = .ok (.lstore 5, 2) := by decide +kernel
theorem dX1_heard_72 : decode cX1_heard 72 = .ok (.iinc 7 1, 3) := by decide +kernel
theorem dX1_heard_75 : decode cX1_heard 75 = .ok (.goto (-50), 3) := by decide +kernel
theorem dX1_heard_78 : decode cX1_heard 78 = .ok (.lload 5, 2) := by decide +kernel
theorem dX1_heard_80 : decode cX1_heard 80 = .ok (.lreturn, 1) := by decide +kernel
theorem dX1_moved_0 : decode cX1_moved 0 = .ok (.iload_n 2, 1) := by decide +kernel
theorem dX1_moved_1 : decode cX1_moved 1 = .ok (.ifCond .ne 9, 3) := by decide +kernel
theorem dX1_moved_4 : decode cX1_moved 4 = .ok (.ldc2_w 77, 3) := by decide +kernel
theorem dX1_moved_7 : decode cX1_moved 7 = .ok (.goto 17, 3) := by decide +kernel
theorem dX1_moved_10 : decode cX1_moved 10 = .ok (.iload_n 2, 1) := by decide +kernel
theorem dX1_moved_11 : decode cX1_moved 11 = .ok (.iconst 1, 1) := by decide +kernel
theorem dX1_moved_12 : decode cX1_moved 12 = .ok (.if_icmp .ne 9, 3) := by decide +kernel
theorem dX1_moved_15 : decode cX1_moved 15 = .ok (.ldc2_w 79, 3) := by decide +kernel
theorem dX1_moved_18 : decode cX1_moved 18 = .ok (.goto 6, 3) := by decide +kernel
theorem dX1_moved_21 : decode cX1_moved 21 = .ok (.ldc2_w 81, 3) := by decide +kernel
theorem dX1_moved_24 : decode cX1_moved 24 = .ok (.lstore 5, 2) := by decide +kernel
theorem dX1_moved_26 : decode cX1_moved 26 = .ok (.lload_n 0, 1) := by decide +kernel
theorem dX1_moved_27 : decode cX1_moved 27 = .ok (.iload_n 3, 1) := by decide +kernel
theorem dX1_moved_28 : decode cX1_moved 28 = .ok (.iconst 2, 1) := by decide +kernel
theorem dX1_moved_29 : decode cX1_moved 29 = .ok (.iload_n 2, 1) := by decide +kernel
theorem dX1_moved_30 : decode cX1_moved 30 = .ok (.imul, 1) := by decide +kernel
theorem dX1_moved_31 : decode cX1_moved 31 = .ok (.ishl, 1) := by decide +kernel
theorem dX1_moved_32 : decode cX1_moved 32 = .ok (.lushr, 1) := by decide +kernel
theorem dX1_moved_33 : decode cX1_moved 33 = .ok (.lload 5, 2) := by decide +kernel
theorem dX1_moved_35 : decode cX1_moved 35 = .ok (.land, 1) := by decide +kernel
theorem dX1_moved_36 : decode cX1_moved 36 = .ok (.iload 4, 2) := by decide +kernel
theorem dX1_moved_38 : decode cX1_moved 38 = .ok (.iconst 2, 1) := by decide +kernel
theorem dX1_moved_39 : decode cX1_moved 39 = .ok (.iload_n 2, 1) := by decide +kernel
theorem dX1_moved_40 : decode cX1_moved 40 = .ok (.imul, 1) := by decide +kernel
theorem dX1_moved_41 : decode cX1_moved 41 = .ok (.ishl, 1) := by decide +kernel
theorem dX1_moved_42 : decode cX1_moved 42 = .ok (.lshl, 1) := by decide +kernel
theorem dX1_moved_43 : decode cX1_moved 43 = .ok (.lreturn, 1) := by decide +kernel
theorem dX2_init_0 : decode cX2_init 0 = .ok (.aload_n 0, 1) := by decide +kernel
theorem dX2_init_1 : decode cX2_init 1 = .ok (.invokespecial 3, 3) := by decide +kernel
theorem dX2_init_4 : decode cX2_init 4 = .ok (.aload_n 0, 1) := by decide +kernel
theorem dX2_init_5 : decode cX2_init 5 = .ok (.iconst 4, 1) := by decide +kernel
theorem dX2_init_6 : decode cX2_init 6 = .ok (.newarray .int, 2) := by decide +kernel
theorem dX2_init_8 : decode cX2_init 8 = .ok (.putfield 9, 3) := by decide +kernel
theorem dX2_init_11 : decode cX2_init 11 = .ok (.return_, 1) := by decide +kernel
set_option maxRecDepth 20000 in
theorem ggX2_come_J7_fill_53178 : GoodIn wsX2_come wsJ7_fill_53178 := goodIn_r _ [13] (by decide +kernel) (by decide +kernel)
set_option maxRecDepth 20000 in
theorem gX2_come_J7_fill_53178 : GoodIn wsX2_come (va_wsS RX2 41 yJ7_fill_53178 wsJ7_fill_53178) := goodIn_app (goodIn_of _ (by decide +kernel)) ggX2_come_J7_fill_53178
theorem dX2_come_0 : decode cX2_come 0 = .ok (.aload_n 0, 1) := by decide +kernel
theorem dX2_come_1 : decode cX2_come 1 = .ok (.iload_n 1, 1) := by decide +kernel
theorem dX2_come_2 : decode cX2_come 2 = .ok (.putfield 15, 3) := by decide +kernel
theorem dX2_come_5 : decode cX2_come 5 = .ok (.aload_n 0, 1) := by decide +kernel
theorem dX2_come_6 : decode cX2_come 6 = .ok (.iload_n 2, 1) := by decide +kernel
theorem dX2_come_7 : decode cX2_come 7 = .ok (.putfield 19, 3) := by decide +kernel
theorem dX2_come_10 : decode cX2_come 10 = .ok (.aload_n 0, 1) := by decide +kernel
theorem dX2_come_11 : decode cX2_come 11 = .ok (.iload_n 2, 1) := by decide +kernel
