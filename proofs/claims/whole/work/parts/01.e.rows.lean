theorem dX5_isIn_6 : decode cX5_isIn 6 = .ok (.iload_n 2, 1) := by decide +kernel
theorem dX5_isIn_7 : decode cX5_isIn 7 = .ok (.if_icmp .gt 7, 3) := by decide +kernel
theorem dX5_isIn_10 : decode cX5_isIn 10 = .ok (.iconst 1, 1) := by decide +kernel
theorem dX5_isIn_11 : decode cX5_isIn 11 = .ok (.goto 4, 3) := by decide +kernel
theorem dX5_isIn_14 : decode cX5_isIn 14 = .ok (.iconst 0, 1) := by decide +kernel
theorem dX5_isIn_15 : decode cX5_isIn 15 = .ok (.ireturn, 1) := by decide +kernel
set_option maxRecDepth 20000 in
theorem ggX5_isThing_X5_isIn : GoodIn wsX5_isThing wsX5_isIn := goodIn_r _ [5] (by decide +kernel) (by decide +kernel)
set_option maxRecDepth 20000 in
theorem gX5_isThing_X5_isIn : GoodIn wsX5_isThing (va_wsS RX5 66 yX5_isIn wsX5_isIn) := goodIn_app (goodIn_of _ (by decide +kernel)) ggX5_isThing_X5_isIn
theorem dX5_isThing_0 : decode cX5_isThing 0 = .ok (.iload_n 1, 1) := by decide +kernel
theorem dX5_isThing_1 : decode cX5_isThing 1 = .ok (.iconst 0, 1) := by decide +kernel
theorem dX5_isThing_2 : decode cX5_isThing 2 = .ok (.aload_n 0, 1) := by decide +kernel
theorem dX5_isThing_3 : decode cX5_isThing 3 = .ok (.getfield 62, 3) := by decide +kernel
theorem dX5_isThing_6 : decode cX5_isThing 6 = .ok (.iconst 1, 1) := by decide +kernel
theorem dX5_isThing_7 : decode cX5_isThing 7 = .ok (.isub, 1) := by decide +kernel
theorem dX5_isThing_8 : decode cX5_isThing 8 = .ok (.invokestatic 66, 3) := by decide +kernel
theorem dX5_isThing_11 : decode cX5_isThing 11 = .ok (.ireturn, 1) := by decide +kernel
theorem dX5_clear_0 : decode cX5_clear 0 = .ok (.aload_n 0, 1) := by decide +kernel
theorem dX5_clear_1 : decode cX5_clear 1 = .ok (.iconst 0, 1) := by decide +kernel
theorem dX5_clear_2 : decode cX5_clear 2 = .ok (.putfield 62, 3) := by decide +kernel
theorem dX5_clear_5 : decode cX5_clear 5 = .ok (.return_, 1) := by decide +kernel
theorem dX5_comes_0 : decode cX5_comes 0 = .ok (.aload_n 0, 1) := by decide +kernel
theorem dX5_comes_1 : decode cX5_comes 1 = .ok (.getfield 62, 3) := by decide +kernel
theorem dX5_comes_4 : decode cX5_comes 4 = .ok (.istore_n 3, 1) := by decide +kernel
theorem dX5_comes_5 : decode cX5_comes 5 = .ok (.aload_n 0, 1) := by decide +kernel
theorem dX5_comes_6 : decode cX5_comes 6 = .ok (.dup, 1) := by decide +kernel
theorem dX5_comes_7 : decode cX5_comes 7 = .ok (.getfield 62, 3) := by decide +kernel
theorem dX5_comes_10 : decode cX5_comes 10 = .ok (.iconst 1, 1) := by decide +kernel
theorem dX5_comes_11 : decode cX5_comes 11 = .ok (.iadd, 1) := by decide +kernel
theorem dX5_comes_12 : decode cX5_comes 12 = .ok (.putfield 62, 3) := by decide +kernel
theorem dX5_comes_15 : decode cX5_comes 15 = .ok (.aload_n 0, 1) := by decide +kernel
theorem dX5_comes_16 : decode cX5_comes 16 = .ok (.getfield 7, 3) := by decide +kernel
theorem dX5_comes_19 : decode cX5_comes 19 = .ok (.iload_n 3, 1) := by decide +kernel
theorem dX5_comes_20 : decode cX5_comes 20 = .ok (.iload_n 1, 1) := by decide +kernel
theorem dX5_comes_21 : decode cX5_comes 21 = .ok (.iastore, 1) := by decide +kernel
theorem dX5_comes_22 : decode cX5_comes 22 = .ok (.aload_n 0, 1) := by decide +kernel
theorem dX5_comes_23 : decode cX5_comes 23 = .ok (.getfield 13, 3) := by decide +kernel
theorem dX5_comes_26 : decode cX5_comes 26 = .ok (.iload_n 3, 1) := by decide +kernel
theorem dX5_comes_27 : decode cX5_comes 27 = .ok (.iload_n 2, 1) := by decide +kernel
theorem dX5_comes_28 : decode cX5_comes 28 = .ok (.iastore, 1) := by decide +kernel
theorem dX5_comes_29 : decode cX5_comes 29 = .ok (.aload_n 0, 1) := by decide +kernel
theorem dX5_comes_30 : decode cX5_comes 30 = .ok (.getfield 16, 3) := by decide +kernel
theorem dX5_comes_33 : decode cX5_comes 33 = .ok (.iload_n 3, 1) := by decide +kernel
theorem dX5_comes_34 : decode cX5_comes 34 = .ok (.iconst 0, 1) := by decide +kernel
theorem dX5_comes_35 : decode cX5_comes 35 = .ok (.iastore, 1) := by decide +kernel
theorem dX5_comes_36 : decode cX5_comes 36 = .ok (.aload_n 0, 1) := by decide +kernel
theorem dX5_comes_37 : decode cX5_comes 37 = .ok (.getfield 19, 3) := by decide +kernel
theorem dX5_comes_40 : decode cX5_comes 40 = .ok (.iload_n 3, 1) := by decide +kernel
theorem dX5_comes_41 : decode cX5_comes 41 = .ok (.iconst 1, 1) := by decide +kernel
theorem dX5_comes_42 : decode cX5_comes 42 = .ok (.iastore, 1) := by decide +kernel
theorem dX5_comes_43 : decode cX5_comes 43 = .ok (.aload_n 0, 1) := by decide +kernel
theorem dX5_comes_44 : decode cX5_comes 44 = .ok (.getfield 22, 3) := by decide +kernel
theorem dX5_comes_47 : decode cX5_comes 47 = .ok (.iload_n 3, 1) := by decide +kernel
theorem dX5_comes_48 : decode cX5_comes 48 = .ok (.iconst 0, 1) := by decide +kernel
theorem dX5_comes_49 : decode cX5_comes 49 = .ok (.iastore, 1) := by decide +kernel
theorem dX5_comes_50 : decode cX5_comes 50 = .ok (.iconst 0, 1) := by decide +kernel
theorem dX5_comes_51 : decode cX5_comes 51 = .ok (.istore 4, 2) := by decide +kernel
theorem dX5_comes_53 : decode cX5_comes 53 = .ok (.iload 4, 2) := by decide +kernel
theorem dX5_comes_55 : decode cX5_comes 55 = .ok (.iconst 4, 1) := by decide +kernel
theorem dX5_comes_56 : decode cX5_comes 56 = .ok (.if_icmp .ge 30, 3) := by decide +kernel
theorem dX5_comes_59 : decode cX5_comes 59 = .ok (.aload_n 0, 1) := by decide +kernel
theorem dX5_comes_60 : decode cX5_comes 60 = .ok (.getfield 25, 3) := by decide +kernel
theorem dX5_comes_63 : decode cX5_comes 63 = .ok (.iconst 4, 1) := by decide +kernel
theorem dX5_comes_64 : decode cX5_comes 64 = .ok (.iload_n 3, 1) := by decide +kernel
theorem dX5_comes_65 : decode cX5_comes 65 = .ok (.imul, 1) := by decide +kernel
theorem dX5_comes_66 : decode cX5_comes 66 = .ok (.iload 4, 2) := by decide +kernel
theorem dX5_comes_68 : decode cX5_comes 68 = .ok (.iadd, 1) := by decide +kernel
theorem dX5_comes_69 : decode cX5_comes 69 = .ok (.iload 4, 2) := by decide +kernel
theorem dX5_comes_71 : decode cX5_comes 71 = .ok (.ifCond .ne 7, 3) := by decide +kernel
theorem dX5_comes_74 : decode cX5_comes 74 = .ok (.iconst 0, 1) := by decide +kernel
theorem dX5_comes_75 : decode cX5_comes 75 = .ok (.goto 4, 3) := by decide +kernel
theorem dX5_comes_78 : decode cX5_comes 78 = .ok (.iconst 1, 1) := by decide +kernel
theorem dX5_comes_79 : decode cX5_comes 79 = .ok (.iastore, 1) := by decide +kernel
theorem dX5_comes_80 : decode cX5_comes 80 = .ok (.iinc 4 1, 3) := by decide +kernel
theorem dX5_comes_83 : decode cX5_comes 83 = .ok (.goto (-30), 3) := by decide +kernel
theorem dX5_comes_86 : decode cX5_comes 86 = .ok (.aload_n 0, 1) := by decide +kernel
theorem dX5_comes_87 : decode cX5_comes 87 = .ok (.getfield 28, 3) := by decide +kernel
theorem dX5_comes_90 : decode cX5_comes 90 = .ok (.iload_n 3, 1) := by decide +kernel
theorem dX5_comes_91 : decode cX5_comes 91 = .ok (.iload_n 2, 1) := by decide +kernel
theorem dX5_comes_92 : decode cX5_comes 92 = .ok (.iastore, 1) := by decide +kernel
theorem dX5_comes_93 : decode cX5_comes 93 = .ok (.iload_n 3, 1) := by decide +kernel
theorem dX5_comes_94 : decode cX5_comes 94 = .ok (.ireturn, 1) := by decide +kernel
set_option maxRecDepth 20000 in
theorem ggX5_thing_X5_isIn : GoodIn wsX5_thing wsX5_isIn := goodIn_r _ [5] (by decide +kernel) (by decide +kernel)
set_option maxRecDepth 20000 in
theorem gX5_thing_X5_isIn : GoodIn wsX5_thing (va_wsS RX5 66 yX5_isIn wsX5_isIn) := goodIn_app (goodIn_of _ (by decide +kernel)) ggX5_thing_X5_isIn
set_option maxRecDepth 20000 in
theorem ggX5_thing_X5_comes : GoodIn wsX5_thing wsX5_comes := goodIn_r _ [9, 1, 10, 11, 12, 13, 14, 15, 16, 17, 18, 19, 20, 21, 22, 23, 24, 25, 26, 27, 28, 29, 30, 31, 32, 33, 34, 35, 36] (by decide +kernel) (by decide +kernel)
set_option maxRecDepth 20000 in
theorem gX5_thing_X5_comes : GoodIn wsX5_thing (wsV RX5 70 RX5 yX5_comes wsX5_comes) := goodIn_app (goodIn_of _ (by decide +kernel)) ggX5_thing_X5_comes
theorem dX5_thing_0 : decode cX5_thing 0 = .ok (.iload_n 1, 1) := by decide +kernel
theorem dX5_thing_1 : decode cX5_thing 1 = .ok (.ifCond .eq 8, 3) := by decide +kernel
theorem dX5_thing_4 : decode cX5_thing 4 = .ok (.iload_n 1, 1) := by decide +kernel
theorem dX5_thing_5 : decode cX5_thing 5 = .ok (.iconst 2, 1) := by decide +kernel
theorem dX5_thing_6 : decode cX5_thing 6 = .ok (.if_icmp .ne 7, 3) := by decide +kernel
theorem dX5_thing_9 : decode cX5_thing 9 = .ok (.iconst 1, 1) := by decide +kernel
theorem dX5_thing_10 : decode cX5_thing 10 = .ok (.goto 4, 3) := by decide +kernel
theorem dX5_thing_13 : decode cX5_thing 13 = .ok (.iconst 0, 1) := by decide +kernel
theorem dX5_thing_14 : decode cX5_thing 14 = .ok (.istore_n 3, 1) := by decide +kernel
theorem dX5_thing_15 : decode cX5_thing 15 = .ok (.iload_n 1, 1) := by decide +kernel
theorem dX5_thing_16 : decode cX5_thing 16 = .ok (.iconst 0, 1) := by decide +kernel
theorem dX5_thing_17 : decode cX5_thing 17 = .ok (.iconst 3, 1) := by decide +kernel
theorem dX5_thing_18 : decode cX5_thing 18 = .ok (.invokestatic 66, 3) := by decide +kernel
theorem dX5_thing_21 : decode cX5_thing 21 = .ok (.ifCond .eq 28, 3) := by decide +kernel
theorem dX5_thing_24 : decode cX5_thing 24 = .ok (.iload_n 2, 1) := by decide +kernel
theorem dX5_thing_25 : decode cX5_thing 25 = .ok (.iconst 0, 1) := by decide +kernel
theorem dX5_thing_26 : decode cX5_thing 26 = .ok (.iload_n 3, 1) := by decide +kernel
theorem dX5_thing_27 : decode cX5_thing 27 = .ok (.ifCond .eq 7, 3) := by decide +kernel
theorem dX5_thing_30 : decode cX5_thing 30 = .ok (.iconst 2, 1) := by decide +kernel
theorem dX5_thing_31 : decode cX5_thing 31 = .ok (.goto 4, 3) := by decide +kernel
theorem dX5_thing_34 : decode cX5_thing 34 = .ok (.iconst 3, 1) := by decide +kernel
theorem dX5_thing_35 : decode cX5_thing 35 = .ok (.invokestatic 66, 3) := by decide +kernel
theorem dX5_thing_38 : decode cX5_thing 38 = .ok (.ifCond .eq 11, 3) := by decide +kernel
theorem dX5_thing_41 : decode cX5_thing 41 = .ok (.aload_n 0, 1) := by decide +kernel
theorem dX5_thing_42 : decode cX5_thing 42 = .ok (.getfield 62, 3) := by decide +kernel
theorem dX5_thing_45 : decode cX5_thing 45 = .ok (.iconst 3, 1) := by decide +kernel
theorem dX5_thing_46 : decode cX5_thing 46 = .ok (.if_icmp .ne 5, 3) := by decide +kernel
theorem dX5_thing_49 : decode cX5_thing 49 = .ok (.iconst (-1), 1) := by decide +kernel
theorem dX5_thing_50 : decode cX5_thing 50 = .ok (.ireturn, 1) := by decide +kernel
theorem dX5_thing_51 : decode cX5_thing 51 = .ok (.aload_n 0, 1) := by decide +kernel
theorem dX5_thing_52 : decode cX5_thing 52 = .ok (.iload_n 1, 1) := by decide +kernel
theorem dX5_thing_53 : decode cX5_thing 53 = .ok (.iload_n 2, 1) := by decide +kernel
theorem dX5_thing_54 : decode cX5_thing 54 = .ok (.invokevirtual 70, 3) := by decide +kernel
theorem dX5_thing_57 : decode cX5_thing 57 = .ok (.ireturn, 1) := by decide +kernel
set_option maxRecDepth 20000 in
theorem ggX5_table_X5_isIn : GoodIn wsX5_table wsX5_isIn := goodIn_r _ [7] (by decide +kernel) (by decide +kernel)
set_option maxRecDepth 20000 in
theorem gX5_table_X5_isIn : GoodIn wsX5_table (va_wsS RX5 66 yX5_isIn wsX5_isIn) := goodIn_app (goodIn_of _ (by decide +kernel)) ggX5_table_X5_isIn
set_option maxRecDepth 20000 in
theorem ggX5_table_X5_comes : GoodIn wsX5_table wsX5_comes := goodIn_r _ [11, 1, 12, 13, 14, 15, 16, 17, 18, 19, 20, 21, 22, 23, 24, 25, 26, 27, 28, 29, 30, 31, 32, 33, 34, 35, 36, 37, 38] (by decide +kernel) (by decide +kernel)
set_option maxRecDepth 20000 in
theorem gX5_table_X5_comes : GoodIn wsX5_table (wsV RX5 70 RX5 yX5_comes wsX5_comes) := goodIn_app (goodIn_of _ (by decide +kernel)) ggX5_table_X5_comes
theorem dX5_table_0 : decode cX5_table 0 = .ok (.iload_n 1, 1) := by decide +kernel
theorem dX5_table_1 : decode cX5_table 1 = .ok (.iconst 0, 1) := by decide +kernel
theorem dX5_table_2 : decode cX5_table 2 = .ok (.iconst 3, 1) := by decide +kernel
theorem dX5_table_3 : decode cX5_table 3 = .ok (.invokestatic 66, 3) := by decide +kernel
theorem dX5_table_6 : decode cX5_table 6 = .ok (.ifCond .eq 11, 3) := by decide +kernel
theorem dX5_table_9 : decode cX5_table 9 = .ok (.aload_n 0, 1) := by decide +kernel
theorem dX5_table_10 : decode cX5_table 10 = .ok (.getfield 62, 3) := by decide +kernel
theorem dX5_table_13 : decode cX5_table 13 = .ok (.iconst 3, 1) := by decide +kernel
theorem dX5_table_14 : decode cX5_table 14 = .ok (.if_icmp .ne 5, 3) := by decide +kernel
theorem dX5_table_17 : decode cX5_table 17 = .ok (.iconst (-1), 1) := by decide +kernel
theorem dX5_table_18 : decode cX5_table 18 = .ok (.ireturn, 1) := by decide +kernel
theorem dX5_table_19 : decode cX5_table 19 = .ok (.aload_n 0, 1) := by decide +kernel
theorem dX5_table_20 : decode cX5_table 20 = .ok (.iconst 4, 1) := by decide +kernel
theorem dX5_table_21 : decode cX5_table 21 = .ok (.iload_n 1, 1) := by decide +kernel
theorem dX5_table_22 : decode cX5_table 22 = .ok (.invokevirtual 70, 3) := by decide +kernel
theorem dX5_table_25 : decode cX5_table 25 = .ok (.istore 6, 2) := by decide +kernel
theorem dX5_table_27 : decode cX5_table 27 = .ok (.aload_n 0, 1) := by decide +kernel
theorem dX5_table_28 : decode cX5_table 28 = .ok (.getfield 31, 3) := by decide +kernel
theorem dX5_table_31 : decode cX5_table 31 = .ok (.iload 6, 2) := by decide +kernel
theorem dX5_table_33 : decode cX5_table 33 = .ok (.lload_n 2, 1) := by decide +kernel
theorem dX5_table_34 : decode cX5_table 34 = .ok (.lastore, 1) := by decide +kernel
theorem dX5_table_35 : decode cX5_table 35 = .ok (.aload_n 0, 1) := by decide +kernel
theorem dX5_table_36 : decode cX5_table 36 = .ok (.getfield 35, 3) := by decide +kernel
theorem dX5_table_39 : decode cX5_table 39 = .ok (.iload 6, 2) := by decide +kernel
theorem dX5_table_41 : decode cX5_table 41 = .ok (.lload 4, 2) := by decide +kernel
theorem dX5_table_43 : decode cX5_table 43 = .ok (.lastore, 1) := by decide +kernel
theorem dX5_table_44 : decode cX5_table 44 = .ok (.iload 6, 2) := by decide +kernel
theorem dX5_table_46 : decode cX5_table 46 = .ok (.ireturn, 1) := by decide +kernel
set_option maxRecDepth 20000 in
theorem ggX5_isBy_X5_isIn : GoodIn wsX5_isBy wsX5_isIn := goodIn_r _ [4] (by decide +kernel) (by decide +kernel)
set_option maxRecDepth 20000 in
theorem gX5_isBy_X5_isIn : GoodIn wsX5_isBy (va_wsS RX5 66 yX5_isIn wsX5_isIn) := goodIn_app (goodIn_of _ (by decide +kernel)) ggX5_isBy_X5_isIn
theorem dX5_isBy_0 : decode cX5_isBy 0 = .ok (.iload_n 0, 1) := by decide +kernel
theorem dX5_isBy_1 : decode cX5_isBy 1 = .ok (.iconst 1, 1) := by decide +kernel
theorem dX5_isBy_2 : decode cX5_isBy 2 = .ok (.if_icmp .ne 12, 3) := by decide +kernel
theorem dX5_isBy_5 : decode cX5_isBy 5 = .ok (.iload_n 1, 1) := by decide +kernel
theorem dX5_isBy_6 : decode cX5_isBy 6 = .ok (.iconst 1, 1) := by decide +kernel
theorem dX5_isBy_7 : decode cX5_isBy 7 = .ok (.iconst 4, 1) := by decide +kernel
theorem dX5_isBy_8 : decode cX5_isBy 8 = .ok (.invokestatic 66, 3) := by decide +kernel
theorem dX5_isBy_11 : decode cX5_isBy 11 = .ok (.goto 9, 3) := by decide +kernel
theorem dX5_isBy_14 : decode cX5_isBy 14 = .ok (.iload_n 1, 1) := by decide +kernel
theorem dX5_isBy_15 : decode cX5_isBy 15 = .ok (.iconst 0, 1) := by decide +kernel
theorem dX5_isBy_16 : decode cX5_isBy 16 = .ok (.iconst 3, 1) := by decide +kernel
theorem dX5_isBy_17 : decode cX5_isBy 17 = .ok (.invokestatic 66, 3) := by decide +kernel
theorem dX5_isBy_20 : decode cX5_isBy 20 = .ok (.ireturn, 1) := by decide +kernel
set_option maxRecDepth 20000 in
theorem ggX5_wall_X5_isThing : GoodIn wsX5_wall wsX5_isThing := goodIn_r _ [8, 9, 10, 11, 7, 12, 16, 17, 18, 19, 20, 21, 22, 23, 24, 25, 26, 27, 28, 29, 30, 31, 32, 33, 34, 35] (by decide +kernel) (by decide +kernel)
set_option maxRecDepth 20000 in
theorem gX5_wall_X5_isThing : GoodIn wsX5_wall (wsV RX5 74 RX5 yX5_isThing wsX5_isThing) := goodIn_app (goodIn_of _ (by decide +kernel)) ggX5_wall_X5_isThing
set_option maxRecDepth 20000 in
theorem ggX5_wall_X5_isIn : GoodIn wsX5_wall wsX5_isIn := goodIn_r _ [12] (by decide +kernel) (by decide +kernel)
set_option maxRecDepth 20000 in
theorem gX5_wall_X5_isIn : GoodIn wsX5_wall (va_wsS RX5 66 yX5_isIn wsX5_isIn) := goodIn_app (goodIn_of _ (by decide +kernel)) ggX5_wall_X5_isIn
set_option maxRecDepth 20000 in
theorem ggX5_wall_X5_isBy : GoodIn wsX5_wall wsX5_isBy := goodIn_r _ [15, 10, 11, 7, 12] (by decide +kernel) (by decide +kernel)
set_option maxRecDepth 20000 in
theorem gX5_wall_X5_isBy : GoodIn wsX5_wall (va_wsS RX5 78 yX5_isBy wsX5_isBy) := goodIn_app (goodIn_of _ (by decide +kernel)) ggX5_wall_X5_isBy
theorem dX5_wall_0 : decode cX5_wall 0 = .ok (.aload_n 0, 1) := by decide +kernel
theorem dX5_wall_1 : decode cX5_wall 1 = .ok (.iload_n 1, 1) := by decide +kernel
theorem dX5_wall_2 : decode cX5_wall 2 = .ok (.invokevirtual 74, 3) := by decide +kernel
theorem dX5_wall_5 : decode cX5_wall 5 = .ok (.ifCond .eq 30, 3) := by decide +kernel
theorem dX5_wall_8 : decode cX5_wall 8 = .ok (.iload_n 2, 1) := by decide +kernel
theorem dX5_wall_9 : decode cX5_wall 9 = .ok (.iconst 0, 1) := by decide +kernel
theorem dX5_wall_10 : decode cX5_wall 10 = .ok (.iconst 3, 1) := by decide +kernel
theorem dX5_wall_11 : decode cX5_wall 11 = .ok (.invokestatic 66, 3) := by decide +kernel
theorem dX5_wall_14 : decode cX5_wall 14 = .ok (.ifCond .eq 21, 3) := by decide +kernel
theorem dX5_wall_17 : decode cX5_wall 17 = .ok (.iload_n 2, 1) := by decide +kernel
theorem dX5_wall_18 : decode cX5_wall 18 = .ok (.iconst 1, 1) := by decide +kernel
theorem dX5_wall_19 : decode cX5_wall 19 = .ok (.if_icmp .eq 8, 3) := by decide +kernel
theorem dX5_wall_22 : decode cX5_wall 22 = .ok (.iload_n 2, 1) := by decide +kernel
theorem dX5_wall_23 : decode cX5_wall 23 = .ok (.iconst 3, 1) := by decide +kernel
theorem dX5_wall_24 : decode cX5_wall 24 = .ok (.if_icmp .ne 13, 3) := by decide +kernel
theorem dX5_wall_27 : decode cX5_wall 27 = .ok (.iload_n 2, 1) := by decide +kernel
theorem dX5_wall_28 : decode cX5_wall 28 = .ok (.iload_n 3, 1) := by decide +kernel
theorem dX5_wall_29 : decode cX5_wall 29 = .ok (.invokestatic 78, 3) := by decide +kernel
theorem dX5_wall_32 : decode cX5_wall 32 = .ok (.ifCond .ne 5, 3) := by decide +kernel
theorem dX5_wall_35 : decode cX5_wall 35 = .ok (.iconst 0, 1) := by decide +kernel
theorem dX5_wall_36 : decode cX5_wall 36 = .ok (.ireturn, 1) := by decide +kernel
theorem dX5_wall_37 : decode cX5_wall 37 = .ok (.aload_n 0, 1) := by decide +kernel
theorem dX5_wall_38 : decode cX5_wall 38 = .ok (.getfield 16, 3) := by decide +kernel
theorem dX5_wall_41 : decode cX5_wall 41 = .ok (.iload_n 1, 1) := by decide +kernel
theorem dX5_wall_42 : decode cX5_wall 42 = .ok (.iload_n 2, 1) := by decide +kernel
theorem dX5_wall_43 : decode cX5_wall 43 = .ok (.iastore, 1) := by decide +kernel
theorem dX5_wall_44 : decode cX5_wall 44 = .ok (.iload_n 2, 1) := by decide +kernel
theorem dX5_wall_45 : decode cX5_wall 45 = .ok (.iconst 1, 1) := by decide +kernel
theorem dX5_wall_46 : decode cX5_wall 46 = .ok (.if_icmp .ne 10, 3) := by decide +kernel
theorem dX5_wall_49 : decode cX5_wall 49 = .ok (.aload_n 0, 1) := by decide +kernel
theorem dX5_wall_50 : decode cX5_wall 50 = .ok (.getfield 19, 3) := by decide +kernel
theorem dX5_wall_53 : decode cX5_wall 53 = .ok (.iload_n 1, 1) := by decide +kernel
theorem dX5_wall_54 : decode cX5_wall 54 = .ok (.iload_n 3, 1) := by decide +kernel
theorem dX5_wall_55 : decode cX5_wall 55 = .ok (.iastore, 1) := by decide +kernel
theorem dX5_wall_56 : decode cX5_wall 56 = .ok (.iload_n 2, 1) := by decide +kernel
theorem dX5_wall_57 : decode cX5_wall 57 = .ok (.iconst 3, 1) := by decide +kernel
theorem dX5_wall_58 : decode cX5_wall 58 = .ok (.if_icmp .ne 10, 3) := by decide +kernel
theorem dX5_wall_61 : decode cX5_wall 61 = .ok (.aload_n 0, 1) := by decide +kernel
theorem dX5_wall_62 : decode cX5_wall 62 = .ok (.getfield 22, 3) := by decide +kernel
theorem dX5_wall_65 : decode cX5_wall 65 = .ok (.iload_n 1, 1) := by decide +kernel
theorem dX5_wall_66 : decode cX5_wall 66 = .ok (.iload_n 3, 1) := by decide +kernel
theorem dX5_wall_67 : decode cX5_wall 67 = .ok (.iastore, 1) := by decide +kernel
theorem dX5_wall_68 : decode cX5_wall 68 = .ok (.iconst 1, 1) := by decide +kernel
theorem dX5_wall_69 : decode cX5_wall 69 = .ok (.ireturn, 1) := by decide +kernel
set_option maxRecDepth 20000 in
theorem ggX5_set_X5_isThing : GoodIn wsX5_set wsX5_isThing := goodIn_r _ [7, 8, 9, 10, 6, 11, 15, 16, 17, 18, 19, 20, 21, 22, 23, 24, 25, 26, 27, 28, 29, 30, 31, 32, 33, 34] (by decide +kernel) (by decide +kernel)
set_option maxRecDepth 20000 in
theorem gX5_set_X5_isThing : GoodIn wsX5_set (wsV RX5 74 RX5 yX5_isThing wsX5_isThing) := goodIn_app (goodIn_of _ (by decide +kernel)) ggX5_set_X5_isThing
set_option maxRecDepth 20000 in
theorem ggX5_set_X5_isBy : GoodIn wsX5_set wsX5_isBy := goodIn_r _ [14, 9, 10, 6, 11] (by decide +kernel) (by decide +kernel)
set_option maxRecDepth 20000 in
theorem gX5_set_X5_isBy : GoodIn wsX5_set (va_wsS RX5 78 yX5_isBy wsX5_isBy) := goodIn_app (goodIn_of _ (by decide +kernel)) ggX5_set_X5_isBy
theorem dX5_set_0 : decode cX5_set 0 = .ok (.aload_n 0, 1) := by decide +kernel
theorem dX5_set_1 : decode cX5_set 1 = .ok (.iload_n 1, 1) := by decide +kernel
theorem dX5_set_2 : decode cX5_set 2 = .ok (.invokevirtual 74, 3) := by decide +kernel
theorem dX5_set_5 : decode cX5_set 5 = .ok (.ifCond .eq 21, 3) := by decide +kernel
theorem dX5_set_8 : decode cX5_set 8 = .ok (.iload_n 2, 1) := by decide +kernel
theorem dX5_set_9 : decode cX5_set 9 = .ok (.iconst 1, 1) := by decide +kernel
theorem dX5_set_10 : decode cX5_set 10 = .ok (.if_icmp .eq 8, 3) := by decide +kernel
theorem dX5_set_13 : decode cX5_set 13 = .ok (.iload_n 2, 1) := by decide +kernel
theorem dX5_set_14 : decode cX5_set 14 = .ok (.iconst 3, 1) := by decide +kernel
theorem dX5_set_15 : decode cX5_set 15 = .ok (.if_icmp .ne 11, 3) := by decide +kernel
theorem dX5_set_18 : decode cX5_set 18 = .ok (.iload_n 2, 1) := by decide +kernel
theorem dX5_set_19 : decode cX5_set 19 = .ok (.iload_n 3, 1) := by decide +kernel
theorem dX5_set_20 : decode cX5_set 20 = .ok (.invokestatic 78, 3) := by decide +kernel
theorem dX5_set_23 : decode cX5_set 23 = .ok (.ifCond .ne 5, 3) := by decide +kernel
theorem dX5_set_26 : decode cX5_set 26 = .ok (.iconst 0, 1) := by decide +kernel
theorem dX5_set_27 : decode cX5_set 27 = .ok (.ireturn, 1) := by decide +kernel
theorem dX5_set_28 : decode cX5_set 28 = .ok (.iload_n 2, 1) := by decide +kernel
theorem dX5_set_29 : decode cX5_set 29 = .ok (.iconst 1, 1) := by decide +kernel
theorem dX5_set_30 : decode cX5_set 30 = .ok (.if_icmp .ne 13, 3) := by decide +kernel
theorem dX5_set_33 : decode cX5_set 33 = .ok (.aload_n 0, 1) := by decide +kernel
theorem dX5_set_34 : decode cX5_set 34 = .ok (.getfield 19, 3) := by decide +kernel
theorem dX5_set_37 : decode cX5_set 37 = .ok (.iload_n 1, 1) := by decide +kernel
theorem dX5_set_38 : decode cX5_set 38 = .ok (.iload_n 3, 1) := by decide +kernel
theorem dX5_set_39 : decode cX5_set 39 = .ok (.iastore, 1) := by decide +kernel
theorem dX5_set_40 : decode cX5_set 40 = .ok (.goto 10, 3) := by decide +kernel
theorem dX5_set_43 : decode cX5_set 43 = .ok (.aload_n 0, 1) := by decide +kernel
theorem dX5_set_44 : decode cX5_set 44 = .ok (.getfield 22, 3) := by decide +kernel
theorem dX5_set_47 : decode cX5_set 47 = .ok (.iload_n 1, 1) := by decide +kernel
theorem dX5_set_48 : decode cX5_set 48 = .ok (.iload_n 3, 1) := by decide +kernel
theorem dX5_set_49 : decode cX5_set 49 = .ok (.iastore, 1) := by decide +kernel
theorem dX5_set_50 : decode cX5_set 50 = .ok (.iconst 1, 1) := by decide +kernel
theorem dX5_set_51 : decode cX5_set 51 = .ok (.ireturn, 1) := by decide +kernel
set_option maxRecDepth 20000 in
theorem ggX5_price_X5_isThing : GoodIn wsX5_price wsX5_isThing := goodIn_r _ [6, 7, 8, 9, 5, 10, 11, 12, 13, 14, 15, 16, 17, 18, 19, 20, 21, 22, 23, 24, 25, 26, 27, 28, 29, 30] (by decide +kernel) (by decide +kernel)
set_option maxRecDepth 20000 in
theorem gX5_price_X5_isThing : GoodIn wsX5_price (wsV RX5 74 RX5 yX5_isThing wsX5_isThing) := goodIn_app (goodIn_of _ (by decide +kernel)) ggX5_price_X5_isThing
set_option maxRecDepth 20000 in
theorem ggX5_price_X5_isIn : GoodIn wsX5_price wsX5_isIn := goodIn_r _ [10] (by decide +kernel) (by decide +kernel)
set_option maxRecDepth 20000 in
theorem gX5_price_X5_isIn : GoodIn wsX5_price (va_wsS RX5 66 yX5_isIn wsX5_isIn) := goodIn_app (goodIn_of _ (by decide +kernel)) ggX5_price_X5_isIn
theorem dX5_price_0 : decode cX5_price 0 = .ok (.aload_n 0, 1) := by decide +kernel
theorem dX5_price_1 : decode cX5_price 1 = .ok (.iload_n 1, 1) := by decide +kernel
theorem dX5_price_2 : decode cX5_price 2 = .ok (.invokevirtual 74, 3) := by decide +kernel
theorem dX5_price_5 : decode cX5_price 5 = .ok (.ifCond .eq 22, 3) := by decide +kernel
theorem dX5_price_8 : decode cX5_price 8 = .ok (.iload_n 2, 1) := by decide +kernel
theorem dX5_price_9 : decode cX5_price 9 = .ok (.iconst 1, 1) := by decide +kernel
theorem dX5_price_10 : decode cX5_price 10 = .ok (.iconst 3, 1) := by decide +kernel
theorem dX5_price_11 : decode cX5_price 11 = .ok (.invokestatic 66, 3) := by decide +kernel
theorem dX5_price_14 : decode cX5_price 14 = .ok (.ifCond .eq 13, 3) := by decide +kernel
theorem dX5_price_17 : decode cX5_price 17 = .ok (.iload_n 3, 1) := by decide +kernel
theorem dX5_price_18 : decode cX5_price 18 = .ok (.iconst 0, 1) := by decide +kernel
theorem dX5_price_19 : decode cX5_price 19 = .ok (.bipush 99, 2) := by decide +kernel
theorem dX5_price_21 : decode cX5_price 21 = .ok (.invokestatic 66, 3) := by decide +kernel
theorem dX5_price_24 : decode cX5_price 24 = .ok (.ifCond .ne 5, 3) := by decide +kernel
theorem dX5_price_27 : decode cX5_price 27 = .ok (.iconst 0, 1) := by decide +kernel
theorem dX5_price_28 : decode cX5_price 28 = .ok (.ireturn, 1) := by decide +kernel
theorem dX5_price_29 : decode cX5_price 29 = .ok (.aload_n 0, 1) := by decide +kernel
theorem dX5_price_30 : decode cX5_price 30 = .ok (.getfield 25, 3) := by decide +kernel
theorem dX5_price_33 : decode cX5_price 33 = .ok (.iconst 4, 1) := by decide +kernel
theorem dX5_price_34 : decode cX5_price 34 = .ok (.iload_n 1, 1) := by decide +kernel
theorem dX5_price_35 : decode cX5_price 35 = .ok (.imul, 1) := by decide +kernel
theorem dX5_price_36 : decode cX5_price 36 = .ok (.iload_n 2, 1) := by decide +kernel
theorem dX5_price_37 : decode cX5_price 37 = .ok (.iadd, 1) := by decide +kernel
theorem dX5_price_38 : decode cX5_price 38 = .ok (.iload_n 3, 1) := by decide +kernel
theorem dX5_price_39 : decode cX5_price 39 = .ok (.iastore, 1) := by decide +kernel
theorem dX5_price_40 : decode cX5_price 40 = .ok (.iconst 1, 1) := by decide +kernel
theorem dX5_price_41 : decode cX5_price 41 = .ok (.ireturn, 1) := by decide +kernel
theorem dX5_wallsNow_0 : decode cX5_wallsNow 0 = .ok (.iconst 0, 1) := by decide +kernel
theorem dX5_wallsNow_1 : decode cX5_wallsNow 1 = .ok (.istore_n 1, 1) := by decide +kernel
theorem dX5_wallsNow_2 : decode cX5_wallsNow 2 = .ok (.iconst 0, 1) := by decide +kernel
theorem dX5_wallsNow_3 : decode cX5_wallsNow 3 = .ok (.istore_n 2, 1) := by decide +kernel
theorem dX5_wallsNow_4 : decode cX5_wallsNow 4 = .ok (.iload_n 2, 1) := by decide +kernel
theorem dX5_wallsNow_5 : decode cX5_wallsNow 5 = .ok (.aload_n 0, 1) := by decide +kernel
theorem dX5_wallsNow_6 : decode cX5_wallsNow 6 = .ok (.getfield 62, 3) := by decide +kernel
theorem dX5_wallsNow_9 : decode cX5_wallsNow 9 = .ok (.if_icmp .ge 22, 3) := by decide +kernel
theorem dX5_wallsNow_12 : decode cX5_wallsNow 12 = .ok (.iload_n 1, 1) := by decide +kernel
theorem dX5_wallsNow_13 : decode cX5_wallsNow 13 = .ok (.aload_n 0, 1) := by decide +kernel
theorem dX5_wallsNow_14 : decode cX5_wallsNow 14 = .ok (.getfield 16, 3) := by decide +kernel
theorem dX5_wallsNow_17 : decode cX5_wallsNow 17 = .ok (.iload_n 2, 1) := by decide +kernel
theorem dX5_wallsNow_18 : decode cX5_wallsNow 18 = .ok (.iaload, 1) := by decide +kernel
theorem dX5_wallsNow_19 : decode cX5_wallsNow 19 = .ok (.iconst 2, 1) := by decide +kernel
theorem dX5_wallsNow_20 : decode cX5_wallsNow 20 = .ok (.iload_n 2, 1) := by decide +kernel
theorem dX5_wallsNow_21 : decode cX5_wallsNow 21 = .ok (.imul, 1) := by decide +kernel
theorem dX5_wallsNow_22 : decode cX5_wallsNow 22 = .ok (.ishl, 1) := by decide +kernel
theorem dX5_wallsNow_23 : decode cX5_wallsNow 23 = .ok (.ior, 1) := by decide +kernel
theorem dX5_wallsNow_24 : decode cX5_wallsNow 24 = .ok (.istore_n 1, 1) := by decide +kernel
theorem dX5_wallsNow_25 : decode cX5_wallsNow 25 = .ok (.iinc 2 1, 3) := by decide +kernel
theorem dX5_wallsNow_28 : decode cX5_wallsNow 28 = .ok (.goto (-24), 3) := by decide +kernel
theorem dX5_wallsNow_31 : decode cX5_wallsNow 31 = .ok (.iload_n 1, 1) := by decide +kernel
theorem dX5_wallsNow_32 : decode cX5_wallsNow 32 = .ok (.ireturn, 1) := by decide +kernel
theorem dX5_costs_0 : decode cX5_costs 0 = .ok (.iconst 0, 1) := by decide +kernel
theorem dX5_costs_1 : decode cX5_costs 1 = .ok (.istore_n 2, 1) := by decide +kernel
theorem dX5_costs_2 : decode cX5_costs 2 = .ok (.iconst 0, 1) := by decide +kernel
theorem dX5_costs_3 : decode cX5_costs 3 = .ok (.istore_n 3, 1) := by decide +kernel
theorem dX5_costs_4 : decode cX5_costs 4 = .ok (.iload_n 3, 1) := by decide +kernel
theorem dX5_costs_5 : decode cX5_costs 5 = .ok (.aload_n 0, 1) := by decide +kernel
theorem dX5_costs_6 : decode cX5_costs 6 = .ok (.getfield 62, 3) := by decide +kernel
theorem dX5_costs_9 : decode cX5_costs 9 = .ok (.if_icmp .ge 28, 3) := by decide +kernel
theorem dX5_costs_12 : decode cX5_costs 12 = .ok (.iload_n 2, 1) := by decide +kernel
theorem dX5_costs_13 : decode cX5_costs 13 = .ok (.aload_n 0, 1) := by decide +kernel
theorem dX5_costs_14 : decode cX5_costs 14 = .ok (.getfield 25, 3) := by decide +kernel
theorem dX5_costs_17 : decode cX5_costs 17 = .ok (.iconst 4, 1) := by decide +kernel
theorem dX5_costs_18 : decode cX5_costs 18 = .ok (.iload_n 3, 1) := by decide +kernel
theorem dX5_costs_19 : decode cX5_costs 19 = .ok (.imul, 1) := by decide +kernel
theorem dX5_costs_20 : decode cX5_costs 20 = .ok (.iload_n 1, 1) := by decide +kernel
theorem dX5_costs_21 : decode cX5_costs 21 = .ok (.iconst 2, 1) := by decide +kernel
theorem dX5_costs_22 : decode cX5_costs 22 = .ok (.iload_n 3, 1) := by decide +kernel
theorem dX5_costs_23 : decode cX5_costs 23 = .ok (.imul, 1) := by decide +kernel
theorem dX5_costs_24 : decode cX5_costs 24 = .ok (.ishr, 1) := by decide +kernel
theorem dX5_costs_25 : decode cX5_costs 25 = .ok (.iconst 3, 1) := by decide +kernel
theorem dX5_costs_26 : decode cX5_costs 26 = .ok (.iand, 1) := by decide +kernel
theorem dX5_costs_27 : decode cX5_costs 27 = .ok (.iadd, 1) := by decide +kernel
theorem dX5_costs_28 : decode cX5_costs 28 = .ok (.iaload, 1) := by decide +kernel
theorem dX5_costs_29 : decode cX5_costs 29 = .ok (.iadd, 1) := by decide +kernel
theorem dX5_costs_30 : decode cX5_costs 30 = .ok (.istore_n 2, 1) := by decide +kernel
theorem dX5_costs_31 : decode cX5_costs 31 = .ok (.iinc 3 1, 3) := by decide +kernel
theorem dX5_costs_34 : decode cX5_costs 34 = .ok (.goto (-30), 3) := by decide +kernel
theorem dX5_costs_37 : decode cX5_costs 37 = .ok (.iload_n 2, 1) := by decide +kernel
theorem dX5_costs_38 : decode cX5_costs 38 = .ok (.ireturn, 1) := by decide +kernel
set_option maxRecDepth 20000 in
theorem ggX5_look_X5_silent : GoodIn wsX5_look wsX5_silent := goodIn_r _ [6, 7, 8, 9, 5, 10, 1, 11, 12, 13, 14, 15, 16, 17, 18, 19, 20, 21, 22, 23, 24, 25, 26, 27, 28, 29, 30, 31, 32, 33, 34, 35, 36, 37, 38, 39, 40, 41, 42, 43, 44, 45, 46, 47, 48, 49, 50, 51, 52, 53, 54, 55, 56, 57, 58, 59, 60, 61, 62, 72, 73, 74, 75, 76, 77, 78, 79, 80, 81, 82, 83, 84, 85, 86, 87, 88, 89, 90, 91] (by decide +kernel) (by decide +kernel)
set_option maxRecDepth 20000 in
theorem gX5_look_X5_silent : GoodIn wsX5_look (wsV RX5 82 RX5 yX5_silent wsX5_silent) := goodIn_app (goodIn_of _ (by decide +kernel)) ggX5_look_X5_silent
set_option maxRecDepth 20000 in
theorem ggX5_look_X5_wallsNow : GoodIn wsX5_look wsX5_wallsNow := goodIn_r _ [66, 1, 28, 72, 73, 74, 75, 76, 77, 78, 79, 80, 81, 82, 83, 84, 85, 86, 87, 88, 89, 90, 91] (by decide +kernel) (by decide +kernel)
set_option maxRecDepth 20000 in
theorem gX5_look_X5_wallsNow : GoodIn wsX5_look (wsV RX5 86 RX5 yX5_wallsNow wsX5_wallsNow) := goodIn_app (goodIn_of _ (by decide +kernel)) ggX5_look_X5_wallsNow
set_option maxRecDepth 20000 in
theorem ggX5_look_X5_costs : GoodIn wsX5_look wsX5_costs := goodIn_r _ [70, 1, 71, 72, 73, 74, 75, 76, 77, 78, 79, 80, 81, 82, 83, 84, 85, 86, 87, 88, 89, 90, 91] (by decide +kernel) (by decide +kernel)
set_option maxRecDepth 20000 in
theorem gX5_look_X5_costs : GoodIn wsX5_look (wsV RX5 90 RX5 yX5_costs wsX5_costs) := goodIn_app (goodIn_of _ (by decide +kernel)) ggX5_look_X5_costs
theorem dX5_look_0 : decode cX5_look 0 = .ok (.iconst 0, 1) := by decide +kernel
theorem dX5_look_1 : decode cX5_look 1 = .ok (.istore_n 2, 1) := by decide +kernel
theorem dX5_look_2 : decode cX5_look 2 = .ok (.iload_n 1, 1) := by decide +kernel
theorem dX5_look_3 : decode cX5_look 3 = .ok (.tableswitch 74 0 3 #[29, 34, 60, 69], 29) := by decide +kernel
theorem dX5_look_32 : decode cX5_look 32 = .ok (.aload_n 0, 1) := by decide +kernel
theorem dX5_look_33 : decode cX5_look 33 = .ok (.getfield 62, 3) := by decide +kernel
theorem dX5_look_36 : decode cX5_look 36 = .ok (.ireturn, 1) := by decide +kernel
theorem dX5_look_37 : decode cX5_look 37 = .ok (.iconst 0, 1) := by decide +kernel
theorem dX5_look_38 : decode cX5_look 38 = .ok (.istore_n 3, 1) := by decide +kernel
theorem dX5_look_39 : decode cX5_look 39 = .ok (.iload_n 3, 1) := by decide +kernel
theorem dX5_look_40 : decode cX5_look 40 = .ok (.aload_n 0, 1) := by decide +kernel
theorem dX5_look_41 : decode cX5_look 41 = .ok (.getfield 62, 3) := by decide +kernel
theorem dX5_look_44 : decode cX5_look 44 = .ok (.if_icmp .ge 17, 3) := by decide +kernel
theorem dX5_look_47 : decode cX5_look 47 = .ok (.iload_n 2, 1) := by decide +kernel
theorem dX5_look_48 : decode cX5_look 48 = .ok (.aload_n 0, 1) := by decide +kernel
theorem dX5_look_49 : decode cX5_look 49 = .ok (.iload_n 3, 1) := by decide +kernel
theorem dX5_look_50 : decode cX5_look 50 = .ok (.invokevirtual 82, 3) := by decide +kernel
theorem dX5_look_53 : decode cX5_look 53 = .ok (.iadd, 1) := by decide +kernel
theorem dX5_look_54 : decode cX5_look 54 = .ok (.istore_n 2, 1) := by decide +kernel
theorem dX5_look_55 : decode cX5_look 55 = .ok (.iinc 3 1, 3) := by decide +kernel
theorem dX5_look_58 : decode cX5_look 58 = .ok (.goto (-19), 3) := by decide +kernel
theorem dX5_look_61 : decode cX5_look 61 = .ok (.iload_n 2, 1) := by decide +kernel
theorem dX5_look_62 : decode cX5_look 62 = .ok (.ireturn, 1) := by decide +kernel
theorem dX5_look_63 : decode cX5_look 63 = .ok (.aload_n 0, 1) := by decide +kernel
theorem dX5_look_64 : decode cX5_look 64 = .ok (.aload_n 0, 1) := by decide +kernel
theorem dX5_look_65 : decode cX5_look 65 = .ok (.invokevirtual 86, 3) := by decide +kernel
theorem dX5_look_68 : decode cX5_look 68 = .ok (.invokevirtual 90, 3) := by decide +kernel
theorem dX5_look_71 : decode cX5_look 71 = .ok (.ireturn, 1) := by decide +kernel
theorem dX5_look_72 : decode cX5_look 72 = .ok (.aload_n 0, 1) := by decide +kernel
theorem dX5_look_73 : decode cX5_look 73 = .ok (.invokevirtual 86, 3) := by decide +kernel
theorem dX5_look_76 : decode cX5_look 76 = .ok (.ireturn, 1) := by decide +kernel
theorem dX5_look_77 : decode cX5_look 77 = .ok (.iconst (-1), 1) := by decide +kernel
theorem dX5_look_78 : decode cX5_look 78 = .ok (.ireturn, 1) := by decide +kernel
set_option maxRecDepth 20000 in
theorem ggX5_of_X5_isThing : GoodIn wsX5_of wsX5_isThing := goodIn_r _ [10, 11, 12, 13, 9, 14, 15, 16, 17, 18, 19, 20, 21, 22, 23, 24, 25, 26, 27, 28, 29, 30, 31, 32, 33, 34] (by decide +kernel) (by decide +kernel)
set_option maxRecDepth 20000 in
theorem gX5_of_X5_isThing : GoodIn wsX5_of (wsV RX5 74 RX5 yX5_isThing wsX5_isThing) := goodIn_app (goodIn_of _ (by decide +kernel)) ggX5_of_X5_isThing
theorem dX5_of_0 : decode cX5_of 0 = .ok (.aload_n 0, 1) := by decide +kernel
theorem dX5_of_1 : decode cX5_of 1 = .ok (.iload_n 1, 1) := by decide +kernel
theorem dX5_of_2 : decode cX5_of 2 = .ok (.invokevirtual 74, 3) := by decide +kernel
theorem dX5_of_5 : decode cX5_of 5 = .ok (.ifCond .ne 5, 3) := by decide +kernel
theorem dX5_of_8 : decode cX5_of 8 = .ok (.iconst (-1), 1) := by decide +kernel
theorem dX5_of_9 : decode cX5_of 9 = .ok (.ireturn, 1) := by decide +kernel
theorem dX5_of_10 : decode cX5_of 10 = .ok (.iload_n 2, 1) := by decide +kernel
theorem dX5_of_11 : decode cX5_of 11 = .ok (.tableswitch 68 0 4 #[33, 40, 47, 54, 61], 33) := by decide +kernel
theorem dX5_of_44 : decode cX5_of 44 = .ok (.aload_n 0, 1) := by decide +kernel
theorem dX5_of_45 : decode cX5_of 45 = .ok (.getfield 7, 3) := by decide +kernel
theorem dX5_of_48 : decode cX5_of 48 = .ok (.iload_n 1, 1) := by decide +kernel
theorem dX5_of_49 : decode cX5_of 49 = .ok (.iaload, 1) := by decide +kernel
theorem dX5_of_50 : decode cX5_of 50 = .ok (.ireturn, 1) := by decide +kernel
theorem dX5_of_51 : decode cX5_of 51 = .ok (.aload_n 0, 1) := by decide +kernel
theorem dX5_of_52 : decode cX5_of 52 = .ok (.getfield 13, 3) := by decide +kernel
theorem dX5_of_55 : decode cX5_of 55 = .ok (.iload_n 1, 1) := by decide +kernel
theorem dX5_of_56 : decode cX5_of 56 = .ok (.iaload, 1) := by decide +kernel
theorem dX5_of_57 : decode cX5_of 57 = .ok (.ireturn, 1) := by decide +kernel
theorem dX5_of_58 : decode cX5_of 58 = .ok (.aload_n 0, 1) := by decide +kernel
theorem dX5_of_59 : decode cX5_of 59 = .ok (.getfield 16, 3) := by decide +kernel
theorem dX5_of_62 : decode cX5_of 62 = .ok (.iload_n 1, 1) := by decide +kernel
theorem dX5_of_63 : decode cX5_of 63 = .ok (.iaload, 1) := by decide +kernel
theorem dX5_of_64 : decode cX5_of 64 = .ok (.ireturn, 1) := by decide +kernel
theorem dX5_of_65 : decode cX5_of 65 = .ok (.aload_n 0, 1) := by decide +kernel
theorem dX5_of_66 : decode cX5_of 66 = .ok (.getfield 19, 3) := by decide +kernel
theorem dX5_of_69 : decode cX5_of 69 = .ok (.iload_n 1, 1) := by decide +kernel
theorem dX5_of_70 : decode cX5_of 70 = .ok (.iaload, 1) := by decide +kernel
theorem dX5_of_71 : decode cX5_of 71 = .ok (.ireturn, 1) := by decide +kernel
theorem dX5_of_72 : decode cX5_of 72 = .ok (.aload_n 0, 1) := by decide +kernel
theorem dX5_of_73 : decode cX5_of 73 = .ok (.getfield 22, 3) := by decide +kernel
theorem dX5_of_76 : decode cX5_of 76 = .ok (.iload_n 1, 1) := by decide +kernel
theorem dX5_of_77 : decode cX5_of 77 = .ok (.iaload, 1) := by decide +kernel
theorem dX5_of_78 : decode cX5_of 78 = .ok (.ireturn, 1) := by decide +kernel
theorem dX5_of_79 : decode cX5_of 79 = .ok (.iconst (-1), 1) := by decide +kernel
theorem dX5_of_80 : decode cX5_of 80 = .ok (.ireturn, 1) := by decide +kernel
theorem dX5_act_0 : decode cX5_act 0 = .ok (.aload_n 0, 1) := by decide +kernel
theorem dX5_act_1 : decode cX5_act 1 = .ok (.getfield 7, 3) := by decide +kernel
theorem dX5_act_4 : decode cX5_act 4 = .ok (.iload_n 1, 1) := by decide +kernel
theorem dX5_act_5 : decode cX5_act 5 = .ok (.iaload, 1) := by decide +kernel
theorem dX5_act_6 : decode cX5_act 6 = .ok (.iconst 4, 1) := by decide +kernel
theorem dX5_act_7 : decode cX5_act 7 = .ok (.if_icmp .ne 50, 3) := by decide +kernel
theorem dX5_act_10 : decode cX5_act 10 = .ok (.iconst 2, 1) := by decide +kernel
theorem dX5_act_11 : decode cX5_act 11 = .ok (.bipush 12, 2) := by decide +kernel
theorem dX5_act_13 : decode cX5_act 13 = .ok (.iload_n 2, 1) := by decide +kernel
theorem dX5_act_14 : decode cX5_act 14 = .ok (.imul, 1) := by decide +kernel
theorem dX5_act_15 : decode cX5_act 15 = .ok (.iconst 3, 1) := by decide +kernel
theorem dX5_act_16 : decode cX5_act 16 = .ok (.iload_n 3, 1) := by decide +kernel
theorem dX5_act_17 : decode cX5_act 17 = .ok (.imul, 1) := by decide +kernel
theorem dX5_act_18 : decode cX5_act 18 = .ok (.iadd, 1) := by decide +kernel
theorem dX5_act_19 : decode cX5_act 19 = .ok (.iload 4, 2) := by decide +kernel
theorem dX5_act_21 : decode cX5_act 21 = .ok (.iadd, 1) := by decide +kernel
theorem dX5_act_22 : decode cX5_act 22 = .ok (.imul, 1) := by decide +kernel
theorem dX5_act_23 : decode cX5_act 23 = .ok (.istore 5, 2) := by decide +kernel
theorem dX5_act_25 : decode cX5_act 25 = .ok (.aload_n 0, 1) := by decide +kernel
theorem dX5_act_26 : decode cX5_act 26 = .ok (.getfield 31, 3) := by decide +kernel
theorem dX5_act_29 : decode cX5_act 29 = .ok (.iload_n 1, 1) := by decide +kernel
theorem dX5_act_30 : decode cX5_act 30 = .ok (.laload, 1) := by decide +kernel
theorem dX5_act_31 : decode cX5_act 31 = .ok (.iload 5, 2) := by decide +kernel
theorem dX5_act_33 : decode cX5_act 33 = .ok (.lshr, 1) := by decide +kernel
theorem dX5_act_34 : decode cX5_act 34 = .ok (.ldc2_w 93, 3) := by decide +kernel
theorem dX5_act_37 : decode cX5_act 37 = .ok (.land, 1) := by decide +kernel
theorem dX5_act_38 : decode cX5_act 38 = .ok (.l2i, 1) := by decide +kernel
theorem dX5_act_39 : decode cX5_act 39 = .ok (.iconst 4, 1) := by decide +kernel
theorem dX5_act_40 : decode cX5_act 40 = .ok (.aload_n 0, 1) := by decide +kernel
theorem dX5_act_41 : decode cX5_act 41 = .ok (.getfield 35, 3) := by decide +kernel
theorem dX5_act_44 : decode cX5_act 44 = .ok (.iload_n 1, 1) := by decide +kernel
theorem dX5_act_45 : decode cX5_act 45 = .ok (.laload, 1) := by decide +kernel
theorem dX5_act_46 : decode cX5_act 46 = .ok (.iload 5, 2) := by decide +kernel
theorem dX5_act_48 : decode cX5_act 48 = .ok (.lshr, 1) := by decide +kernel
theorem dX5_act_49 : decode cX5_act 49 = .ok (.ldc2_w 93, 3) := by decide +kernel
theorem dX5_act_52 : decode cX5_act 52 = .ok (.land, 1) := by decide +kernel
theorem dX5_act_53 : decode cX5_act 53 = .ok (.l2i, 1) := by decide +kernel
theorem dX5_act_54 : decode cX5_act 54 = .ok (.imul, 1) := by decide +kernel
theorem dX5_act_55 : decode cX5_act 55 = .ok (.iadd, 1) := by decide +kernel
theorem dX5_act_56 : decode cX5_act 56 = .ok (.ireturn, 1) := by decide +kernel
theorem dX5_act_57 : decode cX5_act 57 = .ok (.iload 4, 2) := by decide +kernel
theorem dX5_act_59 : decode cX5_act 59 = .ok (.iconst 2, 1) := by decide +kernel
theorem dX5_act_60 : decode cX5_act 60 = .ok (.if_icmp .ne 5, 3) := by decide +kernel
theorem dX5_act_63 : decode cX5_act 63 = .ok (.iload_n 3, 1) := by decide +kernel
theorem dX5_act_64 : decode cX5_act 64 = .ok (.ireturn, 1) := by decide +kernel
theorem dX5_act_65 : decode cX5_act 65 = .ok (.aload_n 0, 1) := by decide +kernel
theorem dX5_act_66 : decode cX5_act 66 = .ok (.getfield 7, 3) := by decide +kernel
theorem dX5_act_69 : decode cX5_act 69 = .ok (.iload_n 1, 1) := by decide +kernel
theorem dX5_act_70 : decode cX5_act 70 = .ok (.iaload, 1) := by decide +kernel
theorem dX5_act_71 : decode cX5_act 71 = .ok (.tableswitch 129 0 2 #[25, 52, 88], 25) := by decide +kernel
theorem dX5_act_96 : decode cX5_act 96 = .ok (.iload 4, 2) := by decide +kernel
theorem dX5_act_98 : decode cX5_act 98 = .ok (.iconst 1, 1) := by decide +kernel
theorem dX5_act_99 : decode cX5_act 99 = .ok (.if_icmp .ne 7, 3) := by decide +kernel
theorem dX5_act_102 : decode cX5_act 102 = .ok (.iconst 0, 1) := by decide +kernel
theorem dX5_act_103 : decode cX5_act 103 = .ok (.goto 19, 3) := by decide +kernel
theorem dX5_act_106 : decode cX5_act 106 = .ok (.iload_n 3, 1) := by decide +kernel
theorem dX5_act_107 : decode cX5_act 107 = .ok (.iload_n 2, 1) := by decide +kernel
theorem dX5_act_108 : decode cX5_act 108 = .ok (.iconst 1, 1) := by decide +kernel
theorem dX5_act_109 : decode cX5_act 109 = .ok (.iadd, 1) := by decide +kernel
theorem dX5_act_110 : decode cX5_act 110 = .ok (.if_icmp .ne 7, 3) := by decide +kernel
theorem dX5_act_113 : decode cX5_act 113 = .ok (.iload_n 3, 1) := by decide +kernel
theorem dX5_act_114 : decode cX5_act 114 = .ok (.goto 8, 3) := by decide +kernel
theorem dX5_act_117 : decode cX5_act 117 = .ok (.iload_n 2, 1) := by decide +kernel
theorem dX5_act_118 : decode cX5_act 118 = .ok (.iconst 1, 1) := by decide +kernel
theorem dX5_act_119 : decode cX5_act 119 = .ok (.iadd, 1) := by decide +kernel
theorem dX5_act_120 : decode cX5_act 120 = .ok (.iconst 4, 1) := by decide +kernel
theorem dX5_act_121 : decode cX5_act 121 = .ok (.iadd, 1) := by decide +kernel
theorem dX5_act_122 : decode cX5_act 122 = .ok (.ireturn, 1) := by decide +kernel
theorem dX5_act_123 : decode cX5_act 123 = .ok (.iload 4, 2) := by decide +kernel
theorem dX5_act_125 : decode cX5_act 125 = .ok (.ifCond .ne 20, 3) := by decide +kernel
theorem dX5_act_128 : decode cX5_act 128 = .ok (.iload_n 3, 1) := by decide +kernel
theorem dX5_act_129 : decode cX5_act 129 = .ok (.iconst 3, 1) := by decide +kernel
theorem dX5_act_130 : decode cX5_act 130 = .ok (.if_icmp .ne 9, 3) := by decide +kernel
theorem dX5_act_133 : decode cX5_act 133 = .ok (.iload_n 3, 1) := by decide +kernel
theorem dX5_act_134 : decode cX5_act 134 = .ok (.iconst 4, 1) := by decide +kernel
theorem dX5_act_135 : decode cX5_act 135 = .ok (.iadd, 1) := by decide +kernel
theorem dX5_act_136 : decode cX5_act 136 = .ok (.goto 22, 3) := by decide +kernel
theorem dX5_act_139 : decode cX5_act 139 = .ok (.iload_n 3, 1) := by decide +kernel
theorem dX5_act_140 : decode cX5_act 140 = .ok (.iconst 1, 1) := by decide +kernel
theorem dX5_act_141 : decode cX5_act 141 = .ok (.iadd, 1) := by decide +kernel
theorem dX5_act_142 : decode cX5_act 142 = .ok (.goto 16, 3) := by decide +kernel
theorem dX5_act_145 : decode cX5_act 145 = .ok (.iload_n 3, 1) := by decide +kernel
theorem dX5_act_146 : decode cX5_act 146 = .ok (.ifCond .ne 9, 3) := by decide +kernel
theorem dX5_act_149 : decode cX5_act 149 = .ok (.iload_n 3, 1) := by decide +kernel
theorem dX5_act_150 : decode cX5_act 150 = .ok (.iconst 4, 1) := by decide +kernel
theorem dX5_act_151 : decode cX5_act 151 = .ok (.iadd, 1) := by decide +kernel
theorem dX5_act_152 : decode cX5_act 152 = .ok (.goto 6, 3) := by decide +kernel
theorem dX5_act_155 : decode cX5_act 155 = .ok (.iload_n 3, 1) := by decide +kernel
theorem dX5_act_156 : decode cX5_act 156 = .ok (.iconst 1, 1) := by decide +kernel
theorem dX5_act_157 : decode cX5_act 157 = .ok (.isub, 1) := by decide +kernel
theorem dX5_act_158 : decode cX5_act 158 = .ok (.ireturn, 1) := by decide +kernel
theorem dX5_act_159 : decode cX5_act 159 = .ok (.iload 4, 2) := by decide +kernel
theorem dX5_act_161 : decode cX5_act 161 = .ok (.ifCond .ne 24, 3) := by decide +kernel
theorem dX5_act_164 : decode cX5_act 164 = .ok (.iload_n 3, 1) := by decide +kernel
theorem dX5_act_165 : decode cX5_act 165 = .ok (.ifCond .eq 10, 3) := by decide +kernel
theorem dX5_act_168 : decode cX5_act 168 = .ok (.iload_n 3, 1) := by decide +kernel
theorem dX5_act_169 : decode cX5_act 169 = .ok (.iload_n 2, 1) := by decide +kernel
theorem dX5_act_170 : decode cX5_act 170 = .ok (.iconst 1, 1) := by decide +kernel
theorem dX5_act_171 : decode cX5_act 171 = .ok (.iadd, 1) := by decide +kernel
theorem dX5_act_172 : decode cX5_act 172 = .ok (.if_icmp .ne 9, 3) := by decide +kernel
theorem dX5_act_175 : decode cX5_act 175 = .ok (.iload_n 2, 1) := by decide +kernel
theorem dX5_act_176 : decode cX5_act 176 = .ok (.iconst 1, 1) := by decide +kernel
theorem dX5_act_177 : decode cX5_act 177 = .ok (.iadd, 1) := by decide +kernel
theorem dX5_act_178 : decode cX5_act 178 = .ok (.goto 6, 3) := by decide +kernel
theorem dX5_act_181 : decode cX5_act 181 = .ok (.iload_n 3, 1) := by decide +kernel
theorem dX5_act_182 : decode cX5_act 182 = .ok (.iconst 4, 1) := by decide +kernel
theorem dX5_act_183 : decode cX5_act 183 = .ok (.iadd, 1) := by decide +kernel
theorem dX5_act_184 : decode cX5_act 184 = .ok (.ireturn, 1) := by decide +kernel
theorem dX5_act_185 : decode cX5_act 185 = .ok (.iload_n 3, 1) := by decide +kernel
theorem dX5_act_186 : decode cX5_act 186 = .ok (.iload_n 2, 1) := by decide +kernel
theorem dX5_act_187 : decode cX5_act 187 = .ok (.iconst 1, 1) := by decide +kernel
theorem dX5_act_188 : decode cX5_act 188 = .ok (.iadd, 1) := by decide +kernel
theorem dX5_act_189 : decode cX5_act 189 = .ok (.if_icmp .ne 7, 3) := by decide +kernel
theorem dX5_act_192 : decode cX5_act 192 = .ok (.iconst 0, 1) := by decide +kernel
theorem dX5_act_193 : decode cX5_act 193 = .ok (.goto 6, 3) := by decide +kernel
theorem dX5_act_196 : decode cX5_act 196 = .ok (.iload_n 3, 1) := by decide +kernel
theorem dX5_act_197 : decode cX5_act 197 = .ok (.iconst 4, 1) := by decide +kernel
theorem dX5_act_198 : decode cX5_act 198 = .ok (.iadd, 1) := by decide +kernel
theorem dX5_act_199 : decode cX5_act 199 = .ok (.ireturn, 1) := by decide +kernel
theorem dX5_act_200 : decode cX5_act 200 = .ok (.iload 4, 2) := by decide +kernel
theorem dX5_act_202 : decode cX5_act 202 = .ok (.ifCond .ne 11, 3) := by decide +kernel
theorem dX5_act_205 : decode cX5_act 205 = .ok (.iload_n 3, 1) := by decide +kernel
theorem dX5_act_206 : decode cX5_act 206 = .ok (.iconst 4, 1) := by decide +kernel
theorem dX5_act_207 : decode cX5_act 207 = .ok (.iload_n 3, 1) := by decide +kernel
theorem dX5_act_208 : decode cX5_act 208 = .ok (.imul, 1) := by decide +kernel
theorem dX5_act_209 : decode cX5_act 209 = .ok (.iadd, 1) := by decide +kernel
theorem dX5_act_210 : decode cX5_act 210 = .ok (.goto 8, 3) := by decide +kernel
theorem dX5_act_213 : decode cX5_act 213 = .ok (.iload_n 3, 1) := by decide +kernel
theorem dX5_act_214 : decode cX5_act 214 = .ok (.iconst 1, 1) := by decide +kernel
theorem dX5_act_215 : decode cX5_act 215 = .ok (.iadd, 1) := by decide +kernel
theorem dX5_act_216 : decode cX5_act 216 = .ok (.iconst 4, 1) := by decide +kernel
theorem dX5_act_217 : decode cX5_act 217 = .ok (.irem, 1) := by decide +kernel
theorem dX5_act_218 : decode cX5_act 218 = .ok (.ireturn, 1) := by decide +kernel
set_option maxRecDepth 20000 in
theorem ggX5_does_X5_isThing : GoodIn wsX5_does wsX5_isThing := goodIn_r _ [6, 7, 8, 9, 5, 10, 18, 19, 20, 21, 22, 23, 24, 25, 26, 27, 28, 29, 30, 31, 32, 33, 34, 35, 36, 37] (by decide +kernel) (by decide +kernel)
set_option maxRecDepth 20000 in
theorem gX5_does_X5_isThing : GoodIn wsX5_does (wsV RX5 74 RX5 yX5_isThing wsX5_isThing) := goodIn_app (goodIn_of _ (by decide +kernel)) ggX5_does_X5_isThing
set_option maxRecDepth 20000 in
theorem ggX5_does_X5_isIn : GoodIn wsX5_does wsX5_isIn := goodIn_r _ [10] (by decide +kernel) (by decide +kernel)
set_option maxRecDepth 20000 in
theorem gX5_does_X5_isIn : GoodIn wsX5_does (va_wsS RX5 66 yX5_isIn wsX5_isIn) := goodIn_app (goodIn_of _ (by decide +kernel)) ggX5_does_X5_isIn
set_option maxRecDepth 20000 in
theorem ggX5_does_X5_act : GoodIn wsX5_does wsX5_act := goodIn_r _ [14, 1, 15, 16, 17, 18, 19, 20, 21, 22, 23, 24, 25, 26, 27, 28, 29, 30, 31, 32, 33, 34, 35, 36, 37] (by decide +kernel) (by decide +kernel)
set_option maxRecDepth 20000 in
theorem gX5_does_X5_act : GoodIn wsX5_does (wsV RX5 95 RX5 yX5_act wsX5_act) := goodIn_app (goodIn_of _ (by decide +kernel)) ggX5_does_X5_act
theorem dX5_does_0 : decode cX5_does 0 = .ok (.aload_n 0, 1) := by decide +kernel
theorem dX5_does_1 : decode cX5_does 1 = .ok (.iload_n 1, 1) := by decide +kernel
theorem dX5_does_2 : decode cX5_does 2 = .ok (.invokevirtual 74, 3) := by decide +kernel
theorem dX5_does_5 : decode cX5_does 5 = .ok (.ifCond .eq 64, 3) := by decide +kernel
theorem dX5_does_8 : decode cX5_does 8 = .ok (.iload_n 2, 1) := by decide +kernel
theorem dX5_does_9 : decode cX5_does 9 = .ok (.iconst 0, 1) := by decide +kernel
theorem dX5_does_10 : decode cX5_does 10 = .ok (.iconst 1, 1) := by decide +kernel
theorem dX5_does_11 : decode cX5_does 11 = .ok (.invokestatic 66, 3) := by decide +kernel
theorem dX5_does_14 : decode cX5_does 14 = .ok (.ifCond .eq 55, 3) := by decide +kernel
theorem dX5_does_17 : decode cX5_does 17 = .ok (.iload_n 3, 1) := by decide +kernel
theorem dX5_does_18 : decode cX5_does 18 = .ok (.iconst 0, 1) := by decide +kernel
theorem dX5_does_19 : decode cX5_does 19 = .ok (.aload_n 0, 1) := by decide +kernel
theorem dX5_does_20 : decode cX5_does 20 = .ok (.getfield 7, 3) := by decide +kernel
theorem dX5_does_23 : decode cX5_does 23 = .ok (.iload_n 1, 1) := by decide +kernel
theorem dX5_does_24 : decode cX5_does 24 = .ok (.iaload, 1) := by decide +kernel
theorem dX5_does_25 : decode cX5_does 25 = .ok (.ifCond .eq 13, 3) := by decide +kernel
theorem dX5_does_28 : decode cX5_does 28 = .ok (.aload_n 0, 1) := by decide +kernel
theorem dX5_does_29 : decode cX5_does 29 = .ok (.getfield 7, 3) := by decide +kernel
theorem dX5_does_32 : decode cX5_does 32 = .ok (.iload_n 1, 1) := by decide +kernel
theorem dX5_does_33 : decode cX5_does 33 = .ok (.iaload, 1) := by decide +kernel
theorem dX5_does_34 : decode cX5_does 34 = .ok (.iconst 2, 1) := by decide +kernel
theorem dX5_does_35 : decode cX5_does 35 = .ok (.if_icmp .ne 7, 3) := by decide +kernel
theorem dX5_does_38 : decode cX5_does 38 = .ok (.iconst 2, 1) := by decide +kernel
theorem dX5_does_39 : decode cX5_does 39 = .ok (.goto 4, 3) := by decide +kernel
theorem dX5_does_42 : decode cX5_does 42 = .ok (.iconst 3, 1) := by decide +kernel
theorem dX5_does_43 : decode cX5_does 43 = .ok (.invokestatic 66, 3) := by decide +kernel
theorem dX5_does_46 : decode cX5_does 46 = .ok (.ifCond .eq 23, 3) := by decide +kernel
theorem dX5_does_49 : decode cX5_does 49 = .ok (.iload 4, 2) := by decide +kernel
theorem dX5_does_51 : decode cX5_does 51 = .ok (.iconst 0, 1) := by decide +kernel
theorem dX5_does_52 : decode cX5_does 52 = .ok (.iconst 2, 1) := by decide +kernel
theorem dX5_does_53 : decode cX5_does 53 = .ok (.invokestatic 66, 3) := by decide +kernel
theorem dX5_does_56 : decode cX5_does 56 = .ok (.ifCond .eq 13, 3) := by decide +kernel
theorem dX5_does_59 : decode cX5_does 59 = .ok (.iload 5, 2) := by decide +kernel
theorem dX5_does_61 : decode cX5_does 61 = .ok (.iconst 0, 1) := by decide +kernel
theorem dX5_does_62 : decode cX5_does 62 = .ok (.iconst 1, 1) := by decide +kernel
theorem dX5_does_63 : decode cX5_does 63 = .ok (.invokestatic 66, 3) := by decide +kernel
theorem dX5_does_66 : decode cX5_does 66 = .ok (.ifCond .ne 5, 3) := by decide +kernel
theorem dX5_does_69 : decode cX5_does 69 = .ok (.iconst (-1), 1) := by decide +kernel
theorem dX5_does_70 : decode cX5_does 70 = .ok (.ireturn, 1) := by decide +kernel
theorem dX5_does_71 : decode cX5_does 71 = .ok (.aload_n 0, 1) := by decide +kernel
theorem dX5_does_72 : decode cX5_does 72 = .ok (.iload_n 1, 1) := by decide +kernel
theorem dX5_does_73 : decode cX5_does 73 = .ok (.iload_n 2, 1) := by decide +kernel
theorem dX5_does_74 : decode cX5_does 74 = .ok (.iload_n 3, 1) := by decide +kernel
theorem dX5_does_75 : decode cX5_does 75 = .ok (.iload 4, 2) := by decide +kernel
theorem dX5_does_77 : decode cX5_does 77 = .ok (.invokevirtual 95, 3) := by decide +kernel
theorem dX5_does_80 : decode cX5_does 80 = .ok (.istore 6, 2) := by decide +kernel
theorem dX5_does_82 : decode cX5_does 82 = .ok (.iload 5, 2) := by decide +kernel
theorem dX5_does_84 : decode cX5_does 84 = .ok (.ifCond .ne 10, 3) := by decide +kernel
theorem dX5_does_87 : decode cX5_does 87 = .ok (.iload 6, 2) := by decide +kernel
theorem dX5_does_89 : decode cX5_does 89 = .ok (.iconst 4, 1) := by decide +kernel
theorem dX5_does_90 : decode cX5_does 90 = .ok (.irem, 1) := by decide +kernel
theorem dX5_does_91 : decode cX5_does 91 = .ok (.goto 7, 3) := by decide +kernel
theorem dX5_does_94 : decode cX5_does 94 = .ok (.iload 6, 2) := by decide +kernel
theorem dX5_does_96 : decode cX5_does 96 = .ok (.iconst 4, 1) := by decide +kernel
theorem dX5_does_97 : decode cX5_does 97 = .ok (.idiv, 1) := by decide +kernel
theorem dX5_does_98 : decode cX5_does 98 = .ok (.ireturn, 1) := by decide +kernel
set_option maxRecDepth 20000 in
theorem ggX5_sends_X5_act : GoodIn wsX5_sends wsX5_act := goodIn_r _ [6, 7, 8, 9, 10, 11, 12, 13, 14, 15, 16, 17, 18, 19, 20, 21, 22, 23, 24, 25, 26, 27, 28, 29, 30] (by decide +kernel) (by decide +kernel)
set_option maxRecDepth 20000 in
theorem gX5_sends_X5_act : GoodIn wsX5_sends (wsV RX5 95 RX5 yX5_act wsX5_act) := goodIn_app (goodIn_of _ (by decide +kernel)) ggX5_sends_X5_act
theorem dX5_sends_0 : decode cX5_sends 0 = .ok (.iload_n 3, 1) := by decide +kernel
theorem dX5_sends_1 : decode cX5_sends 1 = .ok (.iconst 3, 1) := by decide +kernel
theorem dX5_sends_2 : decode cX5_sends 2 = .ok (.if_icmp .eq 13, 3) := by decide +kernel
theorem dX5_sends_5 : decode cX5_sends 5 = .ok (.aload_n 0, 1) := by decide +kernel
theorem dX5_sends_6 : decode cX5_sends 6 = .ok (.getfield 16, 3) := by decide +kernel
theorem dX5_sends_9 : decode cX5_sends 9 = .ok (.iload_n 1, 1) := by decide +kernel
theorem dX5_sends_10 : decode cX5_sends 10 = .ok (.iaload, 1) := by decide +kernel
theorem dX5_sends_11 : decode cX5_sends 11 = .ok (.iconst 2, 1) := by decide +kernel
theorem dX5_sends_12 : decode cX5_sends 12 = .ok (.if_icmp .ne 7, 3) := by decide +kernel
theorem dX5_sends_15 : decode cX5_sends 15 = .ok (.iload_n 2, 1) := by decide +kernel
theorem dX5_sends_16 : decode cX5_sends 16 = .ok (.goto 13, 3) := by decide +kernel
theorem dX5_sends_19 : decode cX5_sends 19 = .ok (.aload_n 0, 1) := by decide +kernel
theorem dX5_sends_20 : decode cX5_sends 20 = .ok (.iload_n 1, 1) := by decide +kernel
theorem dX5_sends_21 : decode cX5_sends 21 = .ok (.iconst 0, 1) := by decide +kernel
theorem dX5_sends_22 : decode cX5_sends 22 = .ok (.iload_n 2, 1) := by decide +kernel
theorem dX5_sends_23 : decode cX5_sends 23 = .ok (.iload_n 3, 1) := by decide +kernel
theorem dX5_sends_24 : decode cX5_sends 24 = .ok (.invokevirtual 95, 3) := by decide +kernel
theorem dX5_sends_27 : decode cX5_sends 27 = .ok (.iconst 4, 1) := by decide +kernel
theorem dX5_sends_28 : decode cX5_sends 28 = .ok (.irem, 1) := by decide +kernel
theorem dX5_sends_29 : decode cX5_sends 29 = .ok (.ireturn, 1) := by decide +kernel
theorem dX5_cleans_0 : decode cX5_cleans 0 = .ok (.aload_n 0, 1) := by decide +kernel
theorem dX5_cleans_1 : decode cX5_cleans 1 = .ok (.getfield 16, 3) := by decide +kernel
theorem dX5_cleans_4 : decode cX5_cleans 4 = .ok (.iload_n 1, 1) := by decide +kernel
theorem dX5_cleans_5 : decode cX5_cleans 5 = .ok (.iaload, 1) := by decide +kernel
theorem dX5_cleans_6 : decode cX5_cleans 6 = .ok (.iconst 1, 1) := by decide +kernel
theorem dX5_cleans_7 : decode cX5_cleans 7 = .ok (.if_icmp .ne 25, 3) := by decide +kernel
theorem dX5_cleans_10 : decode cX5_cleans 10 = .ok (.iload_n 3, 1) := by decide +kernel
theorem dX5_cleans_11 : decode cX5_cleans 11 = .ok (.iconst 1, 1) := by decide +kernel
theorem dX5_cleans_12 : decode cX5_cleans 12 = .ok (.iadd, 1) := by decide +kernel
theorem dX5_cleans_13 : decode cX5_cleans 13 = .ok (.aload_n 0, 1) := by decide +kernel
theorem dX5_cleans_14 : decode cX5_cleans 14 = .ok (.getfield 19, 3) := by decide +kernel
theorem dX5_cleans_17 : decode cX5_cleans 17 = .ok (.iload_n 1, 1) := by decide +kernel
theorem dX5_cleans_18 : decode cX5_cleans 18 = .ok (.iaload, 1) := by decide +kernel
theorem dX5_cleans_19 : decode cX5_cleans 19 = .ok (.irem, 1) := by decide +kernel
theorem dX5_cleans_20 : decode cX5_cleans 20 = .ok (.ifCond .ne 12, 3) := by decide +kernel
theorem dX5_cleans_23 : decode cX5_cleans 23 = .ok (.aload_n 0, 1) := by decide +kernel
theorem dX5_cleans_24 : decode cX5_cleans 24 = .ok (.getfield 13, 3) := by decide +kernel
theorem dX5_cleans_27 : decode cX5_cleans 27 = .ok (.iload_n 1, 1) := by decide +kernel
theorem dX5_cleans_28 : decode cX5_cleans 28 = .ok (.iaload, 1) := by decide +kernel
theorem dX5_cleans_29 : decode cX5_cleans 29 = .ok (.goto 4, 3) := by decide +kernel
theorem dX5_cleans_32 : decode cX5_cleans 32 = .ok (.iload_n 2, 1) := by decide +kernel
theorem dX5_cleans_33 : decode cX5_cleans 33 = .ok (.ireturn, 1) := by decide +kernel
set_option maxRecDepth 20000 in
theorem ggX5_hears_X5_act : GoodIn wsX5_hears wsX5_act := goodIn_r _ [5, 6, 7, 8, 9, 10, 11, 12, 13, 14, 15, 16, 17, 18, 19, 20, 21, 22, 23, 24, 25, 26, 27, 28, 29] (by decide +kernel) (by decide +kernel)
set_option maxRecDepth 20000 in
theorem gX5_hears_X5_act : GoodIn wsX5_hears (wsV RX5 95 RX5 yX5_act wsX5_act) := goodIn_app (goodIn_of _ (by decide +kernel)) ggX5_hears_X5_act
theorem dX5_hears_0 : decode cX5_hears 0 = .ok (.iload_n 3, 1) := by decide +kernel
theorem dX5_hears_1 : decode cX5_hears 1 = .ok (.iconst 3, 1) := by decide +kernel
theorem dX5_hears_2 : decode cX5_hears 2 = .ok (.if_icmp .ne 7, 3) := by decide +kernel
theorem dX5_hears_5 : decode cX5_hears 5 = .ok (.iload_n 2, 1) := by decide +kernel
theorem dX5_hears_6 : decode cX5_hears 6 = .ok (.goto 13, 3) := by decide +kernel
theorem dX5_hears_9 : decode cX5_hears 9 = .ok (.aload_n 0, 1) := by decide +kernel
theorem dX5_hears_10 : decode cX5_hears 10 = .ok (.iload_n 1, 1) := by decide +kernel
theorem dX5_hears_11 : decode cX5_hears 11 = .ok (.iconst 1, 1) := by decide +kernel
theorem dX5_hears_12 : decode cX5_hears 12 = .ok (.iload_n 2, 1) := by decide +kernel
theorem dX5_hears_13 : decode cX5_hears 13 = .ok (.iload_n 3, 1) := by decide +kernel
theorem dX5_hears_14 : decode cX5_hears 14 = .ok (.invokevirtual 95, 3) := by decide +kernel
theorem dX5_hears_17 : decode cX5_hears 17 = .ok (.iconst 4, 1) := by decide +kernel
theorem dX5_hears_18 : decode cX5_hears 18 = .ok (.irem, 1) := by decide +kernel
theorem dX5_hears_19 : decode cX5_hears 19 = .ok (.ireturn, 1) := by decide +kernel
set_option maxRecDepth 20000 in
theorem ggX5_answers_X5_act : GoodIn wsX5_answers wsX5_act := goodIn_r _ [7, 8, 9, 10, 11, 12, 13, 14, 15, 16, 17, 18, 19, 20, 21, 22, 23, 24, 25, 26, 27, 28, 29, 30, 31] (by decide +kernel) (by decide +kernel)
set_option maxRecDepth 20000 in
theorem gX5_answers_X5_act : GoodIn wsX5_answers (wsV RX5 95 RX5 yX5_act wsX5_act) := goodIn_app (goodIn_of _ (by decide +kernel)) ggX5_answers_X5_act
theorem dX5_answers_0 : decode cX5_answers 0 = .ok (.iload_n 3, 1) := by decide +kernel
theorem dX5_answers_1 : decode cX5_answers 1 = .ok (.iconst 3, 1) := by decide +kernel
theorem dX5_answers_2 : decode cX5_answers 2 = .ok (.if_icmp .ne 7, 3) := by decide +kernel
theorem dX5_answers_5 : decode cX5_answers 5 = .ok (.iconst 0, 1) := by decide +kernel
theorem dX5_answers_6 : decode cX5_answers 6 = .ok (.goto 13, 3) := by decide +kernel
theorem dX5_answers_9 : decode cX5_answers 9 = .ok (.aload_n 0, 1) := by decide +kernel
theorem dX5_answers_10 : decode cX5_answers 10 = .ok (.iload_n 1, 1) := by decide +kernel
theorem dX5_answers_11 : decode cX5_answers 11 = .ok (.iconst 1, 1) := by decide +kernel
theorem dX5_answers_12 : decode cX5_answers 12 = .ok (.iload_n 2, 1) := by decide +kernel
theorem dX5_answers_13 : decode cX5_answers 13 = .ok (.iload_n 3, 1) := by decide +kernel
theorem dX5_answers_14 : decode cX5_answers 14 = .ok (.invokevirtual 95, 3) := by decide +kernel
theorem dX5_answers_17 : decode cX5_answers 17 = .ok (.iconst 4, 1) := by decide +kernel
theorem dX5_answers_18 : decode cX5_answers 18 = .ok (.idiv, 1) := by decide +kernel
theorem dX5_answers_19 : decode cX5_answers 19 = .ok (.istore 4, 2) := by decide +kernel
theorem dX5_answers_21 : decode cX5_answers 21 = .ok (.aload_n 0, 1) := by decide +kernel
theorem dX5_answers_22 : decode cX5_answers 22 = .ok (.getfield 16, 3) := by decide +kernel
theorem dX5_answers_25 : decode cX5_answers 25 = .ok (.iload_n 1, 1) := by decide +kernel
theorem dX5_answers_26 : decode cX5_answers 26 = .ok (.iaload, 1) := by decide +kernel
theorem dX5_answers_27 : decode cX5_answers 27 = .ok (.iconst 3, 1) := by decide +kernel
theorem dX5_answers_28 : decode cX5_answers 28 = .ok (.if_icmp .ne 23, 3) := by decide +kernel
theorem dX5_answers_31 : decode cX5_answers 31 = .ok (.iload 4, 2) := by decide +kernel
theorem dX5_answers_33 : decode cX5_answers 33 = .ok (.aload_n 0, 1) := by decide +kernel
theorem dX5_answers_34 : decode cX5_answers 34 = .ok (.getfield 22, 3) := by decide +kernel
theorem dX5_answers_37 : decode cX5_answers 37 = .ok (.iload_n 1, 1) := by decide +kernel
theorem dX5_answers_38 : decode cX5_answers 38 = .ok (.iaload, 1) := by decide +kernel
theorem dX5_answers_39 : decode cX5_answers 39 = .ok (.if_icmp .le 12, 3) := by decide +kernel
theorem dX5_answers_42 : decode cX5_answers 42 = .ok (.aload_n 0, 1) := by decide +kernel
theorem dX5_answers_43 : decode cX5_answers 43 = .ok (.getfield 22, 3) := by decide +kernel
theorem dX5_answers_46 : decode cX5_answers 46 = .ok (.iload_n 1, 1) := by decide +kernel
theorem dX5_answers_47 : decode cX5_answers 47 = .ok (.iaload, 1) := by decide +kernel
theorem dX5_answers_48 : decode cX5_answers 48 = .ok (.goto 5, 3) := by decide +kernel
theorem dX5_answers_51 : decode cX5_answers 51 = .ok (.iload 4, 2) := by decide +kernel
theorem dX5_answers_53 : decode cX5_answers 53 = .ok (.ireturn, 1) := by decide +kernel
theorem dX5_at_0 : decode cX5_at 0 = .ok (.bipush 16, 2) := by decide +kernel
theorem dX5_at_2 : decode cX5_at 2 = .ok (.iload_n 3, 1) := by decide +kernel
theorem dX5_at_3 : decode cX5_at 3 = .ok (.imul, 1) := by decide +kernel
theorem dX5_at_4 : decode cX5_at 4 = .ok (.iconst 4, 1) := by decide +kernel
theorem dX5_at_5 : decode cX5_at 5 = .ok (.iload_n 1, 1) := by decide +kernel
theorem dX5_at_6 : decode cX5_at 6 = .ok (.imul, 1) := by decide +kernel
theorem dX5_at_7 : decode cX5_at 7 = .ok (.iadd, 1) := by decide +kernel
theorem dX5_at_8 : decode cX5_at 8 = .ok (.iload_n 2, 1) := by decide +kernel
theorem dX5_at_9 : decode cX5_at 9 = .ok (.iadd, 1) := by decide +kernel
theorem dX5_at_10 : decode cX5_at 10 = .ok (.ireturn, 1) := by decide +kernel
theorem dX5_phases_0 : decode cX5_phases 0 = .ok (.aload_n 0, 1) := by decide +kernel
theorem dX5_phases_1 : decode cX5_phases 1 = .ok (.getfield 16, 3) := by decide +kernel
theorem dX5_phases_4 : decode cX5_phases 4 = .ok (.iload_n 1, 1) := by decide +kernel
theorem dX5_phases_5 : decode cX5_phases 5 = .ok (.iaload, 1) := by decide +kernel
theorem dX5_phases_6 : decode cX5_phases 6 = .ok (.iconst 1, 1) := by decide +kernel
theorem dX5_phases_7 : decode cX5_phases 7 = .ok (.if_icmp .ne 12, 3) := by decide +kernel
theorem dX5_phases_10 : decode cX5_phases 10 = .ok (.aload_n 0, 1) := by decide +kernel
theorem dX5_phases_11 : decode cX5_phases 11 = .ok (.getfield 19, 3) := by decide +kernel
theorem dX5_phases_14 : decode cX5_phases 14 = .ok (.iload_n 1, 1) := by decide +kernel
theorem dX5_phases_15 : decode cX5_phases 15 = .ok (.iaload, 1) := by decide +kernel
theorem dX5_phases_16 : decode cX5_phases 16 = .ok (.goto 4, 3) := by decide +kernel
theorem dX5_phases_19 : decode cX5_phases 19 = .ok (.iconst 1, 1) := by decide +kernel
theorem dX5_phases_20 : decode cX5_phases 20 = .ok (.ireturn, 1) := by decide +kernel
set_option maxRecDepth 20000 in
theorem ggX5_after_X5_sends : GoodIn wsX5_after wsX5_sends := goodIn_r _ [6, 7, 8, 9, 10, 5, 11, 12, 13, 14, 15, 39, 40, 41, 42, 43, 44, 45, 46, 47, 48, 49, 50, 51, 52, 53, 54, 55, 56, 57, 58] (by decide +kernel) (by decide +kernel)
set_option maxRecDepth 20000 in
theorem gX5_after_X5_sends : GoodIn wsX5_after (wsV RX5 99 RX5 yX5_sends wsX5_sends) := goodIn_app (goodIn_of _ (by decide +kernel)) ggX5_after_X5_sends
set_option maxRecDepth 20000 in
theorem ggX5_after_X5_cleans : GoodIn wsX5_after wsX5_cleans := goodIn_r _ [19, 7, 20, 21, 39, 40, 41, 42, 43, 44, 45, 46, 47, 48, 49, 50, 51, 52, 53, 54, 55, 56, 57, 58] (by decide +kernel) (by decide +kernel)
set_option maxRecDepth 20000 in
theorem gX5_after_X5_cleans : GoodIn wsX5_after (wsV RX5 103 RX5 yX5_cleans wsX5_cleans) := goodIn_app (goodIn_of _ (by decide +kernel)) ggX5_after_X5_cleans
set_option maxRecDepth 20000 in
theorem ggX5_after_X5_answers : GoodIn wsX5_after wsX5_answers := goodIn_r _ [25, 7, 26, 8, 9, 10, 5, 11, 12, 13, 14, 15, 39, 40, 41, 42, 43, 44, 45, 46, 47, 48, 49, 50, 51, 52, 53, 54, 55, 56, 57, 58] (by decide +kernel) (by decide +kernel)
set_option maxRecDepth 20000 in
theorem gX5_after_X5_answers : GoodIn wsX5_after (wsV RX5 106 RX5 yX5_answers wsX5_answers) := goodIn_app (goodIn_of _ (by decide +kernel)) ggX5_after_X5_answers
set_option maxRecDepth 20000 in
theorem ggX5_after_X5_hears : GoodIn wsX5_after wsX5_hears := goodIn_r _ [30, 8, 9, 10, 5, 11, 12, 13, 14, 15, 39, 40, 41, 42, 43, 44, 45, 46, 47, 48, 49, 50, 51, 52, 53, 54, 55, 56, 57, 58] (by decide +kernel) (by decide +kernel)
set_option maxRecDepth 20000 in
theorem gX5_after_X5_hears : GoodIn wsX5_after (wsV RX5 109 RX5 yX5_hears wsX5_hears) := goodIn_app (goodIn_of _ (by decide +kernel)) ggX5_after_X5_hears
set_option maxRecDepth 20000 in
theorem ggX5_after_X5_phases : GoodIn wsX5_after wsX5_phases := goodIn_r _ [34, 7, 20, 39, 40, 41, 42, 43, 44, 45, 46, 47, 48, 49, 50, 51, 52, 53, 54, 55, 56, 57, 58] (by decide +kernel) (by decide +kernel)
set_option maxRecDepth 20000 in
theorem gX5_after_X5_phases : GoodIn wsX5_after (wsV RX5 112 RX5 yX5_phases wsX5_phases) := goodIn_app (goodIn_of _ (by decide +kernel)) ggX5_after_X5_phases
set_option maxRecDepth 20000 in
theorem ggX5_after_X5_at : GoodIn wsX5_after wsX5_at := goodIn_r _ [38] (by decide +kernel) (by decide +kernel)
set_option maxRecDepth 20000 in
theorem gX5_after_X5_at : GoodIn wsX5_after (wsV RX5 115 RX5 yX5_at wsX5_at) := goodIn_app (goodIn_of _ (by decide +kernel)) ggX5_after_X5_at
theorem dX5_after_0 : decode cX5_after 0 = .ok (.aload_n 0, 1) := by decide +kernel
theorem dX5_after_1 : decode cX5_after 1 = .ok (.iload_n 1, 1) := by decide +kernel
theorem dX5_after_2 : decode cX5_after 2 = .ok (.aload_n 0, 1) := by decide +kernel
theorem dX5_after_3 : decode cX5_after 3 = .ok (.iload_n 1, 1) := by decide +kernel
theorem dX5_after_4 : decode cX5_after 4 = .ok (.iload_n 2, 1) := by decide +kernel
theorem dX5_after_5 : decode cX5_after 5 = .ok (.iload 5, 2) := by decide +kernel
theorem dX5_after_7 : decode cX5_after 7 = .ok (.invokevirtual 99, 3) := by decide +kernel
theorem dX5_after_10 : decode cX5_after 10 = .ok (.iload 4, 2) := by decide +kernel
theorem dX5_after_12 : decode cX5_after 12 = .ok (.invokevirtual 103, 3) := by decide +kernel
theorem dX5_after_15 : decode cX5_after 15 = .ok (.istore 8, 2) := by decide +kernel
theorem dX5_after_17 : decode cX5_after 17 = .ok (.aload_n 0, 1) := by decide +kernel
theorem dX5_after_18 : decode cX5_after 18 = .ok (.iload_n 1, 1) := by decide +kernel
theorem dX5_after_19 : decode cX5_after 19 = .ok (.aload_n 0, 1) := by decide +kernel
theorem dX5_after_20 : decode cX5_after 20 = .ok (.iload_n 1, 1) := by decide +kernel
theorem dX5_after_21 : decode cX5_after 21 = .ok (.iload_n 3, 1) := by decide +kernel
theorem dX5_after_22 : decode cX5_after 22 = .ok (.iload 6, 2) := by decide +kernel
theorem dX5_after_24 : decode cX5_after 24 = .ok (.invokevirtual 99, 3) := by decide +kernel
theorem dX5_after_27 : decode cX5_after 27 = .ok (.iload 4, 2) := by decide +kernel
theorem dX5_after_29 : decode cX5_after 29 = .ok (.invokevirtual 103, 3) := by decide +kernel
theorem dX5_after_32 : decode cX5_after 32 = .ok (.istore 9, 2) := by decide +kernel
theorem dX5_after_34 : decode cX5_after 34 = .ok (.aload_n 0, 1) := by decide +kernel
theorem dX5_after_35 : decode cX5_after 35 = .ok (.iload_n 1, 1) := by decide +kernel
theorem dX5_after_36 : decode cX5_after 36 = .ok (.iload 8, 2) := by decide +kernel
theorem dX5_after_38 : decode cX5_after 38 = .ok (.iload 7, 2) := by decide +kernel
theorem dX5_after_40 : decode cX5_after 40 = .ok (.invokevirtual 106, 3) := by decide +kernel
theorem dX5_after_43 : decode cX5_after 43 = .ok (.aload_n 0, 1) := by decide +kernel
theorem dX5_after_44 : decode cX5_after 44 = .ok (.iload_n 1, 1) := by decide +kernel
theorem dX5_after_45 : decode cX5_after 45 = .ok (.iload 9, 2) := by decide +kernel
theorem dX5_after_47 : decode cX5_after 47 = .ok (.iload 7, 2) := by decide +kernel
theorem dX5_after_49 : decode cX5_after 49 = .ok (.invokevirtual 106, 3) := by decide +kernel
theorem dX5_after_52 : decode cX5_after 52 = .ok (.if_icmp .eq 5, 3) := by decide +kernel
theorem dX5_after_55 : decode cX5_after 55 = .ok (.iconst 1, 1) := by decide +kernel
theorem dX5_after_56 : decode cX5_after 56 = .ok (.ireturn, 1) := by decide +kernel
theorem dX5_after_57 : decode cX5_after 57 = .ok (.iconst 1, 1) := by decide +kernel
theorem dX5_after_58 : decode cX5_after 58 = .ok (.aload_n 0, 1) := by decide +kernel
theorem dX5_after_59 : decode cX5_after 59 = .ok (.getfield 38, 3) := by decide +kernel
theorem dX5_after_62 : decode cX5_after 62 = .ok (.aload_n 0, 1) := by decide +kernel
theorem dX5_after_63 : decode cX5_after 63 = .ok (.aload_n 0, 1) := by decide +kernel
theorem dX5_after_64 : decode cX5_after 64 = .ok (.iload_n 1, 1) := by decide +kernel
theorem dX5_after_65 : decode cX5_after 65 = .ok (.iload 8, 2) := by decide +kernel
theorem dX5_after_67 : decode cX5_after 67 = .ok (.iload 7, 2) := by decide +kernel
theorem dX5_after_69 : decode cX5_after 69 = .ok (.invokevirtual 109, 3) := by decide +kernel
theorem dX5_after_72 : decode cX5_after 72 = .ok (.aload_n 0, 1) := by decide +kernel
theorem dX5_after_73 : decode cX5_after 73 = .ok (.iload_n 1, 1) := by decide +kernel
theorem dX5_after_74 : decode cX5_after 74 = .ok (.iload 9, 2) := by decide +kernel
theorem dX5_after_76 : decode cX5_after 76 = .ok (.iload 7, 2) := by decide +kernel
theorem dX5_after_78 : decode cX5_after 78 = .ok (.invokevirtual 109, 3) := by decide +kernel
theorem dX5_after_81 : decode cX5_after 81 = .ok (.iload 4, 2) := by decide +kernel
theorem dX5_after_83 : decode cX5_after 83 = .ok (.iconst 1, 1) := by decide +kernel
theorem dX5_after_84 : decode cX5_after 84 = .ok (.iadd, 1) := by decide +kernel
theorem dX5_after_85 : decode cX5_after 85 = .ok (.aload_n 0, 1) := by decide +kernel
theorem dX5_after_86 : decode cX5_after 86 = .ok (.iload_n 1, 1) := by decide +kernel
theorem dX5_after_87 : decode cX5_after 87 = .ok (.invokevirtual 112, 3) := by decide +kernel
theorem dX5_after_90 : decode cX5_after 90 = .ok (.irem, 1) := by decide +kernel
theorem dX5_after_91 : decode cX5_after 91 = .ok (.invokevirtual 115, 3) := by decide +kernel
theorem dX5_after_94 : decode cX5_after 94 = .ok (.iaload, 1) := by decide +kernel
theorem dX5_after_95 : decode cX5_after 95 = .ok (.iadd, 1) := by decide +kernel
theorem dX5_after_96 : decode cX5_after 96 = .ok (.ireturn, 1) := by decide +kernel
set_option maxRecDepth 20000 in
theorem ggX5_looksAhead_X5_phases : GoodIn wsX5_looksAhead wsX5_phases := goodIn_r _ [6, 7, 8, 43, 44, 45, 46, 47, 48, 49, 50, 51, 52, 53, 54, 55, 56, 57, 58, 59, 60, 61, 62] (by decide +kernel) (by decide +kernel)
set_option maxRecDepth 20000 in
theorem gX5_looksAhead_X5_phases : GoodIn wsX5_looksAhead (wsV RX5 112 RX5 yX5_phases wsX5_phases) := goodIn_app (goodIn_of _ (by decide +kernel)) ggX5_looksAhead_X5_phases
set_option maxRecDepth 20000 in
theorem ggX5_looksAhead_X5_after : GoodIn wsX5_looksAhead wsX5_after := goodIn_r _ [12, 1, 13, 14, 15, 5, 16, 7, 17, 18, 19, 20, 21, 22, 23, 24, 25, 26, 27, 28, 8, 29, 30, 31, 32, 33, 34, 35, 36, 37, 38, 2, 3, 4, 6, 39, 40, 41, 42, 43, 44, 45, 46, 47, 48, 49, 50, 51, 52, 53, 54, 55, 56, 57, 58, 59, 60, 61, 62] (by decide +kernel) (by decide +kernel)
set_option maxRecDepth 20000 in
theorem gX5_looksAhead_X5_after : GoodIn wsX5_looksAhead (wsV RX5 118 RX5 yX5_after wsX5_after) := goodIn_app (goodIn_of _ (by decide +kernel)) ggX5_looksAhead_X5_after
theorem dX5_looksAhead_0 : decode cX5_looksAhead 0 = .ok (.iconst 0, 1) := by decide +kernel
theorem dX5_looksAhead_1 : decode cX5_looksAhead 1 = .ok (.istore_n 2, 1) := by decide +kernel
theorem dX5_looksAhead_2 : decode cX5_looksAhead 2 = .ok (.iload_n 2, 1) := by decide +kernel
theorem dX5_looksAhead_3 : decode cX5_looksAhead 3 = .ok (.bipush 64, 2) := by decide +kernel
theorem dX5_looksAhead_5 : decode cX5_looksAhead 5 = .ok (.if_icmp .ge 18, 3) := by decide +kernel
theorem dX5_looksAhead_8 : decode cX5_looksAhead 8 = .ok (.aload_n 0, 1) := by decide +kernel
theorem dX5_looksAhead_9 : decode cX5_looksAhead 9 = .ok (.getfield 38, 3) := by decide +kernel
theorem dX5_looksAhead_12 : decode cX5_looksAhead 12 = .ok (.iload_n 2, 1) := by decide +kernel
theorem dX5_looksAhead_13 : decode cX5_looksAhead 13 = .ok (.sipush 1000, 3) := by decide +kernel
theorem dX5_looksAhead_16 : decode cX5_looksAhead 16 = .ok (.iastore, 1) := by decide +kernel
theorem dX5_looksAhead_17 : decode cX5_looksAhead 17 = .ok (.iinc 2 1, 3) := by decide +kernel
theorem dX5_looksAhead_20 : decode cX5_looksAhead 20 = .ok (.goto (-18), 3) := by decide +kernel
theorem dX5_looksAhead_23 : decode cX5_looksAhead 23 = .ok (.iconst 0, 1) := by decide +kernel
theorem dX5_looksAhead_24 : decode cX5_looksAhead 24 = .ok (.istore_n 2, 1) := by decide +kernel
theorem dX5_looksAhead_25 : decode cX5_looksAhead 25 = .ok (.iload_n 2, 1) := by decide +kernel
theorem dX5_looksAhead_26 : decode cX5_looksAhead 26 = .ok (.bipush 70, 2) := by decide +kernel
theorem dX5_looksAhead_28 : decode cX5_looksAhead 28 = .ok (.if_icmp .ge 107, 3) := by decide +kernel
theorem dX5_looksAhead_31 : decode cX5_looksAhead 31 = .ok (.iconst 0, 1) := by decide +kernel
theorem dX5_looksAhead_32 : decode cX5_looksAhead 32 = .ok (.istore_n 3, 1) := by decide +kernel
theorem dX5_looksAhead_33 : decode cX5_looksAhead 33 = .ok (.iload_n 3, 1) := by decide +kernel
theorem dX5_looksAhead_34 : decode cX5_looksAhead 34 = .ok (.bipush 16, 2) := by decide +kernel
theorem dX5_looksAhead_36 : decode cX5_looksAhead 36 = .ok (.aload_n 0, 1) := by decide +kernel
theorem dX5_looksAhead_37 : decode cX5_looksAhead 37 = .ok (.iload_n 1, 1) := by decide +kernel
theorem dX5_looksAhead_38 : decode cX5_looksAhead 38 = .ok (.invokevirtual 112, 3) := by decide +kernel
theorem dX5_looksAhead_41 : decode cX5_looksAhead 41 = .ok (.imul, 1) := by decide +kernel
theorem dX5_looksAhead_42 : decode cX5_looksAhead 42 = .ok (.if_icmp .ge 87, 3) := by decide +kernel
theorem dX5_looksAhead_45 : decode cX5_looksAhead 45 = .ok (.iconst 0, 1) := by decide +kernel
theorem dX5_looksAhead_46 : decode cX5_looksAhead 46 = .ok (.istore 4, 2) := by decide +kernel
theorem dX5_looksAhead_48 : decode cX5_looksAhead 48 = .ok (.iload 4, 2) := by decide +kernel
theorem dX5_looksAhead_50 : decode cX5_looksAhead 50 = .ok (.bipush 64, 2) := by decide +kernel
theorem dX5_looksAhead_52 : decode cX5_looksAhead 52 = .ok (.if_icmp .ge 71, 3) := by decide +kernel
theorem dX5_looksAhead_55 : decode cX5_looksAhead 55 = .ok (.aload_n 0, 1) := by decide +kernel
theorem dX5_looksAhead_56 : decode cX5_looksAhead 56 = .ok (.iload_n 1, 1) := by decide +kernel
theorem dX5_looksAhead_57 : decode cX5_looksAhead 57 = .ok (.iload_n 3, 1) := by decide +kernel
theorem dX5_looksAhead_58 : decode cX5_looksAhead 58 = .ok (.iconst 4, 1) := by decide +kernel
theorem dX5_looksAhead_59 : decode cX5_looksAhead 59 = .ok (.idiv, 1) := by decide +kernel
theorem dX5_looksAhead_60 : decode cX5_looksAhead 60 = .ok (.iconst 4, 1) := by decide +kernel
theorem dX5_looksAhead_61 : decode cX5_looksAhead 61 = .ok (.irem, 1) := by decide +kernel
theorem dX5_looksAhead_62 : decode cX5_looksAhead 62 = .ok (.iload_n 3, 1) := by decide +kernel
theorem dX5_looksAhead_63 : decode cX5_looksAhead 63 = .ok (.iconst 4, 1) := by decide +kernel
theorem dX5_looksAhead_64 : decode cX5_looksAhead 64 = .ok (.irem, 1) := by decide +kernel
theorem dX5_looksAhead_65 : decode cX5_looksAhead 65 = .ok (.iload_n 3, 1) := by decide +kernel
theorem dX5_looksAhead_66 : decode cX5_looksAhead 66 = .ok (.bipush 16, 2) := by decide +kernel
theorem dX5_looksAhead_68 : decode cX5_looksAhead 68 = .ok (.idiv, 1) := by decide +kernel
theorem dX5_looksAhead_69 : decode cX5_looksAhead 69 = .ok (.iload 4, 2) := by decide +kernel
theorem dX5_looksAhead_71 : decode cX5_looksAhead 71 = .ok (.bipush 16, 2) := by decide +kernel
theorem dX5_looksAhead_73 : decode cX5_looksAhead 73 = .ok (.idiv, 1) := by decide +kernel
theorem dX5_looksAhead_74 : decode cX5_looksAhead 74 = .ok (.iload 4, 2) := by decide +kernel
theorem dX5_looksAhead_76 : decode cX5_looksAhead 76 = .ok (.iconst 4, 1) := by decide +kernel
theorem dX5_looksAhead_77 : decode cX5_looksAhead 77 = .ok (.idiv, 1) := by decide +kernel
theorem dX5_looksAhead_78 : decode cX5_looksAhead 78 = .ok (.iconst 4, 1) := by decide +kernel
theorem dX5_looksAhead_79 : decode cX5_looksAhead 79 = .ok (.irem, 1) := by decide +kernel
