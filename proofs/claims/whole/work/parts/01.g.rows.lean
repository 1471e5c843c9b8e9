theorem dX5_finds_100 : decode cX5_finds 100 = .ok (.iload 5, 2) := by decide +kernel
theorem dX5_finds_102 : decode cX5_finds 102 = .ok (.aload_n 0, 1) := by decide +kernel
theorem dX5_finds_103 : decode cX5_finds 103 = .ok (.aload_n 0, 1) := by decide +kernel
theorem dX5_finds_104 : decode cX5_finds 104 = .ok (.lload 7, 2) := by decide +kernel
theorem dX5_finds_106 : decode cX5_finds 106 = .ok (.iload 10, 2) := by decide +kernel
theorem dX5_finds_108 : decode cX5_finds 108 = .ok (.iload 11, 2) := by decide +kernel
theorem dX5_finds_110 : decode cX5_finds 110 = .ok (.invokevirtual 171, 3) := by decide +kernel
theorem dX5_finds_113 : decode cX5_finds 113 = .ok (.iload 6, 2) := by decide +kernel
theorem dX5_finds_115 : decode cX5_finds 115 = .ok (.iconst 1, 1) := by decide +kernel
theorem dX5_finds_116 : decode cX5_finds 116 = .ok (.iadd, 1) := by decide +kernel
theorem dX5_finds_117 : decode cX5_finds 117 = .ok (.iload_n 1, 1) := by decide +kernel
theorem dX5_finds_118 : decode cX5_finds 118 = .ok (.invokevirtual 175, 3) := by decide +kernel
theorem dX5_finds_121 : decode cX5_finds 121 = .ok (.if_icmp .lt 33, 3) := by decide +kernel
theorem dX5_finds_124 : decode cX5_finds 124 = .ok (.iload 5, 2) := by decide +kernel
theorem dX5_finds_126 : decode cX5_finds 126 = .ok (.aload_n 0, 1) := by decide +kernel
theorem dX5_finds_127 : decode cX5_finds 127 = .ok (.aload_n 0, 1) := by decide +kernel
theorem dX5_finds_128 : decode cX5_finds 128 = .ok (.lload 7, 2) := by decide +kernel
theorem dX5_finds_130 : decode cX5_finds 130 = .ok (.iload 10, 2) := by decide +kernel
theorem dX5_finds_132 : decode cX5_finds 132 = .ok (.iload 11, 2) := by decide +kernel
theorem dX5_finds_134 : decode cX5_finds 134 = .ok (.invokevirtual 171, 3) := by decide +kernel
theorem dX5_finds_137 : decode cX5_finds 137 = .ok (.iload 6, 2) := by decide +kernel
theorem dX5_finds_139 : decode cX5_finds 139 = .ok (.iconst 1, 1) := by decide +kernel
theorem dX5_finds_140 : decode cX5_finds 140 = .ok (.iadd, 1) := by decide +kernel
theorem dX5_finds_141 : decode cX5_finds 141 = .ok (.iload_n 1, 1) := by decide +kernel
theorem dX5_finds_142 : decode cX5_finds 142 = .ok (.invokevirtual 175, 3) := by decide +kernel
theorem dX5_finds_145 : decode cX5_finds 145 = .ok (.isub, 1) := by decide +kernel
theorem dX5_finds_146 : decode cX5_finds 146 = .ok (.istore 5, 2) := by decide +kernel
theorem dX5_finds_148 : decode cX5_finds 148 = .ok (.iinc 11 1, 3) := by decide +kernel
theorem dX5_finds_151 : decode cX5_finds 151 = .ok (.goto (-57), 3) := by decide +kernel
theorem dX5_finds_154 : decode cX5_finds 154 = .ok (.iload 11, 2) := by decide +kernel
theorem dX5_finds_156 : decode cX5_finds 156 = .ok (.iconst 4, 1) := by decide +kernel
theorem dX5_finds_157 : decode cX5_finds 157 = .ok (.if_icmp .ne 5, 3) := by decide +kernel
theorem dX5_finds_160 : decode cX5_finds 160 = .ok (.iconst 0, 1) := by decide +kernel
theorem dX5_finds_161 : decode cX5_finds 161 = .ok (.ireturn, 1) := by decide +kernel
theorem dX5_finds_162 : decode cX5_finds 162 = .ok (.aload_n 0, 1) := by decide +kernel
theorem dX5_finds_163 : decode cX5_finds 163 = .ok (.getfield 56, 3) := by decide +kernel
theorem dX5_finds_166 : decode cX5_finds 166 = .ok (.iload 6, 2) := by decide +kernel
theorem dX5_finds_168 : decode cX5_finds 168 = .ok (.iload 11, 2) := by decide +kernel
theorem dX5_finds_170 : decode cX5_finds 170 = .ok (.iastore, 1) := by decide +kernel
theorem dX5_finds_171 : decode cX5_finds 171 = .ok (.aload_n 0, 1) := by decide +kernel
theorem dX5_finds_172 : decode cX5_finds 172 = .ok (.lload 7, 2) := by decide +kernel
theorem dX5_finds_174 : decode cX5_finds 174 = .ok (.iload 10, 2) := by decide +kernel
theorem dX5_finds_176 : decode cX5_finds 176 = .ok (.iload 11, 2) := by decide +kernel
theorem dX5_finds_178 : decode cX5_finds 178 = .ok (.invokevirtual 171, 3) := by decide +kernel
theorem dX5_finds_181 : decode cX5_finds 181 = .ok (.lstore_n 3, 1) := by decide +kernel
theorem dX5_finds_182 : decode cX5_finds 182 = .ok (.iinc 6 1, 3) := by decide +kernel
theorem dX5_finds_185 : decode cX5_finds 185 = .ok (.goto (-162), 3) := by decide +kernel
theorem dX5_finds_188 : decode cX5_finds 188 = .ok (.iload 5, 2) := by decide +kernel
theorem dX5_finds_190 : decode cX5_finds 190 = .ok (.ifCond .ne 7, 3) := by decide +kernel
theorem dX5_finds_193 : decode cX5_finds 193 = .ok (.iconst 1, 1) := by decide +kernel
theorem dX5_finds_194 : decode cX5_finds 194 = .ok (.goto 4, 3) := by decide +kernel
theorem dX5_finds_197 : decode cX5_finds 197 = .ok (.iconst 0, 1) := by decide +kernel
theorem dX5_finds_198 : decode cX5_finds 198 = .ok (.ireturn, 1) := by decide +kernel
set_option maxRecDepth 20000 in
theorem ggX5_leads_X5_isAct : GoodIn wsX5_leads wsX5_isAct := goodIn_r _ [8, 9, 10, 11, 7, 12, 58, 59, 60, 61, 62, 63, 64, 65, 66, 67, 68, 69, 70, 71, 72, 73, 74, 75, 76, 77] (by decide +kernel) (by decide +kernel)
set_option maxRecDepth 20000 in
theorem gX5_leads_X5_isAct : GoodIn wsX5_leads (wsV RX5 138 RX5 yX5_isAct wsX5_isAct) := goodIn_app (goodIn_of _ (by decide +kernel)) ggX5_leads_X5_isAct
set_option maxRecDepth 20000 in
theorem ggX5_leads_X5_sent : GoodIn wsX5_leads wsX5_sent := goodIn_r _ [16, 9, 17, 18, 19, 20, 21, 7, 22, 23, 24, 25, 26, 27, 28, 29, 30, 31, 32, 33, 34, 35, 36, 37, 58, 59, 60, 61, 62, 63, 64, 65, 66, 67, 68, 69, 70, 71, 72, 73, 74, 75, 76, 77] (by decide +kernel) (by decide +kernel)
set_option maxRecDepth 20000 in
theorem gX5_leads_X5_sent : GoodIn wsX5_leads (wsV RX5 141 RX5 yX5_sent wsX5_sent) := goodIn_app (goodIn_of _ (by decide +kernel)) ggX5_leads_X5_sent
set_option maxRecDepth 20000 in
theorem ggX5_leads_X5_told : GoodIn wsX5_leads wsX5_told := goodIn_r _ [41, 20, 21, 7, 22, 42, 43, 44, 45, 17, 46, 27, 28, 29, 30, 31, 32, 33, 34, 58, 59, 60, 61, 62, 63, 64, 65, 66, 67, 68, 69, 70, 71, 72, 73, 74, 75, 76, 77] (by decide +kernel) (by decide +kernel)
set_option maxRecDepth 20000 in
theorem gX5_leads_X5_told : GoodIn wsX5_leads (wsV RX5 144 RX5 yX5_told wsX5_told) := goodIn_app (goodIn_of _ (by decide +kernel)) ggX5_leads_X5_told
set_option maxRecDepth 20000 in
theorem ggX5_leads_X5_heard : GoodIn wsX5_leads wsX5_heard := goodIn_r _ [50, 20, 21, 7, 22, 51, 52, 53, 54, 27, 28, 29, 30, 31, 32, 33, 34, 35, 36, 37, 58, 59, 60, 61, 62, 63, 64, 65, 66, 67, 68, 69, 70, 71, 72, 73, 74, 75, 76, 77] (by decide +kernel) (by decide +kernel)
set_option maxRecDepth 20000 in
theorem gX5_leads_X5_heard : GoodIn wsX5_leads (wsV RX5 147 RX5 yX5_heard wsX5_heard) := goodIn_app (goodIn_of _ (by decide +kernel)) ggX5_leads_X5_heard
set_option maxRecDepth 20000 in
theorem ggX5_leads_X5_leads : GoodIn wsX5_leads wsX5_leads := goodIn_r _ [0, 1, 2, 3, 4, 5, 6, 7, 8, 9, 10, 11, 12, 13, 14, 15, 16, 17, 18, 19, 20, 21, 22, 23, 24, 25, 26, 27, 28, 29, 30, 31, 32, 33, 34, 35, 36, 37, 38, 39, 40, 41, 42, 43, 44, 45, 46, 47, 48, 49, 50, 51, 52, 53, 54, 55, 56, 57, 58, 59, 60, 61, 62, 63, 64, 65, 66, 67, 68, 69, 70, 71, 72, 73, 74, 75, 76, 77] (by decide +kernel) (by decide +kernel)
set_option maxRecDepth 20000 in
theorem gX5_leads_X5_leads : GoodIn wsX5_leads (wsV RX5 182 RX5 yX5_leads wsX5_leads) := goodIn_app (goodIn_of _ (by decide +kernel)) ggX5_leads_X5_leads
theorem dX5_leads_0 : decode cX5_leads 0 = .ok (.iload_n 2, 1) := by decide +kernel
theorem dX5_leads_1 : decode cX5_leads 1 = .ok (.iload_n 3, 1) := by decide +kernel
theorem dX5_leads_2 : decode cX5_leads 2 = .ok (.if_icmp .ne 5, 3) := by decide +kernel
theorem dX5_leads_5 : decode cX5_leads 5 = .ok (.iconst 1, 1) := by decide +kernel
theorem dX5_leads_6 : decode cX5_leads 6 = .ok (.ireturn, 1) := by decide +kernel
theorem dX5_leads_7 : decode cX5_leads 7 = .ok (.iconst 0, 1) := by decide +kernel
theorem dX5_leads_8 : decode cX5_leads 8 = .ok (.istore 4, 2) := by decide +kernel
theorem dX5_leads_10 : decode cX5_leads 10 = .ok (.iload 4, 2) := by decide +kernel
theorem dX5_leads_12 : decode cX5_leads 12 = .ok (.bipush 9, 2) := by decide +kernel
theorem dX5_leads_14 : decode cX5_leads 14 = .ok (.if_icmp .gt 88, 3) := by decide +kernel
theorem dX5_leads_17 : decode cX5_leads 17 = .ok (.aload_n 0, 1) := by decide +kernel
theorem dX5_leads_18 : decode cX5_leads 18 = .ok (.iload 4, 2) := by decide +kernel
theorem dX5_leads_20 : decode cX5_leads 20 = .ok (.invokevirtual 138, 3) := by decide +kernel
theorem dX5_leads_23 : decode cX5_leads 23 = .ok (.ifCond .ne 6, 3) := by decide +kernel
theorem dX5_leads_26 : decode cX5_leads 26 = .ok (.goto 70, 3) := by decide +kernel
theorem dX5_leads_29 : decode cX5_leads 29 = .ok (.aload_n 0, 1) := by decide +kernel
theorem dX5_leads_30 : decode cX5_leads 30 = .ok (.iload_n 1, 1) := by decide +kernel
theorem dX5_leads_31 : decode cX5_leads 31 = .ok (.iload 4, 2) := by decide +kernel
theorem dX5_leads_33 : decode cX5_leads 33 = .ok (.iload_n 2, 1) := by decide +kernel
theorem dX5_leads_34 : decode cX5_leads 34 = .ok (.invokevirtual 141, 3) := by decide +kernel
theorem dX5_leads_37 : decode cX5_leads 37 = .ok (.istore 5, 2) := by decide +kernel
theorem dX5_leads_39 : decode cX5_leads 39 = .ok (.aload_n 0, 1) := by decide +kernel
theorem dX5_leads_40 : decode cX5_leads 40 = .ok (.iload 5, 2) := by decide +kernel
theorem dX5_leads_42 : decode cX5_leads 42 = .ok (.aload_n 0, 1) := by decide +kernel
theorem dX5_leads_43 : decode cX5_leads 43 = .ok (.getfield 53, 3) := by decide +kernel
theorem dX5_leads_46 : decode cX5_leads 46 = .ok (.iload_n 2, 1) := by decide +kernel
theorem dX5_leads_47 : decode cX5_leads 47 = .ok (.iaload, 1) := by decide +kernel
theorem dX5_leads_48 : decode cX5_leads 48 = .ok (.invokevirtual 144, 3) := by decide +kernel
theorem dX5_leads_51 : decode cX5_leads 51 = .ok (.aload_n 0, 1) := by decide +kernel
theorem dX5_leads_52 : decode cX5_leads 52 = .ok (.getfield 56, 3) := by decide +kernel
theorem dX5_leads_55 : decode cX5_leads 55 = .ok (.iload_n 2, 1) := by decide +kernel
theorem dX5_leads_56 : decode cX5_leads 56 = .ok (.iaload, 1) := by decide +kernel
theorem dX5_leads_57 : decode cX5_leads 57 = .ok (.if_icmp .ne 39, 3) := by decide +kernel
theorem dX5_leads_60 : decode cX5_leads 60 = .ok (.aload_n 0, 1) := by decide +kernel
theorem dX5_leads_61 : decode cX5_leads 61 = .ok (.aload_n 0, 1) := by decide +kernel
theorem dX5_leads_62 : decode cX5_leads 62 = .ok (.iload 5, 2) := by decide +kernel
theorem dX5_leads_64 : decode cX5_leads 64 = .ok (.aload_n 0, 1) := by decide +kernel
theorem dX5_leads_65 : decode cX5_leads 65 = .ok (.getfield 53, 3) := by decide +kernel
theorem dX5_leads_68 : decode cX5_leads 68 = .ok (.iload_n 2, 1) := by decide +kernel
theorem dX5_leads_69 : decode cX5_leads 69 = .ok (.iaload, 1) := by decide +kernel
theorem dX5_leads_70 : decode cX5_leads 70 = .ok (.invokevirtual 147, 3) := by decide +kernel
theorem dX5_leads_73 : decode cX5_leads 73 = .ok (.iload_n 2, 1) := by decide +kernel
theorem dX5_leads_74 : decode cX5_leads 74 = .ok (.iconst 1, 1) := by decide +kernel
theorem dX5_leads_75 : decode cX5_leads 75 = .ok (.iadd, 1) := by decide +kernel
theorem dX5_leads_76 : decode cX5_leads 76 = .ok (.iload_n 3, 1) := by decide +kernel
theorem dX5_leads_77 : decode cX5_leads 77 = .ok (.invokevirtual 182, 3) := by decide +kernel
theorem dX5_leads_80 : decode cX5_leads 80 = .ok (.ifCond .ne 6, 3) := by decide +kernel
theorem dX5_leads_83 : decode cX5_leads 83 = .ok (.goto 13, 3) := by decide +kernel
theorem dX5_leads_86 : decode cX5_leads 86 = .ok (.aload_n 0, 1) := by decide +kernel
theorem dX5_leads_87 : decode cX5_leads 87 = .ok (.getfield 59, 3) := by decide +kernel
theorem dX5_leads_90 : decode cX5_leads 90 = .ok (.iload_n 2, 1) := by decide +kernel
theorem dX5_leads_91 : decode cX5_leads 91 = .ok (.iload 4, 2) := by decide +kernel
theorem dX5_leads_93 : decode cX5_leads 93 = .ok (.iastore, 1) := by decide +kernel
theorem dX5_leads_94 : decode cX5_leads 94 = .ok (.iconst 1, 1) := by decide +kernel
theorem dX5_leads_95 : decode cX5_leads 95 = .ok (.ireturn, 1) := by decide +kernel
theorem dX5_leads_96 : decode cX5_leads 96 = .ok (.iinc 4 1, 3) := by decide +kernel
theorem dX5_leads_99 : decode cX5_leads 99 = .ok (.goto (-89), 3) := by decide +kernel
theorem dX5_leads_102 : decode cX5_leads 102 = .ok (.iconst 0, 1) := by decide +kernel
theorem dX5_leads_103 : decode cX5_leads 103 = .ok (.ireturn, 1) := by decide +kernel
set_option maxRecDepth 20000 in
theorem ggX5_letter_X5_isIn : GoodIn wsX5_letter wsX5_isIn := goodIn_r _ [7] (by decide +kernel) (by decide +kernel)
set_option maxRecDepth 20000 in
theorem gX5_letter_X5_isIn : GoodIn wsX5_letter (va_wsS RX5 66 yX5_isIn wsX5_isIn) := goodIn_app (goodIn_of _ (by decide +kernel)) ggX5_letter_X5_isIn
set_option maxRecDepth 20000 in
theorem ggX5_letter_X5_finds : GoodIn wsX5_letter wsX5_finds := goodIn_r _ [11, 12, 1, 2, 13, 14, 15, 6, 16, 17, 18, 19, 20, 21, 22, 23, 24, 25, 26, 4, 5, 7, 27, 28, 29, 30, 31, 32, 33, 34, 35, 36, 37, 38, 39, 40, 41, 42, 43, 44, 45, 46, 47, 48, 49, 50, 51, 52, 53, 54, 55, 56, 57, 58, 59, 60, 61, 62, 63, 64, 65, 66, 67, 68, 69, 70, 71, 72, 73, 74, 75, 76, 77, 78, 79, 80, 81, 82, 83, 84, 85, 86, 87, 88, 89, 90, 95, 96, 97, 98, 99, 100, 101, 102, 103, 104, 105, 106, 107, 108, 109, 110, 111, 112, 113, 114] (by decide +kernel) (by decide +kernel)
set_option maxRecDepth 20000 in
theorem gX5_letter_X5_finds : GoodIn wsX5_letter (wsV RX5 185 RX5 yX5_finds wsX5_finds) := goodIn_app (goodIn_of _ (by decide +kernel)) ggX5_letter_X5_finds
set_option maxRecDepth 20000 in
theorem ggX5_letter_X5_startOf : GoodIn wsX5_letter wsX5_startOf := goodIn_r _ [16, 17, 18, 95, 96, 97, 98, 99, 100, 101, 102, 103, 104, 105, 106, 107, 108, 109, 110, 111, 112, 113, 114] (by decide +kernel) (by decide +kernel)
set_option maxRecDepth 20000 in
theorem gX5_letter_X5_startOf : GoodIn wsX5_letter (wsV RX5 179 RX5 yX5_startOf wsX5_startOf) := goodIn_app (goodIn_of _ (by decide +kernel)) ggX5_letter_X5_startOf
set_option maxRecDepth 20000 in
theorem ggX5_letter_X5_leads : GoodIn wsX5_letter wsX5_leads := goodIn_r _ [94, 1, 2, 3, 23, 24, 25, 6, 26, 17, 4, 5, 7, 27, 28, 29, 30, 31, 32, 18, 33, 34, 35, 36, 37, 38, 39, 40, 41, 42, 43, 44, 45, 46, 47, 48, 49, 50, 66, 67, 68, 69, 70, 71, 72, 73, 74, 83, 84, 85, 86, 87, 88, 89, 90, 91, 92, 93, 95, 96, 97, 98, 99, 100, 101, 102, 103, 104, 105, 106, 107, 108, 109, 110, 111, 112, 113, 114] (by decide +kernel) (by decide +kernel)
set_option maxRecDepth 20000 in
theorem gX5_letter_X5_leads : GoodIn wsX5_letter (wsV RX5 182 RX5 yX5_leads wsX5_leads) := goodIn_app (goodIn_of _ (by decide +kernel)) ggX5_letter_X5_leads
theorem dX5_letter_0 : decode cX5_letter 0 = .ok (.iload_n 1, 1) := by decide +kernel
theorem dX5_letter_1 : decode cX5_letter 1 = .ok (.iconst 0, 1) := by decide +kernel
theorem dX5_letter_2 : decode cX5_letter 2 = .ok (.iconst 3, 1) := by decide +kernel
theorem dX5_letter_3 : decode cX5_letter 3 = .ok (.invokestatic 66, 3) := by decide +kernel
theorem dX5_letter_6 : decode cX5_letter 6 = .ok (.ifCond .eq 50, 3) := by decide +kernel
theorem dX5_letter_9 : decode cX5_letter 9 = .ok (.iload_n 2, 1) := by decide +kernel
theorem dX5_letter_10 : decode cX5_letter 10 = .ok (.ifCond .lt 46, 3) := by decide +kernel
theorem dX5_letter_13 : decode cX5_letter 13 = .ok (.iload_n 3, 1) := by decide +kernel
theorem dX5_letter_14 : decode cX5_letter 14 = .ok (.iconst 0, 1) := by decide +kernel
theorem dX5_letter_15 : decode cX5_letter 15 = .ok (.iload_n 1, 1) := by decide +kernel
theorem dX5_letter_16 : decode cX5_letter 16 = .ok (.iconst 1, 1) := by decide +kernel
theorem dX5_letter_17 : decode cX5_letter 17 = .ok (.isub, 1) := by decide +kernel
theorem dX5_letter_18 : decode cX5_letter 18 = .ok (.invokestatic 66, 3) := by decide +kernel
theorem dX5_letter_21 : decode cX5_letter 21 = .ok (.ifCond .eq 35, 3) := by decide +kernel
theorem dX5_letter_24 : decode cX5_letter 24 = .ok (.iload 4, 2) := by decide +kernel
theorem dX5_letter_26 : decode cX5_letter 26 = .ok (.iconst 0, 1) := by decide +kernel
theorem dX5_letter_27 : decode cX5_letter 27 = .ok (.iconst 2, 1) := by decide +kernel
theorem dX5_letter_28 : decode cX5_letter 28 = .ok (.invokestatic 66, 3) := by decide +kernel
theorem dX5_letter_31 : decode cX5_letter 31 = .ok (.ifCond .eq 25, 3) := by decide +kernel
theorem dX5_letter_34 : decode cX5_letter 34 = .ok (.aload_n 0, 1) := by decide +kernel
theorem dX5_letter_35 : decode cX5_letter 35 = .ok (.iload_n 1, 1) := by decide +kernel
theorem dX5_letter_36 : decode cX5_letter 36 = .ok (.iload_n 2, 1) := by decide +kernel
theorem dX5_letter_37 : decode cX5_letter 37 = .ok (.invokevirtual 185, 3) := by decide +kernel
theorem dX5_letter_40 : decode cX5_letter 40 = .ok (.ifCond .eq 16, 3) := by decide +kernel
theorem dX5_letter_43 : decode cX5_letter 43 = .ok (.aload_n 0, 1) := by decide +kernel
theorem dX5_letter_44 : decode cX5_letter 44 = .ok (.aload_n 0, 1) := by decide +kernel
theorem dX5_letter_45 : decode cX5_letter 45 = .ok (.invokevirtual 179, 3) := by decide +kernel
theorem dX5_letter_48 : decode cX5_letter 48 = .ok (.iconst 0, 1) := by decide +kernel
theorem dX5_letter_49 : decode cX5_letter 49 = .ok (.iload_n 1, 1) := by decide +kernel
theorem dX5_letter_50 : decode cX5_letter 50 = .ok (.invokevirtual 182, 3) := by decide +kernel
theorem dX5_letter_53 : decode cX5_letter 53 = .ok (.ifCond .ne 5, 3) := by decide +kernel
theorem dX5_letter_56 : decode cX5_letter 56 = .ok (.iconst (-1), 1) := by decide +kernel
theorem dX5_letter_57 : decode cX5_letter 57 = .ok (.ireturn, 1) := by decide +kernel
theorem dX5_letter_58 : decode cX5_letter 58 = .ok (.iload 4, 2) := by decide +kernel
theorem dX5_letter_60 : decode cX5_letter 60 = .ok (.ifCond .ne 12, 3) := by decide +kernel
theorem dX5_letter_63 : decode cX5_letter 63 = .ok (.aload_n 0, 1) := by decide +kernel
theorem dX5_letter_64 : decode cX5_letter 64 = .ok (.getfield 53, 3) := by decide +kernel
theorem dX5_letter_67 : decode cX5_letter 67 = .ok (.iload_n 3, 1) := by decide +kernel
theorem dX5_letter_68 : decode cX5_letter 68 = .ok (.iaload, 1) := by decide +kernel
theorem dX5_letter_69 : decode cX5_letter 69 = .ok (.goto 24, 3) := by decide +kernel
theorem dX5_letter_72 : decode cX5_letter 72 = .ok (.iload 4, 2) := by decide +kernel
theorem dX5_letter_74 : decode cX5_letter 74 = .ok (.iconst 1, 1) := by decide +kernel
theorem dX5_letter_75 : decode cX5_letter 75 = .ok (.if_icmp .ne 12, 3) := by decide +kernel
theorem dX5_letter_78 : decode cX5_letter 78 = .ok (.aload_n 0, 1) := by decide +kernel
theorem dX5_letter_79 : decode cX5_letter 79 = .ok (.getfield 56, 3) := by decide +kernel
theorem dX5_letter_82 : decode cX5_letter 82 = .ok (.iload_n 3, 1) := by decide +kernel
theorem dX5_letter_83 : decode cX5_letter 83 = .ok (.iaload, 1) := by decide +kernel
theorem dX5_letter_84 : decode cX5_letter 84 = .ok (.goto 9, 3) := by decide +kernel
theorem dX5_letter_87 : decode cX5_letter 87 = .ok (.aload_n 0, 1) := by decide +kernel
theorem dX5_letter_88 : decode cX5_letter 88 = .ok (.getfield 59, 3) := by decide +kernel
theorem dX5_letter_91 : decode cX5_letter 91 = .ok (.iload_n 3, 1) := by decide +kernel
theorem dX5_letter_92 : decode cX5_letter 92 = .ok (.iaload, 1) := by decide +kernel
theorem dX5_letter_93 : decode cX5_letter 93 = .ok (.ireturn, 1) := by decide +kernel
theorem dX5_begin_0 : decode cX5_begin 0 = .ok (.aload_n 0, 1) := by decide +kernel
theorem dX5_begin_1 : decode cX5_begin 1 = .ok (.iconst 0, 1) := by decide +kernel
theorem dX5_begin_2 : decode cX5_begin 2 = .ok (.putfield 188, 3) := by decide +kernel
theorem dX5_begin_5 : decode cX5_begin 5 = .ok (.iconst 0, 1) := by decide +kernel
theorem dX5_begin_6 : decode cX5_begin 6 = .ok (.istore_n 1, 1) := by decide +kernel
theorem dX5_begin_7 : decode cX5_begin 7 = .ok (.iload_n 1, 1) := by decide +kernel
theorem dX5_begin_8 : decode cX5_begin 8 = .ok (.aload_n 0, 1) := by decide +kernel
theorem dX5_begin_9 : decode cX5_begin 9 = .ok (.getfield 62, 3) := by decide +kernel
theorem dX5_begin_12 : decode cX5_begin 12 = .ok (.if_icmp .ge 21, 3) := by decide +kernel
theorem dX5_begin_15 : decode cX5_begin 15 = .ok (.aload_n 0, 1) := by decide +kernel
theorem dX5_begin_16 : decode cX5_begin 16 = .ok (.getfield 28, 3) := by decide +kernel
theorem dX5_begin_19 : decode cX5_begin 19 = .ok (.iload_n 1, 1) := by decide +kernel
theorem dX5_begin_20 : decode cX5_begin 20 = .ok (.aload_n 0, 1) := by decide +kernel
theorem dX5_begin_21 : decode cX5_begin 21 = .ok (.getfield 13, 3) := by decide +kernel
theorem dX5_begin_24 : decode cX5_begin 24 = .ok (.iload_n 1, 1) := by decide +kernel
theorem dX5_begin_25 : decode cX5_begin 25 = .ok (.iaload, 1) := by decide +kernel
theorem dX5_begin_26 : decode cX5_begin 26 = .ok (.iastore, 1) := by decide +kernel
theorem dX5_begin_27 : decode cX5_begin 27 = .ok (.iinc 1 1, 3) := by decide +kernel
theorem dX5_begin_30 : decode cX5_begin 30 = .ok (.goto (-23), 3) := by decide +kernel
theorem dX5_begin_33 : decode cX5_begin 33 = .ok (.return_, 1) := by decide +kernel
set_option maxRecDepth 20000 in
theorem ggX5_run_X5_isAct : GoodIn wsX5_run wsX5_isAct := goodIn_r _ [8, 1, 9, 10, 7, 11, 54, 55, 56, 57, 58, 59, 60, 61, 62, 63, 64, 65, 66, 67, 68, 69, 70, 71, 72, 73] (by decide +kernel) (by decide +kernel)
set_option maxRecDepth 20000 in
theorem gX5_run_X5_isAct : GoodIn wsX5_run (wsV RX5 138 RX5 yX5_isAct wsX5_isAct) := goodIn_app (goodIn_of _ (by decide +kernel)) ggX5_run_X5_isAct
set_option maxRecDepth 20000 in
theorem ggX5_run_X5_sent : GoodIn wsX5_run wsX5_sent := goodIn_r _ [15, 1, 16, 17, 18, 19, 20, 7, 21, 22, 23, 24, 25, 26, 27, 28, 29, 30, 31, 32, 33, 34, 35, 36, 54, 55, 56, 57, 58, 59, 60, 61, 62, 63, 64, 65, 66, 67, 68, 69, 70, 71, 72, 73] (by decide +kernel) (by decide +kernel)
set_option maxRecDepth 20000 in
theorem gX5_run_X5_sent : GoodIn wsX5_run (wsV RX5 141 RX5 yX5_sent wsX5_sent) := goodIn_app (goodIn_of _ (by decide +kernel)) ggX5_run_X5_sent
set_option maxRecDepth 20000 in
theorem ggX5_run_X5_told : GoodIn wsX5_run wsX5_told := goodIn_r _ [40, 19, 20, 7, 21, 41, 42, 43, 44, 16, 45, 26, 27, 28, 29, 30, 31, 32, 33, 54, 55, 56, 57, 58, 59, 60, 61, 62, 63, 64, 65, 66, 67, 68, 69, 70, 71, 72, 73] (by decide +kernel) (by decide +kernel)
set_option maxRecDepth 20000 in
theorem gX5_run_X5_told : GoodIn wsX5_run (wsV RX5 144 RX5 yX5_told wsX5_told) := goodIn_app (goodIn_of _ (by decide +kernel)) ggX5_run_X5_told
set_option maxRecDepth 20000 in
theorem ggX5_run_X5_heard : GoodIn wsX5_run wsX5_heard := goodIn_r _ [49, 19, 20, 7, 21, 50, 51, 52, 53, 26, 27, 28, 29, 30, 31, 32, 33, 34, 35, 36, 54, 55, 56, 57, 58, 59, 60, 61, 62, 63, 64, 65, 66, 67, 68, 69, 70, 71, 72, 73] (by decide +kernel) (by decide +kernel)
set_option maxRecDepth 20000 in
theorem gX5_run_X5_heard : GoodIn wsX5_run (wsV RX5 147 RX5 yX5_heard wsX5_heard) := goodIn_app (goodIn_of _ (by decide +kernel)) ggX5_run_X5_heard
set_option maxRecDepth 20000 in
theorem ggX5_run_X5_part : GoodIn wsX5_run wsX5_part := goodIn_r _ [21] (by decide +kernel) (by decide +kernel)
set_option maxRecDepth 20000 in
theorem gX5_run_X5_part : GoodIn wsX5_run (va_wsS RX5 132 yX5_part wsX5_part) := goodIn_app (goodIn_of _ (by decide +kernel)) ggX5_run_X5_part
theorem dX5_run_0 : decode cX5_run 0 = .ok (.aload_n 0, 1) := by decide +kernel
theorem dX5_run_1 : decode cX5_run 1 = .ok (.iload_n 1, 1) := by decide +kernel
theorem dX5_run_2 : decode cX5_run 2 = .ok (.invokevirtual 138, 3) := by decide +kernel
theorem dX5_run_5 : decode cX5_run 5 = .ok (.ifCond .eq 11, 3) := by decide +kernel
theorem dX5_run_8 : decode cX5_run 8 = .ok (.aload_n 0, 1) := by decide +kernel
theorem dX5_run_9 : decode cX5_run 9 = .ok (.iload_n 2, 1) := by decide +kernel
theorem dX5_run_10 : decode cX5_run 10 = .ok (.invokevirtual 138, 3) := by decide +kernel
theorem dX5_run_13 : decode cX5_run 13 = .ok (.ifCond .ne 5, 3) := by decide +kernel
theorem dX5_run_16 : decode cX5_run 16 = .ok (.iconst (-1), 1) := by decide +kernel
theorem dX5_run_17 : decode cX5_run 17 = .ok (.ireturn, 1) := by decide +kernel
theorem dX5_run_18 : decode cX5_run 18 = .ok (.iconst 0, 1) := by decide +kernel
theorem dX5_run_19 : decode cX5_run 19 = .ok (.istore_n 3, 1) := by decide +kernel
theorem dX5_run_20 : decode cX5_run 20 = .ok (.iconst 0, 1) := by decide +kernel
theorem dX5_run_21 : decode cX5_run 21 = .ok (.istore 4, 2) := by decide +kernel
theorem dX5_run_23 : decode cX5_run 23 = .ok (.iload 4, 2) := by decide +kernel
theorem dX5_run_25 : decode cX5_run 25 = .ok (.aload_n 0, 1) := by decide +kernel
theorem dX5_run_26 : decode cX5_run 26 = .ok (.getfield 62, 3) := by decide +kernel
theorem dX5_run_29 : decode cX5_run 29 = .ok (.if_icmp .ge 24, 3) := by decide +kernel
theorem dX5_run_32 : decode cX5_run 32 = .ok (.iload_n 3, 1) := by decide +kernel
theorem dX5_run_33 : decode cX5_run 33 = .ok (.aload_n 0, 1) := by decide +kernel
theorem dX5_run_34 : decode cX5_run 34 = .ok (.getfield 28, 3) := by decide +kernel
theorem dX5_run_37 : decode cX5_run 37 = .ok (.iload 4, 2) := by decide +kernel
theorem dX5_run_39 : decode cX5_run 39 = .ok (.iaload, 1) := by decide +kernel
theorem dX5_run_40 : decode cX5_run 40 = .ok (.iconst 2, 1) := by decide +kernel
theorem dX5_run_41 : decode cX5_run 41 = .ok (.iload 4, 2) := by decide +kernel
theorem dX5_run_43 : decode cX5_run 43 = .ok (.imul, 1) := by decide +kernel
theorem dX5_run_44 : decode cX5_run 44 = .ok (.ishl, 1) := by decide +kernel
theorem dX5_run_45 : decode cX5_run 45 = .ok (.ior, 1) := by decide +kernel
theorem dX5_run_46 : decode cX5_run 46 = .ok (.istore_n 3, 1) := by decide +kernel
theorem dX5_run_47 : decode cX5_run 47 = .ok (.iinc 4 1, 3) := by decide +kernel
theorem dX5_run_50 : decode cX5_run 50 = .ok (.goto (-27), 3) := by decide +kernel
theorem dX5_run_53 : decode cX5_run 53 = .ok (.aload_n 0, 1) := by decide +kernel
theorem dX5_run_54 : decode cX5_run 54 = .ok (.iload_n 3, 1) := by decide +kernel
theorem dX5_run_55 : decode cX5_run 55 = .ok (.iload_n 1, 1) := by decide +kernel
theorem dX5_run_56 : decode cX5_run 56 = .ok (.aload_n 0, 1) := by decide +kernel
theorem dX5_run_57 : decode cX5_run 57 = .ok (.getfield 188, 3) := by decide +kernel
theorem dX5_run_60 : decode cX5_run 60 = .ok (.invokevirtual 141, 3) := by decide +kernel
theorem dX5_run_63 : decode cX5_run 63 = .ok (.istore_n 3, 1) := by decide +kernel
theorem dX5_run_64 : decode cX5_run 64 = .ok (.aload_n 0, 1) := by decide +kernel
theorem dX5_run_65 : decode cX5_run 65 = .ok (.iload_n 3, 1) := by decide +kernel
theorem dX5_run_66 : decode cX5_run 66 = .ok (.iload_n 2, 1) := by decide +kernel
theorem dX5_run_67 : decode cX5_run 67 = .ok (.invokevirtual 144, 3) := by decide +kernel
theorem dX5_run_70 : decode cX5_run 70 = .ok (.istore 4, 2) := by decide +kernel
theorem dX5_run_72 : decode cX5_run 72 = .ok (.aload_n 0, 1) := by decide +kernel
theorem dX5_run_73 : decode cX5_run 73 = .ok (.iload_n 3, 1) := by decide +kernel
theorem dX5_run_74 : decode cX5_run 74 = .ok (.iload_n 2, 1) := by decide +kernel
theorem dX5_run_75 : decode cX5_run 75 = .ok (.invokevirtual 147, 3) := by decide +kernel
theorem dX5_run_78 : decode cX5_run 78 = .ok (.istore_n 3, 1) := by decide +kernel
theorem dX5_run_79 : decode cX5_run 79 = .ok (.iconst 0, 1) := by decide +kernel
theorem dX5_run_80 : decode cX5_run 80 = .ok (.istore 5, 2) := by decide +kernel
theorem dX5_run_82 : decode cX5_run 82 = .ok (.iload 5, 2) := by decide +kernel
theorem dX5_run_84 : decode cX5_run 84 = .ok (.aload_n 0, 1) := by decide +kernel
theorem dX5_run_85 : decode cX5_run 85 = .ok (.getfield 62, 3) := by decide +kernel
theorem dX5_run_88 : decode cX5_run 88 = .ok (.if_icmp .ge 22, 3) := by decide +kernel
theorem dX5_run_91 : decode cX5_run 91 = .ok (.aload_n 0, 1) := by decide +kernel
theorem dX5_run_92 : decode cX5_run 92 = .ok (.getfield 28, 3) := by decide +kernel
theorem dX5_run_95 : decode cX5_run 95 = .ok (.iload 5, 2) := by decide +kernel
theorem dX5_run_97 : decode cX5_run 97 = .ok (.iload_n 3, 1) := by decide +kernel
theorem dX5_run_98 : decode cX5_run 98 = .ok (.iload 5, 2) := by decide +kernel
theorem dX5_run_100 : decode cX5_run 100 = .ok (.invokestatic 132, 3) := by decide +kernel
theorem dX5_run_103 : decode cX5_run 103 = .ok (.iastore, 1) := by decide +kernel
theorem dX5_run_104 : decode cX5_run 104 = .ok (.iinc 5 1, 3) := by decide +kernel
theorem dX5_run_107 : decode cX5_run 107 = .ok (.goto (-25), 3) := by decide +kernel
theorem dX5_run_110 : decode cX5_run 110 = .ok (.aload_n 0, 1) := by decide +kernel
theorem dX5_run_111 : decode cX5_run 111 = .ok (.dup, 1) := by decide +kernel
theorem dX5_run_112 : decode cX5_run 112 = .ok (.getfield 188, 3) := by decide +kernel
theorem dX5_run_115 : decode cX5_run 115 = .ok (.iconst 1, 1) := by decide +kernel
theorem dX5_run_116 : decode cX5_run 116 = .ok (.iadd, 1) := by decide +kernel
theorem dX5_run_117 : decode cX5_run 117 = .ok (.putfield 188, 3) := by decide +kernel
theorem dX5_run_120 : decode cX5_run 120 = .ok (.iload 4, 2) := by decide +kernel
theorem dX5_run_122 : decode cX5_run 122 = .ok (.ireturn, 1) := by decide +kernel
set_option maxRecDepth 20000 in
theorem ggX5_state_X5_isThing : GoodIn wsX5_state wsX5_isThing := goodIn_r _ [6, 7, 8, 9, 5, 10, 11, 12, 13, 14, 15, 16, 17, 18, 19, 20, 21, 22, 23, 24, 25, 26, 27, 28, 29, 30] (by decide +kernel) (by decide +kernel)
set_option maxRecDepth 20000 in
theorem gX5_state_X5_isThing : GoodIn wsX5_state (wsV RX5 74 RX5 yX5_isThing wsX5_isThing) := goodIn_app (goodIn_of _ (by decide +kernel)) ggX5_state_X5_isThing
theorem dX5_state_0 : decode cX5_state 0 = .ok (.aload_n 0, 1) := by decide +kernel
theorem dX5_state_1 : decode cX5_state 1 = .ok (.iload_n 1, 1) := by decide +kernel
theorem dX5_state_2 : decode cX5_state 2 = .ok (.invokevirtual 74, 3) := by decide +kernel
theorem dX5_state_5 : decode cX5_state 5 = .ok (.ifCond .eq 12, 3) := by decide +kernel
theorem dX5_state_8 : decode cX5_state 8 = .ok (.aload_n 0, 1) := by decide +kernel
theorem dX5_state_9 : decode cX5_state 9 = .ok (.getfield 28, 3) := by decide +kernel
theorem dX5_state_12 : decode cX5_state 12 = .ok (.iload_n 1, 1) := by decide +kernel
theorem dX5_state_13 : decode cX5_state 13 = .ok (.iaload, 1) := by decide +kernel
theorem dX5_state_14 : decode cX5_state 14 = .ok (.goto 4, 3) := by decide +kernel
theorem dX5_state_17 : decode cX5_state 17 = .ok (.iconst (-1), 1) := by decide +kernel
theorem dX5_state_18 : decode cX5_state 18 = .ok (.ireturn, 1) := by decide +kernel
theorem dX5_ticks_0 : decode cX5_ticks 0 = .ok (.aload_n 0, 1) := by decide +kernel
theorem dX5_ticks_1 : decode cX5_ticks 1 = .ok (.getfield 188, 3) := by decide +kernel
theorem dX5_ticks_4 : decode cX5_ticks 4 = .ok (.ireturn, 1) := by decide +kernel
set_option maxRecDepth 20000 in
theorem ggX5_walls_X5_isIn : GoodIn wsX5_walls wsX5_isIn := goodIn_r _ [5] (by decide +kernel) (by decide +kernel)
set_option maxRecDepth 20000 in
theorem gX5_walls_X5_isIn : GoodIn wsX5_walls (va_wsS RX5 66 yX5_isIn wsX5_isIn) := goodIn_app (goodIn_of _ (by decide +kernel)) ggX5_walls_X5_isIn
set_option maxRecDepth 20000 in
theorem ggX5_walls_X5_wallsNow : GoodIn wsX5_walls wsX5_wallsNow := goodIn_r _ [9, 1, 10, 101, 102, 103, 104, 105, 106, 107, 108, 109, 110, 111, 112, 113, 114, 115, 116, 117, 118, 119, 120] (by decide +kernel) (by decide +kernel)
set_option maxRecDepth 20000 in
theorem gX5_walls_X5_wallsNow : GoodIn wsX5_walls (wsV RX5 86 RX5 yX5_wallsNow wsX5_wallsNow) := goodIn_app (goodIn_of _ (by decide +kernel)) ggX5_walls_X5_wallsNow
set_option maxRecDepth 20000 in
theorem ggX5_walls_X5_costs : GoodIn wsX5_walls wsX5_costs := goodIn_r _ [14, 1, 15, 101, 102, 103, 104, 105, 106, 107, 108, 109, 110, 111, 112, 113, 114, 115, 116, 117, 118, 119, 120] (by decide +kernel) (by decide +kernel)
set_option maxRecDepth 20000 in
theorem gX5_walls_X5_costs : GoodIn wsX5_walls (wsV RX5 90 RX5 yX5_costs wsX5_costs) := goodIn_app (goodIn_of _ (by decide +kernel)) ggX5_walls_X5_costs
set_option maxRecDepth 20000 in
theorem ggX5_walls_X5_gives : GoodIn wsX5_walls wsX5_gives := goodIn_r _ [19, 1, 10, 101, 102, 103, 104, 105, 106, 107, 108, 109, 110, 111, 112, 113, 114, 115, 116, 117, 118, 119, 120] (by decide +kernel) (by decide +kernel)
set_option maxRecDepth 20000 in
theorem gX5_walls_X5_gives : GoodIn wsX5_walls (wsV RX5 191 RX5 yX5_gives wsX5_gives) := goodIn_app (goodIn_of _ (by decide +kernel)) ggX5_walls_X5_gives
set_option maxRecDepth 20000 in
theorem ggX5_walls_X5_letters : GoodIn wsX5_walls wsX5_letters := goodIn_r _ [23, 24, 2, 3, 4, 5, 25, 26, 27, 28, 1, 29, 30, 31, 32, 33, 34, 35, 36, 37, 38, 39, 40, 41, 42, 43, 44, 45, 46, 47, 48, 49, 50, 51, 52, 10, 53, 54, 55, 56, 57, 58, 59, 60, 61, 62, 63, 64, 65, 66, 67, 68, 69, 70, 71, 72, 73, 74, 75, 76, 77, 78, 79, 80, 81, 82, 83, 84, 85, 86, 87, 88, 89, 90, 91, 92, 93, 94, 95, 96, 97, 98, 99, 100, 101, 102, 103, 104, 105, 106, 107, 108, 109, 110, 111, 112, 113, 114, 115, 116, 117, 118, 119, 120] (by decide +kernel) (by decide +kernel)
set_option maxRecDepth 20000 in
theorem gX5_walls_X5_letters : GoodIn wsX5_walls (wsV RX5 194 RX5 yX5_letters wsX5_letters) := goodIn_app (goodIn_of _ (by decide +kernel)) ggX5_walls_X5_letters
theorem dX5_walls_0 : decode cX5_walls 0 = .ok (.iload_n 1, 1) := by decide +kernel
theorem dX5_walls_1 : decode cX5_walls 1 = .ok (.iconst 1, 1) := by decide +kernel
theorem dX5_walls_2 : decode cX5_walls 2 = .ok (.sipush 4096, 3) := by decide +kernel
theorem dX5_walls_5 : decode cX5_walls 5 = .ok (.invokestatic 66, 3) := by decide +kernel
theorem dX5_walls_8 : decode cX5_walls 8 = .ok (.ifCond .eq 21, 3) := by decide +kernel
theorem dX5_walls_11 : decode cX5_walls 11 = .ok (.iload_n 2, 1) := by decide +kernel
theorem dX5_walls_12 : decode cX5_walls 12 = .ok (.iconst 0, 1) := by decide +kernel
theorem dX5_walls_13 : decode cX5_walls 13 = .ok (.iconst 2, 1) := by decide +kernel
theorem dX5_walls_14 : decode cX5_walls 14 = .ok (.invokestatic 66, 3) := by decide +kernel
theorem dX5_walls_17 : decode cX5_walls 17 = .ok (.ifCond .eq 12, 3) := by decide +kernel
theorem dX5_walls_20 : decode cX5_walls 20 = .ok (.iload_n 3, 1) := by decide +kernel
theorem dX5_walls_21 : decode cX5_walls 21 = .ok (.iconst 0, 1) := by decide +kernel
theorem dX5_walls_22 : decode cX5_walls 22 = .ok (.iconst 1, 1) := by decide +kernel
theorem dX5_walls_23 : decode cX5_walls 23 = .ok (.invokestatic 66, 3) := by decide +kernel
theorem dX5_walls_26 : decode cX5_walls 26 = .ok (.ifCond .ne 5, 3) := by decide +kernel
theorem dX5_walls_29 : decode cX5_walls 29 = .ok (.iconst (-1), 1) := by decide +kernel
theorem dX5_walls_30 : decode cX5_walls 30 = .ok (.ireturn, 1) := by decide +kernel
theorem dX5_walls_31 : decode cX5_walls 31 = .ok (.aload_n 0, 1) := by decide +kernel
theorem dX5_walls_32 : decode cX5_walls 32 = .ok (.invokevirtual 86, 3) := by decide +kernel
theorem dX5_walls_35 : decode cX5_walls 35 = .ok (.istore 4, 2) := by decide +kernel
theorem dX5_walls_37 : decode cX5_walls 37 = .ok (.iconst (-1), 1) := by decide +kernel
theorem dX5_walls_38 : decode cX5_walls 38 = .ok (.istore 5, 2) := by decide +kernel
theorem dX5_walls_40 : decode cX5_walls 40 = .ok (.iconst 0, 1) := by decide +kernel
theorem dX5_walls_41 : decode cX5_walls 41 = .ok (.istore 6, 2) := by decide +kernel
theorem dX5_walls_43 : decode cX5_walls 43 = .ok (.iload 6, 2) := by decide +kernel
theorem dX5_walls_45 : decode cX5_walls 45 = .ok (.iconst 1, 1) := by decide +kernel
theorem dX5_walls_46 : decode cX5_walls 46 = .ok (.iconst 2, 1) := by decide +kernel
theorem dX5_walls_47 : decode cX5_walls 47 = .ok (.aload_n 0, 1) := by decide +kernel
theorem dX5_walls_48 : decode cX5_walls 48 = .ok (.getfield 62, 3) := by decide +kernel
theorem dX5_walls_51 : decode cX5_walls 51 = .ok (.imul, 1) := by decide +kernel
theorem dX5_walls_52 : decode cX5_walls 52 = .ok (.ishl, 1) := by decide +kernel
theorem dX5_walls_53 : decode cX5_walls 53 = .ok (.if_icmp .ge 52, 3) := by decide +kernel
theorem dX5_walls_56 : decode cX5_walls 56 = .ok (.iload 5, 2) := by decide +kernel
theorem dX5_walls_58 : decode cX5_walls 58 = .ok (.iconst (-1), 1) := by decide +kernel
theorem dX5_walls_59 : decode cX5_walls 59 = .ok (.if_icmp .eq 21, 3) := by decide +kernel
theorem dX5_walls_62 : decode cX5_walls 62 = .ok (.aload_n 0, 1) := by decide +kernel
theorem dX5_walls_63 : decode cX5_walls 63 = .ok (.iload 6, 2) := by decide +kernel
theorem dX5_walls_65 : decode cX5_walls 65 = .ok (.invokevirtual 90, 3) := by decide +kernel
theorem dX5_walls_68 : decode cX5_walls 68 = .ok (.aload_n 0, 1) := by decide +kernel
theorem dX5_walls_69 : decode cX5_walls 69 = .ok (.iload 5, 2) := by decide +kernel
theorem dX5_walls_71 : decode cX5_walls 71 = .ok (.invokevirtual 90, 3) := by decide +kernel
theorem dX5_walls_74 : decode cX5_walls 74 = .ok (.if_icmp .lt 6, 3) := by decide +kernel
theorem dX5_walls_77 : decode cX5_walls 77 = .ok (.goto 22, 3) := by decide +kernel
theorem dX5_walls_80 : decode cX5_walls 80 = .ok (.aload_n 0, 1) := by decide +kernel
theorem dX5_walls_81 : decode cX5_walls 81 = .ok (.iload 6, 2) := by decide +kernel
theorem dX5_walls_83 : decode cX5_walls 83 = .ok (.invokevirtual 191, 3) := by decide +kernel
theorem dX5_walls_86 : decode cX5_walls 86 = .ok (.aload_n 0, 1) := by decide +kernel
theorem dX5_walls_87 : decode cX5_walls 87 = .ok (.iload_n 2, 1) := by decide +kernel
theorem dX5_walls_88 : decode cX5_walls 88 = .ok (.invokevirtual 194, 3) := by decide +kernel
theorem dX5_walls_91 : decode cX5_walls 91 = .ok (.iload_n 1, 1) := by decide +kernel
theorem dX5_walls_92 : decode cX5_walls 92 = .ok (.if_icmp .gt 7, 3) := by decide +kernel
theorem dX5_walls_95 : decode cX5_walls 95 = .ok (.iload 6, 2) := by decide +kernel
theorem dX5_walls_97 : decode cX5_walls 97 = .ok (.istore 5, 2) := by decide +kernel
theorem dX5_walls_99 : decode cX5_walls 99 = .ok (.iinc 6 1, 3) := by decide +kernel
theorem dX5_walls_102 : decode cX5_walls 102 = .ok (.goto (-59), 3) := by decide +kernel
theorem dX5_walls_105 : decode cX5_walls 105 = .ok (.aload_n 0, 1) := by decide +kernel
theorem dX5_walls_106 : decode cX5_walls 106 = .ok (.iload 4, 2) := by decide +kernel
theorem dX5_walls_108 : decode cX5_walls 108 = .ok (.invokevirtual 191, 3) := by decide +kernel
theorem dX5_walls_111 : decode cX5_walls 111 = .ok (.iload 5, 2) := by decide +kernel
theorem dX5_walls_113 : decode cX5_walls 113 = .ok (.iconst (-1), 1) := by decide +kernel
theorem dX5_walls_114 : decode cX5_walls 114 = .ok (.if_icmp .ne 7, 3) := by decide +kernel
theorem dX5_walls_117 : decode cX5_walls 117 = .ok (.iconst (-1), 1) := by decide +kernel
theorem dX5_walls_118 : decode cX5_walls 118 = .ok (.goto 18, 3) := by decide +kernel
theorem dX5_walls_121 : decode cX5_walls 121 = .ok (.iload_n 3, 1) := by decide +kernel
theorem dX5_walls_122 : decode cX5_walls 122 = .ok (.ifCond .ne 12, 3) := by decide +kernel
theorem dX5_walls_125 : decode cX5_walls 125 = .ok (.aload_n 0, 1) := by decide +kernel
theorem dX5_walls_126 : decode cX5_walls 126 = .ok (.iload 5, 2) := by decide +kernel
theorem dX5_walls_128 : decode cX5_walls 128 = .ok (.invokevirtual 90, 3) := by decide +kernel
theorem dX5_walls_131 : decode cX5_walls 131 = .ok (.goto 5, 3) := by decide +kernel
theorem dX5_walls_134 : decode cX5_walls 134 = .ok (.iload 5, 2) := by decide +kernel
theorem dX5_walls_136 : decode cX5_walls 136 = .ok (.ireturn, 1) := by decide +kernel
theorem dX5_gives_0 : decode cX5_gives 0 = .ok (.iconst 0, 1) := by decide +kernel
theorem dX5_gives_1 : decode cX5_gives 1 = .ok (.istore_n 2, 1) := by decide +kernel
theorem dX5_gives_2 : decode cX5_gives 2 = .ok (.iload_n 2, 1) := by decide +kernel
theorem dX5_gives_3 : decode cX5_gives 3 = .ok (.aload_n 0, 1) := by decide +kernel
theorem dX5_gives_4 : decode cX5_gives 4 = .ok (.getfield 62, 3) := by decide +kernel
theorem dX5_gives_7 : decode cX5_gives 7 = .ok (.if_icmp .ge 22, 3) := by decide +kernel
theorem dX5_gives_10 : decode cX5_gives 10 = .ok (.aload_n 0, 1) := by decide +kernel
theorem dX5_gives_11 : decode cX5_gives 11 = .ok (.getfield 16, 3) := by decide +kernel
theorem dX5_gives_14 : decode cX5_gives 14 = .ok (.iload_n 2, 1) := by decide +kernel
theorem dX5_gives_15 : decode cX5_gives 15 = .ok (.iload_n 1, 1) := by decide +kernel
theorem dX5_gives_16 : decode cX5_gives 16 = .ok (.iconst 2, 1) := by decide +kernel
theorem dX5_gives_17 : decode cX5_gives 17 = .ok (.iload_n 2, 1) := by decide +kernel
theorem dX5_gives_18 : decode cX5_gives 18 = .ok (.imul, 1) := by decide +kernel
theorem dX5_gives_19 : decode cX5_gives 19 = .ok (.ishr, 1) := by decide +kernel
theorem dX5_gives_20 : decode cX5_gives 20 = .ok (.iconst 3, 1) := by decide +kernel
theorem dX5_gives_21 : decode cX5_gives 21 = .ok (.iand, 1) := by decide +kernel
theorem dX5_gives_22 : decode cX5_gives 22 = .ok (.iastore, 1) := by decide +kernel
theorem dX5_gives_23 : decode cX5_gives 23 = .ok (.iinc 2 1, 3) := by decide +kernel
theorem dX5_gives_26 : decode cX5_gives 26 = .ok (.goto (-24), 3) := by decide +kernel
theorem dX5_gives_29 : decode cX5_gives 29 = .ok (.return_, 1) := by decide +kernel
set_option maxRecDepth 20000 in
theorem ggX5_give_X5_isIn : GoodIn wsX5_give wsX5_isIn := goodIn_r _ [4] (by decide +kernel) (by decide +kernel)
set_option maxRecDepth 20000 in
theorem gX5_give_X5_isIn : GoodIn wsX5_give (va_wsS RX5 66 yX5_isIn wsX5_isIn) := goodIn_app (goodIn_of _ (by decide +kernel)) ggX5_give_X5_isIn
set_option maxRecDepth 20000 in
theorem ggX5_give_X5_gives : GoodIn wsX5_give wsX5_gives := goodIn_r _ [8, 9, 10, 11, 12, 13, 14, 15, 16, 17, 18, 19, 20, 21, 22, 23, 24, 25, 26, 27, 28, 29, 30] (by decide +kernel) (by decide +kernel)
set_option maxRecDepth 20000 in
theorem gX5_give_X5_gives : GoodIn wsX5_give (wsV RX5 191 RX5 yX5_gives wsX5_gives) := goodIn_app (goodIn_of _ (by decide +kernel)) ggX5_give_X5_gives
theorem dX5_give_0 : decode cX5_give 0 = .ok (.iload_n 1, 1) := by decide +kernel
theorem dX5_give_1 : decode cX5_give 1 = .ok (.iconst 0, 1) := by decide +kernel
theorem dX5_give_2 : decode cX5_give 2 = .ok (.bipush 63, 2) := by decide +kernel
theorem dX5_give_4 : decode cX5_give 4 = .ok (.invokestatic 66, 3) := by decide +kernel
theorem dX5_give_7 : decode cX5_give 7 = .ok (.ifCond .ne 5, 3) := by decide +kernel
theorem dX5_give_10 : decode cX5_give 10 = .ok (.iconst 0, 1) := by decide +kernel
theorem dX5_give_11 : decode cX5_give 11 = .ok (.ireturn, 1) := by decide +kernel
theorem dX5_give_12 : decode cX5_give 12 = .ok (.aload_n 0, 1) := by decide +kernel
theorem dX5_give_13 : decode cX5_give 13 = .ok (.iload_n 1, 1) := by decide +kernel
theorem dX5_give_14 : decode cX5_give 14 = .ok (.invokevirtual 191, 3) := by decide +kernel
theorem dX5_give_17 : decode cX5_give 17 = .ok (.iconst 1, 1) := by decide +kernel
theorem dX5_give_18 : decode cX5_give 18 = .ok (.ireturn, 1) := by decide +kernel
theorem dJ6_bitCount_0f7a4_0 : decode cJ6_bitCount_0f7a4 0 = .ok (.iload_n 0, 1) := by decide +kernel
theorem dJ6_bitCount_0f7a4_1 : decode cJ6_bitCount_0f7a4 1 = .ok (.iload_n 0, 1) := by decide +kernel
theorem dJ6_bitCount_0f7a4_2 : decode cJ6_bitCount_0f7a4 2 = .ok (.iconst 1, 1) := by decide +kernel
theorem dJ6_bitCount_0f7a4_3 : decode cJ6_bitCount_0f7a4 3 = .ok (.iushr, 1) := by decide +kernel
theorem dJ6_bitCount_0f7a4_4 : decode cJ6_bitCount_0f7a4 4 = .ok (.ldc_w 265, 3) := by decide +kernel
theorem dJ6_bitCount_0f7a4_7 : decode cJ6_bitCount_0f7a4 7 = .ok (.iand, 1) := by decide +kernel
theorem dJ6_bitCount_0f7a4_8 : decode cJ6_bitCount_0f7a4 8 = .ok (.isub, 1) := by decide +kernel
theorem dJ6_bitCount_0f7a4_9 : decode cJ6_bitCount_0f7a4 9 = .ok (.istore_n 0, 1) := by decide +kernel
theorem dJ6_bitCount_0f7a4_10 : decode cJ6_bitCount_0f7a4 10 = .ok (.iload_n 0, 1) := by decide +kernel
theorem dJ6_bitCount_0f7a4_11 : decode cJ6_bitCount_0f7a4 11 = .ok (.ldc_w 266, 3) := by decide +kernel
theorem dJ6_bitCount_0f7a4_14 : decode cJ6_bitCount_0f7a4 14 = .ok (.iand, 1) := by decide +kernel
theorem dJ6_bitCount_0f7a4_15 : decode cJ6_bitCount_0f7a4 15 = .ok (.iload_n 0, 1) := by decide +kernel
theorem dJ6_bitCount_0f7a4_16 : decode cJ6_bitCount_0f7a4 16 = .ok (.iconst 2, 1) := by decide +kernel
theorem dJ6_bitCount_0f7a4_17 : decode cJ6_bitCount_0f7a4 17 = .ok (.iushr, 1) := by decide +kernel
theorem dJ6_bitCount_0f7a4_18 : decode cJ6_bitCount_0f7a4 18 = .ok (.ldc_w 266, 3) := by decide +kernel
theorem dJ6_bitCount_0f7a4_21 : decode cJ6_bitCount_0f7a4 21 = .ok (.iand, 1) := by decide +kernel
theorem dJ6_bitCount_0f7a4_22 : decode cJ6_bitCount_0f7a4 22 = .ok (.iadd, 1) := by decide +kernel
theorem dJ6_bitCount_0f7a4_23 : decode cJ6_bitCount_0f7a4 23 = .ok (.istore_n 0, 1) := by decide +kernel
theorem dJ6_bitCount_0f7a4_24 : decode cJ6_bitCount_0f7a4 24 = .ok (.iload_n 0, 1) := by decide +kernel
theorem dJ6_bitCount_0f7a4_25 : decode cJ6_bitCount_0f7a4 25 = .ok (.iload_n 0, 1) := by decide +kernel
theorem dJ6_bitCount_0f7a4_26 : decode cJ6_bitCount_0f7a4 26 = .ok (.iconst 4, 1) := by decide +kernel
theorem dJ6_bitCount_0f7a4_27 : decode cJ6_bitCount_0f7a4 27 = .ok (.iushr, 1) := by decide +kernel
theorem dJ6_bitCount_0f7a4_28 : decode cJ6_bitCount_0f7a4 28 = .ok (.iadd, 1) := by decide +kernel
theorem dJ6_bitCount_0f7a4_29 : decode cJ6_bitCount_0f7a4 29 = .ok (.ldc_w 267, 3) := by decide +kernel
theorem dJ6_bitCount_0f7a4_32 : decode cJ6_bitCount_0f7a4 32 = .ok (.iand, 1) := by decide +kernel
theorem dJ6_bitCount_0f7a4_33 : decode cJ6_bitCount_0f7a4 33 = .ok (.istore_n 0, 1) := by decide +kernel
theorem dJ6_bitCount_0f7a4_34 : decode cJ6_bitCount_0f7a4 34 = .ok (.iload_n 0, 1) := by decide +kernel
theorem dJ6_bitCount_0f7a4_35 : decode cJ6_bitCount_0f7a4 35 = .ok (.iload_n 0, 1) := by decide +kernel
theorem dJ6_bitCount_0f7a4_36 : decode cJ6_bitCount_0f7a4 36 = .ok (.bipush 8, 2) := by decide +kernel
theorem dJ6_bitCount_0f7a4_38 : decode cJ6_bitCount_0f7a4 38 = .ok (.iushr, 1) := by decide +kernel
theorem dJ6_bitCount_0f7a4_39 : decode cJ6_bitCount_0f7a4 39 = .ok (.iadd, 1) := by decide +kernel
theorem dJ6_bitCount_0f7a4_40 : decode cJ6_bitCount_0f7a4 40 = .ok (.istore_n 0, 1) := by decide +kernel
theorem dJ6_bitCount_0f7a4_41 : decode cJ6_bitCount_0f7a4 41 = .ok (.iload_n 0, 1) := by decide +kernel
theorem dJ6_bitCount_0f7a4_42 : decode cJ6_bitCount_0f7a4 42 = .ok (.iload_n 0, 1) := by decide +kernel
theorem dJ6_bitCount_0f7a4_43 : decode cJ6_bitCount_0f7a4 43 = .ok (.bipush 16, 2) := by decide +kernel
theorem dJ6_bitCount_0f7a4_45 : decode cJ6_bitCount_0f7a4 45 = .ok (.iushr, 1) := by decide +kernel
theorem dJ6_bitCount_0f7a4_46 : decode cJ6_bitCount_0f7a4 46 = .ok (.iadd, 1) := by decide +kernel
theorem dJ6_bitCount_0f7a4_47 : decode cJ6_bitCount_0f7a4 47 = .ok (.istore_n 0, 1) := by decide +kernel
theorem dJ6_bitCount_0f7a4_48 : decode cJ6_bitCount_0f7a4 48 = .ok (.iload_n 0, 1) := by decide +kernel
theorem dJ6_bitCount_0f7a4_49 : decode cJ6_bitCount_0f7a4 49 = .ok (.bipush 63, 2) := by decide +kernel
theorem dJ6_bitCount_0f7a4_51 : decode cJ6_bitCount_0f7a4 51 = .ok (.iand, 1) := by decide +kernel
theorem dJ6_bitCount_0f7a4_52 : decode cJ6_bitCount_0f7a4 52 = .ok (.ireturn, 1) := by decide +kernel
theorem dJ9_max_7cf53_0 : decode cJ9_max_7cf53 0 = .ok (.iload_n 0, 1) := by decide +kernel
theorem dJ9_max_7cf53_1 : decode cJ9_max_7cf53 1 = .ok (.iload_n 1, 1) := by decide +kernel
theorem dJ9_max_7cf53_2 : decode cJ9_max_7cf53 2 = .ok (.if_icmp .lt 7, 3) := by decide +kernel
theorem dJ9_max_7cf53_5 : decode cJ9_max_7cf53 5 = .ok (.iload_n 0, 1) := by decide +kernel
theorem dJ9_max_7cf53_6 : decode cJ9_max_7cf53 6 = .ok (.goto 4, 3) := by decide +kernel
theorem dJ9_max_7cf53_9 : decode cJ9_max_7cf53 9 = .ok (.iload_n 1, 1) := by decide +kernel
theorem dJ9_max_7cf53_10 : decode cJ9_max_7cf53 10 = .ok (.ireturn, 1) := by decide +kernel
theorem dJ9_min_7cf53_0 : decode cJ9_min_7cf53 0 = .ok (.iload_n 0, 1) := by decide +kernel
theorem dJ9_min_7cf53_1 : decode cJ9_min_7cf53 1 = .ok (.iload_n 1, 1) := by decide +kernel
theorem dJ9_min_7cf53_2 : decode cJ9_min_7cf53 2 = .ok (.if_icmp .gt 7, 3) := by decide +kernel
theorem dJ9_min_7cf53_5 : decode cJ9_min_7cf53 5 = .ok (.iload_n 0, 1) := by decide +kernel
theorem dJ9_min_7cf53_6 : decode cJ9_min_7cf53 6 = .ok (.goto 4, 3) := by decide +kernel
theorem dJ9_min_7cf53_9 : decode cJ9_min_7cf53 9 = .ok (.iload_n 1, 1) := by decide +kernel
theorem dJ9_min_7cf53_10 : decode cJ9_min_7cf53 10 = .ok (.ireturn, 1) := by decide +kernel
theorem dJ7_fill_53178_0 : decode cJ7_fill_53178 0 = .ok (.iconst 0, 1) := by decide +kernel
theorem dJ7_fill_53178_1 : decode cJ7_fill_53178 1 = .ok (.istore_n 2, 1) := by decide +kernel
theorem dJ7_fill_53178_2 : decode cJ7_fill_53178 2 = .ok (.aload_n 0, 1) := by decide +kernel
theorem dJ7_fill_53178_3 : decode cJ7_fill_53178 3 = .ok (.arraylength, 1) := by decide +kernel
theorem dJ7_fill_53178_4 : decode cJ7_fill_53178 4 = .ok (.istore_n 3, 1) := by decide +kernel
theorem dJ7_fill_53178_5 : decode cJ7_fill_53178 5 = .ok (.iload_n 2, 1) := by decide +kernel
theorem dJ7_fill_53178_6 : decode cJ7_fill_53178 6 = .ok (.iload_n 3, 1) := by decide +kernel
theorem dJ7_fill_53178_7 : decode cJ7_fill_53178 7 = .ok (.if_icmp .ge 13, 3) := by decide +kernel
theorem dJ7_fill_53178_10 : decode cJ7_fill_53178 10 = .ok (.aload_n 0, 1) := by decide +kernel
theorem dJ7_fill_53178_11 : decode cJ7_fill_53178 11 = .ok (.iload_n 2, 1) := by decide +kernel
theorem dJ7_fill_53178_12 : decode cJ7_fill_53178 12 = .ok (.iload_n 1, 1) := by decide +kernel
theorem dJ7_fill_53178_13 : decode cJ7_fill_53178 13 = .ok (.iastore, 1) := by decide +kernel
theorem dJ7_fill_53178_14 : decode cJ7_fill_53178 14 = .ok (.iinc 2 1, 3) := by decide +kernel
theorem dJ7_fill_53178_17 : decode cJ7_fill_53178 17 = .ok (.goto (-12), 3) := by decide +kernel
theorem dJ7_fill_53178_20 : decode cJ7_fill_53178 20 = .ok (.return_, 1) := by decide +kernel
set_option maxRecDepth 20000 in
theorem ggL_law_X4_init : GoodIn wsL_law wsX4_init := goodIn_r _ [9, 10, 11, 12, 13, 14, 15, 16, 17, 18, 19, 20, 21, 22, 23, 24, 25, 26, 27, 28, 29, 30, 31, 32, 33, 34, 35, 36, 37, 38, 39, 40, 41, 42, 43, 44, 45, 46, 47, 48, 49, 50, 51, 52, 53, 54, 55, 56, 57, 58, 59, 611, 612, 613, 614, 615, 616, 617, 638, 639, 640, 641, 642, 643, 644, 645, 646, 647, 648, 649, 650, 651, 652, 653, 654, 655, 656, 657, 658, 659, 660, 661, 662, 663, 664, 665, 666, 667] (by decide +kernel) (by decide +kernel)
set_option maxRecDepth 20000 in
theorem gL_law_X4_init : GoodIn wsL_law (wsX4_init) := ggL_law_X4_init
set_option maxRecDepth 20000 in
theorem ggL_law_X5_init : GoodIn wsL_law wsX5_init := goodIn_r _ [62, 63, 11, 12, 32, 64, 65, 66, 67, 68, 69, 70, 71, 72, 73, 74, 75, 76, 77, 78, 79, 80, 81, 618, 619, 620, 621, 622, 623, 624, 625, 626, 627, 628, 629, 630, 631, 632, 633, 634, 635, 636, 637] (by decide +kernel) (by decide +kernel)
set_option maxRecDepth 20000 in
theorem gL_law_X5_init : GoodIn wsL_law (wsX5_init) := ggL_law_X5_init
set_option maxRecDepth 20000 in
theorem ggL_law_X4_clear : GoodIn wsL_law wsX4_clear := goodIn_r _ [85, 86, 87, 611, 612, 613, 614, 615, 616, 617] (by decide +kernel) (by decide +kernel)
set_option maxRecDepth 20000 in
theorem gL_law_X4_clear : GoodIn wsL_law (wsV RL 13 RX4 yX4_clear wsX4_clear) := goodIn_app (goodIn_of _ (by decide +kernel)) ggL_law_X4_clear
set_option maxRecDepth 20000 in
theorem ggL_law_X5_clear : GoodIn wsL_law wsX5_clear := goodIn_r _ [91, 92, 618, 619, 620, 621, 622, 623, 624, 625, 626, 627, 628, 629, 630, 631, 632, 633, 634, 635, 636, 637] (by decide +kernel) (by decide +kernel)
set_option maxRecDepth 20000 in
theorem gL_law_X5_clear : GoodIn wsL_law (wsV RL 16 RX5 yX5_clear wsX5_clear) := goodIn_app (goodIn_of _ (by decide +kernel)) ggL_law_X5_clear
set_option maxRecDepth 20000 in
theorem ggL_law_X4_thing : GoodIn wsL_law wsX4_thing := goodIn_r _ [96, 97, 98, 99, 2, 100, 86, 14, 87, 101, 102, 103, 104, 105, 106, 24, 107, 108, 109, 110, 111, 112, 113, 114, 115, 41, 116, 117, 118, 119, 611, 612, 613, 614, 615, 616, 617, 645, 646, 647, 648, 649, 650, 651, 652, 653] (by decide +kernel) (by decide +kernel)
set_option maxRecDepth 20000 in
theorem gL_law_X4_thing : GoodIn wsL_law (wsV RL 17 RX4 yX4_thing wsX4_thing) := goodIn_app (goodIn_of _ (by decide +kernel)) ggL_law_X4_thing
set_option maxRecDepth 20000 in
theorem ggL_law_X5_thing : GoodIn wsL_law wsX5_thing := goodIn_r _ [123, 92, 124, 125, 5, 126, 127, 128, 129, 130, 64, 65, 66, 67, 68, 69, 70, 618, 619, 620, 621, 622, 623, 624, 625, 626, 627, 628, 629, 630, 631, 632, 633, 634, 635, 636, 637] (by decide +kernel) (by decide +kernel)
set_option maxRecDepth 20000 in
theorem gL_law_X5_thing : GoodIn wsL_law (wsV RL 21 RX5 yX5_thing wsX5_thing) := goodIn_app (goodIn_of _ (by decide +kernel)) ggL_law_X5_thing
set_option maxRecDepth 20000 in
theorem ggL_law_X4_table : GoodIn wsL_law wsX4_table := goodIn_r _ [134, 97, 98, 99, 2, 100, 86, 14, 87, 101, 102, 103, 104, 105, 106, 24, 107, 108, 109, 110, 111, 112, 113, 114, 115, 41, 116, 117, 118, 119, 611, 612, 613, 614, 615, 616, 617, 645, 646, 647, 648, 649, 650, 651, 652, 653] (by decide +kernel) (by decide +kernel)
set_option maxRecDepth 20000 in
theorem gL_law_X4_table : GoodIn wsL_law (wsV RL 24 RX4 yX4_table wsX4_table) := goodIn_app (goodIn_of _ (by decide +kernel)) ggL_law_X4_table
set_option maxRecDepth 20000 in
theorem ggL_law_X5_table : GoodIn wsL_law wsX5_table := goodIn_r _ [138, 92, 72, 73, 124, 125, 5, 126, 127, 128, 129, 130, 64, 65, 66, 67, 68, 69, 70, 618, 619, 620, 621, 622, 623, 624, 625, 626, 627, 628, 629, 630, 631, 632, 633, 634, 635, 636, 637] (by decide +kernel) (by decide +kernel)
set_option maxRecDepth 20000 in
theorem gL_law_X5_table : GoodIn wsL_law (wsV RL 28 RX5 yX5_table wsX5_table) := goodIn_app (goodIn_of _ (by decide +kernel)) ggL_law_X5_table
set_option maxRecDepth 20000 in
theorem ggL_law_X4_wall : GoodIn wsL_law wsX4_wall := goodIn_r _ [142, 14, 143, 87, 144, 145, 146, 2, 147, 86, 148, 149, 150, 151, 152, 153, 24, 154, 114, 115, 611, 612, 613, 614, 615, 616, 617, 645, 646, 647, 648, 649, 650, 651, 652, 653] (by decide +kernel) (by decide +kernel)
set_option maxRecDepth 20000 in
theorem gL_law_X4_wall : GoodIn wsL_law (wsV RL 29 RX4 yX4_wall wsX4_wall) := goodIn_app (goodIn_of _ (by decide +kernel)) ggL_law_X4_wall
set_option maxRecDepth 20000 in
theorem ggL_law_X5_wall : GoodIn wsL_law wsX5_wall := goodIn_r _ [158, 66, 67, 68, 159, 160, 161, 5, 162, 92, 124, 125, 126, 163, 164, 165, 618, 619, 620, 621, 622, 623, 624, 625, 626, 627, 628, 629, 630, 631, 632, 633, 634, 635, 636, 637] (by decide +kernel) (by decide +kernel)
set_option maxRecDepth 20000 in
theorem gL_law_X5_wall : GoodIn wsL_law (wsV RL 33 RX5 yX5_wall wsX5_wall) := goodIn_app (goodIn_of _ (by decide +kernel)) ggL_law_X5_wall
set_option maxRecDepth 20000 in
theorem ggL_law_X4_set : GoodIn wsL_law wsX4_set := goodIn_r _ [169, 14, 87, 144, 145, 146, 2, 147, 86, 148, 149, 150, 151, 152, 153, 24, 154, 114, 115, 611, 612, 613, 614, 615, 616, 617, 645, 646, 647, 648, 649, 650, 651, 652, 653] (by decide +kernel) (by decide +kernel)
set_option maxRecDepth 20000 in
theorem gL_law_X4_set : GoodIn wsL_law (wsV RL 34 RX4 yX4_set wsX4_set) := goodIn_app (goodIn_of _ (by decide +kernel)) ggL_law_X4_set
set_option maxRecDepth 20000 in
theorem ggL_law_X5_set : GoodIn wsL_law wsX5_set := goodIn_r _ [173, 67, 68, 159, 160, 161, 5, 162, 92, 124, 125, 126, 163, 164, 165, 618, 619, 620, 621, 622, 623, 624, 625, 626, 627, 628, 629, 630, 631, 632, 633, 634, 635, 636, 637] (by decide +kernel) (by decide +kernel)
set_option maxRecDepth 20000 in
theorem gL_law_X5_set : GoodIn wsL_law (wsV RL 37 RX5 yX5_set wsX5_set) := goodIn_app (goodIn_of _ (by decide +kernel)) ggL_law_X5_set
set_option maxRecDepth 20000 in
theorem ggL_law_X4_price : GoodIn wsL_law wsX4_price := goodIn_r _ [177, 14, 178, 144, 145, 146, 2, 147, 86, 611, 612, 613, 614, 615, 616, 617, 645, 646, 647, 648, 649, 650, 651, 652, 653] (by decide +kernel) (by decide +kernel)
set_option maxRecDepth 20000 in
theorem gL_law_X4_price : GoodIn wsL_law (wsV RL 38 RX4 yX4_price wsX4_price) := goodIn_app (goodIn_of _ (by decide +kernel)) ggL_law_X4_price
set_option maxRecDepth 20000 in
theorem ggL_law_X5_price : GoodIn wsL_law wsX5_price := goodIn_r _ [182, 69, 159, 160, 161, 5, 162, 92, 124, 125, 126, 618, 619, 620, 621, 622, 623, 624, 625, 626, 627, 628, 629, 630, 631, 632, 633, 634, 635, 636, 637] (by decide +kernel) (by decide +kernel)
set_option maxRecDepth 20000 in
theorem gL_law_X5_price : GoodIn wsL_law (wsV RL 41 RX5 yX5_price wsX5_price) := goodIn_app (goodIn_of _ (by decide +kernel)) ggL_law_X5_price
set_option maxRecDepth 20000 in
theorem ggL_law_X4_look : GoodIn wsL_law wsX4_look := goodIn_r _ [186, 86, 187, 188, 189, 2, 190, 191, 192, 193, 194, 195, 16, 196, 87, 22, 14, 197, 198, 199, 200, 143, 201, 202, 203, 21, 204, 205, 206, 207, 37, 36, 208, 209, 210, 211, 212, 213, 214, 33, 34, 35, 215, 216, 217, 218, 219, 220, 221, 222, 24, 223, 108, 112, 224, 225, 226, 227, 228, 229, 230, 231, 232, 233, 234, 235, 236, 237, 111, 238, 239, 240, 241, 242, 243, 244, 245, 246, 247, 248, 26, 249, 250, 251, 49, 46, 252, 117, 118, 119, 253, 254, 255, 256, 257, 258, 259, 47, 48, 260, 261, 262, 263, 264, 265, 266, 267, 268, 269, 270, 271, 272, 273, 274, 275, 276, 277, 278, 279, 45, 280, 281, 282, 283, 284, 285, 286, 287, 288, 289, 290, 291, 292, 293, 294, 178, 295, 611, 612, 613, 614, 615, 616, 617, 654, 655, 656, 657, 658, 659, 660, 661, 645, 646, 647, 648, 649, 650, 651, 652, 653, 638, 639, 640, 641, 642, 643, 644] (by decide +kernel) (by decide +kernel)
set_option maxRecDepth 20000 in
theorem gL_law_X4_look : GoodIn wsL_law (wsV RL 42 RX4 yX4_look wsX4_look) := goodIn_app (goodIn_of _ (by decide +kernel)) ggL_law_X4_look
set_option maxRecDepth 20000 in
theorem ggL_law_X5_look : GoodIn wsL_law wsX5_look := goodIn_r _ [299, 92, 300, 301, 302, 5, 303, 159, 160, 161, 162, 124, 125, 126, 304, 305, 306, 307, 74, 65, 308, 309, 310, 311, 312, 313, 314, 315, 66, 67, 316, 317, 318, 319, 320, 321, 322, 323, 324, 325, 326, 327, 64, 72, 328, 73, 329, 330, 331, 332, 333, 334, 335, 336, 68, 337, 338, 339, 340, 341, 342, 343, 344, 345, 346, 347, 348, 349, 350, 351, 352, 69, 618, 619, 620, 621, 622, 623, 624, 625, 626, 627, 628, 629, 630, 631, 632, 633, 634, 635, 636, 637] (by decide +kernel) (by decide +kernel)
set_option maxRecDepth 20000 in
theorem gL_law_X5_look : GoodIn wsL_law (wsV RL 46 RX5 yX5_look wsX5_look) := goodIn_app (goodIn_of _ (by decide +kernel)) ggL_law_X5_look
set_option maxRecDepth 20000 in
theorem ggL_law_X4_of : GoodIn wsL_law wsX4_of := goodIn_r _ [356, 14, 357, 358, 143, 359, 360, 144, 145, 146, 2, 147, 86, 611, 612, 613, 614, 615, 616, 617, 645, 646, 647, 648, 649, 650, 651, 652, 653] (by decide +kernel) (by decide +kernel)
set_option maxRecDepth 20000 in
theorem gL_law_X4_of : GoodIn wsL_law (wsV RL 47 RX4 yX4_of wsX4_of) := goodIn_app (goodIn_of _ (by decide +kernel)) ggL_law_X4_of
set_option maxRecDepth 20000 in
theorem ggL_law_X5_of : GoodIn wsL_law wsX5_of := goodIn_r _ [364, 64, 65, 66, 67, 68, 159, 160, 161, 5, 162, 92, 124, 125, 126, 618, 619, 620, 621, 622, 623, 624, 625, 626, 627, 628, 629, 630, 631, 632, 633, 634, 635, 636, 637] (by decide +kernel) (by decide +kernel)
set_option maxRecDepth 20000 in
theorem gL_law_X5_of : GoodIn wsL_law (wsV RL 50 RX5 yX5_of wsX5_of) := goodIn_app (goodIn_of _ (by decide +kernel)) ggL_law_X5_of
set_option maxRecDepth 20000 in
theorem ggL_law_X4_does : GoodIn wsL_law wsX4_does := goodIn_r _ [368, 14, 357, 144, 145, 146, 2, 147, 86, 101, 102, 103, 369, 235, 236, 24, 237, 108, 111, 224, 225, 226, 238, 239, 240, 241, 242, 217, 218, 219, 243, 244, 245, 370, 221, 222, 223, 112, 227, 228, 229, 230, 611, 612, 613, 614, 615, 616, 617, 645, 646, 647, 648, 649, 650, 651, 652, 653] (by decide +kernel) (by decide +kernel)
set_option maxRecDepth 20000 in
theorem gL_law_X4_does : GoodIn wsL_law (wsV RL 51 RX4 yX4_does wsX4_does) := goodIn_app (goodIn_of _ (by decide +kernel)) ggL_law_X4_does
set_option maxRecDepth 20000 in
theorem ggL_law_X5_does : GoodIn wsL_law wsX5_does := goodIn_r _ [374, 64, 159, 160, 161, 5, 162, 92, 124, 125, 126, 324, 325, 326, 327, 72, 328, 73, 618, 619, 620, 621, 622, 623, 624, 625, 626, 627, 628, 629, 630, 631, 632, 633, 634, 635, 636, 637] (by decide +kernel) (by decide +kernel)
set_option maxRecDepth 20000 in
theorem gL_law_X5_does : GoodIn wsL_law (wsV RL 55 RX5 yX5_does wsX5_does) := goodIn_app (goodIn_of _ (by decide +kernel)) ggL_law_X5_does
set_option maxRecDepth 20000 in
theorem ggL_law_X4_silent : GoodIn wsL_law wsX4_silent := goodIn_r _ [378, 191, 144, 145, 146, 2, 147, 86, 192, 193, 194, 195, 16, 196, 87, 22, 14, 197, 198, 199, 200, 143, 201, 202, 203, 21, 204, 205, 206, 207, 37, 36, 208, 209, 210, 211, 212, 213, 214, 33, 34, 35, 215, 216, 217, 218, 219, 220, 221, 222, 24, 223, 108, 112, 224, 225, 226, 227, 228, 229, 230, 231, 232, 233, 234, 235, 236, 237, 111, 238, 239, 240, 241, 242, 243, 244, 245, 246, 247, 248, 26, 249, 250, 251, 49, 46, 252, 117, 118, 119, 253, 254, 255, 256, 257, 258, 259, 47, 48, 260, 261, 262, 263, 264, 265, 266, 267, 268, 269, 270, 271, 272, 273, 274, 275, 276, 277, 278, 279, 45, 280, 281, 282, 283, 284, 285, 286, 287, 288, 289, 290, 654, 655, 656, 657, 658, 659, 660, 661, 611, 612, 613, 614, 615, 616, 617, 645, 646, 647, 648, 649, 650, 651, 652, 653, 638, 639, 640, 641, 642, 643, 644] (by decide +kernel) (by decide +kernel)
set_option maxRecDepth 20000 in
theorem gL_law_X4_silent : GoodIn wsL_law (wsV RL 56 RX4 yX4_silent wsX4_silent) := goodIn_app (goodIn_of _ (by decide +kernel)) ggL_law_X4_silent
set_option maxRecDepth 20000 in
theorem ggL_law_X5_silent : GoodIn wsL_law wsX5_silent := goodIn_r _ [303, 159, 160, 161, 5, 162, 92, 124, 125, 126, 304, 305, 306, 307, 74, 65, 308, 309, 310, 311, 312, 313, 314, 315, 66, 67, 316, 317, 318, 319, 320, 321, 322, 323, 324, 325, 326, 327, 64, 72, 328, 73, 329, 330, 331, 332, 333, 334, 335, 336, 68, 337, 338, 339, 340, 341, 342, 343, 344, 618, 619, 620, 621, 622, 623, 624, 625, 626, 627, 628, 629, 630, 631, 632, 633, 634, 635, 636, 637] (by decide +kernel) (by decide +kernel)
set_option maxRecDepth 20000 in
theorem gL_law_X5_silent : GoodIn wsL_law (wsV RL 59 RX5 yX5_silent wsX5_silent) := goodIn_app (goodIn_of _ (by decide +kernel)) ggL_law_X5_silent
set_option maxRecDepth 20000 in
theorem ggL_law_X4_shown : GoodIn wsL_law wsX4_shown := goodIn_r _ [383, 191, 144, 145, 146, 2, 147, 86, 192, 193, 194, 195, 16, 196, 87, 22, 14, 197, 198, 199, 200, 143, 201, 202, 203, 21, 204, 205, 206, 207, 37, 36, 208, 209, 210, 211, 212, 213, 214, 33, 34, 35, 215, 216, 217, 218, 219, 220, 221, 222, 24, 223, 108, 112, 224, 225, 226, 227, 228, 229, 230, 231, 232, 233, 234, 235, 236, 237, 111, 238, 239, 240, 241, 242, 243, 244, 245, 246, 247, 248, 26, 249, 250, 251, 49, 46, 252, 117, 118, 119, 253, 254, 255, 256, 257, 258, 259, 47, 48, 260, 261, 262, 263, 264, 265, 266, 267, 268, 269, 270, 271, 272, 273, 274, 275, 276, 277, 278, 279, 45, 280, 281, 282, 283, 284, 285, 286, 287, 288, 289, 290, 654, 655, 656, 657, 658, 659, 660, 661, 611, 612, 613, 614, 615, 616, 617, 645, 646, 647, 648, 649, 650, 651, 652, 653, 638, 639, 640, 641, 642, 643, 644] (by decide +kernel) (by decide +kernel)
set_option maxRecDepth 20000 in
theorem gL_law_X4_shown : GoodIn wsL_law (wsV RL 60 RX4 yX4_shown wsX4_shown) := goodIn_app (goodIn_of _ (by decide +kernel)) ggL_law_X4_shown
set_option maxRecDepth 20000 in
theorem ggL_law_X5_shown : GoodIn wsL_law wsX5_shown := goodIn_r _ [387, 159, 160, 161, 5, 162, 92, 124, 125, 126, 304, 305, 306, 307, 74, 65, 308, 309, 310, 311, 312, 313, 314, 315, 66, 67, 316, 317, 318, 319, 320, 321, 322, 323, 324, 325, 326, 327, 64, 72, 328, 73, 329, 330, 331, 332, 333, 334, 335, 336, 68, 337, 338, 339, 340, 341, 342, 343, 344, 618, 619, 620, 621, 622, 623, 624, 625, 626, 627, 628, 629, 630, 631, 632, 633, 634, 635, 636, 637] (by decide +kernel) (by decide +kernel)
set_option maxRecDepth 20000 in
theorem gL_law_X5_shown : GoodIn wsL_law (wsV RL 63 RX5 yX5_shown wsX5_shown) := goodIn_app (goodIn_of _ (by decide +kernel)) ggL_law_X5_shown
set_option maxRecDepth 20000 in
theorem ggL_law_X4_show : GoodIn wsL_law wsX4_show := goodIn_r _ [391, 191, 392, 144, 145, 146, 2, 147, 86, 192, 193, 194, 195, 16, 196, 87, 22, 14, 197, 198, 199, 200, 143, 201, 202, 203, 21, 204, 205, 206, 207, 37, 36, 208, 209, 210, 211, 212, 213, 214, 33, 34, 35, 215, 216, 217, 218, 219, 220, 221, 222, 24, 223, 108, 112, 224, 225, 226, 227, 228, 229, 230, 231, 232, 233, 234, 235, 236, 237, 111, 238, 239, 240, 241, 242, 243, 244, 245, 246, 247, 248, 26, 249, 250, 251, 49, 46, 252, 117, 118, 119, 253, 254, 255, 256, 257, 258, 259, 47, 48, 260, 261, 262, 263, 264, 265, 266, 267, 268, 269, 270, 271, 272, 273, 274, 275, 276, 277, 278, 279, 45, 280, 281, 282, 283, 284, 285, 286, 287, 288, 289, 290, 654, 655, 656, 657, 658, 659, 660, 661, 611, 612, 613, 614, 615, 616, 617, 645, 646, 647, 648, 649, 650, 651, 652, 653, 638, 639, 640, 641, 642, 643, 644] (by decide +kernel) (by decide +kernel)
set_option maxRecDepth 20000 in
theorem gL_law_X4_show : GoodIn wsL_law (wsV RL 64 RX4 yX4_show wsX4_show) := goodIn_app (goodIn_of _ (by decide +kernel)) ggL_law_X4_show
set_option maxRecDepth 20000 in
theorem ggL_law_X5_show : GoodIn wsL_law wsX5_show := goodIn_r _ [396, 65, 159, 160, 161, 5, 162, 92, 124, 125, 126, 304, 305, 306, 307, 74, 308, 309, 310, 311, 312, 313, 314, 315, 66, 67, 316, 317, 318, 319, 320, 321, 322, 323, 324, 325, 326, 327, 64, 72, 328, 73, 329, 330, 331, 332, 333, 334, 335, 336, 68, 337, 338, 339, 340, 341, 342, 343, 344, 397, 398, 399, 618, 619, 620, 621, 622, 623, 624, 625, 626, 627, 628, 629, 630, 631, 632, 633, 634, 635, 636, 637] (by decide +kernel) (by decide +kernel)
set_option maxRecDepth 20000 in
theorem gL_law_X5_show : GoodIn wsL_law (wsV RL 68 RX5 yX5_show wsX5_show) := goodIn_app (goodIn_of _ (by decide +kernel)) ggL_law_X5_show
set_option maxRecDepth 20000 in
theorem ggL_law_X4_letters : GoodIn wsL_law wsX4_letters := goodIn_r _ [403, 404, 405, 406, 407, 2, 408, 18, 409, 87, 22, 14, 86, 410, 197, 198, 199, 200, 143, 201, 202, 203, 21, 204, 205, 206, 207, 37, 36, 208, 209, 210, 211, 212, 213, 214, 33, 34, 35, 215, 216, 217, 218, 219, 220, 221, 222, 24, 223, 108, 112, 224, 225, 226, 227, 228, 229, 230, 231, 232, 233, 234, 235, 236, 237, 111, 238, 239, 240, 241, 242, 243, 244, 245, 411, 28, 412, 59, 413, 56, 57, 414, 415, 416, 417, 418, 55, 419, 420, 421, 422, 423, 424, 425, 426, 427, 428, 429, 430, 431, 268, 269, 270, 271, 432, 433, 434, 435, 436, 437, 438, 439, 440, 441, 442, 443, 444, 445, 446, 447, 448, 449, 450, 451, 452, 453, 454, 455, 456, 457, 458, 459, 460, 461, 462, 463, 464, 465, 466, 467, 468, 469, 470, 471, 662, 663, 664, 665, 666, 667, 611, 612, 613, 614, 615, 616, 617, 638, 639, 640, 641, 642, 643, 644, 645, 646, 647, 648, 649, 650, 651, 652, 653] (by decide +kernel) (by decide +kernel)
set_option maxRecDepth 20000 in
theorem gL_law_X4_letters : GoodIn wsL_law (wsV RL 69 RX4 yX4_letters wsX4_letters) := goodIn_app (goodIn_of _ (by decide +kernel)) ggL_law_X4_letters
set_option maxRecDepth 20000 in
theorem ggL_law_X5_letters : GoodIn wsL_law wsX5_letters := goodIn_r _ [475, 476, 124, 125, 5, 126, 477, 478, 479, 480, 92, 65, 481, 482, 483, 484, 485, 486, 487, 77, 75, 76, 78, 488, 489, 490, 491, 492, 493, 494, 495, 496, 497, 498, 499, 66, 67, 500, 501, 502, 320, 321, 322, 323, 324, 325, 326, 327, 64, 72, 328, 73, 503, 504, 505, 506, 507, 508, 509, 510, 511, 512, 513, 333, 334, 335, 336, 68, 514, 515, 516, 517, 518, 519, 520, 521, 522, 523, 524, 525, 337, 338, 339, 340, 618, 619, 620, 621, 622, 623, 624, 625, 626, 627, 628, 629, 630, 631, 632, 633, 634, 635, 636, 637] (by decide +kernel) (by decide +kernel)
set_option maxRecDepth 20000 in
theorem gL_law_X5_letters : GoodIn wsL_law (wsV RL 72 RX5 yX5_letters wsX5_letters) := goodIn_app (goodIn_of _ (by decide +kernel)) ggL_law_X5_letters
set_option maxRecDepth 20000 in
theorem ggL_law_X4_letter : GoodIn wsL_law wsX4_letter := goodIn_r _ [529, 404, 530, 405, 406, 407, 2, 408, 18, 409, 87, 22, 14, 86, 410, 197, 198, 199, 200, 143, 201, 202, 203, 21, 204, 205, 206, 207, 37, 36, 208, 209, 210, 211, 212, 213, 214, 33, 34, 35, 215, 216, 217, 218, 219, 220, 221, 222, 24, 223, 108, 112, 224, 225, 226, 227, 228, 229, 230, 231, 232, 233, 234, 235, 236, 237, 111, 238, 239, 240, 241, 242, 243, 244, 245, 411, 28, 412, 59, 413, 56, 57, 414, 415, 416, 417, 418, 55, 419, 420, 421, 422, 423, 424, 425, 426, 427, 428, 429, 430, 431, 268, 269, 270, 271, 432, 433, 434, 435, 436, 437, 438, 439, 440, 441, 442, 443, 444, 445, 446, 447, 448, 449, 450, 451, 452, 453, 454, 455, 456, 457, 458, 459, 460, 461, 462, 463, 464, 465, 466, 467, 468, 469, 470, 471, 531, 662, 663, 664, 665, 666, 667, 611, 612, 613, 614, 615, 616, 617, 638, 639, 640, 641, 642, 643, 644, 645, 646, 647, 648, 649, 650, 651, 652, 653] (by decide +kernel) (by decide +kernel)
set_option maxRecDepth 20000 in
theorem gL_law_X4_letter : GoodIn wsL_law (wsV RL 73 RX4 yX4_letter wsX4_letter) := goodIn_app (goodIn_of _ (by decide +kernel)) ggL_law_X4_letter
set_option maxRecDepth 20000 in
theorem ggL_law_X5_letter : GoodIn wsL_law wsX5_letter := goodIn_r _ [535, 79, 80, 81, 124, 125, 5, 126, 536, 537, 538, 539, 476, 477, 478, 479, 480, 92, 65, 488, 489, 490, 491, 492, 493, 494, 495, 496, 497, 498, 499, 66, 67, 500, 501, 502, 320, 321, 322, 323, 324, 325, 326, 327, 64, 72, 328, 73, 503, 504, 505, 481, 482, 483, 484, 485, 486, 487, 77, 75, 76, 78, 506, 507, 508, 509, 510, 511, 512, 513, 333, 334, 335, 336, 68, 514, 515, 516, 517, 518, 519, 520, 521, 522, 523, 524, 525, 337, 338, 339, 340, 540, 541, 542, 543, 618, 619, 620, 621, 622, 623, 624, 625, 626, 627, 628, 629, 630, 631, 632, 633, 634, 635, 636, 637] (by decide +kernel) (by decide +kernel)
set_option maxRecDepth 20000 in
theorem gL_law_X5_letter : GoodIn wsL_law (wsV RL 77 RX5 yX5_letter wsX5_letter) := goodIn_app (goodIn_of _ (by decide +kernel)) ggL_law_X5_letter
set_option maxRecDepth 20000 in
theorem ggL_law_X4_begin : GoodIn wsL_law wsX4_begin := goodIn_r _ [547, 86, 14, 358, 548, 549, 611, 612, 613, 614, 615, 616, 617, 645, 646, 647, 648, 649, 650, 651, 652, 653] (by decide +kernel) (by decide +kernel)
set_option maxRecDepth 20000 in
theorem gL_law_X4_begin : GoodIn wsL_law (wsV RL 78 RX4 yX4_begin wsX4_begin) := goodIn_app (goodIn_of _ (by decide +kernel)) ggL_law_X4_begin
set_option maxRecDepth 20000 in
theorem ggL_law_X5_begin : GoodIn wsL_law wsX5_begin := goodIn_r _ [553, 554, 92, 70, 65, 618, 619, 620, 621, 622, 623, 624, 625, 626, 627, 628, 629, 630, 631, 632, 633, 634, 635, 636, 637] (by decide +kernel) (by decide +kernel)
set_option maxRecDepth 20000 in
theorem gL_law_X5_begin : GoodIn wsL_law (wsV RL 81 RX5 yX5_begin wsX5_begin) := goodIn_app (goodIn_of _ (by decide +kernel)) ggL_law_X5_begin
set_option maxRecDepth 20000 in
theorem ggL_law_X4_run : GoodIn wsL_law wsX4_run := goodIn_r _ [558, 22, 14, 86, 548, 549, 559, 560, 561, 2, 562, 197, 198, 199, 200, 143, 201, 202, 203, 21, 204, 205, 206, 207, 37, 36, 208, 209, 210, 211, 212, 213, 214, 33, 34, 35, 215, 216, 217, 218, 219, 220, 221, 222, 24, 223, 108, 112, 224, 225, 226, 227, 228, 229, 230, 231, 232, 233, 234, 235, 236, 237, 111, 238, 239, 240, 241, 242, 243, 244, 245, 563, 265, 266, 267, 268, 269, 270, 271, 564, 273, 274, 275, 565, 284, 285, 286, 611, 612, 613, 614, 615, 616, 617, 645, 646, 647, 648, 649, 650, 651, 652, 653, 638, 639, 640, 641, 642, 643, 644] (by decide +kernel) (by decide +kernel)
set_option maxRecDepth 20000 in
theorem gL_law_X4_run : GoodIn wsL_law (wsV RL 82 RX4 yX4_run wsX4_run) := goodIn_app (goodIn_of _ (by decide +kernel)) ggL_law_X4_run
set_option maxRecDepth 20000 in
theorem ggL_law_X5_run : GoodIn wsL_law wsX5_run := goodIn_r _ [569, 92, 70, 554, 492, 493, 494, 5, 495, 124, 125, 126, 496, 497, 498, 499, 66, 67, 65, 500, 501, 502, 320, 321, 322, 323, 324, 325, 326, 327, 64, 72, 328, 73, 503, 504, 505, 510, 511, 512, 513, 333, 334, 335, 336, 68, 522, 523, 524, 525, 337, 338, 339, 340, 618, 619, 620, 621, 622, 623, 624, 625, 626, 627, 628, 629, 630, 631, 632, 633, 634, 635, 636, 637] (by decide +kernel) (by decide +kernel)
set_option maxRecDepth 20000 in
theorem gL_law_X5_run : GoodIn wsL_law (wsV RL 85 RX5 yX5_run wsX5_run) := goodIn_app (goodIn_of _ (by decide +kernel)) ggL_law_X5_run
set_option maxRecDepth 20000 in
theorem ggL_law_X4_state : GoodIn wsL_law wsX4_state := goodIn_r _ [573, 14, 548, 144, 145, 146, 2, 147, 86, 611, 612, 613, 614, 615, 616, 617, 645, 646, 647, 648, 649, 650, 651, 652, 653] (by decide +kernel) (by decide +kernel)
set_option maxRecDepth 20000 in
theorem gL_law_X4_state : GoodIn wsL_law (wsV RL 86 RX4 yX4_state wsX4_state) := goodIn_app (goodIn_of _ (by decide +kernel)) ggL_law_X4_state
set_option maxRecDepth 20000 in
theorem ggL_law_X5_state : GoodIn wsL_law wsX5_state := goodIn_r _ [577, 70, 159, 160, 161, 5, 162, 92, 124, 125, 126, 618, 619, 620, 621, 622, 623, 624, 625, 626, 627, 628, 629, 630, 631, 632, 633, 634, 635, 636, 637] (by decide +kernel) (by decide +kernel)
set_option maxRecDepth 20000 in
theorem gL_law_X5_state : GoodIn wsL_law (wsV RL 89 RX5 yX5_state wsX5_state) := goodIn_app (goodIn_of _ (by decide +kernel)) ggL_law_X5_state
set_option maxRecDepth 20000 in
theorem ggL_law_X4_ticks : GoodIn wsL_law wsX4_ticks := goodIn_r _ [581, 549, 611, 612, 613, 614, 615, 616, 617] (by decide +kernel) (by decide +kernel)
set_option maxRecDepth 20000 in
theorem gL_law_X4_ticks : GoodIn wsL_law (wsV RL 90 RX4 yX4_ticks wsX4_ticks) := goodIn_app (goodIn_of _ (by decide +kernel)) ggL_law_X4_ticks
set_option maxRecDepth 20000 in
theorem ggL_law_X5_ticks : GoodIn wsL_law wsX5_ticks := goodIn_r _ [585, 554, 618, 619, 620, 621, 622, 623, 624, 625, 626, 627, 628, 629, 630, 631, 632, 633, 634, 635, 636, 637] (by decide +kernel) (by decide +kernel)
set_option maxRecDepth 20000 in
theorem gL_law_X5_ticks : GoodIn wsL_law (wsV RL 94 RX5 yX5_ticks wsX5_ticks) := goodIn_app (goodIn_of _ (by decide +kernel)) ggL_law_X5_ticks
set_option maxRecDepth 20000 in
theorem ggL_law_X4_walls : GoodIn wsL_law wsX4_walls := goodIn_r _ [589, 86, 291, 292, 293, 2, 294, 14, 178, 295, 209, 210, 590, 591, 592, 593, 22, 410, 201, 202, 203, 21, 204, 205, 206, 207, 37, 36, 208, 211, 212, 213, 214, 33, 34, 35, 215, 216, 217, 218, 219, 220, 221, 222, 24, 223, 108, 112, 224, 225, 226, 227, 228, 229, 230, 231, 232, 233, 234, 235, 236, 237, 111, 238, 239, 240, 241, 242, 243, 244, 245, 449, 450, 451, 452, 453, 454, 423, 424, 425, 426, 427, 428, 429, 430, 431, 268, 269, 270, 271, 455, 432, 433, 434, 435, 436, 437, 438, 439, 440, 441, 442, 443, 444, 445, 446, 447, 448, 611, 612, 613, 614, 615, 616, 617, 645, 646, 647, 648, 649, 650, 651, 652, 653, 638, 639, 640, 641, 642, 643, 644] (by decide +kernel) (by decide +kernel)
set_option maxRecDepth 20000 in
theorem gL_law_X4_walls : GoodIn wsL_law (wsV RL 95 RX4 yX4_walls wsX4_walls) := goodIn_app (goodIn_of _ (by decide +kernel)) ggL_law_X4_walls
set_option maxRecDepth 20000 in
theorem ggL_law_X5_walls : GoodIn wsL_law wsX5_walls := goodIn_r _ [597, 92, 124, 125, 5, 126, 345, 346, 347, 348, 66, 349, 350, 351, 352, 69, 598, 599, 600, 601, 602, 473, 474, 475, 476, 477, 478, 479, 480, 65, 481, 482, 483, 484, 485, 486, 487, 77, 75, 76, 78, 488, 489, 490, 491, 492, 493, 494, 495, 496, 497, 498, 499, 67, 500, 501, 502, 320, 321, 322, 323, 324, 325, 326, 327, 64, 72, 328, 73, 503, 504, 505, 506, 507, 508, 509, 510, 511, 512, 513, 333, 334, 335, 336, 68, 514, 515, 516, 517, 518, 519, 520, 521, 522, 523, 524, 525, 337, 338, 339, 340, 618, 619, 620, 621, 622, 623, 624, 625, 626, 627, 628, 629, 630, 631, 632, 633, 634, 635, 636, 637] (by decide +kernel) (by decide +kernel)
set_option maxRecDepth 20000 in
theorem gL_law_X5_walls : GoodIn wsL_law (wsV RL 98 RX5 yX5_walls wsX5_walls) := goodIn_app (goodIn_of _ (by decide +kernel)) ggL_law_X5_walls
set_option maxRecDepth 20000 in
theorem ggL_law_X4_give : GoodIn wsL_law wsX4_give := goodIn_r _ [606, 86, 14, 143, 87, 295, 209, 2, 210, 611, 612, 613, 614, 615, 616, 617, 645, 646, 647, 648, 649, 650, 651, 652, 653] (by decide +kernel) (by decide +kernel)
set_option maxRecDepth 20000 in
theorem gL_law_X4_give : GoodIn wsL_law (wsV RL 99 RX4 yX4_give wsX4_give) := goodIn_app (goodIn_of _ (by decide +kernel)) ggL_law_X4_give
set_option maxRecDepth 20000 in
theorem ggL_law_X5_give : GoodIn wsL_law wsX5_give := goodIn_r _ [610, 124, 125, 5, 126, 598, 599, 600, 601, 92, 66, 618, 619, 620, 621, 622, 623, 624, 625, 626, 627, 628, 629, 630, 631, 632, 633, 634, 635, 636, 637] (by decide +kernel) (by decide +kernel)
set_option maxRecDepth 20000 in
theorem gL_law_X5_give : GoodIn wsL_law (wsV RL 103 RX5 yX5_give wsX5_give) := goodIn_app (goodIn_of _ (by decide +kernel)) ggL_law_X5_give
theorem dL_law_0 : decode cL_law 0 = .ok (.new 7, 3) := by decide +kernel
theorem dL_law_3 : decode cL_law 3 = .ok (.dup, 1) := by decide +kernel
theorem dL_law_4 : decode cL_law 4 = .ok (.invokespecial 9, 3) := by decide +kernel
theorem dL_law_7 : decode cL_law 7 = .ok (.astore_n 1, 1) := by decide +kernel
theorem dL_law_8 : decode cL_law 8 = .ok (.new 10, 3) := by decide +kernel
theorem dL_law_11 : decode cL_law 11 = .ok (.dup, 1) := by decide +kernel
theorem dL_law_12 : decode cL_law 12 = .ok (.invokespecial 12, 3) := by decide +kernel
theorem dL_law_15 : decode cL_law 15 = .ok (.astore_n 2, 1) := by decide +kernel
theorem dL_law_16 : decode cL_law 16 = .ok (.iconst 0, 1) := by decide +kernel
theorem dL_law_17 : decode cL_law 17 = .ok (.istore_n 3, 1) := by decide +kernel
theorem dL_law_18 : decode cL_law 18 = .ok (.iload_n 3, 1) := by decide +kernel
theorem dL_law_19 : decode cL_law 19 = .ok (.aload_n 0, 1) := by decide +kernel
theorem dL_law_20 : decode cL_law 20 = .ok (.arraylength, 1) := by decide +kernel
theorem dL_law_21 : decode cL_law 21 = .ok (.bipush 6, 2) := by decide +kernel
theorem dL_law_23 : decode cL_law 23 = .ok (.isub, 1) := by decide +kernel
theorem dL_law_24 : decode cL_law 24 = .ok (.if_icmp .gt 816, 3) := by decide +kernel
theorem dL_law_27 : decode cL_law 27 = .ok (.aload_n 0, 1) := by decide +kernel
theorem dL_law_28 : decode cL_law 28 = .ok (.iload_n 3, 1) := by decide +kernel
theorem dL_law_29 : decode cL_law 29 = .ok (.iaload, 1) := by decide +kernel
theorem dL_law_30 : decode cL_law 30 = .ok (.bipush 31, 2) := by decide +kernel
theorem dL_law_32 : decode cL_law 32 = .ok (.iand, 1) := by decide +kernel
theorem dL_law_33 : decode cL_law 33 = .ok (.tableswitch 801 0 19 #[95, 106, 139, 242, 285, 328, 371, 394, 427, 490, 513, 536, 579, 602, 655, 666, 699, 722, 735, 778], 95) := by decide +kernel
theorem dL_law_128 : decode cL_law 128 = .ok (.aload_n 1, 1) := by decide +kernel
theorem dL_law_129 : decode cL_law 129 = .ok (.invokevirtual 13, 3) := by decide +kernel
theorem dL_law_132 : decode cL_law 132 = .ok (.aload_n 2, 1) := by decide +kernel
theorem dL_law_133 : decode cL_law 133 = .ok (.invokevirtual 16, 3) := by decide +kernel
theorem dL_law_136 : decode cL_law 136 = .ok (.goto 698, 3) := by decide +kernel
theorem dL_law_139 : decode cL_law 139 = .ok (.aload_n 1, 1) := by decide +kernel
theorem dL_law_140 : decode cL_law 140 = .ok (.aload_n 0, 1) := by decide +kernel
theorem dL_law_141 : decode cL_law 141 = .ok (.iload_n 3, 1) := by decide +kernel
theorem dL_law_142 : decode cL_law 142 = .ok (.iconst 1, 1) := by decide +kernel
theorem dL_law_143 : decode cL_law 143 = .ok (.iadd, 1) := by decide +kernel
theorem dL_law_144 : decode cL_law 144 = .ok (.iaload, 1) := by decide +kernel
theorem dL_law_145 : decode cL_law 145 = .ok (.aload_n 0, 1) := by decide +kernel
theorem dL_law_146 : decode cL_law 146 = .ok (.iload_n 3, 1) := by decide +kernel
theorem dL_law_147 : decode cL_law 147 = .ok (.iconst 2, 1) := by decide +kernel
theorem dL_law_148 : decode cL_law 148 = .ok (.iadd, 1) := by decide +kernel
theorem dL_law_149 : decode cL_law 149 = .ok (.iaload, 1) := by decide +kernel
theorem dL_law_150 : decode cL_law 150 = .ok (.invokevirtual 17, 3) := by decide +kernel
theorem dL_law_153 : decode cL_law 153 = .ok (.aload_n 2, 1) := by decide +kernel
theorem dL_law_154 : decode cL_law 154 = .ok (.aload_n 0, 1) := by decide +kernel
theorem dL_law_155 : decode cL_law 155 = .ok (.iload_n 3, 1) := by decide +kernel
theorem dL_law_156 : decode cL_law 156 = .ok (.iconst 1, 1) := by decide +kernel
theorem dL_law_157 : decode cL_law 157 = .ok (.iadd, 1) := by decide +kernel
theorem dL_law_158 : decode cL_law 158 = .ok (.iaload, 1) := by decide +kernel
theorem dL_law_159 : decode cL_law 159 = .ok (.aload_n 0, 1) := by decide +kernel
theorem dL_law_160 : decode cL_law 160 = .ok (.iload_n 3, 1) := by decide +kernel
theorem dL_law_161 : decode cL_law 161 = .ok (.iconst 2, 1) := by decide +kernel
theorem dL_law_162 : decode cL_law 162 = .ok (.iadd, 1) := by decide +kernel
theorem dL_law_163 : decode cL_law 163 = .ok (.iaload, 1) := by decide +kernel
theorem dL_law_164 : decode cL_law 164 = .ok (.invokevirtual 21, 3) := by decide +kernel
theorem dL_law_167 : decode cL_law 167 = .ok (.if_icmp .eq 667, 3) := by decide +kernel
theorem dL_law_170 : decode cL_law 170 = .ok (.iconst 0, 1) := by decide +kernel
theorem dL_law_171 : decode cL_law 171 = .ok (.ireturn, 1) := by decide +kernel
theorem dL_law_172 : decode cL_law 172 = .ok (.aload_n 1, 1) := by decide +kernel
theorem dL_law_173 : decode cL_law 173 = .ok (.aload_n 0, 1) := by decide +kernel
theorem dL_law_174 : decode cL_law 174 = .ok (.iload_n 3, 1) := by decide +kernel
theorem dL_law_175 : decode cL_law 175 = .ok (.iconst 1, 1) := by decide +kernel
theorem dL_law_176 : decode cL_law 176 = .ok (.iadd, 1) := by decide +kernel
theorem dL_law_177 : decode cL_law 177 = .ok (.iaload, 1) := by decide +kernel
theorem dL_law_178 : decode cL_law 178 = .ok (.aload_n 0, 1) := by decide +kernel
theorem dL_law_179 : decode cL_law 179 = .ok (.iload_n 3, 1) := by decide +kernel
theorem dL_law_180 : decode cL_law 180 = .ok (.iconst 2, 1) := by decide +kernel
theorem dL_law_181 : decode cL_law 181 = .ok (.iadd, 1) := by decide +kernel
theorem dL_law_182 : decode cL_law 182 = .ok (.iaload, 1) := by decide +kernel
theorem dL_law_183 : decode cL_law 183 = .ok (.i2l, 1) := by decide +kernel
theorem dL_law_184 : decode cL_law 184 = .ok (.bipush 32, 2) := by decide +kernel
theorem dL_law_186 : decode cL_law 186 = .ok (.lshl, 1) := by decide +kernel
theorem dL_law_187 : decode cL_law 187 = .ok (.aload_n 0, 1) := by decide +kernel
theorem dL_law_188 : decode cL_law 188 = .ok (.iload_n 3, 1) := by decide +kernel
theorem dL_law_189 : decode cL_law 189 = .ok (.iconst 3, 1) := by decide +kernel
theorem dL_law_190 : decode cL_law 190 = .ok (.iadd, 1) := by decide +kernel
theorem dL_law_191 : decode cL_law 191 = .ok (.iaload, 1) := by decide +kernel
theorem dL_law_192 : decode cL_law 192 = .ok (.i2l, 1) := by decide +kernel
theorem dL_law_193 : decode cL_law 193 = .ok (.ldc2_w 22, 3) := by decide +kernel
theorem dL_law_196 : decode cL_law 196 = .ok (.land, 1) := by decide +kernel
theorem dL_law_197 : decode cL_law 197 = .ok (.lor, 1) := by decide +kernel
theorem dL_law_198 : decode cL_law 198 = .ok (.aload_n 0, 1) := by decide +kernel
theorem dL_law_199 : decode cL_law 199 = .ok (.iload_n 3, 1) := by decide +kernel
theorem dL_law_200 : decode cL_law 200 = .ok (.iconst 4, 1) := by decide +kernel
theorem dL_law_201 : decode cL_law 201 = .ok (.iadd, 1) := by decide +kernel
theorem dL_law_202 : decode cL_law 202 = .ok (.iaload, 1) := by decide +kernel
theorem dL_law_203 : decode cL_law 203 = .ok (.i2l, 1) := by decide +kernel
theorem dL_law_204 : decode cL_law 204 = .ok (.bipush 32, 2) := by decide +kernel
theorem dL_law_206 : decode cL_law 206 = .ok (.lshl, 1) := by decide +kernel
theorem dL_law_207 : decode cL_law 207 = .ok (.aload_n 0, 1) := by decide +kernel
theorem dL_law_208 : decode cL_law 208 = .ok (.iload_n 3, 1) := by decide +kernel
theorem dL_law_209 : decode cL_law 209 = .ok (.iconst 5, 1) := by decide +kernel
theorem dL_law_210 : decode cL_law 210 = .ok (.iadd, 1) := by decide +kernel
theorem dL_law_211 : decode cL_law 211 = .ok (.iaload, 1) := by decide +kernel
theorem dL_law_212 : decode cL_law 212 = .ok (.i2l, 1) := by decide +kernel
theorem dL_law_213 : decode cL_law 213 = .ok (.ldc2_w 22, 3) := by decide +kernel
theorem dL_law_216 : decode cL_law 216 = .ok (.land, 1) := by decide +kernel
theorem dL_law_217 : decode cL_law 217 = .ok (.lor, 1) := by decide +kernel
theorem dL_law_218 : decode cL_law 218 = .ok (.invokevirtual 24, 3) := by decide +kernel
theorem dL_law_221 : decode cL_law 221 = .ok (.aload_n 2, 1) := by decide +kernel
theorem dL_law_222 : decode cL_law 222 = .ok (.aload_n 0, 1) := by decide +kernel
theorem dL_law_223 : decode cL_law 223 = .ok (.iload_n 3, 1) := by decide +kernel
theorem dL_law_224 : decode cL_law 224 = .ok (.iconst 1, 1) := by decide +kernel
theorem dL_law_225 : decode cL_law 225 = .ok (.iadd, 1) := by decide +kernel
theorem dL_law_226 : decode cL_law 226 = .ok (.iaload, 1) := by decide +kernel
theorem dL_law_227 : decode cL_law 227 = .ok (.aload_n 0, 1) := by decide +kernel
theorem dL_law_228 : decode cL_law 228 = .ok (.iload_n 3, 1) := by decide +kernel
theorem dL_law_229 : decode cL_law 229 = .ok (.iconst 2, 1) := by decide +kernel
theorem dL_law_230 : decode cL_law 230 = .ok (.iadd, 1) := by decide +kernel
theorem dL_law_231 : decode cL_law 231 = .ok (.iaload, 1) := by decide +kernel
theorem dL_law_232 : decode cL_law 232 = .ok (.i2l, 1) := by decide +kernel
theorem dL_law_233 : decode cL_law 233 = .ok (.bipush 32, 2) := by decide +kernel
theorem dL_law_235 : decode cL_law 235 = .ok (.lshl, 1) := by decide +kernel
theorem dL_law_236 : decode cL_law 236 = .ok (.aload_n 0, 1) := by decide +kernel
theorem dL_law_237 : decode cL_law 237 = .ok (.iload_n 3, 1) := by decide +kernel
theorem dL_law_238 : decode cL_law 238 = .ok (.iconst 3, 1) := by decide +kernel
theorem dL_law_239 : decode cL_law 239 = .ok (.iadd, 1) := by decide +kernel
theorem dL_law_240 : decode cL_law 240 = .ok (.iaload, 1) := by decide +kernel
theorem dL_law_241 : decode cL_law 241 = .ok (.i2l, 1) := by decide +kernel
theorem dL_law_242 : decode cL_law 242 = .ok (.ldc2_w 22, 3) := by decide +kernel
theorem dL_law_245 : decode cL_law 245 = .ok (.land, 1) := by decide +kernel
theorem dL_law_246 : decode cL_law 246 = .ok (.lor, 1) := by decide +kernel
theorem dL_law_247 : decode cL_law 247 = .ok (.aload_n 0, 1) := by decide +kernel
theorem dL_law_248 : decode cL_law 248 = .ok (.iload_n 3, 1) := by decide +kernel
theorem dL_law_249 : decode cL_law 249 = .ok (.iconst 4, 1) := by decide +kernel
theorem dL_law_250 : decode cL_law 250 = .ok (.iadd, 1) := by decide +kernel
theorem dL_law_251 : decode cL_law 251 = .ok (.iaload, 1) := by decide +kernel
theorem dL_law_252 : decode cL_law 252 = .ok (.i2l, 1) := by decide +kernel
theorem dL_law_253 : decode cL_law 253 = .ok (.bipush 32, 2) := by decide +kernel
theorem dL_law_255 : decode cL_law 255 = .ok (.lshl, 1) := by decide +kernel
theorem dL_law_256 : decode cL_law 256 = .ok (.aload_n 0, 1) := by decide +kernel
theorem dL_law_257 : decode cL_law 257 = .ok (.iload_n 3, 1) := by decide +kernel
theorem dL_law_258 : decode cL_law 258 = .ok (.iconst 5, 1) := by decide +kernel
theorem dL_law_259 : decode cL_law 259 = .ok (.iadd, 1) := by decide +kernel
theorem dL_law_260 : decode cL_law 260 = .ok (.iaload, 1) := by decide +kernel
theorem dL_law_261 : decode cL_law 261 = .ok (.i2l, 1) := by decide +kernel
theorem dL_law_262 : decode cL_law 262 = .ok (.ldc2_w 22, 3) := by decide +kernel
theorem dL_law_265 : decode cL_law 265 = .ok (.land, 1) := by decide +kernel
theorem dL_law_266 : decode cL_law 266 = .ok (.lor, 1) := by decide +kernel
theorem dL_law_267 : decode cL_law 267 = .ok (.invokevirtual 28, 3) := by decide +kernel
theorem dL_law_270 : decode cL_law 270 = .ok (.if_icmp .eq 564, 3) := by decide +kernel
theorem dL_law_273 : decode cL_law 273 = .ok (.iconst 0, 1) := by decide +kernel
theorem dL_law_274 : decode cL_law 274 = .ok (.ireturn, 1) := by decide +kernel
theorem dL_law_275 : decode cL_law 275 = .ok (.aload_n 1, 1) := by decide +kernel
theorem dL_law_276 : decode cL_law 276 = .ok (.aload_n 0, 1) := by decide +kernel
theorem dL_law_277 : decode cL_law 277 = .ok (.iload_n 3, 1) := by decide +kernel
theorem dL_law_278 : decode cL_law 278 = .ok (.iconst 1, 1) := by decide +kernel
theorem dL_law_279 : decode cL_law 279 = .ok (.iadd, 1) := by decide +kernel
theorem dL_law_280 : decode cL_law 280 = .ok (.iaload, 1) := by decide +kernel
theorem dL_law_281 : decode cL_law 281 = .ok (.aload_n 0, 1) := by decide +kernel
theorem dL_law_282 : decode cL_law 282 = .ok (.iload_n 3, 1) := by decide +kernel
theorem dL_law_283 : decode cL_law 283 = .ok (.iconst 2, 1) := by decide +kernel
theorem dL_law_284 : decode cL_law 284 = .ok (.iadd, 1) := by decide +kernel
theorem dL_law_285 : decode cL_law 285 = .ok (.iaload, 1) := by decide +kernel
theorem dL_law_286 : decode cL_law 286 = .ok (.aload_n 0, 1) := by decide +kernel
theorem dL_law_287 : decode cL_law 287 = .ok (.iload_n 3, 1) := by decide +kernel
theorem dL_law_288 : decode cL_law 288 = .ok (.iconst 3, 1) := by decide +kernel
theorem dL_law_289 : decode cL_law 289 = .ok (.iadd, 1) := by decide +kernel
theorem dL_law_290 : decode cL_law 290 = .ok (.iaload, 1) := by decide +kernel
theorem dL_law_291 : decode cL_law 291 = .ok (.invokevirtual 29, 3) := by decide +kernel
theorem dL_law_294 : decode cL_law 294 = .ok (.aload_n 2, 1) := by decide +kernel
theorem dL_law_295 : decode cL_law 295 = .ok (.aload_n 0, 1) := by decide +kernel
theorem dL_law_296 : decode cL_law 296 = .ok (.iload_n 3, 1) := by decide +kernel
theorem dL_law_297 : decode cL_law 297 = .ok (.iconst 1, 1) := by decide +kernel
theorem dL_law_298 : decode cL_law 298 = .ok (.iadd, 1) := by decide +kernel
theorem dL_law_299 : decode cL_law 299 = .ok (.iaload, 1) := by decide +kernel
theorem dL_law_300 : decode cL_law 300 = .ok (.aload_n 0, 1) := by decide +kernel
theorem dL_law_301 : decode cL_law 301 = .ok (.iload_n 3, 1) := by decide +kernel
theorem dL_law_302 : decode cL_law 302 = .ok (.iconst 2, 1) := by decide +kernel
theorem dL_law_303 : decode cL_law 303 = .ok (.iadd, 1) := by decide +kernel
theorem dL_law_304 : decode cL_law 304 = .ok (.iaload, 1) := by decide +kernel
theorem dL_law_305 : decode cL_law 305 = .ok (.aload_n 0, 1) := by decide +kernel
theorem dL_law_306 : decode cL_law 306 = .ok (.iload_n 3, 1) := by decide +kernel
theorem dL_law_307 : decode cL_law 307 = .ok (.iconst 3, 1) := by decide +kernel
theorem dL_law_308 : decode cL_law 308 = .ok (.iadd, 1) := by decide +kernel
theorem dL_law_309 : decode cL_law 309 = .ok (.iaload, 1) := by decide +kernel
theorem dL_law_310 : decode cL_law 310 = .ok (.invokevirtual 33, 3) := by decide +kernel
theorem dL_law_313 : decode cL_law 313 = .ok (.if_icmp .eq 521, 3) := by decide +kernel
theorem dL_law_316 : decode cL_law 316 = .ok (.iconst 0, 1) := by decide +kernel
theorem dL_law_317 : decode cL_law 317 = .ok (.ireturn, 1) := by decide +kernel
theorem dL_law_318 : decode cL_law 318 = .ok (.aload_n 1, 1) := by decide +kernel
theorem dL_law_319 : decode cL_law 319 = .ok (.aload_n 0, 1) := by decide +kernel
theorem dL_law_320 : decode cL_law 320 = .ok (.iload_n 3, 1) := by decide +kernel
theorem dL_law_321 : decode cL_law 321 = .ok (.iconst 1, 1) := by decide +kernel
theorem dL_law_322 : decode cL_law 322 = .ok (.iadd, 1) := by decide +kernel
theorem dL_law_323 : decode cL_law 323 = .ok (.iaload, 1) := by decide +kernel
theorem dL_law_324 : decode cL_law 324 = .ok (.aload_n 0, 1) := by decide +kernel
theorem dL_law_325 : decode cL_law 325 = .ok (.iload_n 3, 1) := by decide +kernel
theorem dL_law_326 : decode cL_law 326 = .ok (.iconst 2, 1) := by decide +kernel
theorem dL_law_327 : decode cL_law 327 = .ok (.iadd, 1) := by decide +kernel
theorem dL_law_328 : decode cL_law 328 = .ok (.iaload, 1) := by decide +kernel
theorem dL_law_329 : decode cL_law 329 = .ok (.aload_n 0, 1) := by decide +kernel
theorem dL_law_330 : decode cL_law 330 = .ok (.iload_n 3, 1) := by decide +kernel
theorem dL_law_331 : decode cL_law 331 = .ok (.iconst 3, 1) := by decide +kernel
theorem dL_law_332 : decode cL_law 332 = .ok (.iadd, 1) := by decide +kernel
theorem dL_law_333 : decode cL_law 333 = .ok (.iaload, 1) := by decide +kernel
theorem dL_law_334 : decode cL_law 334 = .ok (.invokevirtual 34, 3) := by decide +kernel
theorem dL_law_337 : decode cL_law 337 = .ok (.aload_n 2, 1) := by decide +kernel
theorem dL_law_338 : decode cL_law 338 = .ok (.aload_n 0, 1) := by decide +kernel
theorem dL_law_339 : decode cL_law 339 = .ok (.iload_n 3, 1) := by decide +kernel
theorem dL_law_340 : decode cL_law 340 = .ok (.iconst 1, 1) := by decide +kernel
theorem dL_law_341 : decode cL_law 341 = .ok (.iadd, 1) := by decide +kernel
theorem dL_law_342 : decode cL_law 342 = .ok (.iaload, 1) := by decide +kernel
theorem dL_law_343 : decode cL_law 343 = .ok (.aload_n 0, 1) := by decide +kernel
theorem dL_law_344 : decode cL_law 344 = .ok (.iload_n 3, 1) := by decide +kernel
theorem dL_law_345 : decode cL_law 345 = .ok (.iconst 2, 1) := by decide +kernel
theorem dL_law_346 : decode cL_law 346 = .ok (.iadd, 1) := by decide +kernel
theorem dL_law_347 : decode cL_law 347 = .ok (.iaload, 1) := by decide +kernel
theorem dL_law_348 : decode cL_law 348 = .ok (.aload_n 0, 1) := by decide +kernel
theorem dL_law_349 : decode cL_law 349 = .ok (.iload_n 3, 1) := by decide +kernel
theorem dL_law_350 : decode cL_law 350 = .ok (.iconst 3, 1) := by decide +kernel
theorem dL_law_351 : decode cL_law 351 = .ok (.iadd, 1) := by decide +kernel
theorem dL_law_352 : decode cL_law 352 = .ok (.iaload, 1) := by decide +kernel
theorem dL_law_353 : decode cL_law 353 = .ok (.invokevirtual 37, 3) := by decide +kernel
theorem dL_law_356 : decode cL_law 356 = .ok (.if_icmp .eq 478, 3) := by decide +kernel
theorem dL_law_359 : decode cL_law 359 = .ok (.iconst 0, 1) := by decide +kernel
theorem dL_law_360 : decode cL_law 360 = .ok (.ireturn, 1) := by decide +kernel
theorem dL_law_361 : decode cL_law 361 = .ok (.aload_n 1, 1) := by decide +kernel
theorem dL_law_362 : decode cL_law 362 = .ok (.aload_n 0, 1) := by decide +kernel
theorem dL_law_363 : decode cL_law 363 = .ok (.iload_n 3, 1) := by decide +kernel
theorem dL_law_364 : decode cL_law 364 = .ok (.iconst 1, 1) := by decide +kernel
theorem dL_law_365 : decode cL_law 365 = .ok (.iadd, 1) := by decide +kernel
theorem dL_law_366 : decode cL_law 366 = .ok (.iaload, 1) := by decide +kernel
theorem dL_law_367 : decode cL_law 367 = .ok (.aload_n 0, 1) := by decide +kernel
theorem dL_law_368 : decode cL_law 368 = .ok (.iload_n 3, 1) := by decide +kernel
theorem dL_law_369 : decode cL_law 369 = .ok (.iconst 2, 1) := by decide +kernel
theorem dL_law_370 : decode cL_law 370 = .ok (.iadd, 1) := by decide +kernel
theorem dL_law_371 : decode cL_law 371 = .ok (.iaload, 1) := by decide +kernel
theorem dL_law_372 : decode cL_law 372 = .ok (.aload_n 0, 1) := by decide +kernel
theorem dL_law_373 : decode cL_law 373 = .ok (.iload_n 3, 1) := by decide +kernel
theorem dL_law_374 : decode cL_law 374 = .ok (.iconst 3, 1) := by decide +kernel
theorem dL_law_375 : decode cL_law 375 = .ok (.iadd, 1) := by decide +kernel
theorem dL_law_376 : decode cL_law 376 = .ok (.iaload, 1) := by decide +kernel
theorem dL_law_377 : decode cL_law 377 = .ok (.invokevirtual 38, 3) := by decide +kernel
theorem dL_law_380 : decode cL_law 380 = .ok (.aload_n 2, 1) := by decide +kernel
theorem dL_law_381 : decode cL_law 381 = .ok (.aload_n 0, 1) := by decide +kernel
theorem dL_law_382 : decode cL_law 382 = .ok (.iload_n 3, 1) := by decide +kernel
theorem dL_law_383 : decode cL_law 383 = .ok (.iconst 1, 1) := by decide +kernel
theorem dL_law_384 : decode cL_law 384 = .ok (.iadd, 1) := by decide +kernel
theorem dL_law_385 : decode cL_law 385 = .ok (.iaload, 1) := by decide +kernel
theorem dL_law_386 : decode cL_law 386 = .ok (.aload_n 0, 1) := by decide +kernel
theorem dL_law_387 : decode cL_law 387 = .ok (.iload_n 3, 1) := by decide +kernel
theorem dL_law_388 : decode cL_law 388 = .ok (.iconst 2, 1) := by decide +kernel
theorem dL_law_389 : decode cL_law 389 = .ok (.iadd, 1) := by decide +kernel
theorem dL_law_390 : decode cL_law 390 = .ok (.iaload, 1) := by decide +kernel
theorem dL_law_391 : decode cL_law 391 = .ok (.aload_n 0, 1) := by decide +kernel
theorem dL_law_392 : decode cL_law 392 = .ok (.iload_n 3, 1) := by decide +kernel
theorem dL_law_393 : decode cL_law 393 = .ok (.iconst 3, 1) := by decide +kernel
theorem dL_law_394 : decode cL_law 394 = .ok (.iadd, 1) := by decide +kernel
theorem dL_law_395 : decode cL_law 395 = .ok (.iaload, 1) := by decide +kernel
theorem dL_law_396 : decode cL_law 396 = .ok (.invokevirtual 41, 3) := by decide +kernel
theorem dL_law_399 : decode cL_law 399 = .ok (.if_icmp .eq 435, 3) := by decide +kernel
theorem dL_law_402 : decode cL_law 402 = .ok (.iconst 0, 1) := by decide +kernel
theorem dL_law_403 : decode cL_law 403 = .ok (.ireturn, 1) := by decide +kernel
theorem dL_law_404 : decode cL_law 404 = .ok (.aload_n 1, 1) := by decide +kernel
theorem dL_law_405 : decode cL_law 405 = .ok (.aload_n 0, 1) := by decide +kernel
theorem dL_law_406 : decode cL_law 406 = .ok (.iload_n 3, 1) := by decide +kernel
theorem dL_law_407 : decode cL_law 407 = .ok (.iconst 1, 1) := by decide +kernel
theorem dL_law_408 : decode cL_law 408 = .ok (.iadd, 1) := by decide +kernel
theorem dL_law_409 : decode cL_law 409 = .ok (.iaload, 1) := by decide +kernel
theorem dL_law_410 : decode cL_law 410 = .ok (.invokevirtual 42, 3) := by decide +kernel
theorem dL_law_413 : decode cL_law 413 = .ok (.aload_n 2, 1) := by decide +kernel
theorem dL_law_414 : decode cL_law 414 = .ok (.aload_n 0, 1) := by decide +kernel
theorem dL_law_415 : decode cL_law 415 = .ok (.iload_n 3, 1) := by decide +kernel
theorem dL_law_416 : decode cL_law 416 = .ok (.iconst 1, 1) := by decide +kernel
theorem dL_law_417 : decode cL_law 417 = .ok (.iadd, 1) := by decide +kernel
theorem dL_law_418 : decode cL_law 418 = .ok (.iaload, 1) := by decide +kernel
theorem dL_law_419 : decode cL_law 419 = .ok (.invokevirtual 46, 3) := by decide +kernel
theorem dL_law_422 : decode cL_law 422 = .ok (.if_icmp .eq 412, 3) := by decide +kernel
theorem dL_law_425 : decode cL_law 425 = .ok (.iconst 0, 1) := by decide +kernel
theorem dL_law_426 : decode cL_law 426 = .ok (.ireturn, 1) := by decide +kernel
theorem dL_law_427 : decode cL_law 427 = .ok (.aload_n 1, 1) := by decide +kernel
theorem dL_law_428 : decode cL_law 428 = .ok (.aload_n 0, 1) := by decide +kernel
theorem dL_law_429 : decode cL_law 429 = .ok (.iload_n 3, 1) := by decide +kernel
theorem dL_law_430 : decode cL_law 430 = .ok (.iconst 1, 1) := by decide +kernel
theorem dL_law_431 : decode cL_law 431 = .ok (.iadd, 1) := by decide +kernel
theorem dL_law_432 : decode cL_law 432 = .ok (.iaload, 1) := by decide +kernel
theorem dL_law_433 : decode cL_law 433 = .ok (.aload_n 0, 1) := by decide +kernel
theorem dL_law_434 : decode cL_law 434 = .ok (.iload_n 3, 1) := by decide +kernel
theorem dL_law_435 : decode cL_law 435 = .ok (.iconst 2, 1) := by decide +kernel
theorem dL_law_436 : decode cL_law 436 = .ok (.iadd, 1) := by decide +kernel
theorem dL_law_437 : decode cL_law 437 = .ok (.iaload, 1) := by decide +kernel
