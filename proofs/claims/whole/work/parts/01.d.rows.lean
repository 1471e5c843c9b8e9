theorem dX4_does_85 : decode cX4_does 85 = .ok (.aaload, 1) := by decide +kernel
theorem dX4_does_86 : decode cX4_does 86 = .ok (.iload_n 2, 1) := by decide +kernel
theorem dX4_does_87 : decode cX4_does 87 = .ok (.iload_n 3, 1) := by decide +kernel
theorem dX4_does_88 : decode cX4_does 88 = .ok (.iload 4, 2) := by decide +kernel
theorem dX4_does_90 : decode cX4_does 90 = .ok (.invokevirtual 99, 3) := by decide +kernel
theorem dX4_does_93 : decode cX4_does 93 = .ok (.ireturn, 1) := by decide +kernel
set_option maxRecDepth 20000 in
theorem ggX4_silent_X4_isThing : GoodIn wsX4_silent wsX4_isThing := goodIn_r _ [6, 7, 139, 140, 141, 142, 143, 144, 145] (by decide +kernel) (by decide +kernel)
set_option maxRecDepth 20000 in
theorem gX4_silent_X4_isThing : GoodIn wsX4_silent (wsV RX4 50 RX4 yX4_isThing wsX4_isThing) := goodIn_app (goodIn_of _ (by decide +kernel)) ggX4_silent_X4_isThing
set_option maxRecDepth 20000 in
theorem ggX4_silent_X4_pairOf : GoodIn wsX4_silent wsX4_pairOf := goodIn_r _ [11, 12, 13, 14, 15, 16, 7, 17, 18, 19, 5, 20, 21, 22, 23, 24, 25, 26, 27, 28, 29, 30, 31, 32, 33, 34, 35, 36, 37, 38, 39, 40, 41, 42, 43, 44, 45, 46, 47, 48, 49, 50, 51, 52, 53, 54, 55, 56, 57, 58, 59, 60, 61, 62, 63, 64, 65, 66, 67, 68, 69, 70, 71, 72, 73, 74, 75, 76, 77, 78, 79, 80, 81, 82, 83, 84, 85, 86, 87, 88, 89, 90, 91, 92, 93, 94, 95, 96, 97, 98, 99, 100, 101, 102, 103, 104, 105, 106, 107, 108, 109, 110, 111, 112, 113, 114, 115, 116, 117, 118, 119, 120, 121, 122, 123, 124, 125, 126, 127, 128, 129, 130, 139, 140, 141, 142, 143, 144, 145, 131, 132, 133, 134, 135, 136, 137, 138, 146, 147, 148, 149, 150, 151, 152, 153, 154, 155, 156, 157, 158, 159, 160, 161] (by decide +kernel) (by decide +kernel)
set_option maxRecDepth 20000 in
theorem gX4_silent_X4_pairOf : GoodIn wsX4_silent (wsV RX4 102 RX4 yX4_pairOf wsX4_pairOf) := goodIn_app (goodIn_of _ (by decide +kernel)) ggX4_silent_X4_pairOf
theorem dX4_silent_0 : decode cX4_silent 0 = .ok (.aload_n 0, 1) := by decide +kernel
theorem dX4_silent_1 : decode cX4_silent 1 = .ok (.iload_n 1, 1) := by decide +kernel
theorem dX4_silent_2 : decode cX4_silent 2 = .ok (.invokevirtual 50, 3) := by decide +kernel
theorem dX4_silent_5 : decode cX4_silent 5 = .ok (.ifCond .ne 5, 3) := by decide +kernel
theorem dX4_silent_8 : decode cX4_silent 8 = .ok (.iconst (-1), 1) := by decide +kernel
theorem dX4_silent_9 : decode cX4_silent 9 = .ok (.ireturn, 1) := by decide +kernel
theorem dX4_silent_10 : decode cX4_silent 10 = .ok (.aload_n 0, 1) := by decide +kernel
theorem dX4_silent_11 : decode cX4_silent 11 = .ok (.iload_n 1, 1) := by decide +kernel
theorem dX4_silent_12 : decode cX4_silent 12 = .ok (.invokevirtual 102, 3) := by decide +kernel
theorem dX4_silent_15 : decode cX4_silent 15 = .ok (.getfield 106, 3) := by decide +kernel
theorem dX4_silent_18 : decode cX4_silent 18 = .ok (.ifCond .ne 7, 3) := by decide +kernel
theorem dX4_silent_21 : decode cX4_silent 21 = .ok (.iconst 1, 1) := by decide +kernel
theorem dX4_silent_22 : decode cX4_silent 22 = .ok (.goto 4, 3) := by decide +kernel
theorem dX4_silent_25 : decode cX4_silent 25 = .ok (.iconst 0, 1) := by decide +kernel
theorem dX4_silent_26 : decode cX4_silent 26 = .ok (.ireturn, 1) := by decide +kernel
set_option maxRecDepth 20000 in
theorem ggX4_shown_X4_isThing : GoodIn wsX4_shown wsX4_isThing := goodIn_r _ [6, 7, 139, 140, 141, 142, 143, 144, 145] (by decide +kernel) (by decide +kernel)
set_option maxRecDepth 20000 in
theorem gX4_shown_X4_isThing : GoodIn wsX4_shown (wsV RX4 50 RX4 yX4_isThing wsX4_isThing) := goodIn_app (goodIn_of _ (by decide +kernel)) ggX4_shown_X4_isThing
set_option maxRecDepth 20000 in
theorem ggX4_shown_X4_pairOf : GoodIn wsX4_shown wsX4_pairOf := goodIn_r _ [11, 12, 13, 14, 15, 16, 7, 17, 18, 19, 5, 20, 21, 22, 23, 24, 25, 26, 27, 28, 29, 30, 31, 32, 33, 34, 35, 36, 37, 38, 39, 40, 41, 42, 43, 44, 45, 46, 47, 48, 49, 50, 51, 52, 53, 54, 55, 56, 57, 58, 59, 60, 61, 62, 63, 64, 65, 66, 67, 68, 69, 70, 71, 72, 73, 74, 75, 76, 77, 78, 79, 80, 81, 82, 83, 84, 85, 86, 87, 88, 89, 90, 91, 92, 93, 94, 95, 96, 97, 98, 99, 100, 101, 102, 103, 104, 105, 106, 107, 108, 109, 110, 111, 112, 113, 114, 115, 116, 117, 118, 119, 120, 121, 122, 123, 124, 125, 126, 127, 128, 129, 130, 139, 140, 141, 142, 143, 144, 145, 131, 132, 133, 134, 135, 136, 137, 138, 146, 147, 148, 149, 150, 151, 152, 153, 154, 155, 156, 157, 158, 159, 160, 161] (by decide +kernel) (by decide +kernel)
set_option maxRecDepth 20000 in
theorem gX4_shown_X4_pairOf : GoodIn wsX4_shown (wsV RX4 102 RX4 yX4_pairOf wsX4_pairOf) := goodIn_app (goodIn_of _ (by decide +kernel)) ggX4_shown_X4_pairOf
theorem dX4_shown_0 : decode cX4_shown 0 = .ok (.aload_n 0, 1) := by decide +kernel
theorem dX4_shown_1 : decode cX4_shown 1 = .ok (.iload_n 1, 1) := by decide +kernel
theorem dX4_shown_2 : decode cX4_shown 2 = .ok (.invokevirtual 50, 3) := by decide +kernel
theorem dX4_shown_5 : decode cX4_shown 5 = .ok (.ifCond .eq 14, 3) := by decide +kernel
theorem dX4_shown_8 : decode cX4_shown 8 = .ok (.aload_n 0, 1) := by decide +kernel
theorem dX4_shown_9 : decode cX4_shown 9 = .ok (.iload_n 1, 1) := by decide +kernel
theorem dX4_shown_10 : decode cX4_shown 10 = .ok (.invokevirtual 102, 3) := by decide +kernel
theorem dX4_shown_13 : decode cX4_shown 13 = .ok (.getfield 106, 3) := by decide +kernel
theorem dX4_shown_16 : decode cX4_shown 16 = .ok (.ifCond .ne 5, 3) := by decide +kernel
theorem dX4_shown_19 : decode cX4_shown 19 = .ok (.iconst (-1), 1) := by decide +kernel
theorem dX4_shown_20 : decode cX4_shown 20 = .ok (.ireturn, 1) := by decide +kernel
theorem dX4_shown_21 : decode cX4_shown 21 = .ok (.aload_n 0, 1) := by decide +kernel
theorem dX4_shown_22 : decode cX4_shown 22 = .ok (.iload_n 1, 1) := by decide +kernel
theorem dX4_shown_23 : decode cX4_shown 23 = .ok (.invokevirtual 102, 3) := by decide +kernel
theorem dX4_shown_26 : decode cX4_shown 26 = .ok (.getfield 106, 3) := by decide +kernel
theorem dX4_shown_29 : decode cX4_shown 29 = .ok (.ireturn, 1) := by decide +kernel
set_option maxRecDepth 20000 in
theorem ggX4_show_X4_isThing : GoodIn wsX4_show wsX4_isThing := goodIn_r _ [7, 8, 140, 141, 142, 143, 144, 145, 146] (by decide +kernel) (by decide +kernel)
set_option maxRecDepth 20000 in
theorem gX4_show_X4_isThing : GoodIn wsX4_show (wsV RX4 50 RX4 yX4_isThing wsX4_isThing) := goodIn_app (goodIn_of _ (by decide +kernel)) ggX4_show_X4_isThing
set_option maxRecDepth 20000 in
theorem ggX4_show_X4_pairOf : GoodIn wsX4_show wsX4_pairOf := goodIn_r _ [12, 13, 14, 15, 16, 17, 8, 18, 19, 20, 6, 21, 22, 23, 24, 25, 26, 27, 28, 29, 30, 31, 32, 33, 34, 35, 36, 37, 38, 39, 40, 41, 42, 43, 44, 45, 46, 47, 48, 49, 50, 51, 52, 53, 54, 55, 56, 57, 58, 59, 60, 61, 62, 63, 64, 65, 66, 67, 68, 69, 70, 71, 72, 73, 74, 75, 76, 77, 78, 79, 80, 81, 82, 83, 84, 85, 86, 87, 88, 89, 90, 91, 92, 93, 94, 95, 96, 97, 98, 99, 100, 101, 102, 103, 104, 105, 106, 107, 108, 109, 110, 111, 112, 113, 114, 115, 116, 117, 118, 119, 120, 121, 122, 123, 124, 125, 126, 127, 128, 129, 130, 131, 140, 141, 142, 143, 144, 145, 146, 132, 133, 134, 135, 136, 137, 138, 139, 147, 148, 149, 150, 151, 152, 153, 154, 155, 156, 157, 158, 159, 160, 161, 162] (by decide +kernel) (by decide +kernel)
set_option maxRecDepth 20000 in
theorem gX4_show_X4_pairOf : GoodIn wsX4_show (wsV RX4 102 RX4 yX4_pairOf wsX4_pairOf) := goodIn_app (goodIn_of _ (by decide +kernel)) ggX4_show_X4_pairOf
theorem dX4_show_0 : decode cX4_show 0 = .ok (.aload_n 0, 1) := by decide +kernel
theorem dX4_show_1 : decode cX4_show 1 = .ok (.iload_n 1, 1) := by decide +kernel
theorem dX4_show_2 : decode cX4_show 2 = .ok (.invokevirtual 50, 3) := by decide +kernel
theorem dX4_show_5 : decode cX4_show 5 = .ok (.ifCond .eq 28, 3) := by decide +kernel
theorem dX4_show_8 : decode cX4_show 8 = .ok (.iload_n 2, 1) := by decide +kernel
theorem dX4_show_9 : decode cX4_show 9 = .ok (.ifCond .lt 24, 3) := by decide +kernel
theorem dX4_show_12 : decode cX4_show 12 = .ok (.iload_n 2, 1) := by decide +kernel
theorem dX4_show_13 : decode cX4_show 13 = .ok (.aload_n 0, 1) := by decide +kernel
theorem dX4_show_14 : decode cX4_show 14 = .ok (.iload_n 1, 1) := by decide +kernel
theorem dX4_show_15 : decode cX4_show 15 = .ok (.invokevirtual 102, 3) := by decide +kernel
theorem dX4_show_18 : decode cX4_show 18 = .ok (.getfield 106, 3) := by decide +kernel
theorem dX4_show_21 : decode cX4_show 21 = .ok (.if_icmp .ge 12, 3) := by decide +kernel
theorem dX4_show_24 : decode cX4_show 24 = .ok (.iload_n 3, 1) := by decide +kernel
theorem dX4_show_25 : decode cX4_show 25 = .ok (.ifCond .lt 8, 3) := by decide +kernel
theorem dX4_show_28 : decode cX4_show 28 = .ok (.iload_n 3, 1) := by decide +kernel
theorem dX4_show_29 : decode cX4_show 29 = .ok (.iconst 5, 1) := by decide +kernel
theorem dX4_show_30 : decode cX4_show 30 = .ok (.if_icmp .lt 5, 3) := by decide +kernel
theorem dX4_show_33 : decode cX4_show 33 = .ok (.iconst (-1), 1) := by decide +kernel
theorem dX4_show_34 : decode cX4_show 34 = .ok (.ireturn, 1) := by decide +kernel
theorem dX4_show_35 : decode cX4_show 35 = .ok (.aload_n 0, 1) := by decide +kernel
theorem dX4_show_36 : decode cX4_show 36 = .ok (.iload_n 1, 1) := by decide +kernel
theorem dX4_show_37 : decode cX4_show 37 = .ok (.invokevirtual 102, 3) := by decide +kernel
theorem dX4_show_40 : decode cX4_show 40 = .ok (.getfield 109, 3) := by decide +kernel
theorem dX4_show_43 : decode cX4_show 43 = .ok (.iconst 5, 1) := by decide +kernel
theorem dX4_show_44 : decode cX4_show 44 = .ok (.iload_n 2, 1) := by decide +kernel
theorem dX4_show_45 : decode cX4_show 45 = .ok (.imul, 1) := by decide +kernel
theorem dX4_show_46 : decode cX4_show 46 = .ok (.iload_n 3, 1) := by decide +kernel
theorem dX4_show_47 : decode cX4_show 47 = .ok (.iadd, 1) := by decide +kernel
theorem dX4_show_48 : decode cX4_show 48 = .ok (.iaload, 1) := by decide +kernel
theorem dX4_show_49 : decode cX4_show 49 = .ok (.ireturn, 1) := by decide +kernel
set_option maxRecDepth 20000 in
theorem ggX4_letters_X4_whisperOf : GoodIn wsX4_letters wsX4_whisperOf := goodIn_r _ [6, 7, 8, 9, 10, 11, 12, 1, 13, 14, 15, 16, 5, 17, 18, 19, 20, 21, 22, 23, 24, 25, 26, 27, 28, 29, 30, 31, 32, 33, 34, 35, 36, 37, 38, 39, 40, 41, 42, 43, 44, 45, 46, 47, 48, 49, 50, 51, 52, 53, 54, 55, 56, 57, 58, 59, 60, 61, 62, 63, 64, 65, 66, 67, 68, 69, 70, 71, 72, 73, 74, 75, 76, 77, 78, 79, 80, 81, 82, 83, 84, 85, 86, 87, 88, 89, 90, 91, 92, 93, 94, 95, 96, 97, 98, 99, 100, 101, 102, 103, 104, 105, 106, 107, 108, 109, 110, 111, 112, 113, 114, 115, 116, 117, 118, 119, 120, 121, 122, 123, 124, 125, 126, 127, 128, 129, 130, 131, 132, 133, 134, 135, 136, 137, 138, 139, 140, 141, 142, 143, 150, 151, 152, 153, 154, 155, 156, 144, 145, 146, 147, 148, 149, 157, 158, 159, 160, 161, 162, 163, 164, 165, 166, 167, 168, 169, 170, 171, 172] (by decide +kernel) (by decide +kernel)
set_option maxRecDepth 20000 in
theorem gX4_letters_X4_whisperOf : GoodIn wsX4_letters (wsV RX4 112 RX4 yX4_whisperOf wsX4_whisperOf) := goodIn_app (goodIn_of _ (by decide +kernel)) ggX4_letters_X4_whisperOf
theorem dX4_letters_0 : decode cX4_letters 0 = .ok (.iload_n 1, 1) := by decide +kernel
theorem dX4_letters_1 : decode cX4_letters 1 = .ok (.ifCond .lt 8, 3) := by decide +kernel
theorem dX4_letters_4 : decode cX4_letters 4 = .ok (.iload_n 1, 1) := by decide +kernel
theorem dX4_letters_5 : decode cX4_letters 5 = .ok (.iconst 3, 1) := by decide +kernel
theorem dX4_letters_6 : decode cX4_letters 6 = .ok (.if_icmp .le 7, 3) := by decide +kernel
theorem dX4_letters_9 : decode cX4_letters 9 = .ok (.iconst (-1), 1) := by decide +kernel
theorem dX4_letters_10 : decode cX4_letters 10 = .ok (.goto 11, 3) := by decide +kernel
theorem dX4_letters_13 : decode cX4_letters 13 = .ok (.aload_n 0, 1) := by decide +kernel
theorem dX4_letters_14 : decode cX4_letters 14 = .ok (.iload_n 1, 1) := by decide +kernel
theorem dX4_letters_15 : decode cX4_letters 15 = .ok (.invokevirtual 112, 3) := by decide +kernel
theorem dX4_letters_18 : decode cX4_letters 18 = .ok (.getfield 116, 3) := by decide +kernel
theorem dX4_letters_21 : decode cX4_letters 21 = .ok (.ireturn, 1) := by decide +kernel
set_option maxRecDepth 20000 in
theorem ggX4_letter_X4_whisperOf : GoodIn wsX4_letter wsX4_whisperOf := goodIn_r _ [7, 8, 9, 10, 11, 12, 13, 1, 14, 15, 16, 17, 6, 18, 19, 20, 21, 22, 23, 24, 25, 26, 27, 28, 29, 30, 31, 32, 33, 34, 35, 36, 37, 38, 39, 40, 41, 42, 43, 44, 45, 46, 47, 48, 49, 50, 51, 52, 53, 54, 55, 56, 57, 58, 59, 60, 61, 62, 63, 64, 65, 66, 67, 68, 69, 70, 71, 72, 73, 74, 75, 76, 77, 78, 79, 80, 81, 82, 83, 84, 85, 86, 87, 88, 89, 90, 91, 92, 93, 94, 95, 96, 97, 98, 99, 100, 101, 102, 103, 104, 105, 106, 107, 108, 109, 110, 111, 112, 113, 114, 115, 116, 117, 118, 119, 120, 121, 122, 123, 124, 125, 126, 127, 128, 129, 130, 131, 132, 133, 134, 135, 136, 137, 138, 139, 140, 141, 142, 143, 144, 152, 153, 154, 155, 156, 157, 158, 146, 147, 148, 149, 150, 151, 159, 160, 161, 162, 163, 164, 165, 166, 167, 168, 169, 170, 171, 172, 173, 174] (by decide +kernel) (by decide +kernel)
set_option maxRecDepth 20000 in
theorem gX4_letter_X4_whisperOf : GoodIn wsX4_letter (wsV RX4 112 RX4 yX4_whisperOf wsX4_whisperOf) := goodIn_app (goodIn_of _ (by decide +kernel)) ggX4_letter_X4_whisperOf
set_option maxRecDepth 20000 in
theorem ggX4_letter_X3_place : GoodIn wsX4_letter wsX3_place := goodIn_r _ [90] (by decide +kernel) (by decide +kernel)
set_option maxRecDepth 20000 in
theorem gX4_letter_X3_place : GoodIn wsX4_letter (va_wsS RX4 120 yX3_place wsX3_place) := goodIn_app (goodIn_of _ (by decide +kernel)) ggX4_letter_X3_place
theorem dX4_letter_0 : decode cX4_letter 0 = .ok (.iload_n 1, 1) := by decide +kernel
theorem dX4_letter_1 : decode cX4_letter 1 = .ok (.ifCond .lt 24, 3) := by decide +kernel
theorem dX4_letter_4 : decode cX4_letter 4 = .ok (.iload_n 1, 1) := by decide +kernel
theorem dX4_letter_5 : decode cX4_letter 5 = .ok (.iconst 3, 1) := by decide +kernel
theorem dX4_letter_6 : decode cX4_letter 6 = .ok (.if_icmp .gt 19, 3) := by decide +kernel
theorem dX4_letter_9 : decode cX4_letter 9 = .ok (.iload_n 2, 1) := by decide +kernel
theorem dX4_letter_10 : decode cX4_letter 10 = .ok (.ifCond .lt 15, 3) := by decide +kernel
theorem dX4_letter_13 : decode cX4_letter 13 = .ok (.iload_n 2, 1) := by decide +kernel
theorem dX4_letter_14 : decode cX4_letter 14 = .ok (.aload_n 0, 1) := by decide +kernel
theorem dX4_letter_15 : decode cX4_letter 15 = .ok (.iload_n 1, 1) := by decide +kernel
theorem dX4_letter_16 : decode cX4_letter 16 = .ok (.invokevirtual 112, 3) := by decide +kernel
theorem dX4_letter_19 : decode cX4_letter 19 = .ok (.getfield 116, 3) := by decide +kernel
theorem dX4_letter_22 : decode cX4_letter 22 = .ok (.if_icmp .lt 5, 3) := by decide +kernel
theorem dX4_letter_25 : decode cX4_letter 25 = .ok (.iconst (-1), 1) := by decide +kernel
theorem dX4_letter_26 : decode cX4_letter 26 = .ok (.ireturn, 1) := by decide +kernel
theorem dX4_letter_27 : decode cX4_letter 27 = .ok (.iload_n 3, 1) := by decide +kernel
theorem dX4_letter_28 : decode cX4_letter 28 = .ok (.ifCond .lt 19, 3) := by decide +kernel
theorem dX4_letter_31 : decode cX4_letter 31 = .ok (.iload_n 3, 1) := by decide +kernel
theorem dX4_letter_32 : decode cX4_letter 32 = .ok (.iload_n 1, 1) := by decide +kernel
theorem dX4_letter_33 : decode cX4_letter 33 = .ok (.if_icmp .ge 14, 3) := by decide +kernel
theorem dX4_letter_36 : decode cX4_letter 36 = .ok (.iload 4, 2) := by decide +kernel
theorem dX4_letter_38 : decode cX4_letter 38 = .ok (.ifCond .lt 9, 3) := by decide +kernel
theorem dX4_letter_41 : decode cX4_letter 41 = .ok (.iload 4, 2) := by decide +kernel
theorem dX4_letter_43 : decode cX4_letter 43 = .ok (.iconst 3, 1) := by decide +kernel
theorem dX4_letter_44 : decode cX4_letter 44 = .ok (.if_icmp .lt 5, 3) := by decide +kernel
theorem dX4_letter_47 : decode cX4_letter 47 = .ok (.iconst (-1), 1) := by decide +kernel
theorem dX4_letter_48 : decode cX4_letter 48 = .ok (.ireturn, 1) := by decide +kernel
theorem dX4_letter_49 : decode cX4_letter 49 = .ok (.aload_n 0, 1) := by decide +kernel
theorem dX4_letter_50 : decode cX4_letter 50 = .ok (.iload_n 1, 1) := by decide +kernel
theorem dX4_letter_51 : decode cX4_letter 51 = .ok (.invokevirtual 112, 3) := by decide +kernel
theorem dX4_letter_54 : decode cX4_letter 54 = .ok (.getfield 119, 3) := by decide +kernel
theorem dX4_letter_57 : decode cX4_letter 57 = .ok (.iload_n 2, 1) := by decide +kernel
theorem dX4_letter_58 : decode cX4_letter 58 = .ok (.iload_n 3, 1) := by decide +kernel
theorem dX4_letter_59 : decode cX4_letter 59 = .ok (.invokestatic 120, 3) := by decide +kernel
theorem dX4_letter_62 : decode cX4_letter 62 = .ok (.iload 4, 2) := by decide +kernel
theorem dX4_letter_64 : decode cX4_letter 64 = .ok (.iadd, 1) := by decide +kernel
theorem dX4_letter_65 : decode cX4_letter 65 = .ok (.iaload, 1) := by decide +kernel
theorem dX4_letter_66 : decode cX4_letter 66 = .ok (.ireturn, 1) := by decide +kernel
theorem dX4_begin_0 : decode cX4_begin 0 = .ok (.iconst 0, 1) := by decide +kernel
theorem dX4_begin_1 : decode cX4_begin 1 = .ok (.istore_n 1, 1) := by decide +kernel
theorem dX4_begin_2 : decode cX4_begin 2 = .ok (.iload_n 1, 1) := by decide +kernel
theorem dX4_begin_3 : decode cX4_begin 3 = .ok (.aload_n 0, 1) := by decide +kernel
theorem dX4_begin_4 : decode cX4_begin 4 = .ok (.getfield 39, 3) := by decide +kernel
theorem dX4_begin_7 : decode cX4_begin 7 = .ok (.if_icmp .ge 27, 3) := by decide +kernel
theorem dX4_begin_10 : decode cX4_begin 10 = .ok (.aload_n 0, 1) := by decide +kernel
theorem dX4_begin_11 : decode cX4_begin 11 = .ok (.getfield 11, 3) := by decide +kernel
theorem dX4_begin_14 : decode cX4_begin 14 = .ok (.iload_n 1, 1) := by decide +kernel
theorem dX4_begin_15 : decode cX4_begin 15 = .ok (.aaload, 1) := by decide +kernel
theorem dX4_begin_16 : decode cX4_begin 16 = .ok (.aload_n 0, 1) := by decide +kernel
theorem dX4_begin_17 : decode cX4_begin 17 = .ok (.getfield 11, 3) := by decide +kernel
theorem dX4_begin_20 : decode cX4_begin 20 = .ok (.iload_n 1, 1) := by decide +kernel
theorem dX4_begin_21 : decode cX4_begin 21 = .ok (.aaload, 1) := by decide +kernel
theorem dX4_begin_22 : decode cX4_begin 22 = .ok (.getfield 83, 3) := by decide +kernel
theorem dX4_begin_25 : decode cX4_begin 25 = .ok (.putfield 124, 3) := by decide +kernel
theorem dX4_begin_28 : decode cX4_begin 28 = .ok (.iinc 1 1, 3) := by decide +kernel
theorem dX4_begin_31 : decode cX4_begin 31 = .ok (.goto (-29), 3) := by decide +kernel
theorem dX4_begin_34 : decode cX4_begin 34 = .ok (.aload_n 0, 1) := by decide +kernel
theorem dX4_begin_35 : decode cX4_begin 35 = .ok (.iconst 0, 1) := by decide +kernel
theorem dX4_begin_36 : decode cX4_begin 36 = .ok (.putfield 127, 3) := by decide +kernel
theorem dX4_begin_39 : decode cX4_begin 39 = .ok (.return_, 1) := by decide +kernel
set_option maxRecDepth 20000 in
theorem ggX4_run_X4_isAct : GoodIn wsX4_run wsX4_isAct := goodIn_r _ [10, 3, 87, 88, 89, 90, 91, 92, 93] (by decide +kernel) (by decide +kernel)
set_option maxRecDepth 20000 in
theorem gX4_run_X4_isAct : GoodIn wsX4_run (wsV RX4 130 RX4 yX4_isAct wsX4_isAct) := goodIn_app (goodIn_of _ (by decide +kernel)) ggX4_run_X4_isAct
set_option maxRecDepth 20000 in
theorem ggX4_run_X4_wallsNow : GoodIn wsX4_run wsX4_wallsNow := goodIn_r _ [14, 3, 2, 15, 87, 88, 89, 90, 91, 92, 93, 94, 95, 96, 97, 98, 99, 100, 101, 102] (by decide +kernel) (by decide +kernel)
set_option maxRecDepth 20000 in
theorem gX4_run_X4_wallsNow : GoodIn wsX4_run (wsV RX4 73 RX4 yX4_wallsNow wsX4_wallsNow) := goodIn_app (goodIn_of _ (by decide +kernel)) ggX4_run_X4_wallsNow
set_option maxRecDepth 20000 in
theorem ggX4_run_X1_build : GoodIn wsX4_run wsX1_build := goodIn_r _ [20, 21, 22, 23, 24, 25, 26, 27, 9, 28, 29, 30, 31, 19, 32, 33, 34, 35, 36, 37, 38, 39, 40, 41, 42, 43, 44, 45, 46, 47, 48, 49, 50, 51, 52, 53, 54, 55, 56, 57, 58, 59, 60, 61, 62, 63, 64, 65, 66, 67, 68, 69, 70, 103, 104, 105, 106, 107, 108, 109, 94, 95, 96, 97, 98, 99, 100, 101, 102] (by decide +kernel) (by decide +kernel)
set_option maxRecDepth 20000 in
theorem gX4_run_X1_build : GoodIn wsX4_run (wsV RX4 133 RX1 yX1_build wsX1_build) := goodIn_app (goodIn_of _ (by decide +kernel)) ggX4_run_X1_build
set_option maxRecDepth 20000 in
theorem ggX4_run_X1_met : GoodIn wsX4_run wsX1_met := goodIn_r _ [74, 24, 33, 75, 76, 77, 19, 78, 25, 55, 56, 57, 103, 104, 105, 106, 107, 108, 109] (by decide +kernel) (by decide +kernel)
set_option maxRecDepth 20000 in
theorem gX4_run_X1_met : GoodIn wsX4_run (wsV RX4 137 RX1 yX1_met wsX1_met) := goodIn_app (goodIn_of _ (by decide +kernel)) ggX4_run_X1_met
set_option maxRecDepth 20000 in
theorem ggX4_run_X1_answer : GoodIn wsX4_run wsX1_answer := goodIn_r _ [82, 35, 55, 56, 19, 57, 103, 104, 105, 106, 107, 108, 109] (by decide +kernel) (by decide +kernel)
set_option maxRecDepth 20000 in
theorem gX4_run_X1_answer : GoodIn wsX4_run (wsV RX4 141 RX1 yX1_answer wsX1_answer) := goodIn_app (goodIn_of _ (by decide +kernel)) ggX4_run_X1_answer
set_option maxRecDepth 20000 in
theorem ggX4_run_X1_left : GoodIn wsX4_run wsX1_left := goodIn_r _ [86, 34, 55, 56, 19, 57, 103, 104, 105, 106, 107, 108, 109] (by decide +kernel) (by decide +kernel)
set_option maxRecDepth 20000 in
theorem gX4_run_X1_left : GoodIn wsX4_run (wsV RX4 142 RX1 yX1_left wsX1_left) := goodIn_app (goodIn_of _ (by decide +kernel)) ggX4_run_X1_left
theorem dX4_run_0 : decode cX4_run 0 = .ok (.aload_n 0, 1) := by decide +kernel
theorem dX4_run_1 : decode cX4_run 1 = .ok (.iload_n 1, 1) := by decide +kernel
theorem dX4_run_2 : decode cX4_run 2 = .ok (.invokevirtual 130, 3) := by decide +kernel
theorem dX4_run_5 : decode cX4_run 5 = .ok (.ifCond .eq 11, 3) := by decide +kernel
theorem dX4_run_8 : decode cX4_run 8 = .ok (.aload_n 0, 1) := by decide +kernel
theorem dX4_run_9 : decode cX4_run 9 = .ok (.iload_n 2, 1) := by decide +kernel
theorem dX4_run_10 : decode cX4_run 10 = .ok (.invokevirtual 130, 3) := by decide +kernel
theorem dX4_run_13 : decode cX4_run 13 = .ok (.ifCond .ne 5, 3) := by decide +kernel
theorem dX4_run_16 : decode cX4_run 16 = .ok (.iconst (-1), 1) := by decide +kernel
theorem dX4_run_17 : decode cX4_run 17 = .ok (.ireturn, 1) := by decide +kernel
theorem dX4_run_18 : decode cX4_run 18 = .ok (.aload_n 0, 1) := by decide +kernel
theorem dX4_run_19 : decode cX4_run 19 = .ok (.getfield 30, 3) := by decide +kernel
theorem dX4_run_22 : decode cX4_run 22 = .ok (.aload_n 0, 1) := by decide +kernel
theorem dX4_run_23 : decode cX4_run 23 = .ok (.getfield 11, 3) := by decide +kernel
theorem dX4_run_26 : decode cX4_run 26 = .ok (.aload_n 0, 1) := by decide +kernel
theorem dX4_run_27 : decode cX4_run 27 = .ok (.getfield 39, 3) := by decide +kernel
theorem dX4_run_30 : decode cX4_run 30 = .ok (.aload_n 0, 1) := by decide +kernel
theorem dX4_run_31 : decode cX4_run 31 = .ok (.invokevirtual 73, 3) := by decide +kernel
theorem dX4_run_34 : decode cX4_run 34 = .ok (.invokevirtual 133, 3) := by decide +kernel
theorem dX4_run_37 : decode cX4_run 37 = .ok (.iconst 0, 1) := by decide +kernel
theorem dX4_run_38 : decode cX4_run 38 = .ok (.istore_n 3, 1) := by decide +kernel
theorem dX4_run_39 : decode cX4_run 39 = .ok (.iload_n 3, 1) := by decide +kernel
theorem dX4_run_40 : decode cX4_run 40 = .ok (.aload_n 0, 1) := by decide +kernel
theorem dX4_run_41 : decode cX4_run 41 = .ok (.getfield 39, 3) := by decide +kernel
theorem dX4_run_44 : decode cX4_run 44 = .ok (.if_icmp .ge 57, 3) := by decide +kernel
theorem dX4_run_47 : decode cX4_run 47 = .ok (.iload_n 1, 1) := by decide +kernel
theorem dX4_run_48 : decode cX4_run 48 = .ok (.iconst 3, 1) := by decide +kernel
theorem dX4_run_49 : decode cX4_run 49 = .ok (.idiv, 1) := by decide +kernel
theorem dX4_run_50 : decode cX4_run 50 = .ok (.iload_n 3, 1) := by decide +kernel
theorem dX4_run_51 : decode cX4_run 51 = .ok (.if_icmp .ne 9, 3) := by decide +kernel
theorem dX4_run_54 : decode cX4_run 54 = .ok (.iload_n 1, 1) := by decide +kernel
theorem dX4_run_55 : decode cX4_run 55 = .ok (.iconst 3, 1) := by decide +kernel
theorem dX4_run_56 : decode cX4_run 56 = .ok (.irem, 1) := by decide +kernel
theorem dX4_run_57 : decode cX4_run 57 = .ok (.goto 4, 3) := by decide +kernel
theorem dX4_run_60 : decode cX4_run 60 = .ok (.iconst 3, 1) := by decide +kernel
theorem dX4_run_61 : decode cX4_run 61 = .ok (.istore 4, 2) := by decide +kernel
theorem dX4_run_63 : decode cX4_run 63 = .ok (.aload_n 0, 1) := by decide +kernel
theorem dX4_run_64 : decode cX4_run 64 = .ok (.getfield 11, 3) := by decide +kernel
theorem dX4_run_67 : decode cX4_run 67 = .ok (.iload_n 3, 1) := by decide +kernel
theorem dX4_run_68 : decode cX4_run 68 = .ok (.aaload, 1) := by decide +kernel
theorem dX4_run_69 : decode cX4_run 69 = .ok (.aload_n 0, 1) := by decide +kernel
theorem dX4_run_70 : decode cX4_run 70 = .ok (.getfield 30, 3) := by decide +kernel
theorem dX4_run_73 : decode cX4_run 73 = .ok (.iload_n 3, 1) := by decide +kernel
theorem dX4_run_74 : decode cX4_run 74 = .ok (.aload_n 0, 1) := by decide +kernel
theorem dX4_run_75 : decode cX4_run 75 = .ok (.getfield 11, 3) := by decide +kernel
theorem dX4_run_78 : decode cX4_run 78 = .ok (.iload_n 3, 1) := by decide +kernel
theorem dX4_run_79 : decode cX4_run 79 = .ok (.aaload, 1) := by decide +kernel
theorem dX4_run_80 : decode cX4_run 80 = .ok (.getfield 124, 3) := by decide +kernel
theorem dX4_run_83 : decode cX4_run 83 = .ok (.iload 4, 2) := by decide +kernel
theorem dX4_run_85 : decode cX4_run 85 = .ok (.aload_n 0, 1) := by decide +kernel
theorem dX4_run_86 : decode cX4_run 86 = .ok (.getfield 127, 3) := by decide +kernel
theorem dX4_run_89 : decode cX4_run 89 = .ok (.invokevirtual 137, 3) := by decide +kernel
theorem dX4_run_92 : decode cX4_run 92 = .ok (.putfield 124, 3) := by decide +kernel
theorem dX4_run_95 : decode cX4_run 95 = .ok (.iinc 3 1, 3) := by decide +kernel
theorem dX4_run_98 : decode cX4_run 98 = .ok (.goto (-59), 3) := by decide +kernel
theorem dX4_run_101 : decode cX4_run 101 = .ok (.aload_n 0, 1) := by decide +kernel
theorem dX4_run_102 : decode cX4_run 102 = .ok (.dup, 1) := by decide +kernel
theorem dX4_run_103 : decode cX4_run 103 = .ok (.getfield 127, 3) := by decide +kernel
theorem dX4_run_106 : decode cX4_run 106 = .ok (.iconst 1, 1) := by decide +kernel
theorem dX4_run_107 : decode cX4_run 107 = .ok (.iadd, 1) := by decide +kernel
theorem dX4_run_108 : decode cX4_run 108 = .ok (.putfield 127, 3) := by decide +kernel
theorem dX4_run_111 : decode cX4_run 111 = .ok (.iload_n 2, 1) := by decide +kernel
theorem dX4_run_112 : decode cX4_run 112 = .ok (.bipush 9, 2) := by decide +kernel
theorem dX4_run_114 : decode cX4_run 114 = .ok (.if_icmp .ne 5, 3) := by decide +kernel
theorem dX4_run_117 : decode cX4_run 117 = .ok (.iconst 0, 1) := by decide +kernel
theorem dX4_run_118 : decode cX4_run 118 = .ok (.ireturn, 1) := by decide +kernel
theorem dX4_run_119 : decode cX4_run 119 = .ok (.aload_n 0, 1) := by decide +kernel
theorem dX4_run_120 : decode cX4_run 120 = .ok (.getfield 11, 3) := by decide +kernel
theorem dX4_run_123 : decode cX4_run 123 = .ok (.iload_n 2, 1) := by decide +kernel
theorem dX4_run_124 : decode cX4_run 124 = .ok (.iconst 3, 1) := by decide +kernel
theorem dX4_run_125 : decode cX4_run 125 = .ok (.idiv, 1) := by decide +kernel
theorem dX4_run_126 : decode cX4_run 126 = .ok (.aaload, 1) := by decide +kernel
theorem dX4_run_127 : decode cX4_run 127 = .ok (.astore_n 3, 1) := by decide +kernel
theorem dX4_run_128 : decode cX4_run 128 = .ok (.aload_n 0, 1) := by decide +kernel
theorem dX4_run_129 : decode cX4_run 129 = .ok (.getfield 30, 3) := by decide +kernel
theorem dX4_run_132 : decode cX4_run 132 = .ok (.iload_n 2, 1) := by decide +kernel
theorem dX4_run_133 : decode cX4_run 133 = .ok (.iconst 3, 1) := by decide +kernel
theorem dX4_run_134 : decode cX4_run 134 = .ok (.idiv, 1) := by decide +kernel
theorem dX4_run_135 : decode cX4_run 135 = .ok (.aload_n 3, 1) := by decide +kernel
theorem dX4_run_136 : decode cX4_run 136 = .ok (.getfield 124, 3) := by decide +kernel
theorem dX4_run_139 : decode cX4_run 139 = .ok (.iload_n 2, 1) := by decide +kernel
theorem dX4_run_140 : decode cX4_run 140 = .ok (.iconst 3, 1) := by decide +kernel
theorem dX4_run_141 : decode cX4_run 141 = .ok (.irem, 1) := by decide +kernel
theorem dX4_run_142 : decode cX4_run 142 = .ok (.invokevirtual 141, 3) := by decide +kernel
theorem dX4_run_145 : decode cX4_run 145 = .ok (.istore 4, 2) := by decide +kernel
theorem dX4_run_147 : decode cX4_run 147 = .ok (.aload_n 3, 1) := by decide +kernel
theorem dX4_run_148 : decode cX4_run 148 = .ok (.aload_n 0, 1) := by decide +kernel
theorem dX4_run_149 : decode cX4_run 149 = .ok (.getfield 30, 3) := by decide +kernel
theorem dX4_run_152 : decode cX4_run 152 = .ok (.iload_n 2, 1) := by decide +kernel
theorem dX4_run_153 : decode cX4_run 153 = .ok (.iconst 3, 1) := by decide +kernel
theorem dX4_run_154 : decode cX4_run 154 = .ok (.idiv, 1) := by decide +kernel
theorem dX4_run_155 : decode cX4_run 155 = .ok (.aload_n 3, 1) := by decide +kernel
theorem dX4_run_156 : decode cX4_run 156 = .ok (.getfield 124, 3) := by decide +kernel
theorem dX4_run_159 : decode cX4_run 159 = .ok (.iload_n 2, 1) := by decide +kernel
theorem dX4_run_160 : decode cX4_run 160 = .ok (.iconst 3, 1) := by decide +kernel
theorem dX4_run_161 : decode cX4_run 161 = .ok (.irem, 1) := by decide +kernel
theorem dX4_run_162 : decode cX4_run 162 = .ok (.invokevirtual 142, 3) := by decide +kernel
theorem dX4_run_165 : decode cX4_run 165 = .ok (.putfield 124, 3) := by decide +kernel
theorem dX4_run_168 : decode cX4_run 168 = .ok (.iload 4, 2) := by decide +kernel
theorem dX4_run_170 : decode cX4_run 170 = .ok (.ireturn, 1) := by decide +kernel
set_option maxRecDepth 20000 in
theorem ggX4_state_X4_isThing : GoodIn wsX4_state wsX4_isThing := goodIn_r _ [7, 8, 9, 10, 11, 12, 13, 14, 15] (by decide +kernel) (by decide +kernel)
set_option maxRecDepth 20000 in
theorem gX4_state_X4_isThing : GoodIn wsX4_state (wsV RX4 50 RX4 yX4_isThing wsX4_isThing) := goodIn_app (goodIn_of _ (by decide +kernel)) ggX4_state_X4_isThing
theorem dX4_state_0 : decode cX4_state 0 = .ok (.aload_n 0, 1) := by decide +kernel
theorem dX4_state_1 : decode cX4_state 1 = .ok (.iload_n 1, 1) := by decide +kernel
theorem dX4_state_2 : decode cX4_state 2 = .ok (.invokevirtual 50, 3) := by decide +kernel
theorem dX4_state_5 : decode cX4_state 5 = .ok (.ifCond .eq 15, 3) := by decide +kernel
theorem dX4_state_8 : decode cX4_state 8 = .ok (.aload_n 0, 1) := by decide +kernel
theorem dX4_state_9 : decode cX4_state 9 = .ok (.getfield 11, 3) := by decide +kernel
theorem dX4_state_12 : decode cX4_state 12 = .ok (.iload_n 1, 1) := by decide +kernel
theorem dX4_state_13 : decode cX4_state 13 = .ok (.aaload, 1) := by decide +kernel
theorem dX4_state_14 : decode cX4_state 14 = .ok (.getfield 124, 3) := by decide +kernel
theorem dX4_state_17 : decode cX4_state 17 = .ok (.goto 4, 3) := by decide +kernel
theorem dX4_state_20 : decode cX4_state 20 = .ok (.iconst (-1), 1) := by decide +kernel
theorem dX4_state_21 : decode cX4_state 21 = .ok (.ireturn, 1) := by decide +kernel
theorem dX4_ticks_0 : decode cX4_ticks 0 = .ok (.aload_n 0, 1) := by decide +kernel
theorem dX4_ticks_1 : decode cX4_ticks 1 = .ok (.getfield 127, 3) := by decide +kernel
theorem dX4_ticks_4 : decode cX4_ticks 4 = .ok (.ireturn, 1) := by decide +kernel
set_option maxRecDepth 20000 in
theorem ggX4_walls_X4_sumOf : GoodIn wsX4_walls wsX4_sumOf := goodIn_r _ [6, 1, 7, 8, 9, 10, 5, 11, 108, 109, 110, 111, 112, 113, 114, 115, 116, 117, 118, 119, 120, 121, 122, 123] (by decide +kernel) (by decide +kernel)
set_option maxRecDepth 20000 in
theorem gX4_walls_X4_sumOf : GoodIn wsX4_walls (wsV RX4 76 RX4 yX4_sumOf wsX4_sumOf) := goodIn_app (goodIn_of _ (by decide +kernel)) ggX4_walls_X4_sumOf
set_option maxRecDepth 20000 in
theorem ggX4_walls_X4_lettersBehind : GoodIn wsX4_walls wsX4_lettersBehind := goodIn_r _ [15, 16, 7, 1, 17, 18, 19, 20, 21, 22, 23, 24, 25, 26, 27, 28, 10, 5, 11, 29, 30, 31, 32, 33, 34, 35, 36, 37, 38, 39, 40, 41, 42, 43, 44, 45, 46, 47, 48, 49, 50, 51, 52, 53, 54, 55, 56, 57, 58, 59, 60, 61, 62, 63, 64, 65, 66, 67, 68, 69, 70, 71, 72, 73, 74, 75, 76, 77, 78, 79, 80, 81, 82, 83, 84, 85, 86, 87, 88, 89, 90, 91, 92, 93, 94, 95, 96, 97, 98, 99, 100, 101, 102, 103, 104, 105, 106, 107, 108, 109, 110, 111, 112, 113, 114, 124, 125, 126, 127, 128, 129, 130, 115, 116, 117, 118, 119, 120, 121, 122, 123] (by decide +kernel) (by decide +kernel)
set_option maxRecDepth 20000 in
theorem gX4_walls_X4_lettersBehind : GoodIn wsX4_walls (wsV RX4 145 RX4 yX4_lettersBehind wsX4_lettersBehind) := goodIn_app (goodIn_of _ (by decide +kernel)) ggX4_walls_X4_lettersBehind
theorem dX4_walls_0 : decode cX4_walls 0 = .ok (.iload_n 1, 1) := by decide +kernel
theorem dX4_walls_1 : decode cX4_walls 1 = .ok (.iconst 1, 1) := by decide +kernel
theorem dX4_walls_2 : decode cX4_walls 2 = .ok (.if_icmp .lt 28, 3) := by decide +kernel
theorem dX4_walls_5 : decode cX4_walls 5 = .ok (.iload_n 1, 1) := by decide +kernel
theorem dX4_walls_6 : decode cX4_walls 6 = .ok (.sipush 4096, 3) := by decide +kernel
theorem dX4_walls_9 : decode cX4_walls 9 = .ok (.if_icmp .gt 21, 3) := by decide +kernel
theorem dX4_walls_12 : decode cX4_walls 12 = .ok (.iload_n 2, 1) := by decide +kernel
theorem dX4_walls_13 : decode cX4_walls 13 = .ok (.ifCond .lt 17, 3) := by decide +kernel
theorem dX4_walls_16 : decode cX4_walls 16 = .ok (.iload_n 2, 1) := by decide +kernel
theorem dX4_walls_17 : decode cX4_walls 17 = .ok (.iconst 2, 1) := by decide +kernel
theorem dX4_walls_18 : decode cX4_walls 18 = .ok (.if_icmp .gt 12, 3) := by decide +kernel
theorem dX4_walls_21 : decode cX4_walls 21 = .ok (.iload_n 3, 1) := by decide +kernel
theorem dX4_walls_22 : decode cX4_walls 22 = .ok (.ifCond .lt 8, 3) := by decide +kernel
theorem dX4_walls_25 : decode cX4_walls 25 = .ok (.iload_n 3, 1) := by decide +kernel
theorem dX4_walls_26 : decode cX4_walls 26 = .ok (.iconst 1, 1) := by decide +kernel
theorem dX4_walls_27 : decode cX4_walls 27 = .ok (.if_icmp .le 5, 3) := by decide +kernel
theorem dX4_walls_30 : decode cX4_walls 30 = .ok (.iconst (-1), 1) := by decide +kernel
theorem dX4_walls_31 : decode cX4_walls 31 = .ok (.ireturn, 1) := by decide +kernel
theorem dX4_walls_32 : decode cX4_walls 32 = .ok (.iconst (-1), 1) := by decide +kernel
theorem dX4_walls_33 : decode cX4_walls 33 = .ok (.istore 4, 2) := by decide +kernel
theorem dX4_walls_35 : decode cX4_walls 35 = .ok (.iconst 0, 1) := by decide +kernel
theorem dX4_walls_36 : decode cX4_walls 36 = .ok (.istore 5, 2) := by decide +kernel
theorem dX4_walls_38 : decode cX4_walls 38 = .ok (.iload 5, 2) := by decide +kernel
theorem dX4_walls_40 : decode cX4_walls 40 = .ok (.iconst 1, 1) := by decide +kernel
theorem dX4_walls_41 : decode cX4_walls 41 = .ok (.iconst 2, 1) := by decide +kernel
theorem dX4_walls_42 : decode cX4_walls 42 = .ok (.aload_n 0, 1) := by decide +kernel
theorem dX4_walls_43 : decode cX4_walls 43 = .ok (.getfield 39, 3) := by decide +kernel
theorem dX4_walls_46 : decode cX4_walls 46 = .ok (.imul, 1) := by decide +kernel
theorem dX4_walls_47 : decode cX4_walls 47 = .ok (.ishl, 1) := by decide +kernel
theorem dX4_walls_48 : decode cX4_walls 48 = .ok (.if_icmp .ge 57, 3) := by decide +kernel
theorem dX4_walls_51 : decode cX4_walls 51 = .ok (.iload 4, 2) := by decide +kernel
theorem dX4_walls_53 : decode cX4_walls 53 = .ok (.iconst (-1), 1) := by decide +kernel
theorem dX4_walls_54 : decode cX4_walls 54 = .ok (.if_icmp .eq 18, 3) := by decide +kernel
theorem dX4_walls_57 : decode cX4_walls 57 = .ok (.aload_n 0, 1) := by decide +kernel
theorem dX4_walls_58 : decode cX4_walls 58 = .ok (.iload 5, 2) := by decide +kernel
theorem dX4_walls_60 : decode cX4_walls 60 = .ok (.invokevirtual 76, 3) := by decide +kernel
theorem dX4_walls_63 : decode cX4_walls 63 = .ok (.aload_n 0, 1) := by decide +kernel
theorem dX4_walls_64 : decode cX4_walls 64 = .ok (.iload 4, 2) := by decide +kernel
theorem dX4_walls_66 : decode cX4_walls 66 = .ok (.invokevirtual 76, 3) := by decide +kernel
theorem dX4_walls_69 : decode cX4_walls 69 = .ok (.if_icmp .ge 7, 3) := by decide +kernel
theorem dX4_walls_72 : decode cX4_walls 72 = .ok (.iconst 1, 1) := by decide +kernel
theorem dX4_walls_73 : decode cX4_walls 73 = .ok (.goto 4, 3) := by decide +kernel
theorem dX4_walls_76 : decode cX4_walls 76 = .ok (.iconst 0, 1) := by decide +kernel
theorem dX4_walls_77 : decode cX4_walls 77 = .ok (.istore 6, 2) := by decide +kernel
theorem dX4_walls_79 : decode cX4_walls 79 = .ok (.iload 6, 2) := by decide +kernel
theorem dX4_walls_81 : decode cX4_walls 81 = .ok (.ifCond .eq 18, 3) := by decide +kernel
theorem dX4_walls_84 : decode cX4_walls 84 = .ok (.aload_n 0, 1) := by decide +kernel
theorem dX4_walls_85 : decode cX4_walls 85 = .ok (.iload 5, 2) := by decide +kernel
theorem dX4_walls_87 : decode cX4_walls 87 = .ok (.iload_n 2, 1) := by decide +kernel
theorem dX4_walls_88 : decode cX4_walls 88 = .ok (.invokevirtual 145, 3) := by decide +kernel
theorem dX4_walls_91 : decode cX4_walls 91 = .ok (.iload_n 1, 1) := by decide +kernel
theorem dX4_walls_92 : decode cX4_walls 92 = .ok (.if_icmp .gt 7, 3) := by decide +kernel
theorem dX4_walls_95 : decode cX4_walls 95 = .ok (.iload 5, 2) := by decide +kernel
theorem dX4_walls_97 : decode cX4_walls 97 = .ok (.istore 4, 2) := by decide +kernel
theorem dX4_walls_99 : decode cX4_walls 99 = .ok (.iinc 5 1, 3) := by decide +kernel
theorem dX4_walls_102 : decode cX4_walls 102 = .ok (.goto (-64), 3) := by decide +kernel
theorem dX4_walls_105 : decode cX4_walls 105 = .ok (.iload_n 3, 1) := by decide +kernel
theorem dX4_walls_106 : decode cX4_walls 106 = .ok (.ifCond .ne 18, 3) := by decide +kernel
theorem dX4_walls_109 : decode cX4_walls 109 = .ok (.iload 4, 2) := by decide +kernel
theorem dX4_walls_111 : decode cX4_walls 111 = .ok (.iconst (-1), 1) := by decide +kernel
theorem dX4_walls_112 : decode cX4_walls 112 = .ok (.if_icmp .eq 12, 3) := by decide +kernel
theorem dX4_walls_115 : decode cX4_walls 115 = .ok (.aload_n 0, 1) := by decide +kernel
theorem dX4_walls_116 : decode cX4_walls 116 = .ok (.iload 4, 2) := by decide +kernel
theorem dX4_walls_118 : decode cX4_walls 118 = .ok (.invokevirtual 76, 3) := by decide +kernel
theorem dX4_walls_121 : decode cX4_walls 121 = .ok (.goto 5, 3) := by decide +kernel
theorem dX4_walls_124 : decode cX4_walls 124 = .ok (.iload 4, 2) := by decide +kernel
theorem dX4_walls_126 : decode cX4_walls 126 = .ok (.ireturn, 1) := by decide +kernel
set_option maxRecDepth 20000 in
theorem ggX4_give_X4_wallIn : GoodIn wsX4_give wsX4_wallIn := goodIn_r _ [8] (by decide +kernel) (by decide +kernel)
set_option maxRecDepth 20000 in
theorem gX4_give_X4_wallIn : GoodIn wsX4_give (va_wsS RX4 148 yX4_wallIn wsX4_wallIn) := goodIn_app (goodIn_of _ (by decide +kernel)) ggX4_give_X4_wallIn
theorem dX4_give_0 : decode cX4_give 0 = .ok (.iload_n 1, 1) := by decide +kernel
theorem dX4_give_1 : decode cX4_give 1 = .ok (.ifCond .lt 9, 3) := by decide +kernel
theorem dX4_give_4 : decode cX4_give 4 = .ok (.iload_n 1, 1) := by decide +kernel
theorem dX4_give_5 : decode cX4_give 5 = .ok (.bipush 64, 2) := by decide +kernel
theorem dX4_give_7 : decode cX4_give 7 = .ok (.if_icmp .lt 5, 3) := by decide +kernel
theorem dX4_give_10 : decode cX4_give 10 = .ok (.iconst 0, 1) := by decide +kernel
theorem dX4_give_11 : decode cX4_give 11 = .ok (.ireturn, 1) := by decide +kernel
theorem dX4_give_12 : decode cX4_give 12 = .ok (.iconst 0, 1) := by decide +kernel
theorem dX4_give_13 : decode cX4_give 13 = .ok (.istore_n 2, 1) := by decide +kernel
theorem dX4_give_14 : decode cX4_give 14 = .ok (.iload_n 2, 1) := by decide +kernel
theorem dX4_give_15 : decode cX4_give 15 = .ok (.aload_n 0, 1) := by decide +kernel
theorem dX4_give_16 : decode cX4_give 16 = .ok (.getfield 39, 3) := by decide +kernel
theorem dX4_give_19 : decode cX4_give 19 = .ok (.if_icmp .ge 23, 3) := by decide +kernel
theorem dX4_give_22 : decode cX4_give 22 = .ok (.aload_n 0, 1) := by decide +kernel
theorem dX4_give_23 : decode cX4_give 23 = .ok (.getfield 11, 3) := by decide +kernel
theorem dX4_give_26 : decode cX4_give 26 = .ok (.iload_n 2, 1) := by decide +kernel
theorem dX4_give_27 : decode cX4_give 27 = .ok (.aaload, 1) := by decide +kernel
theorem dX4_give_28 : decode cX4_give 28 = .ok (.iload_n 1, 1) := by decide +kernel
theorem dX4_give_29 : decode cX4_give 29 = .ok (.iload_n 2, 1) := by decide +kernel
theorem dX4_give_30 : decode cX4_give 30 = .ok (.invokestatic 148, 3) := by decide +kernel
theorem dX4_give_33 : decode cX4_give 33 = .ok (.putfield 58, 3) := by decide +kernel
theorem dX4_give_36 : decode cX4_give 36 = .ok (.iinc 2 1, 3) := by decide +kernel
theorem dX4_give_39 : decode cX4_give 39 = .ok (.goto (-25), 3) := by decide +kernel
theorem dX4_give_42 : decode cX4_give 42 = .ok (.aload_n 0, 1) := by decide +kernel
theorem dX4_give_43 : decode cX4_give 43 = .ok (.dup, 1) := by decide +kernel
theorem dX4_give_44 : decode cX4_give 44 = .ok (.getfield 43, 3) := by decide +kernel
theorem dX4_give_47 : decode cX4_give 47 = .ok (.iconst 1, 1) := by decide +kernel
theorem dX4_give_48 : decode cX4_give 48 = .ok (.iadd, 1) := by decide +kernel
theorem dX4_give_49 : decode cX4_give 49 = .ok (.putfield 43, 3) := by decide +kernel
theorem dX4_give_52 : decode cX4_give 52 = .ok (.iconst 1, 1) := by decide +kernel
theorem dX4_give_53 : decode cX4_give 53 = .ok (.ireturn, 1) := by decide +kernel
theorem dX4_isThing_0 : decode cX4_isThing 0 = .ok (.iload_n 1, 1) := by decide +kernel
theorem dX4_isThing_1 : decode cX4_isThing 1 = .ok (.ifCond .lt 15, 3) := by decide +kernel
theorem dX4_isThing_4 : decode cX4_isThing 4 = .ok (.iload_n 1, 1) := by decide +kernel
theorem dX4_isThing_5 : decode cX4_isThing 5 = .ok (.aload_n 0, 1) := by decide +kernel
theorem dX4_isThing_6 : decode cX4_isThing 6 = .ok (.getfield 39, 3) := by decide +kernel
theorem dX4_isThing_9 : decode cX4_isThing 9 = .ok (.if_icmp .ge 7, 3) := by decide +kernel
theorem dX4_isThing_12 : decode cX4_isThing 12 = .ok (.iconst 1, 1) := by decide +kernel
theorem dX4_isThing_13 : decode cX4_isThing 13 = .ok (.goto 4, 3) := by decide +kernel
theorem dX4_isThing_16 : decode cX4_isThing 16 = .ok (.iconst 0, 1) := by decide +kernel
theorem dX4_isThing_17 : decode cX4_isThing 17 = .ok (.ireturn, 1) := by decide +kernel
theorem dX4_isAct_0 : decode cX4_isAct 0 = .ok (.iload_n 1, 1) := by decide +kernel
theorem dX4_isAct_1 : decode cX4_isAct 1 = .ok (.bipush 9, 2) := by decide +kernel
theorem dX4_isAct_3 : decode cX4_isAct 3 = .ok (.if_icmp .eq 17, 3) := by decide +kernel
theorem dX4_isAct_6 : decode cX4_isAct 6 = .ok (.iload_n 1, 1) := by decide +kernel
theorem dX4_isAct_7 : decode cX4_isAct 7 = .ok (.ifCond .lt 17, 3) := by decide +kernel
theorem dX4_isAct_10 : decode cX4_isAct 10 = .ok (.iload_n 1, 1) := by decide +kernel
theorem dX4_isAct_11 : decode cX4_isAct 11 = .ok (.iconst 3, 1) := by decide +kernel
theorem dX4_isAct_12 : decode cX4_isAct 12 = .ok (.aload_n 0, 1) := by decide +kernel
theorem dX4_isAct_13 : decode cX4_isAct 13 = .ok (.getfield 39, 3) := by decide +kernel
theorem dX4_isAct_16 : decode cX4_isAct 16 = .ok (.imul, 1) := by decide +kernel
theorem dX4_isAct_17 : decode cX4_isAct 17 = .ok (.if_icmp .ge 7, 3) := by decide +kernel
theorem dX4_isAct_20 : decode cX4_isAct 20 = .ok (.iconst 1, 1) := by decide +kernel
theorem dX4_isAct_21 : decode cX4_isAct 21 = .ok (.goto 4, 3) := by decide +kernel
theorem dX4_isAct_24 : decode cX4_isAct 24 = .ok (.iconst 0, 1) := by decide +kernel
theorem dX4_isAct_25 : decode cX4_isAct 25 = .ok (.ireturn, 1) := by decide +kernel
theorem dX4_canBe_0 : decode cX4_canBe 0 = .ok (.iload_n 1, 1) := by decide +kernel
theorem dX4_canBe_1 : decode cX4_canBe 1 = .ok (.ifCond .lt 25, 3) := by decide +kernel
theorem dX4_canBe_4 : decode cX4_canBe 4 = .ok (.iload_n 1, 1) := by decide +kernel
theorem dX4_canBe_5 : decode cX4_canBe 5 = .ok (.iload_n 0, 1) := by decide +kernel
theorem dX4_canBe_6 : decode cX4_canBe 6 = .ok (.ifCond .eq 8, 3) := by decide +kernel
theorem dX4_canBe_9 : decode cX4_canBe 9 = .ok (.iload_n 0, 1) := by decide +kernel
theorem dX4_canBe_10 : decode cX4_canBe 10 = .ok (.iconst 2, 1) := by decide +kernel
theorem dX4_canBe_11 : decode cX4_canBe 11 = .ok (.if_icmp .ne 7, 3) := by decide +kernel
theorem dX4_canBe_14 : decode cX4_canBe 14 = .ok (.iconst 3, 1) := by decide +kernel
theorem dX4_canBe_15 : decode cX4_canBe 15 = .ok (.goto 4, 3) := by decide +kernel
theorem dX4_canBe_18 : decode cX4_canBe 18 = .ok (.iconst 4, 1) := by decide +kernel
theorem dX4_canBe_19 : decode cX4_canBe 19 = .ok (.if_icmp .ge 7, 3) := by decide +kernel
theorem dX4_canBe_22 : decode cX4_canBe 22 = .ok (.iconst 1, 1) := by decide +kernel
theorem dX4_canBe_23 : decode cX4_canBe 23 = .ok (.goto 4, 3) := by decide +kernel
theorem dX4_canBe_26 : decode cX4_canBe 26 = .ok (.iconst 0, 1) := by decide +kernel
theorem dX4_canBe_27 : decode cX4_canBe 27 = .ok (.ireturn, 1) := by decide +kernel
theorem dX4_canHave_0 : decode cX4_canHave 0 = .ok (.iload_n 0, 1) := by decide +kernel
theorem dX4_canHave_1 : decode cX4_canHave 1 = .ok (.tableswitch 64 0 3 #[31, 33, 31, 49], 31) := by decide +kernel
theorem dX4_canHave_32 : decode cX4_canHave 32 = .ok (.iconst 1, 1) := by decide +kernel
theorem dX4_canHave_33 : decode cX4_canHave 33 = .ok (.ireturn, 1) := by decide +kernel
theorem dX4_canHave_34 : decode cX4_canHave 34 = .ok (.iload_n 1, 1) := by decide +kernel
theorem dX4_canHave_35 : decode cX4_canHave 35 = .ok (.iconst 1, 1) := by decide +kernel
theorem dX4_canHave_36 : decode cX4_canHave 36 = .ok (.if_icmp .lt 12, 3) := by decide +kernel
theorem dX4_canHave_39 : decode cX4_canHave 39 = .ok (.iload_n 1, 1) := by decide +kernel
theorem dX4_canHave_40 : decode cX4_canHave 40 = .ok (.iconst 4, 1) := by decide +kernel
theorem dX4_canHave_41 : decode cX4_canHave 41 = .ok (.if_icmp .gt 7, 3) := by decide +kernel
theorem dX4_canHave_44 : decode cX4_canHave 44 = .ok (.iconst 1, 1) := by decide +kernel
theorem dX4_canHave_45 : decode cX4_canHave 45 = .ok (.goto 4, 3) := by decide +kernel
theorem dX4_canHave_48 : decode cX4_canHave 48 = .ok (.iconst 0, 1) := by decide +kernel
theorem dX4_canHave_49 : decode cX4_canHave 49 = .ok (.ireturn, 1) := by decide +kernel
theorem dX4_canHave_50 : decode cX4_canHave 50 = .ok (.iload_n 1, 1) := by decide +kernel
theorem dX4_canHave_51 : decode cX4_canHave 51 = .ok (.ifCond .lt 12, 3) := by decide +kernel
theorem dX4_canHave_54 : decode cX4_canHave 54 = .ok (.iload_n 1, 1) := by decide +kernel
theorem dX4_canHave_55 : decode cX4_canHave 55 = .ok (.iconst 3, 1) := by decide +kernel
theorem dX4_canHave_56 : decode cX4_canHave 56 = .ok (.if_icmp .gt 7, 3) := by decide +kernel
theorem dX4_canHave_59 : decode cX4_canHave 59 = .ok (.iconst 1, 1) := by decide +kernel
theorem dX4_canHave_60 : decode cX4_canHave 60 = .ok (.goto 4, 3) := by decide +kernel
theorem dX4_canHave_63 : decode cX4_canHave 63 = .ok (.iconst 0, 1) := by decide +kernel
theorem dX4_canHave_64 : decode cX4_canHave 64 = .ok (.ireturn, 1) := by decide +kernel
theorem dX4_canHave_65 : decode cX4_canHave 65 = .ok (.iconst 0, 1) := by decide +kernel
theorem dX4_canHave_66 : decode cX4_canHave 66 = .ok (.ireturn, 1) := by decide +kernel
set_option maxRecDepth 20000 in
theorem ggX4_come_X4_canBe : GoodIn wsX4_come wsX4_canBe := goodIn_r _ [7] (by decide +kernel) (by decide +kernel)
set_option maxRecDepth 20000 in
theorem gX4_come_X4_canBe : GoodIn wsX4_come (va_wsS RX4 92 yX4_canBe wsX4_canBe) := goodIn_app (goodIn_of _ (by decide +kernel)) ggX4_come_X4_canBe
set_option maxRecDepth 20000 in
theorem ggX4_come_X2_come : GoodIn wsX4_come wsX2_come := goodIn_r _ [12, 13, 14, 15, 16, 17, 18, 19, 20, 21, 22, 23, 24, 25, 33, 34, 35, 36, 37, 38, 39, 40, 41] (by decide +kernel) (by decide +kernel)
set_option maxRecDepth 20000 in
theorem gX4_come_X2_come : GoodIn wsX4_come (wsV RX4 151 RX2 yX2_come wsX2_come) := goodIn_app (goodIn_of _ (by decide +kernel)) ggX4_come_X2_come
theorem dX4_come_0 : decode cX4_come 0 = .ok (.aload_n 0, 1) := by decide +kernel
theorem dX4_come_1 : decode cX4_come 1 = .ok (.getfield 39, 3) := by decide +kernel
theorem dX4_come_4 : decode cX4_come 4 = .ok (.iconst 3, 1) := by decide +kernel
theorem dX4_come_5 : decode cX4_come 5 = .ok (.if_icmp .ge 11, 3) := by decide +kernel
theorem dX4_come_8 : decode cX4_come 8 = .ok (.iload_n 1, 1) := by decide +kernel
theorem dX4_come_9 : decode cX4_come 9 = .ok (.iload_n 2, 1) := by decide +kernel
theorem dX4_come_10 : decode cX4_come 10 = .ok (.invokestatic 92, 3) := by decide +kernel
theorem dX4_come_13 : decode cX4_come 13 = .ok (.ifCond .ne 5, 3) := by decide +kernel
theorem dX4_come_16 : decode cX4_come 16 = .ok (.iconst (-1), 1) := by decide +kernel
theorem dX4_come_17 : decode cX4_come 17 = .ok (.ireturn, 1) := by decide +kernel
theorem dX4_come_18 : decode cX4_come 18 = .ok (.aload_n 0, 1) := by decide +kernel
theorem dX4_come_19 : decode cX4_come 19 = .ok (.getfield 11, 3) := by decide +kernel
theorem dX4_come_22 : decode cX4_come 22 = .ok (.aload_n 0, 1) := by decide +kernel
theorem dX4_come_23 : decode cX4_come 23 = .ok (.getfield 39, 3) := by decide +kernel
theorem dX4_come_26 : decode cX4_come 26 = .ok (.aaload, 1) := by decide +kernel
theorem dX4_come_27 : decode cX4_come 27 = .ok (.iload_n 1, 1) := by decide +kernel
theorem dX4_come_28 : decode cX4_come 28 = .ok (.iload_n 2, 1) := by decide +kernel
theorem dX4_come_29 : decode cX4_come 29 = .ok (.lload_n 3, 1) := by decide +kernel
theorem dX4_come_30 : decode cX4_come 30 = .ok (.lload 5, 2) := by decide +kernel
theorem dX4_come_32 : decode cX4_come 32 = .ok (.invokevirtual 151, 3) := by decide +kernel
theorem dX4_come_35 : decode cX4_come 35 = .ok (.aload_n 0, 1) := by decide +kernel
theorem dX4_come_36 : decode cX4_come 36 = .ok (.dup, 1) := by decide +kernel
theorem dX4_come_37 : decode cX4_come 37 = .ok (.getfield 39, 3) := by decide +kernel
theorem dX4_come_40 : decode cX4_come 40 = .ok (.iconst 1, 1) := by decide +kernel
theorem dX4_come_41 : decode cX4_come 41 = .ok (.iadd, 1) := by decide +kernel
theorem dX4_come_42 : decode cX4_come 42 = .ok (.putfield 39, 3) := by decide +kernel
theorem dX4_come_45 : decode cX4_come 45 = .ok (.aload_n 0, 1) := by decide +kernel
theorem dX4_come_46 : decode cX4_come 46 = .ok (.dup, 1) := by decide +kernel
theorem dX4_come_47 : decode cX4_come 47 = .ok (.getfield 43, 3) := by decide +kernel
theorem dX4_come_50 : decode cX4_come 50 = .ok (.iconst 1, 1) := by decide +kernel
theorem dX4_come_51 : decode cX4_come 51 = .ok (.iadd, 1) := by decide +kernel
theorem dX4_come_52 : decode cX4_come 52 = .ok (.putfield 43, 3) := by decide +kernel
theorem dX4_come_55 : decode cX4_come 55 = .ok (.aload_n 0, 1) := by decide +kernel
theorem dX4_come_56 : decode cX4_come 56 = .ok (.getfield 39, 3) := by decide +kernel
theorem dX4_come_59 : decode cX4_come 59 = .ok (.iconst 1, 1) := by decide +kernel
theorem dX4_come_60 : decode cX4_come 60 = .ok (.isub, 1) := by decide +kernel
theorem dX4_come_61 : decode cX4_come 61 = .ok (.ireturn, 1) := by decide +kernel
theorem dX4_wallIn_0 : decode cX4_wallIn 0 = .ok (.iload_n 0, 1) := by decide +kernel
theorem dX4_wallIn_1 : decode cX4_wallIn 1 = .ok (.iconst 2, 1) := by decide +kernel
theorem dX4_wallIn_2 : decode cX4_wallIn 2 = .ok (.iload_n 1, 1) := by decide +kernel
theorem dX4_wallIn_3 : decode cX4_wallIn 3 = .ok (.imul, 1) := by decide +kernel
theorem dX4_wallIn_4 : decode cX4_wallIn 4 = .ok (.ishr, 1) := by decide +kernel
theorem dX4_wallIn_5 : decode cX4_wallIn 5 = .ok (.iconst 3, 1) := by decide +kernel
theorem dX4_wallIn_6 : decode cX4_wallIn 6 = .ok (.iand, 1) := by decide +kernel
theorem dX4_wallIn_7 : decode cX4_wallIn 7 = .ok (.ireturn, 1) := by decide +kernel
theorem dX4_wallsNow_0 : decode cX4_wallsNow 0 = .ok (.iconst 0, 1) := by decide +kernel
theorem dX4_wallsNow_1 : decode cX4_wallsNow 1 = .ok (.istore_n 1, 1) := by decide +kernel
theorem dX4_wallsNow_2 : decode cX4_wallsNow 2 = .ok (.iconst 0, 1) := by decide +kernel
theorem dX4_wallsNow_3 : decode cX4_wallsNow 3 = .ok (.istore_n 2, 1) := by decide +kernel
theorem dX4_wallsNow_4 : decode cX4_wallsNow 4 = .ok (.iload_n 2, 1) := by decide +kernel
theorem dX4_wallsNow_5 : decode cX4_wallsNow 5 = .ok (.aload_n 0, 1) := by decide +kernel
theorem dX4_wallsNow_6 : decode cX4_wallsNow 6 = .ok (.getfield 39, 3) := by decide +kernel
theorem dX4_wallsNow_9 : decode cX4_wallsNow 9 = .ok (.if_icmp .ge 25, 3) := by decide +kernel
theorem dX4_wallsNow_12 : decode cX4_wallsNow 12 = .ok (.iload_n 1, 1) := by decide +kernel
theorem dX4_wallsNow_13 : decode cX4_wallsNow 13 = .ok (.aload_n 0, 1) := by decide +kernel
theorem dX4_wallsNow_14 : decode cX4_wallsNow 14 = .ok (.getfield 11, 3) := by decide +kernel
theorem dX4_wallsNow_17 : decode cX4_wallsNow 17 = .ok (.iload_n 2, 1) := by decide +kernel
theorem dX4_wallsNow_18 : decode cX4_wallsNow 18 = .ok (.aaload, 1) := by decide +kernel
theorem dX4_wallsNow_19 : decode cX4_wallsNow 19 = .ok (.getfield 58, 3) := by decide +kernel
theorem dX4_wallsNow_22 : decode cX4_wallsNow 22 = .ok (.iconst 2, 1) := by decide +kernel
theorem dX4_wallsNow_23 : decode cX4_wallsNow 23 = .ok (.iload_n 2, 1) := by decide +kernel
theorem dX4_wallsNow_24 : decode cX4_wallsNow 24 = .ok (.imul, 1) := by decide +kernel
theorem dX4_wallsNow_25 : decode cX4_wallsNow 25 = .ok (.ishl, 1) := by decide +kernel
theorem dX4_wallsNow_26 : decode cX4_wallsNow 26 = .ok (.ior, 1) := by decide +kernel
theorem dX4_wallsNow_27 : decode cX4_wallsNow 27 = .ok (.istore_n 1, 1) := by decide +kernel
theorem dX4_wallsNow_28 : decode cX4_wallsNow 28 = .ok (.iinc 2 1, 3) := by decide +kernel
theorem dX4_wallsNow_31 : decode cX4_wallsNow 31 = .ok (.goto (-27), 3) := by decide +kernel
theorem dX4_wallsNow_34 : decode cX4_wallsNow 34 = .ok (.iload_n 1, 1) := by decide +kernel
theorem dX4_wallsNow_35 : decode cX4_wallsNow 35 = .ok (.ireturn, 1) := by decide +kernel
set_option maxRecDepth 20000 in
theorem ggX4_sumOf_X4_wallIn : GoodIn wsX4_sumOf wsX4_wallIn := goodIn_r _ [7] (by decide +kernel) (by decide +kernel)
set_option maxRecDepth 20000 in
theorem gX4_sumOf_X4_wallIn : GoodIn wsX4_sumOf (va_wsS RX4 148 yX4_wallIn wsX4_wallIn) := goodIn_app (goodIn_of _ (by decide +kernel)) ggX4_sumOf_X4_wallIn
theorem dX4_sumOf_0 : decode cX4_sumOf 0 = .ok (.iconst 0, 1) := by decide +kernel
theorem dX4_sumOf_1 : decode cX4_sumOf 1 = .ok (.istore_n 2, 1) := by decide +kernel
theorem dX4_sumOf_2 : decode cX4_sumOf 2 = .ok (.iconst 0, 1) := by decide +kernel
theorem dX4_sumOf_3 : decode cX4_sumOf 3 = .ok (.istore_n 3, 1) := by decide +kernel
theorem dX4_sumOf_4 : decode cX4_sumOf 4 = .ok (.iload_n 3, 1) := by decide +kernel
theorem dX4_sumOf_5 : decode cX4_sumOf 5 = .ok (.aload_n 0, 1) := by decide +kernel
theorem dX4_sumOf_6 : decode cX4_sumOf 6 = .ok (.getfield 39, 3) := by decide +kernel
theorem dX4_sumOf_9 : decode cX4_sumOf 9 = .ok (.if_icmp .ge 27, 3) := by decide +kernel
theorem dX4_sumOf_12 : decode cX4_sumOf 12 = .ok (.iload_n 2, 1) := by decide +kernel
theorem dX4_sumOf_13 : decode cX4_sumOf 13 = .ok (.aload_n 0, 1) := by decide +kernel
theorem dX4_sumOf_14 : decode cX4_sumOf 14 = .ok (.getfield 11, 3) := by decide +kernel
theorem dX4_sumOf_17 : decode cX4_sumOf 17 = .ok (.iload_n 3, 1) := by decide +kernel
theorem dX4_sumOf_18 : decode cX4_sumOf 18 = .ok (.aaload, 1) := by decide +kernel
theorem dX4_sumOf_19 : decode cX4_sumOf 19 = .ok (.getfield 65, 3) := by decide +kernel
theorem dX4_sumOf_22 : decode cX4_sumOf 22 = .ok (.iload_n 1, 1) := by decide +kernel
theorem dX4_sumOf_23 : decode cX4_sumOf 23 = .ok (.iload_n 3, 1) := by decide +kernel
theorem dX4_sumOf_24 : decode cX4_sumOf 24 = .ok (.invokestatic 148, 3) := by decide +kernel
theorem dX4_sumOf_27 : decode cX4_sumOf 27 = .ok (.iaload, 1) := by decide +kernel
theorem dX4_sumOf_28 : decode cX4_sumOf 28 = .ok (.iadd, 1) := by decide +kernel
theorem dX4_sumOf_29 : decode cX4_sumOf 29 = .ok (.istore_n 2, 1) := by decide +kernel
theorem dX4_sumOf_30 : decode cX4_sumOf 30 = .ok (.iinc 3 1, 3) := by decide +kernel
theorem dX4_sumOf_33 : decode cX4_sumOf 33 = .ok (.goto (-29), 3) := by decide +kernel
theorem dX4_sumOf_36 : decode cX4_sumOf 36 = .ok (.iload_n 2, 1) := by decide +kernel
theorem dX4_sumOf_37 : decode cX4_sumOf 37 = .ok (.ireturn, 1) := by decide +kernel
set_option maxRecDepth 20000 in
theorem ggX4_countSilent_X4_pairOf : GoodIn wsX4_countSilent wsX4_pairOf := goodIn_r _ [7, 8, 9, 10, 11, 12, 1, 13, 14, 15, 6, 16, 17, 18, 19, 20, 21, 22, 23, 24, 25, 26, 27, 28, 29, 30, 31, 32, 33, 34, 35, 36, 37, 38, 39, 40, 41, 42, 43, 44, 45, 46, 47, 48, 49, 50, 51, 52, 53, 54, 55, 56, 57, 58, 59, 60, 61, 62, 63, 64, 65, 66, 67, 68, 69, 70, 71, 72, 73, 74, 75, 76, 77, 78, 79, 80, 81, 82, 83, 84, 85, 86, 87, 88, 89, 90, 91, 92, 93, 94, 95, 96, 97, 98, 99, 100, 101, 102, 103, 104, 105, 106, 107, 108, 109, 110, 111, 112, 113, 114, 115, 116, 117, 118, 119, 120, 121, 122, 123, 124, 125, 126, 127, 128, 129, 130, 131, 132, 133, 134, 135, 136, 137, 138, 139, 140, 141, 142, 143, 144, 145, 146, 147, 148, 149, 150, 151, 152, 153, 154, 155, 156, 157] (by decide +kernel) (by decide +kernel)
set_option maxRecDepth 20000 in
theorem gX4_countSilent_X4_pairOf : GoodIn wsX4_countSilent (wsV RX4 102 RX4 yX4_pairOf wsX4_pairOf) := goodIn_app (goodIn_of _ (by decide +kernel)) ggX4_countSilent_X4_pairOf
theorem dX4_countSilent_0 : decode cX4_countSilent 0 = .ok (.iconst 0, 1) := by decide +kernel
theorem dX4_countSilent_1 : decode cX4_countSilent 1 = .ok (.istore_n 1, 1) := by decide +kernel
theorem dX4_countSilent_2 : decode cX4_countSilent 2 = .ok (.iconst 0, 1) := by decide +kernel
theorem dX4_countSilent_3 : decode cX4_countSilent 3 = .ok (.istore_n 2, 1) := by decide +kernel
theorem dX4_countSilent_4 : decode cX4_countSilent 4 = .ok (.iload_n 2, 1) := by decide +kernel
theorem dX4_countSilent_5 : decode cX4_countSilent 5 = .ok (.aload_n 0, 1) := by decide +kernel
theorem dX4_countSilent_6 : decode cX4_countSilent 6 = .ok (.getfield 39, 3) := by decide +kernel
theorem dX4_countSilent_9 : decode cX4_countSilent 9 = .ok (.if_icmp .ge 28, 3) := by decide +kernel
theorem dX4_countSilent_12 : decode cX4_countSilent 12 = .ok (.iload_n 1, 1) := by decide +kernel
theorem dX4_countSilent_13 : decode cX4_countSilent 13 = .ok (.aload_n 0, 1) := by decide +kernel
theorem dX4_countSilent_14 : decode cX4_countSilent 14 = .ok (.iload_n 2, 1) := by decide +kernel
theorem dX4_countSilent_15 : decode cX4_countSilent 15 = .ok (.invokevirtual 102, 3) := by decide +kernel
theorem dX4_countSilent_18 : decode cX4_countSilent 18 = .ok (.getfield 106, 3) := by decide +kernel
theorem dX4_countSilent_21 : decode cX4_countSilent 21 = .ok (.ifCond .ne 7, 3) := by decide +kernel
theorem dX4_countSilent_24 : decode cX4_countSilent 24 = .ok (.iconst 1, 1) := by decide +kernel
theorem dX4_countSilent_25 : decode cX4_countSilent 25 = .ok (.goto 4, 3) := by decide +kernel
theorem dX4_countSilent_28 : decode cX4_countSilent 28 = .ok (.iconst 0, 1) := by decide +kernel
theorem dX4_countSilent_29 : decode cX4_countSilent 29 = .ok (.iadd, 1) := by decide +kernel
theorem dX4_countSilent_30 : decode cX4_countSilent 30 = .ok (.istore_n 1, 1) := by decide +kernel
theorem dX4_countSilent_31 : decode cX4_countSilent 31 = .ok (.iinc 2 1, 3) := by decide +kernel
theorem dX4_countSilent_34 : decode cX4_countSilent 34 = .ok (.goto (-30), 3) := by decide +kernel
theorem dX4_countSilent_37 : decode cX4_countSilent 37 = .ok (.iload_n 1, 1) := by decide +kernel
theorem dX4_countSilent_38 : decode cX4_countSilent 38 = .ok (.ireturn, 1) := by decide +kernel
set_option maxRecDepth 20000 in
theorem ggX4_pairOf_X4_wallsNow : GoodIn wsX4_pairOf wsX4_wallsNow := goodIn_r _ [11, 6, 5, 12, 122, 123, 124, 125, 126, 127, 128, 137, 138, 139, 140, 141, 142, 143, 144, 145] (by decide +kernel) (by decide +kernel)
set_option maxRecDepth 20000 in
theorem gX4_pairOf_X4_wallsNow : GoodIn wsX4_pairOf (wsV RX4 73 RX4 yX4_wallsNow wsX4_wallsNow) := goodIn_app (goodIn_of _ (by decide +kernel)) ggX4_pairOf_X4_wallsNow
set_option maxRecDepth 20000 in
theorem ggX4_pairOf_X1_build : GoodIn wsX4_pairOf wsX1_build := goodIn_r _ [17, 18, 19, 20, 21, 22, 23, 24, 10, 25, 26, 27, 28, 16, 29, 30, 31, 32, 33, 34, 35, 36, 37, 38, 39, 40, 41, 42, 43, 44, 45, 46, 47, 48, 49, 50, 51, 52, 53, 54, 55, 56, 57, 58, 59, 60, 61, 62, 63, 64, 65, 66, 67, 146, 147, 148, 149, 150, 151, 152, 137, 138, 139, 140, 141, 142, 143, 144, 145] (by decide +kernel) (by decide +kernel)
set_option maxRecDepth 20000 in
theorem gX4_pairOf_X1_build : GoodIn wsX4_pairOf (wsV RX4 133 RX1 yX1_build wsX1_build) := goodIn_app (goodIn_of _ (by decide +kernel)) ggX4_pairOf_X1_build
set_option maxRecDepth 20000 in
theorem ggX4_pairOf_X0_find : GoodIn wsX4_pairOf wsX0_find := goodIn_r _ [72, 73, 74, 75, 76, 77, 78, 79, 80, 81, 82, 71, 83, 84, 85, 86, 87, 88, 89, 90, 91, 92, 93, 94, 95, 96, 16, 97, 21, 30, 98, 99, 100, 101, 22, 52, 53, 54, 102, 103, 104, 105, 32, 106, 107, 108, 109, 110, 111, 112, 113, 114, 115, 116, 117, 31, 118, 119, 120, 121, 129, 130, 131, 132, 133, 134, 135, 136, 146, 147, 148, 149, 150, 151, 152] (by decide +kernel) (by decide +kernel)
set_option maxRecDepth 20000 in
theorem gX4_pairOf_X0_find : GoodIn wsX4_pairOf (wsV RX4 157 RX0 yX0_find wsX0_find) := goodIn_app (goodIn_of _ (by decide +kernel)) ggX4_pairOf_X0_find
theorem dX4_pairOf_0 : decode cX4_pairOf 0 = .ok (.aload_n 0, 1) := by decide +kernel
theorem dX4_pairOf_1 : decode cX4_pairOf 1 = .ok (.getfield 17, 3) := by decide +kernel
theorem dX4_pairOf_4 : decode cX4_pairOf 4 = .ok (.iload_n 1, 1) := by decide +kernel
theorem dX4_pairOf_5 : decode cX4_pairOf 5 = .ok (.aaload, 1) := by decide +kernel
theorem dX4_pairOf_6 : decode cX4_pairOf 6 = .ok (.astore_n 2, 1) := by decide +kernel
theorem dX4_pairOf_7 : decode cX4_pairOf 7 = .ok (.aload_n 2, 1) := by decide +kernel
theorem dX4_pairOf_8 : decode cX4_pairOf 8 = .ok (.getfield 154, 3) := by decide +kernel
theorem dX4_pairOf_11 : decode cX4_pairOf 11 = .ok (.aload_n 0, 1) := by decide +kernel
theorem dX4_pairOf_12 : decode cX4_pairOf 12 = .ok (.getfield 43, 3) := by decide +kernel
theorem dX4_pairOf_15 : decode cX4_pairOf 15 = .ok (.if_icmp .eq 39, 3) := by decide +kernel
theorem dX4_pairOf_18 : decode cX4_pairOf 18 = .ok (.aload_n 0, 1) := by decide +kernel
theorem dX4_pairOf_19 : decode cX4_pairOf 19 = .ok (.getfield 30, 3) := by decide +kernel
theorem dX4_pairOf_22 : decode cX4_pairOf 22 = .ok (.aload_n 0, 1) := by decide +kernel
theorem dX4_pairOf_23 : decode cX4_pairOf 23 = .ok (.getfield 11, 3) := by decide +kernel
theorem dX4_pairOf_26 : decode cX4_pairOf 26 = .ok (.aload_n 0, 1) := by decide +kernel
theorem dX4_pairOf_27 : decode cX4_pairOf 27 = .ok (.getfield 39, 3) := by decide +kernel
theorem dX4_pairOf_30 : decode cX4_pairOf 30 = .ok (.aload_n 0, 1) := by decide +kernel
theorem dX4_pairOf_31 : decode cX4_pairOf 31 = .ok (.invokevirtual 73, 3) := by decide +kernel
theorem dX4_pairOf_34 : decode cX4_pairOf 34 = .ok (.invokevirtual 133, 3) := by decide +kernel
theorem dX4_pairOf_37 : decode cX4_pairOf 37 = .ok (.aload_n 2, 1) := by decide +kernel
theorem dX4_pairOf_38 : decode cX4_pairOf 38 = .ok (.aload_n 0, 1) := by decide +kernel
theorem dX4_pairOf_39 : decode cX4_pairOf 39 = .ok (.getfield 30, 3) := by decide +kernel
theorem dX4_pairOf_42 : decode cX4_pairOf 42 = .ok (.iload_n 1, 1) := by decide +kernel
theorem dX4_pairOf_43 : decode cX4_pairOf 43 = .ok (.invokevirtual 157, 3) := by decide +kernel
theorem dX4_pairOf_46 : decode cX4_pairOf 46 = .ok (.aload_n 2, 1) := by decide +kernel
theorem dX4_pairOf_47 : decode cX4_pairOf 47 = .ok (.aload_n 0, 1) := by decide +kernel
theorem dX4_pairOf_48 : decode cX4_pairOf 48 = .ok (.getfield 43, 3) := by decide +kernel
theorem dX4_pairOf_51 : decode cX4_pairOf 51 = .ok (.putfield 154, 3) := by decide +kernel
theorem dX4_pairOf_54 : decode cX4_pairOf 54 = .ok (.aload_n 2, 1) := by decide +kernel
theorem dX4_pairOf_55 : decode cX4_pairOf 55 = .ok (.areturn, 1) := by decide +kernel
set_option maxRecDepth 20000 in
theorem ggX4_whisperOf_X4_wallsNow : GoodIn wsX4_whisperOf wsX4_wallsNow := goodIn_r _ [13, 6, 5, 14, 140, 141, 142, 143, 144, 145, 146, 160, 161, 162, 163, 164, 165, 166, 167, 168] (by decide +kernel) (by decide +kernel)
set_option maxRecDepth 20000 in
theorem gX4_whisperOf_X4_wallsNow : GoodIn wsX4_whisperOf (wsV RX4 73 RX4 yX4_wallsNow wsX4_wallsNow) := goodIn_app (goodIn_of _ (by decide +kernel)) ggX4_whisperOf_X4_wallsNow
set_option maxRecDepth 20000 in
theorem ggX4_whisperOf_X1_build : GoodIn wsX4_whisperOf wsX1_build := goodIn_r _ [19, 20, 21, 22, 23, 24, 25, 26, 12, 27, 28, 29, 30, 18, 31, 32, 33, 34, 35, 36, 37, 38, 39, 40, 41, 42, 43, 44, 45, 46, 47, 48, 49, 50, 51, 52, 53, 54, 55, 56, 57, 58, 59, 60, 61, 62, 63, 64, 65, 66, 67, 68, 69, 153, 154, 155, 156, 157, 158, 159, 160, 161, 162, 163, 164, 165, 166, 167, 168] (by decide +kernel) (by decide +kernel)
set_option maxRecDepth 20000 in
theorem gX4_whisperOf_X1_build : GoodIn wsX4_whisperOf (wsV RX4 133 RX1 yX1_build wsX1_build) := goodIn_app (goodIn_of _ (by decide +kernel)) ggX4_whisperOf_X1_build
set_option maxRecDepth 20000 in
theorem ggX4_whisperOf_X3_grow : GoodIn wsX4_whisperOf wsX3_grow := goodIn_r _ [72, 73, 74, 75, 76, 77, 78, 79, 71, 80, 81, 82, 83, 84, 85, 86, 87, 88, 18, 89, 20, 32, 23, 90, 91, 92, 93, 94, 95, 96, 97, 98, 99, 24, 100, 12, 101, 102, 103, 104, 105, 34, 106, 107, 108, 109, 110, 111, 112, 113, 114, 115, 116, 33, 117, 118, 119, 120, 121, 68, 38, 69, 122, 123, 124, 125, 126, 70, 147, 148, 149, 150, 151, 152, 153, 154, 155, 156, 157, 158, 159] (by decide +kernel) (by decide +kernel)
set_option maxRecDepth 20000 in
theorem gX4_whisperOf_X3_grow_n166 : GoodIn wsX4_whisperOf (wsX3_grow) := ggX4_whisperOf_X3_grow
set_option maxRecDepth 20000 in
theorem ggX4_whisperOf_X3_addSenders : GoodIn wsX4_whisperOf wsX3_addSenders := goodIn_r _ [130, 81, 131, 73, 74, 82, 132, 133, 134, 71, 135, 86, 87, 88, 18, 89, 20, 32, 23, 90, 91, 92, 93, 94, 95, 96, 97, 98, 99, 24, 83, 84, 85, 125, 114, 115, 116, 34, 33, 136, 137, 138, 139, 147, 148, 149, 150, 151, 152, 153, 154, 155, 156, 157, 158, 159] (by decide +kernel) (by decide +kernel)
set_option maxRecDepth 20000 in
theorem gX4_whisperOf_X3_addSenders : GoodIn wsX4_whisperOf (wsV RX4 170 RX3 yX3_addSenders wsX3_addSenders) := goodIn_app (goodIn_of _ (by decide +kernel)) ggX4_whisperOf_X3_addSenders
theorem dX4_whisperOf_0 : decode cX4_whisperOf 0 = .ok (.aload_n 0, 1) := by decide +kernel
theorem dX4_whisperOf_1 : decode cX4_whisperOf 1 = .ok (.getfield 23, 3) := by decide +kernel
theorem dX4_whisperOf_4 : decode cX4_whisperOf 4 = .ok (.iload_n 1, 1) := by decide +kernel
theorem dX4_whisperOf_5 : decode cX4_whisperOf 5 = .ok (.aaload, 1) := by decide +kernel
theorem dX4_whisperOf_6 : decode cX4_whisperOf 6 = .ok (.astore_n 2, 1) := by decide +kernel
theorem dX4_whisperOf_7 : decode cX4_whisperOf 7 = .ok (.aload_n 2, 1) := by decide +kernel
theorem dX4_whisperOf_8 : decode cX4_whisperOf 8 = .ok (.getfield 161, 3) := by decide +kernel
theorem dX4_whisperOf_11 : decode cX4_whisperOf 11 = .ok (.aload_n 0, 1) := by decide +kernel
theorem dX4_whisperOf_12 : decode cX4_whisperOf 12 = .ok (.getfield 43, 3) := by decide +kernel
theorem dX4_whisperOf_15 : decode cX4_whisperOf 15 = .ok (.if_icmp .eq 59, 3) := by decide +kernel
theorem dX4_whisperOf_18 : decode cX4_whisperOf 18 = .ok (.aload_n 0, 1) := by decide +kernel
theorem dX4_whisperOf_19 : decode cX4_whisperOf 19 = .ok (.getfield 30, 3) := by decide +kernel
theorem dX4_whisperOf_22 : decode cX4_whisperOf 22 = .ok (.aload_n 0, 1) := by decide +kernel
theorem dX4_whisperOf_23 : decode cX4_whisperOf 23 = .ok (.getfield 11, 3) := by decide +kernel
theorem dX4_whisperOf_26 : decode cX4_whisperOf 26 = .ok (.aload_n 0, 1) := by decide +kernel
theorem dX4_whisperOf_27 : decode cX4_whisperOf 27 = .ok (.getfield 39, 3) := by decide +kernel
theorem dX4_whisperOf_30 : decode cX4_whisperOf 30 = .ok (.aload_n 0, 1) := by decide +kernel
theorem dX4_whisperOf_31 : decode cX4_whisperOf 31 = .ok (.invokevirtual 73, 3) := by decide +kernel
theorem dX4_whisperOf_34 : decode cX4_whisperOf 34 = .ok (.invokevirtual 133, 3) := by decide +kernel
theorem dX4_whisperOf_37 : decode cX4_whisperOf 37 = .ok (.aload_n 2, 1) := by decide +kernel
theorem dX4_whisperOf_38 : decode cX4_whisperOf 38 = .ok (.iconst 0, 1) := by decide +kernel
theorem dX4_whisperOf_39 : decode cX4_whisperOf 39 = .ok (.putfield 116, 3) := by decide +kernel
theorem dX4_whisperOf_42 : decode cX4_whisperOf 42 = .ok (.aload_n 2, 1) := by decide +kernel
theorem dX4_whisperOf_43 : decode cX4_whisperOf 43 = .ok (.aload_n 0, 1) := by decide +kernel
theorem dX4_whisperOf_44 : decode cX4_whisperOf 44 = .ok (.getfield 30, 3) := by decide +kernel
theorem dX4_whisperOf_47 : decode cX4_whisperOf 47 = .ok (.aload_n 0, 1) := by decide +kernel
theorem dX4_whisperOf_48 : decode cX4_whisperOf 48 = .ok (.getfield 30, 3) := by decide +kernel
theorem dX4_whisperOf_51 : decode cX4_whisperOf 51 = .ok (.getfield 162, 3) := by decide +kernel
theorem dX4_whisperOf_54 : decode cX4_whisperOf 54 = .ok (.iconst 0, 1) := by decide +kernel
theorem dX4_whisperOf_55 : decode cX4_whisperOf 55 = .ok (.invokestatic 166, 3) := by decide +kernel
theorem dX4_whisperOf_58 : decode cX4_whisperOf 58 = .ok (.aload_n 2, 1) := by decide +kernel
theorem dX4_whisperOf_59 : decode cX4_whisperOf 59 = .ok (.aload_n 0, 1) := by decide +kernel
theorem dX4_whisperOf_60 : decode cX4_whisperOf 60 = .ok (.getfield 30, 3) := by decide +kernel
theorem dX4_whisperOf_63 : decode cX4_whisperOf 63 = .ok (.invokevirtual 170, 3) := by decide +kernel
theorem dX4_whisperOf_66 : decode cX4_whisperOf 66 = .ok (.aload_n 2, 1) := by decide +kernel
theorem dX4_whisperOf_67 : decode cX4_whisperOf 67 = .ok (.aload_n 0, 1) := by decide +kernel
theorem dX4_whisperOf_68 : decode cX4_whisperOf 68 = .ok (.getfield 43, 3) := by decide +kernel
theorem dX4_whisperOf_71 : decode cX4_whisperOf 71 = .ok (.putfield 161, 3) := by decide +kernel
theorem dX4_whisperOf_74 : decode cX4_whisperOf 74 = .ok (.aload_n 2, 1) := by decide +kernel
theorem dX4_whisperOf_75 : decode cX4_whisperOf 75 = .ok (.areturn, 1) := by decide +kernel
set_option maxRecDepth 20000 in
theorem ggX4_lettersBehind_X1_build : GoodIn wsX4_lettersBehind wsX1_build := goodIn_r _ [9, 10, 11, 12, 13, 14, 15, 16, 17, 18, 19, 20, 21, 8, 22, 23, 24, 25, 26, 27, 28, 29, 30, 31, 32, 33, 34, 35, 36, 37, 38, 39, 40, 41, 42, 43, 44, 45, 46, 47, 48, 49, 50, 51, 52, 53, 54, 55, 56, 57, 58, 59, 60, 105, 106, 107, 108, 109, 110, 111, 112, 113, 114, 115, 116, 117, 118, 119, 120] (by decide +kernel) (by decide +kernel)
set_option maxRecDepth 20000 in
theorem gX4_lettersBehind_X1_build : GoodIn wsX4_lettersBehind (wsV RX4 133 RX1 yX1_build wsX1_build) := goodIn_app (goodIn_of _ (by decide +kernel)) ggX4_lettersBehind_X1_build
set_option maxRecDepth 20000 in
theorem ggX4_lettersBehind_X4_most : GoodIn wsX4_lettersBehind wsX4_most := goodIn_r _ [63, 64, 65, 59, 29, 60, 66, 67, 68, 8, 69, 10, 23, 13, 70, 71, 72, 73, 74, 75, 76, 77, 78, 79, 14, 80, 81, 17, 82, 83, 84, 85, 86, 25, 87, 88, 89, 90, 91, 92, 93, 94, 95, 96, 97, 24, 61, 62, 105, 106, 107, 108, 109, 110, 111] (by decide +kernel) (by decide +kernel)
set_option maxRecDepth 20000 in
theorem gX4_lettersBehind_X4_most : GoodIn wsX4_lettersBehind (va_wsS RX4 174 yX4_most wsX4_most) := goodIn_app (goodIn_of _ (by decide +kernel)) ggX4_lettersBehind_X4_most
theorem dX4_lettersBehind_0 : decode cX4_lettersBehind 0 = .ok (.aload_n 0, 1) := by decide +kernel
theorem dX4_lettersBehind_1 : decode cX4_lettersBehind 1 = .ok (.getfield 30, 3) := by decide +kernel
theorem dX4_lettersBehind_4 : decode cX4_lettersBehind 4 = .ok (.aload_n 0, 1) := by decide +kernel
theorem dX4_lettersBehind_5 : decode cX4_lettersBehind 5 = .ok (.getfield 11, 3) := by decide +kernel
theorem dX4_lettersBehind_8 : decode cX4_lettersBehind 8 = .ok (.aload_n 0, 1) := by decide +kernel
theorem dX4_lettersBehind_9 : decode cX4_lettersBehind 9 = .ok (.getfield 39, 3) := by decide +kernel
theorem dX4_lettersBehind_12 : decode cX4_lettersBehind 12 = .ok (.iload_n 1, 1) := by decide +kernel
theorem dX4_lettersBehind_13 : decode cX4_lettersBehind 13 = .ok (.invokevirtual 133, 3) := by decide +kernel
theorem dX4_lettersBehind_16 : decode cX4_lettersBehind 16 = .ok (.aload_n 0, 1) := by decide +kernel
theorem dX4_lettersBehind_17 : decode cX4_lettersBehind 17 = .ok (.getfield 30, 3) := by decide +kernel
theorem dX4_lettersBehind_20 : decode cX4_lettersBehind 20 = .ok (.aload_n 0, 1) := by decide +kernel
theorem dX4_lettersBehind_21 : decode cX4_lettersBehind 21 = .ok (.getfield 30, 3) := by decide +kernel
theorem dX4_lettersBehind_24 : decode cX4_lettersBehind 24 = .ok (.getfield 162, 3) := by decide +kernel
theorem dX4_lettersBehind_27 : decode cX4_lettersBehind 27 = .ok (.iconst 0, 1) := by decide +kernel
theorem dX4_lettersBehind_28 : decode cX4_lettersBehind 28 = .ok (.iload_n 2, 1) := by decide +kernel
theorem dX4_lettersBehind_29 : decode cX4_lettersBehind 29 = .ok (.invokestatic 174, 3) := by decide +kernel
theorem dX4_lettersBehind_32 : decode cX4_lettersBehind 32 = .ok (.ireturn, 1) := by decide +kernel
set_option maxRecDepth 20000 in
theorem ggX4_most_X1_sent : GoodIn wsX4_most wsX1_sent := goodIn_r _ [10, 11, 12, 13, 14, 15, 9, 16, 17, 18, 19, 20, 21, 22, 23, 24, 48, 49, 50, 51, 52, 53, 54] (by decide +kernel) (by decide +kernel)
set_option maxRecDepth 20000 in
theorem gX4_most_X1_sent : GoodIn wsX4_most (wsV RX4 181 RX1 yX1_sent wsX1_sent) := goodIn_app (goodIn_of _ (by decide +kernel)) ggX4_most_X1_sent
set_option maxRecDepth 20000 in
theorem ggX4_most_X4_mostBy : GoodIn wsX4_most wsX4_mostBy := goodIn_r _ [28, 29, 30, 31, 9, 32, 11, 33, 14, 15, 16, 17, 18, 19, 34, 35, 36, 37, 38, 39, 40, 41, 42, 43, 44, 45, 46, 47, 27, 0, 1, 2, 3, 4, 5, 6, 7, 8, 10, 12, 13, 20, 21, 22, 23, 24, 25, 26, 48, 49, 50, 51, 52, 53, 54] (by decide +kernel) (by decide +kernel)
set_option maxRecDepth 20000 in
theorem gX4_most_X4_mostBy : GoodIn wsX4_most (va_wsS RX4 185 yX4_mostBy wsX4_mostBy) := goodIn_app (goodIn_of _ (by decide +kernel)) ggX4_most_X4_mostBy
theorem dX4_most_0 : decode cX4_most 0 = .ok (.iload_n 3, 1) := by decide +kernel
theorem dX4_most_1 : decode cX4_most 1 = .ok (.iload 4, 2) := by decide +kernel
theorem dX4_most_3 : decode cX4_most 3 = .ok (.if_icmp .lt 5, 3) := by decide +kernel
theorem dX4_most_6 : decode cX4_most 6 = .ok (.iconst 1, 1) := by decide +kernel
theorem dX4_most_7 : decode cX4_most 7 = .ok (.ireturn, 1) := by decide +kernel
theorem dX4_most_8 : decode cX4_most 8 = .ok (.aload_n 0, 1) := by decide +kernel
theorem dX4_most_9 : decode cX4_most 9 = .ok (.lload_n 1, 1) := by decide +kernel
theorem dX4_most_10 : decode cX4_most 10 = .ok (.iconst 0, 1) := by decide +kernel
theorem dX4_most_11 : decode cX4_most 11 = .ok (.aload_n 0, 1) := by decide +kernel
theorem dX4_most_12 : decode cX4_most 12 = .ok (.getfield 178, 3) := by decide +kernel
theorem dX4_most_15 : decode cX4_most 15 = .ok (.iload_n 3, 1) := by decide +kernel
theorem dX4_most_16 : decode cX4_most 16 = .ok (.invokevirtual 181, 3) := by decide +kernel
theorem dX4_most_19 : decode cX4_most 19 = .ok (.lstore 5, 2) := by decide +kernel
theorem dX4_most_21 : decode cX4_most 21 = .ok (.iconst 0, 1) := by decide +kernel
theorem dX4_most_22 : decode cX4_most 22 = .ok (.istore 7, 2) := by decide +kernel
theorem dX4_most_24 : decode cX4_most 24 = .ok (.iconst 0, 1) := by decide +kernel
theorem dX4_most_25 : decode cX4_most 25 = .ok (.istore 8, 2) := by decide +kernel
theorem dX4_most_27 : decode cX4_most 27 = .ok (.iload 8, 2) := by decide +kernel
theorem dX4_most_29 : decode cX4_most 29 = .ok (.aload_n 0, 1) := by decide +kernel
theorem dX4_most_30 : decode cX4_most 30 = .ok (.getfield 178, 3) := by decide +kernel
theorem dX4_most_33 : decode cX4_most 33 = .ok (.if_icmp .gt 27, 3) := by decide +kernel
theorem dX4_most_36 : decode cX4_most 36 = .ok (.iload 7, 2) := by decide +kernel
theorem dX4_most_38 : decode cX4_most 38 = .ok (.aload_n 0, 1) := by decide +kernel
theorem dX4_most_39 : decode cX4_most 39 = .ok (.lload 5, 2) := by decide +kernel
theorem dX4_most_41 : decode cX4_most 41 = .ok (.iload 8, 2) := by decide +kernel
theorem dX4_most_43 : decode cX4_most 43 = .ok (.iload_n 3, 1) := by decide +kernel
theorem dX4_most_44 : decode cX4_most 44 = .ok (.iload 4, 2) := by decide +kernel
theorem dX4_most_46 : decode cX4_most 46 = .ok (.invokestatic 185, 3) := by decide +kernel
theorem dX4_most_49 : decode cX4_most 49 = .ok (.invokestatic 189, 3) := by decide +kernel
theorem dX4_most_52 : decode cX4_most 52 = .ok (.istore 7, 2) := by decide +kernel
theorem dX4_most_54 : decode cX4_most 54 = .ok (.iinc 8 1, 3) := by decide +kernel
theorem dX4_most_57 : decode cX4_most 57 = .ok (.goto (-30), 3) := by decide +kernel
theorem dX4_most_60 : decode cX4_most 60 = .ok (.iload 7, 2) := by decide +kernel
theorem dX4_most_62 : decode cX4_most 62 = .ok (.ireturn, 1) := by decide +kernel
set_option maxRecDepth 20000 in
theorem ggX4_mostBy_X1_answers : GoodIn wsX4_mostBy wsX1_answers := goodIn_r _ [5, 6, 7, 8, 9, 4, 10, 11, 12, 13, 48, 49, 50, 51, 52, 53, 54] (by decide +kernel) (by decide +kernel)
set_option maxRecDepth 20000 in
theorem gX4_mostBy_X1_answers : GoodIn wsX4_mostBy (wsV RX4 194 RX1 yX1_answers wsX1_answers) := goodIn_app (goodIn_of _ (by decide +kernel)) ggX4_mostBy_X1_answers
set_option maxRecDepth 20000 in
theorem ggX4_mostBy_J6_bitCount_0f7a4 : GoodIn wsX4_mostBy wsJ6_bitCount_0f7a4 := goodIn_r _ [17, 18, 19, 20] (by decide +kernel) (by decide +kernel)
set_option maxRecDepth 20000 in
theorem gX4_mostBy_J6_bitCount_0f7a4 : GoodIn wsX4_mostBy (va_wsS RX4 198 yJ6_bitCount_0f7a4 wsJ6_bitCount_0f7a4) := goodIn_app (goodIn_of _ (by decide +kernel)) ggX4_mostBy_J6_bitCount_0f7a4
set_option maxRecDepth 20000 in
theorem ggX4_mostBy_X1_heard : GoodIn wsX4_mostBy wsX1_heard := goodIn_r _ [24, 6, 7, 25, 8, 9, 4, 10, 11, 12, 13, 48, 49, 50, 51, 52, 53, 54] (by decide +kernel) (by decide +kernel)
set_option maxRecDepth 20000 in
theorem gX4_mostBy_X1_heard : GoodIn wsX4_mostBy (wsV RX4 203 RX1 yX1_heard wsX1_heard) := goodIn_app (goodIn_of _ (by decide +kernel)) ggX4_mostBy_X1_heard
set_option maxRecDepth 20000 in
theorem ggX4_mostBy_X4_most : GoodIn wsX4_mostBy wsX4_most := goodIn_r _ [29, 30, 31, 32, 33, 34, 35, 36, 37, 4, 38, 6, 39, 40, 8, 9, 10, 11, 12, 13, 41, 42, 43, 44, 45, 46, 47, 28, 0, 1, 2, 3, 5, 7, 14, 15, 16, 17, 18, 19, 20, 21, 22, 23, 24, 25, 26, 27, 48, 49, 50, 51, 52, 53, 54] (by decide +kernel) (by decide +kernel)
set_option maxRecDepth 20000 in
theorem gX4_mostBy_X4_most : GoodIn wsX4_mostBy (va_wsS RX4 174 yX4_most wsX4_most) := goodIn_app (goodIn_of _ (by decide +kernel)) ggX4_mostBy_X4_most
theorem dX4_mostBy_0 : decode cX4_mostBy 0 = .ok (.aload_n 0, 1) := by decide +kernel
theorem dX4_mostBy_1 : decode cX4_mostBy 1 = .ok (.lload_n 1, 1) := by decide +kernel
theorem dX4_mostBy_2 : decode cX4_mostBy 2 = .ok (.iload_n 3, 1) := by decide +kernel
theorem dX4_mostBy_3 : decode cX4_mostBy 3 = .ok (.invokevirtual 194, 3) := by decide +kernel
theorem dX4_mostBy_6 : decode cX4_mostBy 6 = .ok (.istore 6, 2) := by decide +kernel
theorem dX4_mostBy_8 : decode cX4_mostBy 8 = .ok (.iload 4, 2) := by decide +kernel
theorem dX4_mostBy_10 : decode cX4_mostBy 10 = .ok (.iconst 1, 1) := by decide +kernel
theorem dX4_mostBy_11 : decode cX4_mostBy 11 = .ok (.iadd, 1) := by decide +kernel
theorem dX4_mostBy_12 : decode cX4_mostBy 12 = .ok (.iload 5, 2) := by decide +kernel
theorem dX4_mostBy_14 : decode cX4_mostBy 14 = .ok (.if_icmp .lt 9, 3) := by decide +kernel
theorem dX4_mostBy_17 : decode cX4_mostBy 17 = .ok (.iload 6, 2) := by decide +kernel
theorem dX4_mostBy_19 : decode cX4_mostBy 19 = .ok (.invokestatic 198, 3) := by decide +kernel
theorem dX4_mostBy_22 : decode cX4_mostBy 22 = .ok (.ireturn, 1) := by decide +kernel
theorem dX4_mostBy_23 : decode cX4_mostBy 23 = .ok (.iconst 0, 1) := by decide +kernel
theorem dX4_mostBy_24 : decode cX4_mostBy 24 = .ok (.istore 7, 2) := by decide +kernel
theorem dX4_mostBy_26 : decode cX4_mostBy 26 = .ok (.iconst 0, 1) := by decide +kernel
theorem dX4_mostBy_27 : decode cX4_mostBy 27 = .ok (.istore 8, 2) := by decide +kernel
theorem dX4_mostBy_29 : decode cX4_mostBy 29 = .ok (.iload 8, 2) := by decide +kernel
theorem dX4_mostBy_31 : decode cX4_mostBy 31 = .ok (.iconst 4, 1) := by decide +kernel
theorem dX4_mostBy_32 : decode cX4_mostBy 32 = .ok (.if_icmp .ge 42, 3) := by decide +kernel
theorem dX4_mostBy_35 : decode cX4_mostBy 35 = .ok (.iload 6, 2) := by decide +kernel
theorem dX4_mostBy_37 : decode cX4_mostBy 37 = .ok (.iload 8, 2) := by decide +kernel
theorem dX4_mostBy_39 : decode cX4_mostBy 39 = .ok (.ishr, 1) := by decide +kernel
theorem dX4_mostBy_40 : decode cX4_mostBy 40 = .ok (.iconst 1, 1) := by decide +kernel
theorem dX4_mostBy_41 : decode cX4_mostBy 41 = .ok (.iand, 1) := by decide +kernel
theorem dX4_mostBy_42 : decode cX4_mostBy 42 = .ok (.ifCond .eq 26, 3) := by decide +kernel
theorem dX4_mostBy_45 : decode cX4_mostBy 45 = .ok (.iload 7, 2) := by decide +kernel
theorem dX4_mostBy_47 : decode cX4_mostBy 47 = .ok (.aload_n 0, 1) := by decide +kernel
theorem dX4_mostBy_48 : decode cX4_mostBy 48 = .ok (.aload_n 0, 1) := by decide +kernel
theorem dX4_mostBy_49 : decode cX4_mostBy 49 = .ok (.lload_n 1, 1) := by decide +kernel
theorem dX4_mostBy_50 : decode cX4_mostBy 50 = .ok (.iload_n 3, 1) := by decide +kernel
theorem dX4_mostBy_51 : decode cX4_mostBy 51 = .ok (.iload 8, 2) := by decide +kernel
theorem dX4_mostBy_53 : decode cX4_mostBy 53 = .ok (.invokevirtual 203, 3) := by decide +kernel
theorem dX4_mostBy_56 : decode cX4_mostBy 56 = .ok (.iload 4, 2) := by decide +kernel
theorem dX4_mostBy_58 : decode cX4_mostBy 58 = .ok (.iconst 1, 1) := by decide +kernel
theorem dX4_mostBy_59 : decode cX4_mostBy 59 = .ok (.iadd, 1) := by decide +kernel
theorem dX4_mostBy_60 : decode cX4_mostBy 60 = .ok (.iload 5, 2) := by decide +kernel
theorem dX4_mostBy_62 : decode cX4_mostBy 62 = .ok (.invokestatic 174, 3) := by decide +kernel
theorem dX4_mostBy_65 : decode cX4_mostBy 65 = .ok (.iadd, 1) := by decide +kernel
theorem dX4_mostBy_66 : decode cX4_mostBy 66 = .ok (.istore 7, 2) := by decide +kernel
theorem dX4_mostBy_68 : decode cX4_mostBy 68 = .ok (.iinc 8 1, 3) := by decide +kernel
theorem dX4_mostBy_71 : decode cX4_mostBy 71 = .ok (.goto (-42), 3) := by decide +kernel
theorem dX4_mostBy_74 : decode cX4_mostBy 74 = .ok (.iload 7, 2) := by decide +kernel
theorem dX4_mostBy_76 : decode cX4_mostBy 76 = .ok (.ireturn, 1) := by decide +kernel
theorem dX5_init_0 : decode cX5_init 0 = .ok (.aload_n 0, 1) := by decide +kernel
theorem dX5_init_1 : decode cX5_init 1 = .ok (.invokespecial 1, 3) := by decide +kernel
theorem dX5_init_4 : decode cX5_init 4 = .ok (.aload_n 0, 1) := by decide +kernel
theorem dX5_init_5 : decode cX5_init 5 = .ok (.iconst 3, 1) := by decide +kernel
theorem dX5_init_6 : decode cX5_init 6 = .ok (.newarray .int, 2) := by decide +kernel
theorem dX5_init_8 : decode cX5_init 8 = .ok (.putfield 7, 3) := by decide +kernel
theorem dX5_init_11 : decode cX5_init 11 = .ok (.aload_n 0, 1) := by decide +kernel
theorem dX5_init_12 : decode cX5_init 12 = .ok (.iconst 3, 1) := by decide +kernel
theorem dX5_init_13 : decode cX5_init 13 = .ok (.newarray .int, 2) := by decide +kernel
theorem dX5_init_15 : decode cX5_init 15 = .ok (.putfield 13, 3) := by decide +kernel
theorem dX5_init_18 : decode cX5_init 18 = .ok (.aload_n 0, 1) := by decide +kernel
theorem dX5_init_19 : decode cX5_init 19 = .ok (.iconst 3, 1) := by decide +kernel
theorem dX5_init_20 : decode cX5_init 20 = .ok (.newarray .int, 2) := by decide +kernel
theorem dX5_init_22 : decode cX5_init 22 = .ok (.putfield 16, 3) := by decide +kernel
theorem dX5_init_25 : decode cX5_init 25 = .ok (.aload_n 0, 1) := by decide +kernel
theorem dX5_init_26 : decode cX5_init 26 = .ok (.iconst 3, 1) := by decide +kernel
theorem dX5_init_27 : decode cX5_init 27 = .ok (.newarray .int, 2) := by decide +kernel
theorem dX5_init_29 : decode cX5_init 29 = .ok (.putfield 19, 3) := by decide +kernel
theorem dX5_init_32 : decode cX5_init 32 = .ok (.aload_n 0, 1) := by decide +kernel
theorem dX5_init_33 : decode cX5_init 33 = .ok (.iconst 3, 1) := by decide +kernel
theorem dX5_init_34 : decode cX5_init 34 = .ok (.newarray .int, 2) := by decide +kernel
theorem dX5_init_36 : decode cX5_init 36 = .ok (.putfield 22, 3) := by decide +kernel
theorem dX5_init_39 : decode cX5_init 39 = .ok (.aload_n 0, 1) := by decide +kernel
theorem dX5_init_40 : decode cX5_init 40 = .ok (.bipush 12, 2) := by decide +kernel
theorem dX5_init_42 : decode cX5_init 42 = .ok (.newarray .int, 2) := by decide +kernel
theorem dX5_init_44 : decode cX5_init 44 = .ok (.putfield 25, 3) := by decide +kernel
theorem dX5_init_47 : decode cX5_init 47 = .ok (.aload_n 0, 1) := by decide +kernel
theorem dX5_init_48 : decode cX5_init 48 = .ok (.iconst 3, 1) := by decide +kernel
theorem dX5_init_49 : decode cX5_init 49 = .ok (.newarray .int, 2) := by decide +kernel
theorem dX5_init_51 : decode cX5_init 51 = .ok (.putfield 28, 3) := by decide +kernel
theorem dX5_init_54 : decode cX5_init 54 = .ok (.aload_n 0, 1) := by decide +kernel
theorem dX5_init_55 : decode cX5_init 55 = .ok (.iconst 3, 1) := by decide +kernel
theorem dX5_init_56 : decode cX5_init 56 = .ok (.newarray .long, 2) := by decide +kernel
theorem dX5_init_58 : decode cX5_init 58 = .ok (.putfield 31, 3) := by decide +kernel
theorem dX5_init_61 : decode cX5_init 61 = .ok (.aload_n 0, 1) := by decide +kernel
theorem dX5_init_62 : decode cX5_init 62 = .ok (.iconst 3, 1) := by decide +kernel
theorem dX5_init_63 : decode cX5_init 63 = .ok (.newarray .long, 2) := by decide +kernel
theorem dX5_init_65 : decode cX5_init 65 = .ok (.putfield 35, 3) := by decide +kernel
theorem dX5_init_68 : decode cX5_init 68 = .ok (.aload_n 0, 1) := by decide +kernel
theorem dX5_init_69 : decode cX5_init 69 = .ok (.bipush 64, 2) := by decide +kernel
theorem dX5_init_71 : decode cX5_init 71 = .ok (.newarray .int, 2) := by decide +kernel
theorem dX5_init_73 : decode cX5_init 73 = .ok (.putfield 38, 3) := by decide +kernel
theorem dX5_init_76 : decode cX5_init 76 = .ok (.aload_n 0, 1) := by decide +kernel
theorem dX5_init_77 : decode cX5_init 77 = .ok (.sipush 4096, 3) := by decide +kernel
theorem dX5_init_80 : decode cX5_init 80 = .ok (.newarray .long, 2) := by decide +kernel
theorem dX5_init_82 : decode cX5_init 82 = .ok (.putfield 41, 3) := by decide +kernel
theorem dX5_init_85 : decode cX5_init 85 = .ok (.aload_n 0, 1) := by decide +kernel
theorem dX5_init_86 : decode cX5_init 86 = .ok (.sipush 4096, 3) := by decide +kernel
theorem dX5_init_89 : decode cX5_init 89 = .ok (.newarray .int, 2) := by decide +kernel
theorem dX5_init_91 : decode cX5_init 91 = .ok (.putfield 44, 3) := by decide +kernel
theorem dX5_init_94 : decode cX5_init 94 = .ok (.aload_n 0, 1) := by decide +kernel
theorem dX5_init_95 : decode cX5_init 95 = .ok (.sipush 4096, 3) := by decide +kernel
theorem dX5_init_98 : decode cX5_init 98 = .ok (.newarray .int, 2) := by decide +kernel
theorem dX5_init_100 : decode cX5_init 100 = .ok (.putfield 47, 3) := by decide +kernel
theorem dX5_init_103 : decode cX5_init 103 = .ok (.aload_n 0, 1) := by decide +kernel
theorem dX5_init_104 : decode cX5_init 104 = .ok (.sipush 4096, 3) := by decide +kernel
theorem dX5_init_107 : decode cX5_init 107 = .ok (.newarray .int, 2) := by decide +kernel
theorem dX5_init_109 : decode cX5_init 109 = .ok (.putfield 50, 3) := by decide +kernel
theorem dX5_init_112 : decode cX5_init 112 = .ok (.aload_n 0, 1) := by decide +kernel
theorem dX5_init_113 : decode cX5_init 113 = .ok (.iconst 3, 1) := by decide +kernel
theorem dX5_init_114 : decode cX5_init 114 = .ok (.newarray .int, 2) := by decide +kernel
theorem dX5_init_116 : decode cX5_init 116 = .ok (.putfield 53, 3) := by decide +kernel
theorem dX5_init_119 : decode cX5_init 119 = .ok (.aload_n 0, 1) := by decide +kernel
theorem dX5_init_120 : decode cX5_init 120 = .ok (.iconst 3, 1) := by decide +kernel
theorem dX5_init_121 : decode cX5_init 121 = .ok (.newarray .int, 2) := by decide +kernel
theorem dX5_init_123 : decode cX5_init 123 = .ok (.putfield 56, 3) := by decide +kernel
theorem dX5_init_126 : decode cX5_init 126 = .ok (.aload_n 0, 1) := by decide +kernel
theorem dX5_init_127 : decode cX5_init 127 = .ok (.iconst 3, 1) := by decide +kernel
theorem dX5_init_128 : decode cX5_init 128 = .ok (.newarray .int, 2) := by decide +kernel
theorem dX5_init_130 : decode cX5_init 130 = .ok (.putfield 59, 3) := by decide +kernel
theorem dX5_init_133 : decode cX5_init 133 = .ok (.return_, 1) := by decide +kernel
theorem dX5_isIn_0 : decode cX5_isIn 0 = .ok (.iload_n 0, 1) := by decide +kernel
theorem dX5_isIn_1 : decode cX5_isIn 1 = .ok (.iload_n 1, 1) := by decide +kernel
theorem dX5_isIn_2 : decode cX5_isIn 2 = .ok (.if_icmp .lt 12, 3) := by decide +kernel
theorem dX5_isIn_5 : decode cX5_isIn 5 = .ok (.iload_n 0, 1) := by decide +kernel
