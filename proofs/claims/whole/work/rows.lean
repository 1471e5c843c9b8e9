section
-- ===== PART A: goes FIRST, ahead of the names: the tables' words, and 'selects' of the private methods out of them =====
/-- a private method of a class that the tables say can be made, by its rows of tables_1 -/
def lw_okq (q : MethodName × Nat) : Prop := (q.1.cls ≠ "java/lang/invoke/MethodHandle" ∧ q.1.cls ≠ "java/lang/invoke/VarHandle") ∧ Cond.instantiable q.1.cls q.2 ∈ tables_1 ∧ Cond.privateMethod q.1 ∈ tables_1 ∧ Cond.instanceMethod q.1 ∈ tables_1
theorem lw_p0 : lw_okq (⟨"WhisperJudge", "come", "(IIJJ)I"⟩, 7) := ⟨⟨by decide +kernel, by decide +kernel⟩, List.mem_of_getElem? (i := 11) (by decide +kernel), List.mem_of_getElem? (i := 192) (by decide +kernel), List.mem_of_getElem? (i := 193) (by decide +kernel)⟩
theorem lw_p1 : lw_okq (⟨"WhisperJudge", "isThing", "(I)Z"⟩, 7) := ⟨⟨by decide +kernel, by decide +kernel⟩, List.mem_of_getElem? (i := 11) (by decide +kernel), List.mem_of_getElem? (i := 214) (by decide +kernel), List.mem_of_getElem? (i := 215) (by decide +kernel)⟩
theorem lw_p2 : lw_okq (⟨"WhisperJudge", "countSilent", "()I"⟩, 7) := ⟨⟨by decide +kernel, by decide +kernel⟩, List.mem_of_getElem? (i := 11) (by decide +kernel), List.mem_of_getElem? (i := 237) (by decide +kernel), List.mem_of_getElem? (i := 238) (by decide +kernel)⟩
theorem lw_p3 : lw_okq (⟨"WhisperJudge", "pairOf", "(I)LWhisperJudge$Pair;"⟩, 7) := ⟨⟨by decide +kernel, by decide +kernel⟩, List.mem_of_getElem? (i := 11) (by decide +kernel), List.mem_of_getElem? (i := 241) (by decide +kernel), List.mem_of_getElem? (i := 242) (by decide +kernel)⟩
theorem lw_p4 : lw_okq (⟨"WhisperJudge", "wallsNow", "()I"⟩, 7) := ⟨⟨by decide +kernel, by decide +kernel⟩, List.mem_of_getElem? (i := 11) (by decide +kernel), List.mem_of_getElem? (i := 245) (by decide +kernel), List.mem_of_getElem? (i := 246) (by decide +kernel)⟩
theorem lw_p5 : lw_okq (⟨"WhisperJudge$Room", "buildAct", "(LWhisperJudge$Thing;III)V"⟩, 7) := ⟨⟨by decide +kernel, by decide +kernel⟩, List.mem_of_getElem? (i := 25) (by decide +kernel), List.mem_of_getElem? (i := 256) (by decide +kernel), List.mem_of_getElem? (i := 257) (by decide +kernel)⟩
theorem lw_p6 : lw_okq (⟨"WhisperJudge$Thing", "answerByKind", "(III)I"⟩, 9) := ⟨⟨by decide +kernel, by decide +kernel⟩, List.mem_of_getElem? (i := 58) (by decide +kernel), List.mem_of_getElem? (i := 267) (by decide +kernel), List.mem_of_getElem? (i := 268) (by decide +kernel)⟩
theorem lw_p7 : lw_okq (⟨"WhisperJudge$Thing", "nextByKind", "(III)I"⟩, 9) := ⟨⟨by decide +kernel, by decide +kernel⟩, List.mem_of_getElem? (i := 58) (by decide +kernel), List.mem_of_getElem? (i := 278) (by decide +kernel), List.mem_of_getElem? (i := 279) (by decide +kernel)⟩
theorem lw_p8 : lw_okq (⟨"WhisperJudge$Pair", "reach", "(III)V"⟩, 8) := ⟨⟨by decide +kernel, by decide +kernel⟩, List.mem_of_getElem? (i := 101) (by decide +kernel), List.mem_of_getElem? (i := 297) (by decide +kernel), List.mem_of_getElem? (i := 298) (by decide +kernel)⟩
theorem lw_p9 : lw_okq (⟨"WhisperJudge$Pair", "goOn", "(LWhisperJudge$Room;II)V"⟩, 8) := ⟨⟨by decide +kernel, by decide +kernel⟩, List.mem_of_getElem? (i := 101) (by decide +kernel), List.mem_of_getElem? (i := 301) (by decide +kernel), List.mem_of_getElem? (i := 302) (by decide +kernel)⟩
theorem lw_p10 : lw_okq (⟨"WhisperJudge$Room", "isCleaned", "(II)Z"⟩, 7) := ⟨⟨by decide +kernel, by decide +kernel⟩, List.mem_of_getElem? (i := 25) (by decide +kernel), List.mem_of_getElem? (i := 309) (by decide +kernel), List.mem_of_getElem? (i := 310) (by decide +kernel)⟩
theorem lw_p11 : lw_okq (⟨"WhisperJudge$Pair", "write", "(III)V"⟩, 8) := ⟨⟨by decide +kernel, by decide +kernel⟩, List.mem_of_getElem? (i := 101) (by decide +kernel), List.mem_of_getElem? (i := 317) (by decide +kernel), List.mem_of_getElem? (i := 318) (by decide +kernel)⟩
theorem lw_p12 : lw_okq (⟨"WhisperJudge", "sumOf", "(I)I"⟩, 7) := ⟨⟨by decide +kernel, by decide +kernel⟩, List.mem_of_getElem? (i := 11) (by decide +kernel), List.mem_of_getElem? (i := 332) (by decide +kernel), List.mem_of_getElem? (i := 333) (by decide +kernel)⟩
theorem lw_p13 : lw_okq (⟨"WhisperJudge", "whisperOf", "(I)LWhisperJudge$Whisper;"⟩, 7) := ⟨⟨by decide +kernel, by decide +kernel⟩, List.mem_of_getElem? (i := 11) (by decide +kernel), List.mem_of_getElem? (i := 363) (by decide +kernel), List.mem_of_getElem? (i := 364) (by decide +kernel)⟩
theorem lw_p14 : lw_okq (⟨"WhisperJudge$Whisper", "addLetter", "()V"⟩, 6) := ⟨⟨by decide +kernel, by decide +kernel⟩, List.mem_of_getElem? (i := 134) (by decide +kernel), List.mem_of_getElem? (i := 370) (by decide +kernel), List.mem_of_getElem? (i := 371) (by decide +kernel)⟩
theorem lw_p15 : lw_okq (⟨"WhisperJudge$Whisper", "step", "(LWhisperJudge$Room;JIII)J"⟩, 6) := ⟨⟨by decide +kernel, by decide +kernel⟩, List.mem_of_getElem? (i := 134) (by decide +kernel), List.mem_of_getElem? (i := 417) (by decide +kernel), List.mem_of_getElem? (i := 418) (by decide +kernel)⟩
def lw_privs_1 : List (MethodName × Nat) := [(⟨"WhisperJudge", "come", "(IIJJ)I"⟩, 7), (⟨"WhisperJudge", "isThing", "(I)Z"⟩, 7), (⟨"WhisperJudge", "countSilent", "()I"⟩, 7), (⟨"WhisperJudge", "pairOf", "(I)LWhisperJudge$Pair;"⟩, 7), (⟨"WhisperJudge", "wallsNow", "()I"⟩, 7), (⟨"WhisperJudge$Room", "buildAct", "(LWhisperJudge$Thing;III)V"⟩, 7), (⟨"WhisperJudge$Thing", "answerByKind", "(III)I"⟩, 9), (⟨"WhisperJudge$Thing", "nextByKind", "(III)I"⟩, 9), (⟨"WhisperJudge$Pair", "reach", "(III)V"⟩, 8), (⟨"WhisperJudge$Pair", "goOn", "(LWhisperJudge$Room;II)V"⟩, 8), (⟨"WhisperJudge$Room", "isCleaned", "(II)Z"⟩, 7), (⟨"WhisperJudge$Pair", "write", "(III)V"⟩, 8), (⟨"WhisperJudge", "sumOf", "(I)I"⟩, 7), (⟨"WhisperJudge", "whisperOf", "(I)LWhisperJudge$Whisper;"⟩, 7), (⟨"WhisperJudge$Whisper", "addLetter", "()V"⟩, 6), (⟨"WhisperJudge$Whisper", "step", "(LWhisperJudge$Room;JIII)J"⟩, 6)]
theorem lw_r1 : ∀ q ∈ lw_privs_1, lw_okq q := List.forall_mem_cons.mpr ⟨lw_p0, List.forall_mem_cons.mpr ⟨lw_p1, List.forall_mem_cons.mpr ⟨lw_p2, List.forall_mem_cons.mpr ⟨lw_p3, List.forall_mem_cons.mpr ⟨lw_p4, List.forall_mem_cons.mpr ⟨lw_p5, List.forall_mem_cons.mpr ⟨lw_p6, List.forall_mem_cons.mpr ⟨lw_p7, List.forall_mem_cons.mpr ⟨lw_p8, List.forall_mem_cons.mpr ⟨lw_p9, List.forall_mem_cons.mpr ⟨lw_p10, List.forall_mem_cons.mpr ⟨lw_p11, List.forall_mem_cons.mpr ⟨lw_p12, List.forall_mem_cons.mpr ⟨lw_p13, List.forall_mem_cons.mpr ⟨lw_p14, List.forall_mem_cons.mpr ⟨lw_p15, fun _ h => absurd h List.not_mem_nil⟩⟩⟩⟩⟩⟩⟩⟩⟩⟩⟩⟩⟩⟩⟩⟩
theorem lw_p16 : lw_okq (⟨"WhisperJudge$Whisper", "leads", "(LWhisperJudge$Room;JII)Z"⟩, 6) := ⟨⟨by decide +kernel, by decide +kernel⟩, List.mem_of_getElem? (i := 134) (by decide +kernel), List.mem_of_getElem? (i := 421) (by decide +kernel), List.mem_of_getElem? (i := 422) (by decide +kernel)⟩
theorem lw_p17 : lw_okq (⟨"WhisperJudge", "isAct", "(I)Z"⟩, 7) := ⟨⟨by decide +kernel, by decide +kernel⟩, List.mem_of_getElem? (i := 11) (by decide +kernel), List.mem_of_getElem? (i := 438) (by decide +kernel), List.mem_of_getElem? (i := 439) (by decide +kernel)⟩
theorem lw_p18 : lw_okq (⟨"WhisperJudge", "lettersBehind", "(II)I"⟩, 7) := ⟨⟨by decide +kernel, by decide +kernel⟩, List.mem_of_getElem? (i := 11) (by decide +kernel), List.mem_of_getElem? (i := 457) (by decide +kernel), List.mem_of_getElem? (i := 458) (by decide +kernel)⟩
theorem lw_p19 : lw_okq (⟨"WhisperJudgeModel", "comes", "(II)I"⟩, 20) := ⟨⟨by decide +kernel, by decide +kernel⟩, List.mem_of_getElem? (i := 465) (by decide +kernel), List.mem_of_getElem? (i := 544) (by decide +kernel), List.mem_of_getElem? (i := 545) (by decide +kernel)⟩
theorem lw_p20 : lw_okq (⟨"WhisperJudgeModel", "isThing", "(I)Z"⟩, 20) := ⟨⟨by decide +kernel, by decide +kernel⟩, List.mem_of_getElem? (i := 465) (by decide +kernel), List.mem_of_getElem? (i := 556) (by decide +kernel), List.mem_of_getElem? (i := 557) (by decide +kernel)⟩
theorem lw_p21 : lw_okq (⟨"WhisperJudgeModel", "shortest", "(I)I"⟩, 20) := ⟨⟨by decide +kernel, by decide +kernel⟩, List.mem_of_getElem? (i := 465) (by decide +kernel), List.mem_of_getElem? (i := 579) (by decide +kernel), List.mem_of_getElem? (i := 580) (by decide +kernel)⟩
theorem lw_p22 : lw_okq (⟨"WhisperJudgeModel", "looksAhead", "(I)V"⟩, 20) := ⟨⟨by decide +kernel, by decide +kernel⟩, List.mem_of_getElem? (i := 465) (by decide +kernel), List.mem_of_getElem? (i := 583) (by decide +kernel), List.mem_of_getElem? (i := 584) (by decide +kernel)⟩
theorem lw_p23 : lw_okq (⟨"WhisperJudgeModel", "phases", "(I)I"⟩, 20) := ⟨⟨by decide +kernel, by decide +kernel⟩, List.mem_of_getElem? (i := 465) (by decide +kernel), List.mem_of_getElem? (i := 587) (by decide +kernel), List.mem_of_getElem? (i := 588) (by decide +kernel)⟩
theorem lw_p24 : lw_okq (⟨"WhisperJudgeModel", "after", "(IIIIIII)I"⟩, 20) := ⟨⟨by decide +kernel, by decide +kernel⟩, List.mem_of_getElem? (i := 465) (by decide +kernel), List.mem_of_getElem? (i := 591) (by decide +kernel), List.mem_of_getElem? (i := 592) (by decide +kernel)⟩
theorem lw_p25 : lw_okq (⟨"WhisperJudgeModel", "sends", "(III)I"⟩, 20) := ⟨⟨by decide +kernel, by decide +kernel⟩, List.mem_of_getElem? (i := 465) (by decide +kernel), List.mem_of_getElem? (i := 595) (by decide +kernel), List.mem_of_getElem? (i := 596) (by decide +kernel)⟩
theorem lw_p26 : lw_okq (⟨"WhisperJudgeModel", "act", "(IIII)I"⟩, 20) := ⟨⟨by decide +kernel, by decide +kernel⟩, List.mem_of_getElem? (i := 465) (by decide +kernel), List.mem_of_getElem? (i := 599) (by decide +kernel), List.mem_of_getElem? (i := 600) (by decide +kernel)⟩
theorem lw_p27 : lw_okq (⟨"WhisperJudgeModel", "cleans", "(III)I"⟩, 20) := ⟨⟨by decide +kernel, by decide +kernel⟩, List.mem_of_getElem? (i := 465) (by decide +kernel), List.mem_of_getElem? (i := 604) (by decide +kernel), List.mem_of_getElem? (i := 605) (by decide +kernel)⟩
theorem lw_p28 : lw_okq (⟨"WhisperJudgeModel", "answers", "(III)I"⟩, 20) := ⟨⟨by decide +kernel, by decide +kernel⟩, List.mem_of_getElem? (i := 465) (by decide +kernel), List.mem_of_getElem? (i := 608) (by decide +kernel), List.mem_of_getElem? (i := 609) (by decide +kernel)⟩
theorem lw_p29 : lw_okq (⟨"WhisperJudgeModel", "hears", "(III)I"⟩, 20) := ⟨⟨by decide +kernel, by decide +kernel⟩, List.mem_of_getElem? (i := 465) (by decide +kernel), List.mem_of_getElem? (i := 612) (by decide +kernel), List.mem_of_getElem? (i := 613) (by decide +kernel)⟩
theorem lw_p30 : lw_okq (⟨"WhisperJudgeModel", "at", "(III)I"⟩, 20) := ⟨⟨by decide +kernel, by decide +kernel⟩, List.mem_of_getElem? (i := 465) (by decide +kernel), List.mem_of_getElem? (i := 616) (by decide +kernel), List.mem_of_getElem? (i := 617) (by decide +kernel)⟩
theorem lw_p31 : lw_okq (⟨"WhisperJudgeModel", "wallsNow", "()I"⟩, 20) := ⟨⟨by decide +kernel, by decide +kernel⟩, List.mem_of_getElem? (i := 465) (by decide +kernel), List.mem_of_getElem? (i := 620) (by decide +kernel), List.mem_of_getElem? (i := 621) (by decide +kernel)⟩
def lw_privs_2 : List (MethodName × Nat) := [(⟨"WhisperJudge$Whisper", "leads", "(LWhisperJudge$Room;JII)Z"⟩, 6), (⟨"WhisperJudge", "isAct", "(I)Z"⟩, 7), (⟨"WhisperJudge", "lettersBehind", "(II)I"⟩, 7), (⟨"WhisperJudgeModel", "comes", "(II)I"⟩, 20), (⟨"WhisperJudgeModel", "isThing", "(I)Z"⟩, 20), (⟨"WhisperJudgeModel", "shortest", "(I)I"⟩, 20), (⟨"WhisperJudgeModel", "looksAhead", "(I)V"⟩, 20), (⟨"WhisperJudgeModel", "phases", "(I)I"⟩, 20), (⟨"WhisperJudgeModel", "after", "(IIIIIII)I"⟩, 20), (⟨"WhisperJudgeModel", "sends", "(III)I"⟩, 20), (⟨"WhisperJudgeModel", "act", "(IIII)I"⟩, 20), (⟨"WhisperJudgeModel", "cleans", "(III)I"⟩, 20), (⟨"WhisperJudgeModel", "answers", "(III)I"⟩, 20), (⟨"WhisperJudgeModel", "hears", "(III)I"⟩, 20), (⟨"WhisperJudgeModel", "at", "(III)I"⟩, 20), (⟨"WhisperJudgeModel", "wallsNow", "()I"⟩, 20)]
theorem lw_r2 : ∀ q ∈ lw_privs_2, lw_okq q := List.forall_mem_cons.mpr ⟨lw_p16, List.forall_mem_cons.mpr ⟨lw_p17, List.forall_mem_cons.mpr ⟨lw_p18, List.forall_mem_cons.mpr ⟨lw_p19, List.forall_mem_cons.mpr ⟨lw_p20, List.forall_mem_cons.mpr ⟨lw_p21, List.forall_mem_cons.mpr ⟨lw_p22, List.forall_mem_cons.mpr ⟨lw_p23, List.forall_mem_cons.mpr ⟨lw_p24, List.forall_mem_cons.mpr ⟨lw_p25, List.forall_mem_cons.mpr ⟨lw_p26, List.forall_mem_cons.mpr ⟨lw_p27, List.forall_mem_cons.mpr ⟨lw_p28, List.forall_mem_cons.mpr ⟨lw_p29, List.forall_mem_cons.mpr ⟨lw_p30, List.forall_mem_cons.mpr ⟨lw_p31, fun _ h => absurd h List.not_mem_nil⟩⟩⟩⟩⟩⟩⟩⟩⟩⟩⟩⟩⟩⟩⟩⟩
theorem lw_p32 : lw_okq (⟨"WhisperJudgeModel", "costs", "(I)I"⟩, 20) := ⟨⟨by decide +kernel, by decide +kernel⟩, List.mem_of_getElem? (i := 465) (by decide +kernel), List.mem_of_getElem? (i := 624) (by decide +kernel), List.mem_of_getElem? (i := 625) (by decide +kernel)⟩
theorem lw_p33 : lw_okq (⟨"WhisperJudgeModel", "startOf", "()I"⟩, 20) := ⟨⟨by decide +kernel, by decide +kernel⟩, List.mem_of_getElem? (i := 465) (by decide +kernel), List.mem_of_getElem? (i := 652) (by decide +kernel), List.mem_of_getElem? (i := 653) (by decide +kernel)⟩
theorem lw_p34 : lw_okq (⟨"WhisperJudgeModel", "most", "(JII)I"⟩, 20) := ⟨⟨by decide +kernel, by decide +kernel⟩, List.mem_of_getElem? (i := 465) (by decide +kernel), List.mem_of_getElem? (i := 656) (by decide +kernel), List.mem_of_getElem? (i := 657) (by decide +kernel)⟩
theorem lw_p35 : lw_okq (⟨"WhisperJudgeModel", "spreads", "(JI)J"⟩, 20) := ⟨⟨by decide +kernel, by decide +kernel⟩, List.mem_of_getElem? (i := 465) (by decide +kernel), List.mem_of_getElem? (i := 663) (by decide +kernel), List.mem_of_getElem? (i := 664) (by decide +kernel)⟩
theorem lw_p36 : lw_okq (⟨"WhisperJudgeModel", "isAct", "(I)Z"⟩, 20) := ⟨⟨by decide +kernel, by decide +kernel⟩, List.mem_of_getElem? (i := 465) (by decide +kernel), List.mem_of_getElem? (i := 667) (by decide +kernel), List.mem_of_getElem? (i := 668) (by decide +kernel)⟩
theorem lw_p37 : lw_okq (⟨"WhisperJudgeModel", "sent", "(III)I"⟩, 20) := ⟨⟨by decide +kernel, by decide +kernel⟩, List.mem_of_getElem? (i := 465) (by decide +kernel), List.mem_of_getElem? (i := 671) (by decide +kernel), List.mem_of_getElem? (i := 672) (by decide +kernel)⟩
theorem lw_p38 : lw_okq (⟨"WhisperJudgeModel", "answersOf", "(JI)I"⟩, 20) := ⟨⟨by decide +kernel, by decide +kernel⟩, List.mem_of_getElem? (i := 465) (by decide +kernel), List.mem_of_getElem? (i := 681) (by decide +kernel), List.mem_of_getElem? (i := 682) (by decide +kernel)⟩
theorem lw_p39 : lw_okq (⟨"WhisperJudgeModel", "told", "(II)I"⟩, 20) := ⟨⟨by decide +kernel, by decide +kernel⟩, List.mem_of_getElem? (i := 465) (by decide +kernel), List.mem_of_getElem? (i := 685) (by decide +kernel), List.mem_of_getElem? (i := 686) (by decide +kernel)⟩
theorem lw_p40 : lw_okq (⟨"WhisperJudgeModel", "by", "(JIII)I"⟩, 20) := ⟨⟨by decide +kernel, by decide +kernel⟩, List.mem_of_getElem? (i := 465) (by decide +kernel), List.mem_of_getElem? (i := 689) (by decide +kernel), List.mem_of_getElem? (i := 690) (by decide +kernel)⟩
theorem lw_p41 : lw_okq (⟨"WhisperJudgeModel", "parts", "(JII)J"⟩, 20) := ⟨⟨by decide +kernel, by decide +kernel⟩, List.mem_of_getElem? (i := 465) (by decide +kernel), List.mem_of_getElem? (i := 693) (by decide +kernel), List.mem_of_getElem? (i := 694) (by decide +kernel)⟩
theorem lw_p42 : lw_okq (⟨"WhisperJudgeModel", "heard", "(II)I"⟩, 20) := ⟨⟨by decide +kernel, by decide +kernel⟩, List.mem_of_getElem? (i := 465) (by decide +kernel), List.mem_of_getElem? (i := 697) (by decide +kernel), List.mem_of_getElem? (i := 698) (by decide +kernel)⟩
theorem lw_p43 : lw_okq (⟨"WhisperJudgeModel", "finds", "(II)Z"⟩, 20) := ⟨⟨by decide +kernel, by decide +kernel⟩, List.mem_of_getElem? (i := 465) (by decide +kernel), List.mem_of_getElem? (i := 705) (by decide +kernel), List.mem_of_getElem? (i := 706) (by decide +kernel)⟩
theorem lw_p44 : lw_okq (⟨"WhisperJudgeModel", "leads", "(III)Z"⟩, 20) := ⟨⟨by decide +kernel, by decide +kernel⟩, List.mem_of_getElem? (i := 465) (by decide +kernel), List.mem_of_getElem? (i := 709) (by decide +kernel), List.mem_of_getElem? (i := 710) (by decide +kernel)⟩
theorem lw_p45 : lw_okq (⟨"WhisperJudgeModel", "gives", "(I)V"⟩, 20) := ⟨⟨by decide +kernel, by decide +kernel⟩, List.mem_of_getElem? (i := 465) (by decide +kernel), List.mem_of_getElem? (i := 733) (by decide +kernel), List.mem_of_getElem? (i := 734) (by decide +kernel)⟩
def lw_privs_3 : List (MethodName × Nat) := [(⟨"WhisperJudgeModel", "costs", "(I)I"⟩, 20), (⟨"WhisperJudgeModel", "startOf", "()I"⟩, 20), (⟨"WhisperJudgeModel", "most", "(JII)I"⟩, 20), (⟨"WhisperJudgeModel", "spreads", "(JI)J"⟩, 20), (⟨"WhisperJudgeModel", "isAct", "(I)Z"⟩, 20), (⟨"WhisperJudgeModel", "sent", "(III)I"⟩, 20), (⟨"WhisperJudgeModel", "answersOf", "(JI)I"⟩, 20), (⟨"WhisperJudgeModel", "told", "(II)I"⟩, 20), (⟨"WhisperJudgeModel", "by", "(JIII)I"⟩, 20), (⟨"WhisperJudgeModel", "parts", "(JII)J"⟩, 20), (⟨"WhisperJudgeModel", "heard", "(II)I"⟩, 20), (⟨"WhisperJudgeModel", "finds", "(II)Z"⟩, 20), (⟨"WhisperJudgeModel", "leads", "(III)Z"⟩, 20), (⟨"WhisperJudgeModel", "gives", "(I)V"⟩, 20)]
theorem lw_r3 : ∀ q ∈ lw_privs_3, lw_okq q := List.forall_mem_cons.mpr ⟨lw_p32, List.forall_mem_cons.mpr ⟨lw_p33, List.forall_mem_cons.mpr ⟨lw_p34, List.forall_mem_cons.mpr ⟨lw_p35, List.forall_mem_cons.mpr ⟨lw_p36, List.forall_mem_cons.mpr ⟨lw_p37, List.forall_mem_cons.mpr ⟨lw_p38, List.forall_mem_cons.mpr ⟨lw_p39, List.forall_mem_cons.mpr ⟨lw_p40, List.forall_mem_cons.mpr ⟨lw_p41, List.forall_mem_cons.mpr ⟨lw_p42, List.forall_mem_cons.mpr ⟨lw_p43, List.forall_mem_cons.mpr ⟨lw_p44, List.forall_mem_cons.mpr ⟨lw_p45, fun _ h => absurd h List.not_mem_nil⟩⟩⟩⟩⟩⟩⟩⟩⟩⟩⟩⟩⟩⟩
def lw_privs : List (MethodName × Nat) := lw_privs_1 ++ (lw_privs_2 ++ (lw_privs_3))
def lw_tbl : List Cond := k2_sels lw_privs ++ tables_1
theorem lw_privs_ok : ∀ q ∈ lw_privs, lw_okq q := by
  show ∀ q ∈ lw_privs_1 ++ (lw_privs_2 ++ (lw_privs_3)), lw_okq q
  exact List.forall_mem_append.mpr ⟨lw_r1, List.forall_mem_append.mpr ⟨lw_r2, lw_r3⟩⟩
-- ===== end of PART A; then your names; then what follows =====
/-! ===== BEGIN words of one list among another's, by their places ===== -/
theorem goodIn_r {big : List Cond} (ws : List Cond) (ps : List Nat) (hp : ws = ps.filterMap (fun i => big[i]?)) (h : ws.all goodWord = true) : GoodIn big ws := by
  intro w hw
  have h1 := List.all_eq_true.mp h w hw
  rw [hp] at hw
  obtain ⟨i, -, hi⟩ := List.mem_filterMap.mp hw
  have hm : w ∈ big := by first | exact List.mem_of_getElem? hi | exact List.getElem?_mem hi
  exact ⟨hm, good_of_word h1⟩
theorem goodIn_app {big a b : List Cond} (ha : GoodIn big a) (hb : GoodIn big b) : GoodIn big (a ++ b) := fun w h => (List.mem_append.mp h).elim (ha w) (hb w)
theorem goodIn_ca {big a b : List Cond} {c : Cond} (ha : GoodIn big (c :: a)) (hb : GoodIn big b) : GoodIn big (c :: (a ++ b)) := fun w h => (List.mem_cons.mp h).elim (fun e => ha w (List.mem_cons.mpr (Or.inl e))) (fun h => (List.mem_append.mp h).elim (fun h => ha w (List.mem_cons.mpr (Or.inr h))) (hb w))
theorem goodIn_sub {big ws : List Cond} (hm : ∀ w ∈ ws, w ∈ big) (h : ws.all goodWord = true) : GoodIn big ws := fun w hw => ⟨hm w hw, good_of_word (List.all_eq_true.mp h w hw)⟩
/-! ===== END ===== -/

/-! ===== BEGIN printed: names, fields, word lists, decode rows ===== -/
def RX0 : String := "WhisperJudge$Pair"
def TX0 : u_T := fun k => match k with
  | 0 => ("WhisperJudge$Pair", "rows", "[I", true)
  | 1 => ("WhisperJudge$Pair", "queue", "[I", true)
  | 2 => ("WhisperJudge$Pair", "before", "[I", true)
  | 3 => ("WhisperJudge$Pair", "edge", "[I", true)
  | 4 => ("WhisperJudge$Pair", "depth", "[I", true)
  | 5 => ("WhisperJudge$Pair", "queued", "I", false)
  | 6 => ("WhisperJudge$Pair", "length", "I", false)
  | _ => ("WhisperJudge$Pair", "asOf", "I", false)
def tyX0 : Nat → FieldType := fun k => match k with
  | 0 => .array .int
  | 1 => .array .int
  | 2 => .array .int
  | 3 => .array .int
  | 4 => .array .int
  | 5 => .int
  | 6 => .int
  | _ => .int
abbrev wsX00 : List Cond := u_ws RX0 TX0 8
theorem nmX0 : ∀ a, a < 8 → ∀ b, b < 8 → a ≠ b → (TX0 a).2.1 ≠ (TX0 b).2.1 := by decide +kernel
theorem tyX0_ok : ∀ k, k < 8 → parseFieldDescriptor (TX0 k).2.2.1 = some (tyX0 k) := by decide +kernel
abbrev cX0_init : ByteArray := prog_2_method_1_code
def yX0_init : MethodName := ⟨RX0, "<init>", "()V"⟩
abbrev cX0_find : ByteArray := prog_2_method_2_code
def yX0_find : MethodName := ⟨RX0, "find", "(LWhisperJudge$Room;I)V"⟩
abbrev cX0_node : ByteArray := prog_2_method_3_code
def yX0_node : MethodName := ⟨RX0, "node", "(III)I"⟩
abbrev cX0_reach : ByteArray := prog_2_method_4_code
def yX0_reach : MethodName := ⟨RX0, "reach", "(III)V"⟩
abbrev cX0_goOn : ByteArray := prog_2_method_5_code
def yX0_goOn : MethodName := ⟨RX0, "goOn", "(LWhisperJudge$Room;II)V"⟩
abbrev cX0_write : ByteArray := prog_2_method_6_code
def yX0_write : MethodName := ⟨RX0, "write", "(III)V"⟩
abbrev cX0_number : ByteArray := prog_2_method_7_code
def yX0_number : MethodName := ⟨RX0, "number", "(II)I"⟩
def RX1 : String := "WhisperJudge$Room"
def TX1 : u_T := fun k => match k with
  | 0 => ("WhisperJudge$Room", "sentTo", "[I", true)
  | 1 => ("WhisperJudge$Room", "heardTo", "[I", true)
  | 2 => ("WhisperJudge$Room", "heardAs", "[I", true)
  | 3 => ("WhisperJudge$Room", "cleanEach", "[I", true)
  | 4 => ("WhisperJudge$Room", "firsts", "[I", true)
  | 5 => ("WhisperJudge$Room", "acts", "I", false)
  | _ => ("WhisperJudge$Room", "start", "J", false)
def tyX1 : Nat → FieldType := fun k => match k with
  | 0 => .array .int
  | 1 => .array .int
  | 2 => .array .int
  | 3 => .array .int
  | 4 => .array .int
  | 5 => .int
  | _ => .long
abbrev wsX10 : List Cond := u_ws RX1 TX1 7
theorem nmX1 : ∀ a, a < 7 → ∀ b, b < 7 → a ≠ b → (TX1 a).2.1 ≠ (TX1 b).2.1 := by decide +kernel
theorem tyX1_ok : ∀ k, k < 7 → parseFieldDescriptor (TX1 k).2.2.1 = some (tyX1 k) := by decide +kernel
abbrev cX1_init : ByteArray := prog_3_method_1_code
def yX1_init : MethodName := ⟨RX1, "<init>", "()V"⟩
abbrev cX1_build : ByteArray := prog_3_method_2_code
def yX1_build : MethodName := ⟨RX1, "build", "([LWhisperJudge$Thing;II)V"⟩
abbrev cX1_buildAct : ByteArray := prog_3_method_3_code
def yX1_buildAct : MethodName := ⟨RX1, "buildAct", "(LWhisperJudge$Thing;III)V"⟩
abbrev cX1_place : ByteArray := prog_3_method_4_code
def yX1_place : MethodName := ⟨RX1, "place", "(II)I"⟩
abbrev cX1_period : ByteArray := prog_3_method_5_code
def yX1_period : MethodName := ⟨RX1, "period", "(I)I"⟩
abbrev cX1_isCleaned : ByteArray := prog_3_method_6_code
def yX1_isCleaned : MethodName := ⟨RX1, "isCleaned", "(II)Z"⟩
abbrev cX1_met : ByteArray := prog_3_method_7_code
def yX1_met : MethodName := ⟨RX1, "met", "(IIII)I"⟩
abbrev cX1_answer : ByteArray := prog_3_method_8_code
def yX1_answer : MethodName := ⟨RX1, "answer", "(III)I"⟩
abbrev cX1_left : ByteArray := prog_3_method_9_code
def yX1_left : MethodName := ⟨RX1, "left", "(III)I"⟩
abbrev cX1_sent : ByteArray := prog_3_method_10_code
def yX1_sent : MethodName := ⟨RX1, "sent", "(JIII)J"⟩
abbrev cX1_answers : ByteArray := prog_3_method_11_code
def yX1_answers : MethodName := ⟨RX1, "answers", "(JI)I"⟩
abbrev cX1_heard : ByteArray := prog_3_method_12_code
def yX1_heard : MethodName := ⟨RX1, "heard", "(JII)J"⟩
abbrev cX1_moved : ByteArray := prog_3_method_13_code
def yX1_moved : MethodName := ⟨RX1, "moved", "(JIII)J"⟩
def RX2 : String := "WhisperJudge$Thing"
def TX2 : u_T := fun k => match k with
  | 0 => ("WhisperJudge$Thing", "prices", "[I", true)
  | 1 => ("WhisperJudge$Thing", "kind", "I", false)
  | 2 => ("WhisperJudge$Thing", "first", "I", false)
  | 3 => ("WhisperJudge$Thing", "wall", "I", false)
  | 4 => ("WhisperJudge$Thing", "cleaned", "I", false)
  | 5 => ("WhisperJudge$Thing", "padded", "I", false)
  | 6 => ("WhisperJudge$Thing", "now", "I", false)
  | 7 => ("WhisperJudge$Thing", "nexts", "J", false)
  | _ => ("WhisperJudge$Thing", "answers", "J", false)
def tyX2 : Nat → FieldType := fun k => match k with
  | 0 => .array .int
  | 1 => .int
  | 2 => .int
  | 3 => .int
  | 4 => .int
  | 5 => .int
  | 6 => .int
  | 7 => .long
  | _ => .long
abbrev wsX20 : List Cond := u_ws RX2 TX2 9
theorem nmX2 : ∀ a, a < 9 → ∀ b, b < 9 → a ≠ b → (TX2 a).2.1 ≠ (TX2 b).2.1 := by decide +kernel
theorem tyX2_ok : ∀ k, k < 9 → parseFieldDescriptor (TX2 k).2.2.1 = some (tyX2 k) := by decide +kernel
abbrev cX2_init : ByteArray := prog_4_method_1_code
def yX2_init : MethodName := ⟨RX2, "<init>", "()V"⟩
abbrev cX2_come : ByteArray := prog_4_method_2_code
def yX2_come : MethodName := ⟨RX2, "come", "(IIJJ)V"⟩
abbrev cX2_keep : ByteArray := prog_4_method_3_code
def yX2_keep : MethodName := ⟨RX2, "keep", "(II)V"⟩
abbrev cX2_next : ByteArray := prog_4_method_4_code
def yX2_next : MethodName := ⟨RX2, "next", "(III)I"⟩
abbrev cX2_answer : ByteArray := prog_4_method_5_code
def yX2_answer : MethodName := ⟨RX2, "answer", "(III)I"⟩
abbrev cX2_told : ByteArray := prog_4_method_6_code
def yX2_told : MethodName := ⟨RX2, "told", "(JIII)I"⟩
abbrev cX2_nextByKind : ByteArray := prog_4_method_7_code
def yX2_nextByKind : MethodName := ⟨RX2, "nextByKind", "(III)I"⟩
abbrev cX2_answerByKind : ByteArray := prog_4_method_8_code
def yX2_answerByKind : MethodName := ⟨RX2, "answerByKind", "(III)I"⟩
def RX3 : String := "WhisperJudge$Whisper"
def TX3 : u_T := fun k => match k with
  | 0 => ("WhisperJudge$Whisper", "rows", "[I", true)
  | 1 => ("WhisperJudge$Whisper", "acts", "[I", true)
  | 2 => ("WhisperJudge$Whisper", "answers", "[I", true)
  | 3 => ("WhisperJudge$Whisper", "n", "I", true)
  | 4 => ("WhisperJudge$Whisper", "many", "I", false)
  | _ => ("WhisperJudge$Whisper", "asOf", "I", false)
def tyX3 : Nat → FieldType := fun k => match k with
  | 0 => .array .int
  | 1 => .array .int
  | 2 => .array .int
  | 3 => .int
  | 4 => .int
  | _ => .int
abbrev wsX30 : List Cond := u_ws RX3 TX3 6
theorem nmX3 : ∀ a, a < 6 → ∀ b, b < 6 → a ≠ b → (TX3 a).2.1 ≠ (TX3 b).2.1 := by decide +kernel
theorem tyX3_ok : ∀ k, k < 6 → parseFieldDescriptor (TX3 k).2.2.1 = some (tyX3 k) := by decide +kernel
abbrev cX3_init : ByteArray := prog_5_method_1_code
def yX3_init : MethodName := ⟨RX3, "<init>", "(I)V"⟩
abbrev cX3_place : ByteArray := prog_5_method_2_code
def yX3_place : MethodName := ⟨RX3, "place", "(II)I"⟩
abbrev cX3_grow : ByteArray := prog_5_method_3_code
def yX3_grow : MethodName := ⟨RX3, "grow", "(LWhisperJudge$Whisper;LWhisperJudge$Room;JI)V"⟩
abbrev cX3_addLetter : ByteArray := prog_5_method_4_code
def yX3_addLetter : MethodName := ⟨RX3, "addLetter", "()V"⟩
abbrev cX3_addSenders : ByteArray := prog_5_method_5_code
def yX3_addSenders : MethodName := ⟨RX3, "addSenders", "(LWhisperJudge$Room;)V"⟩
abbrev cX3_step : ByteArray := prog_5_method_6_code
def yX3_step : MethodName := ⟨RX3, "step", "(LWhisperJudge$Room;JIII)J"⟩
abbrev cX3_leads : ByteArray := prog_5_method_7_code
def yX3_leads : MethodName := ⟨RX3, "leads", "(LWhisperJudge$Room;JII)Z"⟩
def RX4 : String := "WhisperJudge"
def TX4 : u_T := fun k => match k with
  | 0 => ("WhisperJudge", "things", "[LWhisperJudge$Thing;", true)
  | 1 => ("WhisperJudge", "pairs", "[LWhisperJudge$Pair;", true)
  | 2 => ("WhisperJudge", "whispers", "[LWhisperJudge$Whisper;", true)
  | 3 => ("WhisperJudge", "room", "LWhisperJudge$Room;", true)
  | 4 => ("WhisperJudge", "count", "I", false)
  | 5 => ("WhisperJudge", "ticks", "I", false)
  | _ => ("WhisperJudge", "changes", "I", false)
def tyX4 : Nat → FieldType := fun k => match k with
  | 0 => .array (.object "WhisperJudge$Thing")
  | 1 => .array (.object "WhisperJudge$Pair")
  | 2 => .array (.object "WhisperJudge$Whisper")
  | 3 => .object "WhisperJudge$Room"
  | 4 => .int
  | 5 => .int
  | _ => .int
abbrev wsX40 : List Cond := u_ws RX4 TX4 7
theorem nmX4 : ∀ a, a < 7 → ∀ b, b < 7 → a ≠ b → (TX4 a).2.1 ≠ (TX4 b).2.1 := by decide +kernel
theorem tyX4_ok : ∀ k, k < 7 → parseFieldDescriptor (TX4 k).2.2.1 = some (tyX4 k) := by decide +kernel
abbrev cX4_init : ByteArray := prog_1_method_1_code
def yX4_init : MethodName := ⟨RX4, "<init>", "()V"⟩
abbrev cX4_clear : ByteArray := prog_1_method_2_code
def yX4_clear : MethodName := ⟨RX4, "clear", "()V"⟩
abbrev cX4_thing : ByteArray := prog_1_method_3_code
def yX4_thing : MethodName := ⟨RX4, "thing", "(II)I"⟩
abbrev cX4_table : ByteArray := prog_1_method_4_code
def yX4_table : MethodName := ⟨RX4, "table", "(IJJ)I"⟩
abbrev cX4_wall : ByteArray := prog_1_method_5_code
def yX4_wall : MethodName := ⟨RX4, "wall", "(III)Z"⟩
abbrev cX4_set : ByteArray := prog_1_method_6_code
def yX4_set : MethodName := ⟨RX4, "set", "(III)Z"⟩
abbrev cX4_price : ByteArray := prog_1_method_7_code
def yX4_price : MethodName := ⟨RX4, "price", "(III)Z"⟩
abbrev cX4_look : ByteArray := prog_1_method_8_code
def yX4_look : MethodName := ⟨RX4, "look", "(I)I"⟩
abbrev cX4_of : ByteArray := prog_1_method_9_code
def yX4_of : MethodName := ⟨RX4, "of", "(II)I"⟩
abbrev cX4_does : ByteArray := prog_1_method_10_code
def yX4_does : MethodName := ⟨RX4, "does", "(IIIII)I"⟩
abbrev cX4_silent : ByteArray := prog_1_method_11_code
def yX4_silent : MethodName := ⟨RX4, "silent", "(I)I"⟩
abbrev cX4_shown : ByteArray := prog_1_method_12_code
def yX4_shown : MethodName := ⟨RX4, "shown", "(I)I"⟩
abbrev cX4_show : ByteArray := prog_1_method_13_code
def yX4_show : MethodName := ⟨RX4, "show", "(III)I"⟩
abbrev cX4_letters : ByteArray := prog_1_method_14_code
def yX4_letters : MethodName := ⟨RX4, "letters", "(I)I"⟩
abbrev cX4_letter : ByteArray := prog_1_method_15_code
def yX4_letter : MethodName := ⟨RX4, "letter", "(IIII)I"⟩
abbrev cX4_begin : ByteArray := prog_1_method_16_code
def yX4_begin : MethodName := ⟨RX4, "begin", "()V"⟩
abbrev cX4_run : ByteArray := prog_1_method_17_code
def yX4_run : MethodName := ⟨RX4, "run", "(II)I"⟩
abbrev cX4_state : ByteArray := prog_1_method_18_code
def yX4_state : MethodName := ⟨RX4, "state", "(I)I"⟩
abbrev cX4_ticks : ByteArray := prog_1_method_19_code
def yX4_ticks : MethodName := ⟨RX4, "ticks", "()I"⟩
abbrev cX4_walls : ByteArray := prog_1_method_20_code
def yX4_walls : MethodName := ⟨RX4, "walls", "(III)I"⟩
abbrev cX4_give : ByteArray := prog_1_method_21_code
def yX4_give : MethodName := ⟨RX4, "give", "(I)Z"⟩
abbrev cX4_isThing : ByteArray := prog_1_method_22_code
def yX4_isThing : MethodName := ⟨RX4, "isThing", "(I)Z"⟩
abbrev cX4_isAct : ByteArray := prog_1_method_23_code
def yX4_isAct : MethodName := ⟨RX4, "isAct", "(I)Z"⟩
abbrev cX4_canBe : ByteArray := prog_1_method_24_code
def yX4_canBe : MethodName := ⟨RX4, "canBe", "(II)Z"⟩
abbrev cX4_canHave : ByteArray := prog_1_method_25_code
def yX4_canHave : MethodName := ⟨RX4, "canHave", "(II)Z"⟩
abbrev cX4_come : ByteArray := prog_1_method_26_code
def yX4_come : MethodName := ⟨RX4, "come", "(IIJJ)I"⟩
abbrev cX4_wallIn : ByteArray := prog_1_method_27_code
def yX4_wallIn : MethodName := ⟨RX4, "wallIn", "(II)I"⟩
abbrev cX4_wallsNow : ByteArray := prog_1_method_28_code
def yX4_wallsNow : MethodName := ⟨RX4, "wallsNow", "()I"⟩
abbrev cX4_sumOf : ByteArray := prog_1_method_29_code
def yX4_sumOf : MethodName := ⟨RX4, "sumOf", "(I)I"⟩
abbrev cX4_countSilent : ByteArray := prog_1_method_30_code
def yX4_countSilent : MethodName := ⟨RX4, "countSilent", "()I"⟩
abbrev cX4_pairOf : ByteArray := prog_1_method_31_code
def yX4_pairOf : MethodName := ⟨RX4, "pairOf", "(I)LWhisperJudge$Pair;"⟩
abbrev cX4_whisperOf : ByteArray := prog_1_method_32_code
def yX4_whisperOf : MethodName := ⟨RX4, "whisperOf", "(I)LWhisperJudge$Whisper;"⟩
abbrev cX4_lettersBehind : ByteArray := prog_1_method_33_code
def yX4_lettersBehind : MethodName := ⟨RX4, "lettersBehind", "(II)I"⟩
abbrev cX4_most : ByteArray := prog_1_method_34_code
def yX4_most : MethodName := ⟨RX4, "most", "(LWhisperJudge$Room;JII)I"⟩
abbrev cX4_mostBy : ByteArray := prog_1_method_35_code
def yX4_mostBy : MethodName := ⟨RX4, "mostBy", "(LWhisperJudge$Room;JIII)I"⟩
def RX5 : String := "WhisperJudgeModel"
def TX5 : u_T := fun k => match k with
  | 0 => ("WhisperJudgeModel", "many", "I", false)
  | 1 => ("WhisperJudgeModel", "kind", "[I", true)
  | 2 => ("WhisperJudgeModel", "first", "[I", true)
  | 3 => ("WhisperJudgeModel", "wall", "[I", true)
  | 4 => ("WhisperJudgeModel", "clean", "[I", true)
  | 5 => ("WhisperJudgeModel", "pad", "[I", true)
  | 6 => ("WhisperJudgeModel", "price", "[I", true)
  | 7 => ("WhisperJudgeModel", "state", "[I", true)
  | 8 => ("WhisperJudgeModel", "nextOf", "[J", true)
  | 9 => ("WhisperJudgeModel", "answerOf", "[J", true)
  | 10 => ("WhisperJudgeModel", "ticks", "I", false)
  | 11 => ("WhisperJudgeModel", "ahead", "[I", true)
  | 12 => ("WhisperJudgeModel", "knownSet", "[J", true)
  | 13 => ("WhisperJudgeModel", "knownTick", "[I", true)
  | 14 => ("WhisperJudgeModel", "knownIn", "[I", true)
  | 15 => ("WhisperJudgeModel", "knownMost", "[I", true)
  | 16 => ("WhisperJudgeModel", "question", "I", false)
  | 17 => ("WhisperJudgeModel", "acts", "[I", true)
  | 18 => ("WhisperJudgeModel", "said", "[I", true)
  | _ => ("WhisperJudgeModel", "wish", "[I", true)
def tyX5 : Nat → FieldType := fun k => match k with
  | 0 => .int
  | 1 => .array .int
  | 2 => .array .int
  | 3 => .array .int
  | 4 => .array .int
  | 5 => .array .int
  | 6 => .array .int
  | 7 => .array .int
  | 8 => .array .long
  | 9 => .array .long
  | 10 => .int
  | 11 => .array .int
  | 12 => .array .long
  | 13 => .array .int
  | 14 => .array .int
  | 15 => .array .int
  | 16 => .int
  | 17 => .array .int
  | 18 => .array .int
  | _ => .array .int
abbrev wsX50 : List Cond := u_ws RX5 TX5 20
theorem nmX5 : ∀ a, a < 20 → ∀ b, b < 20 → a ≠ b → (TX5 a).2.1 ≠ (TX5 b).2.1 := by decide +kernel
theorem tyX5_ok : ∀ k, k < 20 → parseFieldDescriptor (TX5 k).2.2.1 = some (tyX5 k) := by decide +kernel
abbrev cX5_init : ByteArray := prog_7_method_1_code
def yX5_init : MethodName := ⟨RX5, "<init>", "()V"⟩
abbrev cX5_isIn : ByteArray := prog_7_method_2_code
def yX5_isIn : MethodName := ⟨RX5, "isIn", "(III)Z"⟩
abbrev cX5_isThing : ByteArray := prog_7_method_3_code
def yX5_isThing : MethodName := ⟨RX5, "isThing", "(I)Z"⟩
abbrev cX5_clear : ByteArray := prog_7_method_4_code
def yX5_clear : MethodName := ⟨RX5, "clear", "()V"⟩
abbrev cX5_comes : ByteArray := prog_7_method_5_code
def yX5_comes : MethodName := ⟨RX5, "comes", "(II)I"⟩
abbrev cX5_thing : ByteArray := prog_7_method_6_code
def yX5_thing : MethodName := ⟨RX5, "thing", "(II)I"⟩
abbrev cX5_table : ByteArray := prog_7_method_7_code
def yX5_table : MethodName := ⟨RX5, "table", "(IJJ)I"⟩
abbrev cX5_isBy : ByteArray := prog_7_method_8_code
def yX5_isBy : MethodName := ⟨RX5, "isBy", "(II)Z"⟩
abbrev cX5_wall : ByteArray := prog_7_method_9_code
def yX5_wall : MethodName := ⟨RX5, "wall", "(III)Z"⟩
abbrev cX5_set : ByteArray := prog_7_method_10_code
def yX5_set : MethodName := ⟨RX5, "set", "(III)Z"⟩
abbrev cX5_price : ByteArray := prog_7_method_11_code
def yX5_price : MethodName := ⟨RX5, "price", "(III)Z"⟩
abbrev cX5_wallsNow : ByteArray := prog_7_method_12_code
def yX5_wallsNow : MethodName := ⟨RX5, "wallsNow", "()I"⟩
abbrev cX5_costs : ByteArray := prog_7_method_13_code
def yX5_costs : MethodName := ⟨RX5, "costs", "(I)I"⟩
abbrev cX5_look : ByteArray := prog_7_method_14_code
def yX5_look : MethodName := ⟨RX5, "look", "(I)I"⟩
abbrev cX5_of : ByteArray := prog_7_method_15_code
def yX5_of : MethodName := ⟨RX5, "of", "(II)I"⟩
abbrev cX5_act : ByteArray := prog_7_method_16_code
def yX5_act : MethodName := ⟨RX5, "act", "(IIII)I"⟩
abbrev cX5_does : ByteArray := prog_7_method_17_code
def yX5_does : MethodName := ⟨RX5, "does", "(IIIII)I"⟩
abbrev cX5_sends : ByteArray := prog_7_method_18_code
def yX5_sends : MethodName := ⟨RX5, "sends", "(III)I"⟩
abbrev cX5_cleans : ByteArray := prog_7_method_19_code
def yX5_cleans : MethodName := ⟨RX5, "cleans", "(III)I"⟩
abbrev cX5_hears : ByteArray := prog_7_method_20_code
def yX5_hears : MethodName := ⟨RX5, "hears", "(III)I"⟩
abbrev cX5_answers : ByteArray := prog_7_method_21_code
def yX5_answers : MethodName := ⟨RX5, "answers", "(III)I"⟩
abbrev cX5_at : ByteArray := prog_7_method_22_code
def yX5_at : MethodName := ⟨RX5, "at", "(III)I"⟩
abbrev cX5_phases : ByteArray := prog_7_method_23_code
def yX5_phases : MethodName := ⟨RX5, "phases", "(I)I"⟩
abbrev cX5_after : ByteArray := prog_7_method_24_code
def yX5_after : MethodName := ⟨RX5, "after", "(IIIIIII)I"⟩
abbrev cX5_looksAhead : ByteArray := prog_7_method_25_code
def yX5_looksAhead : MethodName := ⟨RX5, "looksAhead", "(I)V"⟩
abbrev cX5_shortest : ByteArray := prog_7_method_26_code
def yX5_shortest : MethodName := ⟨RX5, "shortest", "(I)I"⟩
abbrev cX5_silent : ByteArray := prog_7_method_27_code
def yX5_silent : MethodName := ⟨RX5, "silent", "(I)I"⟩
abbrev cX5_shown : ByteArray := prog_7_method_28_code
def yX5_shown : MethodName := ⟨RX5, "shown", "(I)I"⟩
abbrev cX5_named : ByteArray := prog_7_method_29_code
def yX5_named : MethodName := ⟨RX5, "named", "(II)I"⟩
abbrev cX5_show : ByteArray := prog_7_method_30_code
def yX5_show : MethodName := ⟨RX5, "show", "(III)I"⟩
abbrev cX5_isAct : ByteArray := prog_7_method_31_code
def yX5_isAct : MethodName := ⟨RX5, "isAct", "(I)Z"⟩
abbrev cX5_startOf : ByteArray := prog_7_method_32_code
def yX5_startOf : MethodName := ⟨RX5, "startOf", "()I"⟩
abbrev cX5_part : ByteArray := prog_7_method_33_code
def yX5_part : MethodName := ⟨RX5, "part", "(II)I"⟩
abbrev cX5_with : ByteArray := prog_7_method_34_code
def yX5_with : MethodName := ⟨RX5, "with", "(III)I"⟩
abbrev cX5_sent : ByteArray := prog_7_method_35_code
def yX5_sent : MethodName := ⟨RX5, "sent", "(III)I"⟩
abbrev cX5_heard : ByteArray := prog_7_method_36_code
def yX5_heard : MethodName := ⟨RX5, "heard", "(II)I"⟩
abbrev cX5_told : ByteArray := prog_7_method_37_code
def yX5_told : MethodName := ⟨RX5, "told", "(II)I"⟩
abbrev cX5_spreads : ByteArray := prog_7_method_38_code
def yX5_spreads : MethodName := ⟨RX5, "spreads", "(JI)J"⟩
abbrev cX5_parts : ByteArray := prog_7_method_39_code
def yX5_parts : MethodName := ⟨RX5, "parts", "(JII)J"⟩
abbrev cX5_most : ByteArray := prog_7_method_40_code
def yX5_most : MethodName := ⟨RX5, "most", "(JII)I"⟩
abbrev cX5_answersOf : ByteArray := prog_7_method_41_code
def yX5_answersOf : MethodName := ⟨RX5, "answersOf", "(JI)I"⟩
abbrev cX5_by : ByteArray := prog_7_method_42_code
def yX5_by : MethodName := ⟨RX5, "by", "(JIII)I"⟩
abbrev cX5_letters : ByteArray := prog_7_method_43_code
def yX5_letters : MethodName := ⟨RX5, "letters", "(I)I"⟩
abbrev cX5_finds : ByteArray := prog_7_method_44_code
def yX5_finds : MethodName := ⟨RX5, "finds", "(II)Z"⟩
abbrev cX5_leads : ByteArray := prog_7_method_45_code
def yX5_leads : MethodName := ⟨RX5, "leads", "(III)Z"⟩
abbrev cX5_letter : ByteArray := prog_7_method_46_code
def yX5_letter : MethodName := ⟨RX5, "letter", "(IIII)I"⟩
abbrev cX5_begin : ByteArray := prog_7_method_47_code
def yX5_begin : MethodName := ⟨RX5, "begin", "()V"⟩
abbrev cX5_run : ByteArray := prog_7_method_48_code
def yX5_run : MethodName := ⟨RX5, "run", "(II)I"⟩
abbrev cX5_state : ByteArray := prog_7_method_49_code
def yX5_state : MethodName := ⟨RX5, "state", "(I)I"⟩
abbrev cX5_ticks : ByteArray := prog_7_method_50_code
def yX5_ticks : MethodName := ⟨RX5, "ticks", "()I"⟩
abbrev cX5_walls : ByteArray := prog_7_method_51_code
def yX5_walls : MethodName := ⟨RX5, "walls", "(III)I"⟩
abbrev cX5_gives : ByteArray := prog_7_method_52_code
def yX5_gives : MethodName := ⟨RX5, "gives", "(I)V"⟩
abbrev cX5_give : ByteArray := prog_7_method_53_code
def yX5_give : MethodName := ⟨RX5, "give", "(I)Z"⟩
def RJ6 : String := "java/lang/Integer"
def TJ6 : u_T := fun k => match k with
  | _ => ("", "", "", false)
def tyJ6 : Nat → FieldType := fun k => match k with
  | _ => .int
abbrev wsJ60 : List Cond := u_ws RJ6 TJ6 0
theorem nmJ6 : ∀ a, a < 0 → ∀ b, b < 0 → a ≠ b → (TJ6 a).2.1 ≠ (TJ6 b).2.1 := by decide +kernel
theorem tyJ6_ok : ∀ k, k < 0 → parseFieldDescriptor (TJ6 k).2.2.1 = some (tyJ6 k) := by decide +kernel
abbrev cJ6_bitCount_0f7a4 : ByteArray := prog_8_method_49_code
def yJ6_bitCount_0f7a4 : MethodName := ⟨RJ6, "bitCount", "(I)I"⟩
def RJ9 : String := "java/lang/Math"
def TJ9 : u_T := fun k => match k with
  | _ => ("", "", "", false)
def tyJ9 : Nat → FieldType := fun k => match k with
  | _ => .int
abbrev wsJ90 : List Cond := u_ws RJ9 TJ9 0
theorem nmJ9 : ∀ a, a < 0 → ∀ b, b < 0 → a ≠ b → (TJ9 a).2.1 ≠ (TJ9 b).2.1 := by decide +kernel
theorem tyJ9_ok : ∀ k, k < 0 → parseFieldDescriptor (TJ9 k).2.2.1 = some (tyJ9 k) := by decide +kernel
abbrev cJ9_max_7cf53 : ByteArray := prog_9_method_65_code
def yJ9_max_7cf53 : MethodName := ⟨RJ9, "max", "(II)I"⟩
abbrev cJ9_min_7cf53 : ByteArray := prog_9_method_69_code
def yJ9_min_7cf53 : MethodName := ⟨RJ9, "min", "(II)I"⟩
def RJ7 : String := "java/util/Arrays"
def TJ7 : u_T := fun k => match k with
  | _ => ("", "", "", false)
def tyJ7 : Nat → FieldType := fun k => match k with
  | _ => .int
abbrev wsJ70 : List Cond := u_ws RJ7 TJ7 0
theorem nmJ7 : ∀ a, a < 0 → ∀ b, b < 0 → a ≠ b → (TJ7 a).2.1 ≠ (TJ7 b).2.1 := by decide +kernel
theorem tyJ7_ok : ∀ k, k < 0 → parseFieldDescriptor (TJ7 k).2.2.1 = some (tyJ7 k) := by decide +kernel
abbrev cJ7_fill_53178 : ByteArray := prog_10_method_103_code
def yJ7_fill_53178 : MethodName := ⟨RJ7, "fill", "([II)V"⟩
def RL : String := "WhisperJudgeLaw"
abbrev cL_law : ByteArray := code
def yL_law : MethodName := ⟨RL, "law", "([I)Z"⟩
def wsX0_init : List Cond := .code yX0_init cX0_init 1 none :: ([.methodLink RX0 3 objectInit, .instanceMethod objectInit, .code objectInit ⟨#[0xb1]⟩ 1 none, .arrayClass .int, .fieldLink RX0 11 "WhisperJudge$Pair" "rows" "[I", .fieldLink RX0 15 "WhisperJudge$Pair" "queue" "[I", .fieldLink RX0 18 "WhisperJudge$Pair" "before" "[I", .fieldLink RX0 21 "WhisperJudge$Pair" "edge" "[I", .fieldLink RX0 24 "WhisperJudge$Pair" "depth" "[I", .fieldLink RX0 27 "WhisperJudge$Pair" "asOf" "I"] ++ wsX00)
def wsJ7_fill_53178 : List Cond := .code yJ7_fill_53178 cJ7_fill_53178 4 none :: ([])
def wsX0_node : List Cond := .code yX0_node cX0_node 3 (some .int) :: ([])
def wsX0_reach : List Cond := .code yX0_reach cX0_reach 4 none :: ([.fieldLink RX0 24 "WhisperJudge$Pair" "depth" "[I", .fieldLink RX0 34 "WhisperJudge$Pair" "queued" "I", .fieldLink RX0 18 "WhisperJudge$Pair" "before" "[I", .fieldLink RX0 21 "WhisperJudge$Pair" "edge" "[I", .fieldLink RX0 15 "WhisperJudge$Pair" "queue" "[I"] ++ wsX00)
def wsX1_isCleaned : List Cond := .code yX1_isCleaned cX1_isCleaned 3 (some .boolean) :: ([.fieldLink RX1 21 "WhisperJudge$Room" "cleanEach" "[I"] ++ wsX10)
def wsX1_place : List Cond := .code yX1_place cX1_place 2 (some .int) :: ([])
def wsX1_met : List Cond := .code yX1_met cX1_met 5 (some .int) :: ([.fieldLink RX1 24 "WhisperJudge$Room" "firsts" "[I", .fieldLink RX1 9 "WhisperJudge$Room" "sentTo" "[I", .methodLink RX1 69 yX1_isCleaned, .instanceMethod yX1_isCleaned, .selects RX1 yX1_isCleaned yX1_isCleaned, .initialized RX1, .code yX1_isCleaned cX1_isCleaned 3 (some .boolean), .fieldLink RX1 21 "WhisperJudge$Room" "cleanEach" "[I", .methodLink RX1 55 yX1_place, .static yX1_place, .code yX1_place cX1_place 2 (some .int)] ++ wsX10)
def wsX1_answer : List Cond := .code yX1_answer cX1_answer 4 (some .int) :: ([.fieldLink RX1 18 "WhisperJudge$Room" "heardAs" "[I", .methodLink RX1 55 yX1_place, .static yX1_place, .initialized RX1, .code yX1_place cX1_place 2 (some .int)] ++ wsX10)
def wsX0_number : List Cond := .code yX0_number cX0_number 2 (some .int) :: ([])
def wsX0_write : List Cond := .code yX0_write cX0_write 7 none :: ([.fieldLink RX0 24 "WhisperJudge$Pair" "depth" "[I", .fieldLink RX0 31 "WhisperJudge$Pair" "length" "I", .fieldLink RX0 11 "WhisperJudge$Pair" "rows" "[I", .fieldLink RX0 21 "WhisperJudge$Pair" "edge" "[I", .fieldLink RX0 18 "WhisperJudge$Pair" "before" "[I", .methodLink RX0 77 yX0_number, .static yX0_number, .initialized RX0, .code yX0_number cX0_number 2 (some .int)] ++ wsX00)
def wsX1_left : List Cond := .code yX1_left cX1_left 4 (some .int) :: ([.fieldLink RX1 15 "WhisperJudge$Room" "heardTo" "[I", .methodLink RX1 55 yX1_place, .static yX1_place, .initialized RX1, .code yX1_place cX1_place 2 (some .int)] ++ wsX10)
def wsX1_period : List Cond := .code yX1_period cX1_period 2 (some .int) :: ([.fieldLink RX1 21 "WhisperJudge$Room" "cleanEach" "[I"] ++ wsX10)
def wsX0_goOn_r1 : List Cond := [Cond.fieldLink RX0 31 "WhisperJudge$Pair" "length" "I", Cond.methodLink RX0 60 yX1_met, Cond.instanceMethod yX1_met, Cond.selects RX1 yX1_met yX1_met, Cond.initialized RX1, Cond.code yX1_met cX1_met 5 (some .int), Cond.fieldLink RX1 24 "WhisperJudge$Room" "firsts" "[I", Cond.fieldLink RX1 9 "WhisperJudge$Room" "sentTo" "[I", Cond.methodLink RX1 69 yX1_isCleaned, Cond.instanceMethod yX1_isCleaned, Cond.selects RX1 yX1_isCleaned yX1_isCleaned, Cond.code yX1_isCleaned cX1_isCleaned 3 (some .boolean), Cond.fieldLink RX1 21 "WhisperJudge$Room" "cleanEach" "[I", Cond.methodLink RX1 55 yX1_place, Cond.static yX1_place, Cond.code yX1_place cX1_place 2 (some .int), Cond.methodLink RX0 64 yX1_answer, Cond.instanceMethod yX1_answer, Cond.selects RX1 yX1_answer yX1_answer, Cond.code yX1_answer cX1_answer 4 (some .int), Cond.fieldLink RX1 18 "WhisperJudge$Room" "heardAs" "[I", Cond.methodLink RX0 67 yX0_write, Cond.instanceMethod yX0_write, Cond.selects RX0 yX0_write yX0_write]
def wsX0_goOn_r2 : List Cond := [Cond.initialized RX0, Cond.code yX0_write cX0_write 7 none, Cond.fieldLink RX0 24 "WhisperJudge$Pair" "depth" "[I", Cond.fieldLink RX0 11 "WhisperJudge$Pair" "rows" "[I", Cond.fieldLink RX0 21 "WhisperJudge$Pair" "edge" "[I", Cond.fieldLink RX0 18 "WhisperJudge$Pair" "before" "[I", Cond.methodLink RX0 77 yX0_number, Cond.static yX0_number, Cond.code yX0_number cX0_number 2 (some .int), Cond.methodLink RX0 70 yX1_left, Cond.instanceMethod yX1_left, Cond.selects RX1 yX1_left yX1_left, Cond.code yX1_left cX1_left 4 (some .int), Cond.fieldLink RX1 15 "WhisperJudge$Room" "heardTo" "[I", Cond.methodLink RX0 73 yX1_period, Cond.instanceMethod yX1_period, Cond.selects RX1 yX1_period yX1_period, Cond.code yX1_period cX1_period 2 (some .int), Cond.methodLink RX0 48 yX0_node, Cond.static yX0_node, Cond.code yX0_node cX0_node 3 (some .int), Cond.methodLink RX0 52 yX0_reach, Cond.instanceMethod yX0_reach, Cond.selects RX0 yX0_reach yX0_reach]
def wsX0_goOn_r3 : List Cond := [Cond.code yX0_reach cX0_reach 4 none, Cond.fieldLink RX0 34 "WhisperJudge$Pair" "queued" "I", Cond.fieldLink RX0 15 "WhisperJudge$Pair" "queue" "[I"]
def wsX0_goOn : List Cond := .code yX0_goOn cX0_goOn 12 none :: ((wsX0_goOn_r1 ++ (wsX0_goOn_r2 ++ wsX0_goOn_r3)) ++ wsX00 ++ wsX10)
def wsX0_find_r1 : List Cond := [Cond.fieldLink RX0 31 "WhisperJudge$Pair" "length" "I", Cond.fieldLink RX0 34 "WhisperJudge$Pair" "queued" "I", Cond.fieldLink RX0 24 "WhisperJudge$Pair" "depth" "[I", Cond.fieldLink RX0 15 "WhisperJudge$Pair" "queue" "[I", Cond.methodLink RX0 37 yJ7_fill_53178, Cond.static yJ7_fill_53178, Cond.initialized RJ7, Cond.code yJ7_fill_53178 cJ7_fill_53178 4 none, Cond.methodLink RX0 48 yX0_node, Cond.static yX0_node, Cond.initialized RX0, Cond.code yX0_node cX0_node 3 (some .int), Cond.methodLink RX0 52 yX0_reach, Cond.instanceMethod yX0_reach, Cond.selects RX0 yX0_reach yX0_reach, Cond.code yX0_reach cX0_reach 4 none, Cond.fieldLink RX0 18 "WhisperJudge$Pair" "before" "[I", Cond.fieldLink RX0 21 "WhisperJudge$Pair" "edge" "[I", Cond.methodLink RX0 56 yX0_goOn, Cond.instanceMethod yX0_goOn, Cond.selects RX0 yX0_goOn yX0_goOn, Cond.code yX0_goOn cX0_goOn 12 none, Cond.methodLink RX0 60 yX1_met, Cond.instanceMethod yX1_met]
def wsX0_find_r2 : List Cond := [Cond.selects RX1 yX1_met yX1_met, Cond.initialized RX1, Cond.code yX1_met cX1_met 5 (some .int), Cond.fieldLink RX1 24 "WhisperJudge$Room" "firsts" "[I", Cond.fieldLink RX1 9 "WhisperJudge$Room" "sentTo" "[I", Cond.methodLink RX1 69 yX1_isCleaned, Cond.instanceMethod yX1_isCleaned, Cond.selects RX1 yX1_isCleaned yX1_isCleaned, Cond.code yX1_isCleaned cX1_isCleaned 3 (some .boolean), Cond.fieldLink RX1 21 "WhisperJudge$Room" "cleanEach" "[I", Cond.methodLink RX1 55 yX1_place, Cond.static yX1_place, Cond.code yX1_place cX1_place 2 (some .int), Cond.methodLink RX0 64 yX1_answer, Cond.instanceMethod yX1_answer, Cond.selects RX1 yX1_answer yX1_answer, Cond.code yX1_answer cX1_answer 4 (some .int), Cond.fieldLink RX1 18 "WhisperJudge$Room" "heardAs" "[I", Cond.methodLink RX0 67 yX0_write, Cond.instanceMethod yX0_write, Cond.selects RX0 yX0_write yX0_write, Cond.code yX0_write cX0_write 7 none, Cond.fieldLink RX0 11 "WhisperJudge$Pair" "rows" "[I", Cond.methodLink RX0 77 yX0_number]
def wsX0_find_r3 : List Cond := [Cond.static yX0_number, Cond.code yX0_number cX0_number 2 (some .int), Cond.methodLink RX0 70 yX1_left, Cond.instanceMethod yX1_left, Cond.selects RX1 yX1_left yX1_left, Cond.code yX1_left cX1_left 4 (some .int), Cond.fieldLink RX1 15 "WhisperJudge$Room" "heardTo" "[I", Cond.methodLink RX0 73 yX1_period, Cond.instanceMethod yX1_period, Cond.selects RX1 yX1_period yX1_period, Cond.code yX1_period cX1_period 2 (some .int)]
def wsX0_find : List Cond := .code yX0_find cX0_find 4 none :: ((wsX0_find_r1 ++ (wsX0_find_r2 ++ wsX0_find_r3)) ++ wsX00 ++ wsX10)
def wsX1_init : List Cond := .code yX1_init cX1_init 1 none :: ([.methodLink RX1 3 objectInit, .instanceMethod objectInit, .code objectInit ⟨#[0xb1]⟩ 1 none, .arrayClass .int, .fieldLink RX1 9 "WhisperJudge$Room" "sentTo" "[I", .fieldLink RX1 15 "WhisperJudge$Room" "heardTo" "[I", .fieldLink RX1 18 "WhisperJudge$Room" "heardAs" "[I", .fieldLink RX1 21 "WhisperJudge$Room" "cleanEach" "[I", .fieldLink RX1 24 "WhisperJudge$Room" "firsts" "[I"] ++ wsX10)
def wsX4_wallIn : List Cond := .code yX4_wallIn cX4_wallIn 2 (some .int) :: ([])
def wsX2_told : List Cond := .code yX2_told cX2_told 5 (some .int) :: ([])
def wsX2_answerByKind : List Cond := .code yX2_answerByKind cX2_answerByKind 4 (some .int) :: ([.fieldLink RX2 15 "WhisperJudge$Thing" "kind" "I"] ++ wsX20)
def wsX2_answer : List Cond := .code yX2_answer cX2_answer 4 (some .int) :: ([.fieldLink RX2 15 "WhisperJudge$Thing" "kind" "I", .fieldLink RX2 29 "WhisperJudge$Thing" "answers" "J", .methodLink RX2 47 yX2_told, .static yX2_told, .initialized RX2, .code yX2_told cX2_told 5 (some .int), .methodLink RX2 55 yX2_answerByKind, .instanceMethod yX2_answerByKind, .selects RX2 yX2_answerByKind yX2_answerByKind, .code yX2_answerByKind cX2_answerByKind 4 (some .int)] ++ wsX20)
def wsX2_nextByKind : List Cond := .code yX2_nextByKind cX2_nextByKind 4 (some .int) :: ([.fieldLink RX2 15 "WhisperJudge$Thing" "kind" "I", .methodLink RX2 58 Lib.Math.min.name, .static Lib.Math.min.name, .initialized "java/lang/Math", .code Lib.Math.min.name Lib.Math.min.code 2 (some .int), .methodLink RX2 64 Lib.Math.max.name, .static Lib.Math.max.name, .code Lib.Math.max.name Lib.Math.max.code 2 (some .int)] ++ wsX20)
def wsX2_next : List Cond := .code yX2_next cX2_next 4 (some .int) :: ([.fieldLink RX2 15 "WhisperJudge$Thing" "kind" "I", .fieldLink RX2 25 "WhisperJudge$Thing" "nexts" "J", .methodLink RX2 47 yX2_told, .static yX2_told, .initialized RX2, .code yX2_told cX2_told 5 (some .int), .methodLink RX2 51 yX2_nextByKind, .instanceMethod yX2_nextByKind, .selects RX2 yX2_nextByKind yX2_nextByKind, .code yX2_nextByKind cX2_nextByKind 4 (some .int), .methodLink RX2 58 Lib.Math.min.name, .static Lib.Math.min.name, .initialized "java/lang/Math", .code Lib.Math.min.name Lib.Math.min.code 2 (some .int), .methodLink RX2 64 Lib.Math.max.name, .static Lib.Math.max.name, .code Lib.Math.max.name Lib.Math.max.code 2 (some .int)] ++ wsX20)
def wsX1_buildAct_r1 : List Cond := [Cond.fieldLink RX1 9 "WhisperJudge$Room" "sentTo" "[I", Cond.fieldLink RX1 15 "WhisperJudge$Room" "heardTo" "[I", Cond.fieldLink RX1 18 "WhisperJudge$Room" "heardAs" "[I", Cond.fieldLink RX1 61 "WhisperJudge$Thing" "padded" "I", Cond.methodLink RX1 64 Lib.Math.min.name, Cond.static Lib.Math.min.name, Cond.initialized "java/lang/Math", Cond.code Lib.Math.min.name Lib.Math.min.code 2 (some .int), Cond.methodLink RX1 51 yX2_answer, Cond.instanceMethod yX2_answer, Cond.selects RX2 yX2_answer yX2_answer, Cond.initialized RX2, Cond.code yX2_answer cX2_answer 4 (some .int), Cond.fieldLink RX2 15 "WhisperJudge$Thing" "kind" "I", Cond.fieldLink RX2 29 "WhisperJudge$Thing" "answers" "J", Cond.methodLink RX2 47 yX2_told, Cond.static yX2_told, Cond.code yX2_told cX2_told 5 (some .int), Cond.methodLink RX2 55 yX2_answerByKind, Cond.instanceMethod yX2_answerByKind, Cond.selects RX2 yX2_answerByKind yX2_answerByKind, Cond.code yX2_answerByKind cX2_answerByKind 4 (some .int), Cond.methodLink RX1 55 yX1_place, Cond.static yX1_place]
def wsX1_buildAct_r2 : List Cond := [Cond.initialized RX1, Cond.code yX1_place cX1_place 2 (some .int), Cond.methodLink RX1 58 yX2_next, Cond.instanceMethod yX2_next, Cond.selects RX2 yX2_next yX2_next, Cond.code yX2_next cX2_next 4 (some .int), Cond.fieldLink RX2 25 "WhisperJudge$Thing" "nexts" "J", Cond.methodLink RX2 51 yX2_nextByKind, Cond.instanceMethod yX2_nextByKind, Cond.selects RX2 yX2_nextByKind yX2_nextByKind, Cond.code yX2_nextByKind cX2_nextByKind 4 (some .int), Cond.methodLink RX2 58 Lib.Math.min.name, Cond.methodLink RX2 64 Lib.Math.max.name, Cond.static Lib.Math.max.name, Cond.code Lib.Math.max.name Lib.Math.max.code 2 (some .int)]
def wsX1_buildAct : List Cond := .code yX1_buildAct cX1_buildAct 7 none :: ((wsX1_buildAct_r1 ++ wsX1_buildAct_r2) ++ wsX10 ++ wsX20)
def wsX1_build_r1 : List Cond := [Cond.fieldLink RX1 27 "WhisperJudge$Room" "acts" "I", Cond.fieldLink RX1 31 "WhisperJudge$Room" "start" "J", Cond.fieldLink RX1 35 "WhisperJudge$Thing" "first" "I", Cond.fieldLink RX1 24 "WhisperJudge$Room" "firsts" "[I", Cond.fieldLink RX1 21 "WhisperJudge$Room" "cleanEach" "[I", Cond.fieldLink RX1 44 "WhisperJudge$Thing" "cleaned" "I", Cond.static yX4_wallIn, Cond.initialized RX4, Cond.code yX4_wallIn cX4_wallIn 2 (some .int), Cond.methodLink RX1 47 yX1_buildAct, Cond.instanceMethod yX1_buildAct, Cond.selects RX1 yX1_buildAct yX1_buildAct, Cond.initialized RX1, Cond.code yX1_buildAct cX1_buildAct 7 none, Cond.fieldLink RX1 9 "WhisperJudge$Room" "sentTo" "[I", Cond.fieldLink RX1 15 "WhisperJudge$Room" "heardTo" "[I", Cond.fieldLink RX1 18 "WhisperJudge$Room" "heardAs" "[I", Cond.fieldLink RX1 61 "WhisperJudge$Thing" "padded" "I", Cond.methodLink RX1 64 Lib.Math.min.name, Cond.static Lib.Math.min.name, Cond.initialized "java/lang/Math", Cond.code Lib.Math.min.name Lib.Math.min.code 2 (some .int), Cond.methodLink RX1 51 yX2_answer, Cond.instanceMethod yX2_answer]
def wsX1_build_r2 : List Cond := [Cond.selects RX2 yX2_answer yX2_answer, Cond.initialized RX2, Cond.code yX2_answer cX2_answer 4 (some .int), Cond.fieldLink RX2 15 "WhisperJudge$Thing" "kind" "I", Cond.fieldLink RX2 29 "WhisperJudge$Thing" "answers" "J", Cond.methodLink RX2 47 yX2_told, Cond.static yX2_told, Cond.code yX2_told cX2_told 5 (some .int), Cond.methodLink RX2 55 yX2_answerByKind, Cond.instanceMethod yX2_answerByKind, Cond.selects RX2 yX2_answerByKind yX2_answerByKind, Cond.code yX2_answerByKind cX2_answerByKind 4 (some .int), Cond.methodLink RX1 55 yX1_place, Cond.static yX1_place, Cond.code yX1_place cX1_place 2 (some .int), Cond.methodLink RX1 58 yX2_next, Cond.instanceMethod yX2_next, Cond.selects RX2 yX2_next yX2_next, Cond.code yX2_next cX2_next 4 (some .int), Cond.fieldLink RX2 25 "WhisperJudge$Thing" "nexts" "J", Cond.methodLink RX2 51 yX2_nextByKind, Cond.instanceMethod yX2_nextByKind, Cond.selects RX2 yX2_nextByKind yX2_nextByKind, Cond.code yX2_nextByKind cX2_nextByKind 4 (some .int)]
def wsX1_build_r3 : List Cond := [Cond.methodLink RX2 58 Lib.Math.min.name, Cond.methodLink RX2 64 Lib.Math.max.name, Cond.static Lib.Math.max.name, Cond.code Lib.Math.max.name Lib.Math.max.code 2 (some .int)]
def wsX1_build : List Cond := .code yX1_build cX1_build 6 none :: ((wsX1_build_r1 ++ (wsX1_build_r2 ++ wsX1_build_r3)) ++ wsX10 ++ wsX20)
def wsX1_moved : List Cond := .code yX1_moved cX1_moved 7 (some .long) :: ([.constantLong RX1 77 (1229782938247303441), .constantLong RX1 79 (4222189076152335), .constantLong RX1 81 (65535)])
def wsX1_sent : List Cond := .code yX1_sent cX1_sent 12 (some .long) :: ([.fieldLink RX1 27 "WhisperJudge$Room" "acts" "I", .fieldLink RX1 9 "WhisperJudge$Room" "sentTo" "[I", .fieldLink RX1 24 "WhisperJudge$Room" "firsts" "[I", .methodLink RX1 73 yX1_moved, .static yX1_moved, .initialized RX1, .code yX1_moved cX1_moved 7 (some .long), .constantLong RX1 77 (1229782938247303441), .constantLong RX1 79 (4222189076152335), .constantLong RX1 81 (65535), .methodLink RX1 69 yX1_isCleaned, .instanceMethod yX1_isCleaned, .selects RX1 yX1_isCleaned yX1_isCleaned, .code yX1_isCleaned cX1_isCleaned 3 (some .boolean), .fieldLink RX1 21 "WhisperJudge$Room" "cleanEach" "[I"] ++ wsX10)
def wsX1_answers : List Cond := .code yX1_answers cX1_answers 6 (some .int) :: ([.fieldLink RX1 27 "WhisperJudge$Room" "acts" "I", .fieldLink RX1 18 "WhisperJudge$Room" "heardAs" "[I", .methodLink RX1 73 yX1_moved, .static yX1_moved, .initialized RX1, .code yX1_moved cX1_moved 7 (some .long), .constantLong RX1 77 (1229782938247303441), .constantLong RX1 79 (4222189076152335), .constantLong RX1 81 (65535)] ++ wsX10)
def wsX1_heard : List Cond := .code yX1_heard cX1_heard 8 (some .long) :: ([.fieldLink RX1 27 "WhisperJudge$Room" "acts" "I", .fieldLink RX1 18 "WhisperJudge$Room" "heardAs" "[I", .fieldLink RX1 15 "WhisperJudge$Room" "heardTo" "[I", .methodLink RX1 73 yX1_moved, .static yX1_moved, .initialized RX1, .code yX1_moved cX1_moved 7 (some .long), .constantLong RX1 77 (1229782938247303441), .constantLong RX1 79 (4222189076152335), .constantLong RX1 81 (65535)] ++ wsX10)
def wsX2_init : List Cond := .code yX2_init cX2_init 1 none :: ([.methodLink RX2 3 objectInit, .instanceMethod objectInit, .code objectInit ⟨#[0xb1]⟩ 1 none, .arrayClass .int, .fieldLink RX2 9 "WhisperJudge$Thing" "prices" "[I"] ++ wsX20)
def wsX2_come : List Cond := .code yX2_come cX2_come 7 none :: ([.fieldLink RX2 15 "WhisperJudge$Thing" "kind" "I", .fieldLink RX2 19 "WhisperJudge$Thing" "first" "I", .fieldLink RX2 22 "WhisperJudge$Thing" "now" "I", .fieldLink RX2 25 "WhisperJudge$Thing" "nexts" "J", .fieldLink RX2 29 "WhisperJudge$Thing" "answers" "J", .fieldLink RX2 32 "WhisperJudge$Thing" "wall" "I", .fieldLink RX2 35 "WhisperJudge$Thing" "cleaned" "I", .fieldLink RX2 38 "WhisperJudge$Thing" "padded" "I", .fieldLink RX2 9 "WhisperJudge$Thing" "prices" "[I", .methodLink RX2 41 yJ7_fill_53178, .static yJ7_fill_53178, .initialized RJ7, .code yJ7_fill_53178 cJ7_fill_53178 4 none] ++ wsX20)
def wsX2_keep : List Cond := .code yX2_keep cX2_keep 3 none :: ([.fieldLink RX2 35 "WhisperJudge$Thing" "cleaned" "I", .fieldLink RX2 38 "WhisperJudge$Thing" "padded" "I"] ++ wsX20)
def wsX3_init : List Cond := .code yX3_init cX3_init 2 none :: ([.methodLink RX3 3 objectInit, .instanceMethod objectInit, .code objectInit ⟨#[0xb1]⟩ 1 none, .arrayClass .int, .fieldLink RX3 11 "WhisperJudge$Whisper" "rows" "[I", .fieldLink RX3 15 "WhisperJudge$Whisper" "acts" "[I", .fieldLink RX3 18 "WhisperJudge$Whisper" "answers" "[I", .fieldLink RX3 21 "WhisperJudge$Whisper" "asOf" "I", .fieldLink RX3 25 "WhisperJudge$Whisper" "n" "I"] ++ wsX30)
def wsX3_place : List Cond := .code yX3_place cX3_place 2 (some .int) :: ([])
def wsX3_addLetter : List Cond := .code yX3_addLetter cX3_addLetter 2 none :: ([.fieldLink RX3 54 "WhisperJudge$Whisper" "many" "I", .fieldLink RX3 25 "WhisperJudge$Whisper" "n" "I", .fieldLink RX3 11 "WhisperJudge$Whisper" "rows" "[I", .fieldLink RX3 15 "WhisperJudge$Whisper" "acts" "[I", .fieldLink RX3 18 "WhisperJudge$Whisper" "answers" "[I", .methodLink RX3 57 yX3_place, .static yX3_place, .initialized RX3, .code yX3_place cX3_place 2 (some .int)] ++ wsX30)
def wsJ6_bitCount_0f7a4 : List Cond := .code yJ6_bitCount_0f7a4 cJ6_bitCount_0f7a4 1 (some .int) :: ([.constant RJ6 265 (1431655765), .constant RJ6 266 (858993459), .constant RJ6 267 (252645135)])
def wsX4_most_r1 : List Cond := [Cond.fieldLink RX4 178 "WhisperJudge$Room" "acts" "I", Cond.methodLink RX4 189 Lib.Math.max.name, Cond.static Lib.Math.max.name, Cond.initialized "java/lang/Math", Cond.code Lib.Math.max.name Lib.Math.max.code 2 (some .int), Cond.methodLink RX4 181 yX1_sent, Cond.instanceMethod yX1_sent, Cond.selects RX1 yX1_sent yX1_sent, Cond.initialized RX1, Cond.code yX1_sent cX1_sent 12 (some .long), Cond.fieldLink RX1 27 "WhisperJudge$Room" "acts" "I", Cond.fieldLink RX1 9 "WhisperJudge$Room" "sentTo" "[I", Cond.fieldLink RX1 24 "WhisperJudge$Room" "firsts" "[I", Cond.methodLink RX1 73 yX1_moved, Cond.static yX1_moved, Cond.code yX1_moved cX1_moved 7 (some .long), Cond.constantLong RX1 77 (1229782938247303441), Cond.constantLong RX1 79 (4222189076152335), Cond.constantLong RX1 81 (65535), Cond.methodLink RX1 69 yX1_isCleaned, Cond.instanceMethod yX1_isCleaned, Cond.selects RX1 yX1_isCleaned yX1_isCleaned, Cond.code yX1_isCleaned cX1_isCleaned 3 (some .boolean), Cond.fieldLink RX1 21 "WhisperJudge$Room" "cleanEach" "[I"]
def wsX4_most_r2 : List Cond := [Cond.methodLink RX4 185 yX4_mostBy, Cond.static yX4_mostBy, Cond.initialized RX4, Cond.code yX4_mostBy cX4_mostBy 9 (some .int), Cond.methodLink RX4 194 yX1_answers, Cond.instanceMethod yX1_answers, Cond.selects RX1 yX1_answers yX1_answers, Cond.code yX1_answers cX1_answers 6 (some .int), Cond.fieldLink RX1 18 "WhisperJudge$Room" "heardAs" "[I", Cond.methodLink RX4 198 yJ6_bitCount_0f7a4, Cond.static yJ6_bitCount_0f7a4, Cond.initialized RJ6, Cond.code yJ6_bitCount_0f7a4 cJ6_bitCount_0f7a4 1 (some .int), Cond.constant RJ6 265 (1431655765), Cond.constant RJ6 266 (858993459), Cond.constant RJ6 267 (252645135), Cond.methodLink RX4 203 yX1_heard, Cond.instanceMethod yX1_heard, Cond.selects RX1 yX1_heard yX1_heard, Cond.code yX1_heard cX1_heard 8 (some .long), Cond.fieldLink RX1 15 "WhisperJudge$Room" "heardTo" "[I", Cond.methodLink RX4 174 yX4_most, Cond.static yX4_most]
def wsX4_most : List Cond := .code yX4_most cX4_most 9 (some .int) :: ((wsX4_most_r1 ++ wsX4_most_r2) ++ wsX10)
def wsX4_mostBy_r1 : List Cond := [Cond.methodLink RX4 194 yX1_answers, Cond.instanceMethod yX1_answers, Cond.selects RX1 yX1_answers yX1_answers, Cond.initialized RX1, Cond.code yX1_answers cX1_answers 6 (some .int), Cond.fieldLink RX1 27 "WhisperJudge$Room" "acts" "I", Cond.fieldLink RX1 18 "WhisperJudge$Room" "heardAs" "[I", Cond.methodLink RX1 73 yX1_moved, Cond.static yX1_moved, Cond.code yX1_moved cX1_moved 7 (some .long), Cond.constantLong RX1 77 (1229782938247303441), Cond.constantLong RX1 79 (4222189076152335), Cond.constantLong RX1 81 (65535), Cond.methodLink RX4 198 yJ6_bitCount_0f7a4, Cond.static yJ6_bitCount_0f7a4, Cond.initialized RJ6, Cond.code yJ6_bitCount_0f7a4 cJ6_bitCount_0f7a4 1 (some .int), Cond.constant RJ6 265 (1431655765), Cond.constant RJ6 266 (858993459), Cond.constant RJ6 267 (252645135), Cond.methodLink RX4 203 yX1_heard, Cond.instanceMethod yX1_heard, Cond.selects RX1 yX1_heard yX1_heard, Cond.code yX1_heard cX1_heard 8 (some .long)]
def wsX4_mostBy_r2 : List Cond := [Cond.fieldLink RX1 15 "WhisperJudge$Room" "heardTo" "[I", Cond.methodLink RX4 174 yX4_most, Cond.static yX4_most, Cond.initialized RX4, Cond.code yX4_most cX4_most 9 (some .int), Cond.fieldLink RX4 178 "WhisperJudge$Room" "acts" "I", Cond.methodLink RX4 189 Lib.Math.max.name, Cond.static Lib.Math.max.name, Cond.initialized "java/lang/Math", Cond.code Lib.Math.max.name Lib.Math.max.code 2 (some .int), Cond.methodLink RX4 181 yX1_sent, Cond.instanceMethod yX1_sent, Cond.selects RX1 yX1_sent yX1_sent, Cond.code yX1_sent cX1_sent 12 (some .long), Cond.fieldLink RX1 9 "WhisperJudge$Room" "sentTo" "[I", Cond.fieldLink RX1 24 "WhisperJudge$Room" "firsts" "[I", Cond.methodLink RX1 69 yX1_isCleaned, Cond.instanceMethod yX1_isCleaned, Cond.selects RX1 yX1_isCleaned yX1_isCleaned, Cond.code yX1_isCleaned cX1_isCleaned 3 (some .boolean), Cond.fieldLink RX1 21 "WhisperJudge$Room" "cleanEach" "[I", Cond.methodLink RX4 185 yX4_mostBy, Cond.static yX4_mostBy]
def wsX4_mostBy : List Cond := .code yX4_mostBy cX4_mostBy 9 (some .int) :: ((wsX4_mostBy_r1 ++ wsX4_mostBy_r2) ++ wsX10)
def wsX3_grow_r1 : List Cond := [Cond.fieldLink RX3 25 "WhisperJudge$Whisper" "n" "I", Cond.fieldLink RX3 31 "WhisperJudge$Room" "acts" "I", Cond.fieldLink RX3 15 "WhisperJudge$Whisper" "acts" "[I", Cond.fieldLink RX3 18 "WhisperJudge$Whisper" "answers" "[I", Cond.methodLink RX3 28 yX3_addLetter, Cond.instanceMethod yX3_addLetter, Cond.selects RX3 yX3_addLetter yX3_addLetter, Cond.initialized RX3, Cond.code yX3_addLetter cX3_addLetter 2 none, Cond.fieldLink RX3 54 "WhisperJudge$Whisper" "many" "I", Cond.fieldLink RX3 11 "WhisperJudge$Whisper" "rows" "[I", Cond.methodLink RX3 57 yX3_place, Cond.static yX3_place, Cond.code yX3_place cX3_place 2 (some .int), Cond.methodLink RX3 35 yX1_sent, Cond.instanceMethod yX1_sent, Cond.selects RX1 yX1_sent yX1_sent, Cond.initialized RX1, Cond.code yX1_sent cX1_sent 12 (some .long), Cond.fieldLink RX1 27 "WhisperJudge$Room" "acts" "I", Cond.fieldLink RX1 9 "WhisperJudge$Room" "sentTo" "[I", Cond.fieldLink RX1 24 "WhisperJudge$Room" "firsts" "[I", Cond.methodLink RX1 73 yX1_moved, Cond.static yX1_moved]
def wsX3_grow_r2 : List Cond := [Cond.code yX1_moved cX1_moved 7 (some .long), Cond.constantLong RX1 77 (1229782938247303441), Cond.constantLong RX1 79 (4222189076152335), Cond.constantLong RX1 81 (65535), Cond.methodLink RX1 69 yX1_isCleaned, Cond.instanceMethod yX1_isCleaned, Cond.selects RX1 yX1_isCleaned yX1_isCleaned, Cond.code yX1_isCleaned cX1_isCleaned 3 (some .boolean), Cond.fieldLink RX1 21 "WhisperJudge$Room" "cleanEach" "[I", Cond.static yX4_mostBy, Cond.initialized RX4, Cond.code yX4_mostBy cX4_mostBy 9 (some .int), Cond.methodLink RX4 194 yX1_answers, Cond.instanceMethod yX1_answers, Cond.selects RX1 yX1_answers yX1_answers, Cond.code yX1_answers cX1_answers 6 (some .int), Cond.fieldLink RX1 18 "WhisperJudge$Room" "heardAs" "[I", Cond.methodLink RX4 198 yJ6_bitCount_0f7a4, Cond.static yJ6_bitCount_0f7a4, Cond.initialized RJ6, Cond.code yJ6_bitCount_0f7a4 cJ6_bitCount_0f7a4 1 (some .int), Cond.constant RJ6 265 (1431655765), Cond.constant RJ6 266 (858993459), Cond.constant RJ6 267 (252645135)]
def wsX3_grow_r3 : List Cond := [Cond.methodLink RX4 203 yX1_heard, Cond.instanceMethod yX1_heard, Cond.selects RX1 yX1_heard yX1_heard, Cond.code yX1_heard cX1_heard 8 (some .long), Cond.fieldLink RX1 15 "WhisperJudge$Room" "heardTo" "[I", Cond.methodLink RX4 174 yX4_most, Cond.static yX4_most, Cond.code yX4_most cX4_most 9 (some .int), Cond.fieldLink RX4 178 "WhisperJudge$Room" "acts" "I", Cond.methodLink RX4 189 Lib.Math.max.name, Cond.static Lib.Math.max.name, Cond.initialized "java/lang/Math", Cond.code Lib.Math.max.name Lib.Math.max.code 2 (some .int), Cond.methodLink RX4 181 yX1_sent, Cond.methodLink RX4 185 yX4_mostBy, Cond.methodLink RX3 43 yX1_answers, Cond.methodLink RX3 46 yX1_heard, Cond.methodLink RX3 50 yX3_grow, Cond.static yX3_grow]
def wsX3_grow : List Cond := .code yX3_grow cX3_grow 11 none :: ((wsX3_grow_r1 ++ (wsX3_grow_r2 ++ wsX3_grow_r3)) ++ wsX30 ++ wsX10)
def wsX3_step_r1 : List Cond := [Cond.fieldLink RX3 11 "WhisperJudge$Whisper" "rows" "[I", Cond.methodLink RX3 35 yX1_sent, Cond.instanceMethod yX1_sent, Cond.selects RX1 yX1_sent yX1_sent, Cond.initialized RX1, Cond.code yX1_sent cX1_sent 12 (some .long), Cond.fieldLink RX1 27 "WhisperJudge$Room" "acts" "I", Cond.fieldLink RX1 9 "WhisperJudge$Room" "sentTo" "[I", Cond.fieldLink RX1 24 "WhisperJudge$Room" "firsts" "[I", Cond.methodLink RX1 73 yX1_moved, Cond.static yX1_moved, Cond.code yX1_moved cX1_moved 7 (some .long), Cond.constantLong RX1 77 (1229782938247303441), Cond.constantLong RX1 79 (4222189076152335), Cond.constantLong RX1 81 (65535), Cond.methodLink RX1 69 yX1_isCleaned, Cond.instanceMethod yX1_isCleaned, Cond.selects RX1 yX1_isCleaned yX1_isCleaned, Cond.code yX1_isCleaned cX1_isCleaned 3 (some .boolean), Cond.fieldLink RX1 21 "WhisperJudge$Room" "cleanEach" "[I", Cond.methodLink RX3 57 yX3_place, Cond.static yX3_place, Cond.initialized RX3, Cond.code yX3_place cX3_place 2 (some .int)]
def wsX3_step_r2 : List Cond := [Cond.methodLink RX3 46 yX1_heard, Cond.instanceMethod yX1_heard, Cond.selects RX1 yX1_heard yX1_heard, Cond.code yX1_heard cX1_heard 8 (some .long), Cond.fieldLink RX1 18 "WhisperJudge$Room" "heardAs" "[I", Cond.fieldLink RX1 15 "WhisperJudge$Room" "heardTo" "[I"]
def wsX3_step : List Cond := .code yX3_step cX3_step 7 (some .long) :: ((wsX3_step_r1 ++ wsX3_step_r2) ++ wsX30 ++ wsX10)
def wsX3_leads_r1 : List Cond := [Cond.fieldLink RX3 25 "WhisperJudge$Whisper" "n" "I", Cond.fieldLink RX3 31 "WhisperJudge$Room" "acts" "I", Cond.fieldLink RX3 11 "WhisperJudge$Whisper" "rows" "[I", Cond.methodLink RX3 35 yX1_sent, Cond.instanceMethod yX1_sent, Cond.selects RX1 yX1_sent yX1_sent, Cond.initialized RX1, Cond.code yX1_sent cX1_sent 12 (some .long), Cond.fieldLink RX1 27 "WhisperJudge$Room" "acts" "I", Cond.fieldLink RX1 9 "WhisperJudge$Room" "sentTo" "[I", Cond.fieldLink RX1 24 "WhisperJudge$Room" "firsts" "[I", Cond.methodLink RX1 73 yX1_moved, Cond.static yX1_moved, Cond.code yX1_moved cX1_moved 7 (some .long), Cond.constantLong RX1 77 (1229782938247303441), Cond.constantLong RX1 79 (4222189076152335), Cond.constantLong RX1 81 (65535), Cond.methodLink RX1 69 yX1_isCleaned, Cond.instanceMethod yX1_isCleaned, Cond.selects RX1 yX1_isCleaned yX1_isCleaned, Cond.code yX1_isCleaned cX1_isCleaned 3 (some .boolean), Cond.fieldLink RX1 21 "WhisperJudge$Room" "cleanEach" "[I", Cond.methodLink RX3 57 yX3_place, Cond.static yX3_place]
def wsX3_leads_r2 : List Cond := [Cond.initialized RX3, Cond.code yX3_place cX3_place 2 (some .int), Cond.methodLink RX3 46 yX1_heard, Cond.instanceMethod yX1_heard, Cond.selects RX1 yX1_heard yX1_heard, Cond.code yX1_heard cX1_heard 8 (some .long), Cond.fieldLink RX1 18 "WhisperJudge$Room" "heardAs" "[I", Cond.fieldLink RX1 15 "WhisperJudge$Room" "heardTo" "[I"]
def wsX3_leads : List Cond := .code yX3_leads cX3_leads 9 (some .boolean) :: ((wsX3_leads_r1 ++ wsX3_leads_r2) ++ wsX30 ++ wsX10)
def wsX3_addSenders_r1 : List Cond := [Cond.fieldLink RX3 54 "WhisperJudge$Whisper" "many" "I", Cond.fieldLink RX3 61 "WhisperJudge$Room" "start" "J", Cond.fieldLink RX3 25 "WhisperJudge$Whisper" "n" "I", Cond.fieldLink RX3 31 "WhisperJudge$Room" "acts" "I", Cond.fieldLink RX3 11 "WhisperJudge$Whisper" "rows" "[I", Cond.methodLink RX3 65 yX3_step, Cond.instanceMethod yX3_step, Cond.selects RX3 yX3_step yX3_step, Cond.initialized RX3, Cond.code yX3_step cX3_step 7 (some .long), Cond.methodLink RX3 35 yX1_sent, Cond.instanceMethod yX1_sent, Cond.selects RX1 yX1_sent yX1_sent, Cond.initialized RX1, Cond.code yX1_sent cX1_sent 12 (some .long), Cond.fieldLink RX1 27 "WhisperJudge$Room" "acts" "I", Cond.fieldLink RX1 9 "WhisperJudge$Room" "sentTo" "[I", Cond.fieldLink RX1 24 "WhisperJudge$Room" "firsts" "[I", Cond.methodLink RX1 73 yX1_moved, Cond.static yX1_moved, Cond.code yX1_moved cX1_moved 7 (some .long), Cond.constantLong RX1 77 (1229782938247303441), Cond.constantLong RX1 79 (4222189076152335), Cond.constantLong RX1 81 (65535)]
def wsX3_addSenders_r2 : List Cond := [Cond.methodLink RX1 69 yX1_isCleaned, Cond.instanceMethod yX1_isCleaned, Cond.selects RX1 yX1_isCleaned yX1_isCleaned, Cond.code yX1_isCleaned cX1_isCleaned 3 (some .boolean), Cond.fieldLink RX1 21 "WhisperJudge$Room" "cleanEach" "[I", Cond.methodLink RX3 57 yX3_place, Cond.static yX3_place, Cond.code yX3_place cX3_place 2 (some .int), Cond.methodLink RX3 46 yX1_heard, Cond.instanceMethod yX1_heard, Cond.selects RX1 yX1_heard yX1_heard, Cond.code yX1_heard cX1_heard 8 (some .long), Cond.fieldLink RX1 18 "WhisperJudge$Room" "heardAs" "[I", Cond.fieldLink RX1 15 "WhisperJudge$Room" "heardTo" "[I", Cond.methodLink RX3 69 yX3_leads, Cond.instanceMethod yX3_leads, Cond.selects RX3 yX3_leads yX3_leads, Cond.code yX3_leads cX3_leads 9 (some .boolean)]
def wsX3_addSenders : List Cond := .code yX3_addSenders cX3_addSenders 7 none :: ((wsX3_addSenders_r1 ++ wsX3_addSenders_r2) ++ wsX30 ++ wsX10)
def wsX4_init_r1 : List Cond := [Cond.methodLink RX4 1 objectInit, Cond.instanceMethod objectInit, Cond.code objectInit ⟨#[0xb1]⟩ 1 none, Cond.classLink RX4 9 RX2, Cond.fieldLink RX4 11 "WhisperJudge" "things" "[LWhisperJudge$Thing;", Cond.classLink RX4 15 RX0, Cond.fieldLink RX4 17 "WhisperJudge" "pairs" "[LWhisperJudge$Pair;", Cond.classLink RX4 21 RX3, Cond.fieldLink RX4 23 "WhisperJudge" "whispers" "[LWhisperJudge$Whisper;", Cond.classLink RX4 27 RX1, Cond.instantiable RX1 7, Cond.initialized RX1, Cond.fieldLink RX4 30 "WhisperJudge" "room" "LWhisperJudge$Room;", Cond.instantiable RX2 9, Cond.initialized RX2, Cond.instantiable RX0 8, Cond.initialized RX0, Cond.instantiable RX3 6, Cond.initialized RX3, Cond.instanceMethod yX1_init, Cond.code yX1_init cX1_init 1 none, Cond.methodLink RX1 3 objectInit, Cond.arrayClass .int, Cond.fieldLink RX1 9 "WhisperJudge$Room" "sentTo" "[I"]
def wsX4_init_r2 : List Cond := [Cond.fieldLink RX1 15 "WhisperJudge$Room" "heardTo" "[I", Cond.fieldLink RX1 18 "WhisperJudge$Room" "heardAs" "[I", Cond.fieldLink RX1 21 "WhisperJudge$Room" "cleanEach" "[I", Cond.fieldLink RX1 24 "WhisperJudge$Room" "firsts" "[I", Cond.instanceMethod yX2_init, Cond.code yX2_init cX2_init 1 none, Cond.methodLink RX2 3 objectInit, Cond.fieldLink RX2 9 "WhisperJudge$Thing" "prices" "[I", Cond.instanceMethod yX0_init, Cond.code yX0_init cX0_init 1 none, Cond.methodLink RX0 3 objectInit, Cond.fieldLink RX0 11 "WhisperJudge$Pair" "rows" "[I", Cond.fieldLink RX0 15 "WhisperJudge$Pair" "queue" "[I", Cond.fieldLink RX0 18 "WhisperJudge$Pair" "before" "[I", Cond.fieldLink RX0 21 "WhisperJudge$Pair" "edge" "[I", Cond.fieldLink RX0 24 "WhisperJudge$Pair" "depth" "[I", Cond.fieldLink RX0 27 "WhisperJudge$Pair" "asOf" "I", Cond.methodLink RX4 36 yX3_init, Cond.instanceMethod yX3_init, Cond.code yX3_init cX3_init 2 none, Cond.methodLink RX3 3 objectInit, Cond.fieldLink RX3 11 "WhisperJudge$Whisper" "rows" "[I", Cond.fieldLink RX3 15 "WhisperJudge$Whisper" "acts" "[I", Cond.fieldLink RX3 18 "WhisperJudge$Whisper" "answers" "[I"]
def wsX4_init_r3 : List Cond := [Cond.fieldLink RX3 21 "WhisperJudge$Whisper" "asOf" "I", Cond.fieldLink RX3 25 "WhisperJudge$Whisper" "n" "I"]
def wsX4_init : List Cond := .code yX4_init cX4_init 2 none :: ((wsX4_init_r1 ++ (wsX4_init_r2 ++ wsX4_init_r3)) ++ wsX40 ++ wsX10 ++ wsX20 ++ wsX00 ++ wsX30)
def wsX4_clear : List Cond := .code yX4_clear cX4_clear 1 none :: ([.fieldLink RX4 39 "WhisperJudge" "count" "I", .fieldLink RX4 43 "WhisperJudge" "changes" "I"] ++ wsX40)
def wsX4_canBe : List Cond := .code yX4_canBe cX4_canBe 2 (some .boolean) :: ([])
def wsX4_come_r1 : List Cond := [Cond.fieldLink RX4 39 "WhisperJudge" "count" "I", Cond.fieldLink RX4 11 "WhisperJudge" "things" "[LWhisperJudge$Thing;", Cond.fieldLink RX4 43 "WhisperJudge" "changes" "I", Cond.methodLink RX4 92 yX4_canBe, Cond.static yX4_canBe, Cond.initialized RX4, Cond.code yX4_canBe cX4_canBe 2 (some .boolean), Cond.methodLink RX4 151 yX2_come, Cond.instanceMethod yX2_come, Cond.selects RX2 yX2_come yX2_come, Cond.initialized RX2, Cond.code yX2_come cX2_come 7 none, Cond.fieldLink RX2 15 "WhisperJudge$Thing" "kind" "I", Cond.fieldLink RX2 19 "WhisperJudge$Thing" "first" "I", Cond.fieldLink RX2 22 "WhisperJudge$Thing" "now" "I", Cond.fieldLink RX2 25 "WhisperJudge$Thing" "nexts" "J", Cond.fieldLink RX2 29 "WhisperJudge$Thing" "answers" "J", Cond.fieldLink RX2 32 "WhisperJudge$Thing" "wall" "I", Cond.fieldLink RX2 35 "WhisperJudge$Thing" "cleaned" "I", Cond.fieldLink RX2 38 "WhisperJudge$Thing" "padded" "I", Cond.fieldLink RX2 9 "WhisperJudge$Thing" "prices" "[I", Cond.methodLink RX2 41 yJ7_fill_53178, Cond.static yJ7_fill_53178, Cond.initialized RJ7]
def wsX4_come_r2 : List Cond := [Cond.code yJ7_fill_53178 cJ7_fill_53178 4 none]
def wsX4_come : List Cond := .code yX4_come cX4_come 7 (some .int) :: ((wsX4_come_r1 ++ wsX4_come_r2) ++ wsX40 ++ wsX20)
def wsX4_thing_r1 : List Cond := [Cond.methodLink RX4 46 yX4_come, Cond.instanceMethod yX4_come, Cond.selects RX4 yX4_come yX4_come, Cond.initialized RX4, Cond.code yX4_come cX4_come 7 (some .int), Cond.fieldLink RX4 39 "WhisperJudge" "count" "I", Cond.fieldLink RX4 11 "WhisperJudge" "things" "[LWhisperJudge$Thing;", Cond.fieldLink RX4 43 "WhisperJudge" "changes" "I", Cond.methodLink RX4 92 yX4_canBe, Cond.static yX4_canBe, Cond.code yX4_canBe cX4_canBe 2 (some .boolean), Cond.methodLink RX4 151 yX2_come, Cond.instanceMethod yX2_come, Cond.selects RX2 yX2_come yX2_come, Cond.initialized RX2, Cond.code yX2_come cX2_come 7 none, Cond.fieldLink RX2 15 "WhisperJudge$Thing" "kind" "I", Cond.fieldLink RX2 19 "WhisperJudge$Thing" "first" "I", Cond.fieldLink RX2 22 "WhisperJudge$Thing" "now" "I", Cond.fieldLink RX2 25 "WhisperJudge$Thing" "nexts" "J", Cond.fieldLink RX2 29 "WhisperJudge$Thing" "answers" "J", Cond.fieldLink RX2 32 "WhisperJudge$Thing" "wall" "I", Cond.fieldLink RX2 35 "WhisperJudge$Thing" "cleaned" "I", Cond.fieldLink RX2 38 "WhisperJudge$Thing" "padded" "I"]
def wsX4_thing_r2 : List Cond := [Cond.fieldLink RX2 9 "WhisperJudge$Thing" "prices" "[I", Cond.methodLink RX2 41 yJ7_fill_53178, Cond.static yJ7_fill_53178, Cond.initialized RJ7, Cond.code yJ7_fill_53178 cJ7_fill_53178 4 none]
def wsX4_thing : List Cond := .code yX4_thing cX4_thing 3 (some .int) :: ((wsX4_thing_r1 ++ wsX4_thing_r2) ++ wsX40 ++ wsX20)
def wsX4_table_r1 : List Cond := [Cond.methodLink RX4 46 yX4_come, Cond.instanceMethod yX4_come, Cond.selects RX4 yX4_come yX4_come, Cond.initialized RX4, Cond.code yX4_come cX4_come 7 (some .int), Cond.fieldLink RX4 39 "WhisperJudge" "count" "I", Cond.fieldLink RX4 11 "WhisperJudge" "things" "[LWhisperJudge$Thing;", Cond.fieldLink RX4 43 "WhisperJudge" "changes" "I", Cond.methodLink RX4 92 yX4_canBe, Cond.static yX4_canBe, Cond.code yX4_canBe cX4_canBe 2 (some .boolean), Cond.methodLink RX4 151 yX2_come, Cond.instanceMethod yX2_come, Cond.selects RX2 yX2_come yX2_come, Cond.initialized RX2, Cond.code yX2_come cX2_come 7 none, Cond.fieldLink RX2 15 "WhisperJudge$Thing" "kind" "I", Cond.fieldLink RX2 19 "WhisperJudge$Thing" "first" "I", Cond.fieldLink RX2 22 "WhisperJudge$Thing" "now" "I", Cond.fieldLink RX2 25 "WhisperJudge$Thing" "nexts" "J", Cond.fieldLink RX2 29 "WhisperJudge$Thing" "answers" "J", Cond.fieldLink RX2 32 "WhisperJudge$Thing" "wall" "I", Cond.fieldLink RX2 35 "WhisperJudge$Thing" "cleaned" "I", Cond.fieldLink RX2 38 "WhisperJudge$Thing" "padded" "I"]
def wsX4_table_r2 : List Cond := [Cond.fieldLink RX2 9 "WhisperJudge$Thing" "prices" "[I", Cond.methodLink RX2 41 yJ7_fill_53178, Cond.static yJ7_fill_53178, Cond.initialized RJ7, Cond.code yJ7_fill_53178 cJ7_fill_53178 4 none]
def wsX4_table : List Cond := .code yX4_table cX4_table 6 (some .int) :: ((wsX4_table_r1 ++ wsX4_table_r2) ++ wsX40 ++ wsX20)
def wsX4_isThing : List Cond := .code yX4_isThing cX4_isThing 2 (some .boolean) :: ([.fieldLink RX4 39 "WhisperJudge" "count" "I"] ++ wsX40)
def wsX4_canHave : List Cond := .code yX4_canHave cX4_canHave 2 (some .boolean) :: ([])
def wsX4_wall : List Cond := .code yX4_wall cX4_wall 4 (some .boolean) :: ([.fieldLink RX4 11 "WhisperJudge" "things" "[LWhisperJudge$Thing;", .fieldLink RX4 58 "WhisperJudge$Thing" "wall" "I", .fieldLink RX4 43 "WhisperJudge" "changes" "I", .methodLink RX4 50 yX4_isThing, .instanceMethod yX4_isThing, .selects RX4 yX4_isThing yX4_isThing, .initialized RX4, .code yX4_isThing cX4_isThing 2 (some .boolean), .fieldLink RX4 39 "WhisperJudge" "count" "I", .methodLink RX4 54 yX4_canHave, .static yX4_canHave, .code yX4_canHave cX4_canHave 2 (some .boolean), .methodLink RX4 61 yX2_keep, .instanceMethod yX2_keep, .selects RX2 yX2_keep yX2_keep, .initialized RX2, .code yX2_keep cX2_keep 3 none, .fieldLink RX2 35 "WhisperJudge$Thing" "cleaned" "I", .fieldLink RX2 38 "WhisperJudge$Thing" "padded" "I"] ++ wsX40 ++ wsX20)
def wsX4_set : List Cond := .code yX4_set cX4_set 4 (some .boolean) :: ([.fieldLink RX4 11 "WhisperJudge" "things" "[LWhisperJudge$Thing;", .fieldLink RX4 43 "WhisperJudge" "changes" "I", .methodLink RX4 50 yX4_isThing, .instanceMethod yX4_isThing, .selects RX4 yX4_isThing yX4_isThing, .initialized RX4, .code yX4_isThing cX4_isThing 2 (some .boolean), .fieldLink RX4 39 "WhisperJudge" "count" "I", .methodLink RX4 54 yX4_canHave, .static yX4_canHave, .code yX4_canHave cX4_canHave 2 (some .boolean), .methodLink RX4 61 yX2_keep, .instanceMethod yX2_keep, .selects RX2 yX2_keep yX2_keep, .initialized RX2, .code yX2_keep cX2_keep 3 none, .fieldLink RX2 35 "WhisperJudge$Thing" "cleaned" "I", .fieldLink RX2 38 "WhisperJudge$Thing" "padded" "I"] ++ wsX40 ++ wsX20)
def wsX4_price : List Cond := .code yX4_price cX4_price 4 (some .boolean) :: ([.fieldLink RX4 11 "WhisperJudge" "things" "[LWhisperJudge$Thing;", .fieldLink RX4 65 "WhisperJudge$Thing" "prices" "[I", .methodLink RX4 50 yX4_isThing, .instanceMethod yX4_isThing, .selects RX4 yX4_isThing yX4_isThing, .initialized RX4, .code yX4_isThing cX4_isThing 2 (some .boolean), .fieldLink RX4 39 "WhisperJudge" "count" "I"] ++ wsX40 ++ wsX20)
def wsX4_wallsNow : List Cond := .code yX4_wallsNow cX4_wallsNow 3 (some .int) :: ([.fieldLink RX4 39 "WhisperJudge" "count" "I", .fieldLink RX4 11 "WhisperJudge" "things" "[LWhisperJudge$Thing;", .fieldLink RX4 58 "WhisperJudge$Thing" "wall" "I"] ++ wsX40 ++ wsX20)
def wsX4_pairOf_r1 : List Cond := [Cond.fieldLink RX4 17 "WhisperJudge" "pairs" "[LWhisperJudge$Pair;", Cond.fieldLink RX4 154 "WhisperJudge$Pair" "asOf" "I", Cond.fieldLink RX4 43 "WhisperJudge" "changes" "I", Cond.fieldLink RX4 30 "WhisperJudge" "room" "LWhisperJudge$Room;", Cond.fieldLink RX4 11 "WhisperJudge" "things" "[LWhisperJudge$Thing;", Cond.fieldLink RX4 39 "WhisperJudge" "count" "I", Cond.methodLink RX4 73 yX4_wallsNow, Cond.instanceMethod yX4_wallsNow, Cond.selects RX4 yX4_wallsNow yX4_wallsNow, Cond.initialized RX4, Cond.code yX4_wallsNow cX4_wallsNow 3 (some .int), Cond.fieldLink RX4 58 "WhisperJudge$Thing" "wall" "I", Cond.methodLink RX4 133 yX1_build, Cond.instanceMethod yX1_build, Cond.selects RX1 yX1_build yX1_build, Cond.initialized RX1, Cond.code yX1_build cX1_build 6 none, Cond.fieldLink RX1 27 "WhisperJudge$Room" "acts" "I", Cond.fieldLink RX1 31 "WhisperJudge$Room" "start" "J", Cond.fieldLink RX1 35 "WhisperJudge$Thing" "first" "I", Cond.fieldLink RX1 24 "WhisperJudge$Room" "firsts" "[I", Cond.fieldLink RX1 21 "WhisperJudge$Room" "cleanEach" "[I", Cond.fieldLink RX1 44 "WhisperJudge$Thing" "cleaned" "I", Cond.static yX4_wallIn]
def wsX4_pairOf_r2 : List Cond := [Cond.code yX4_wallIn cX4_wallIn 2 (some .int), Cond.methodLink RX1 47 yX1_buildAct, Cond.instanceMethod yX1_buildAct, Cond.selects RX1 yX1_buildAct yX1_buildAct, Cond.code yX1_buildAct cX1_buildAct 7 none, Cond.fieldLink RX1 9 "WhisperJudge$Room" "sentTo" "[I", Cond.fieldLink RX1 15 "WhisperJudge$Room" "heardTo" "[I", Cond.fieldLink RX1 18 "WhisperJudge$Room" "heardAs" "[I", Cond.fieldLink RX1 61 "WhisperJudge$Thing" "padded" "I", Cond.methodLink RX1 64 Lib.Math.min.name, Cond.static Lib.Math.min.name, Cond.initialized "java/lang/Math", Cond.code Lib.Math.min.name Lib.Math.min.code 2 (some .int), Cond.methodLink RX1 51 yX2_answer, Cond.instanceMethod yX2_answer, Cond.selects RX2 yX2_answer yX2_answer, Cond.initialized RX2, Cond.code yX2_answer cX2_answer 4 (some .int), Cond.fieldLink RX2 15 "WhisperJudge$Thing" "kind" "I", Cond.fieldLink RX2 29 "WhisperJudge$Thing" "answers" "J", Cond.methodLink RX2 47 yX2_told, Cond.static yX2_told, Cond.code yX2_told cX2_told 5 (some .int), Cond.methodLink RX2 55 yX2_answerByKind]
def wsX4_pairOf_r3 : List Cond := [Cond.instanceMethod yX2_answerByKind, Cond.selects RX2 yX2_answerByKind yX2_answerByKind, Cond.code yX2_answerByKind cX2_answerByKind 4 (some .int), Cond.methodLink RX1 55 yX1_place, Cond.static yX1_place, Cond.code yX1_place cX1_place 2 (some .int), Cond.methodLink RX1 58 yX2_next, Cond.instanceMethod yX2_next, Cond.selects RX2 yX2_next yX2_next, Cond.code yX2_next cX2_next 4 (some .int), Cond.fieldLink RX2 25 "WhisperJudge$Thing" "nexts" "J", Cond.methodLink RX2 51 yX2_nextByKind, Cond.instanceMethod yX2_nextByKind, Cond.selects RX2 yX2_nextByKind yX2_nextByKind, Cond.code yX2_nextByKind cX2_nextByKind 4 (some .int), Cond.methodLink RX2 58 Lib.Math.min.name, Cond.methodLink RX2 64 Lib.Math.max.name, Cond.static Lib.Math.max.name, Cond.code Lib.Math.max.name Lib.Math.max.code 2 (some .int), Cond.methodLink RX4 157 yX0_find, Cond.instanceMethod yX0_find, Cond.selects RX0 yX0_find yX0_find, Cond.initialized RX0, Cond.code yX0_find cX0_find 4 none]
def wsX4_pairOf_r4 : List Cond := [Cond.fieldLink RX0 31 "WhisperJudge$Pair" "length" "I", Cond.fieldLink RX0 34 "WhisperJudge$Pair" "queued" "I", Cond.fieldLink RX0 24 "WhisperJudge$Pair" "depth" "[I", Cond.fieldLink RX0 15 "WhisperJudge$Pair" "queue" "[I", Cond.methodLink RX0 37 yJ7_fill_53178, Cond.static yJ7_fill_53178, Cond.initialized RJ7, Cond.code yJ7_fill_53178 cJ7_fill_53178 4 none, Cond.methodLink RX0 48 yX0_node, Cond.static yX0_node, Cond.code yX0_node cX0_node 3 (some .int), Cond.methodLink RX0 52 yX0_reach, Cond.instanceMethod yX0_reach, Cond.selects RX0 yX0_reach yX0_reach, Cond.code yX0_reach cX0_reach 4 none, Cond.fieldLink RX0 18 "WhisperJudge$Pair" "before" "[I", Cond.fieldLink RX0 21 "WhisperJudge$Pair" "edge" "[I", Cond.methodLink RX0 56 yX0_goOn, Cond.instanceMethod yX0_goOn, Cond.selects RX0 yX0_goOn yX0_goOn, Cond.code yX0_goOn cX0_goOn 12 none, Cond.methodLink RX0 60 yX1_met, Cond.instanceMethod yX1_met, Cond.selects RX1 yX1_met yX1_met]
def wsX4_pairOf_r5 : List Cond := [Cond.code yX1_met cX1_met 5 (some .int), Cond.methodLink RX1 69 yX1_isCleaned, Cond.instanceMethod yX1_isCleaned, Cond.selects RX1 yX1_isCleaned yX1_isCleaned, Cond.code yX1_isCleaned cX1_isCleaned 3 (some .boolean), Cond.methodLink RX0 64 yX1_answer, Cond.instanceMethod yX1_answer, Cond.selects RX1 yX1_answer yX1_answer, Cond.code yX1_answer cX1_answer 4 (some .int), Cond.methodLink RX0 67 yX0_write, Cond.instanceMethod yX0_write, Cond.selects RX0 yX0_write yX0_write, Cond.code yX0_write cX0_write 7 none, Cond.fieldLink RX0 11 "WhisperJudge$Pair" "rows" "[I", Cond.methodLink RX0 77 yX0_number, Cond.static yX0_number, Cond.code yX0_number cX0_number 2 (some .int), Cond.methodLink RX0 70 yX1_left, Cond.instanceMethod yX1_left, Cond.selects RX1 yX1_left yX1_left, Cond.code yX1_left cX1_left 4 (some .int), Cond.methodLink RX0 73 yX1_period, Cond.instanceMethod yX1_period, Cond.selects RX1 yX1_period yX1_period]
def wsX4_pairOf_r6 : List Cond := [Cond.code yX1_period cX1_period 2 (some .int)]
def wsX4_pairOf : List Cond := .code yX4_pairOf cX4_pairOf 3 (some (.object "WhisperJudge$Pair")) :: ((wsX4_pairOf_r1 ++ (wsX4_pairOf_r2 ++ (wsX4_pairOf_r3 ++ (wsX4_pairOf_r4 ++ (wsX4_pairOf_r5 ++ wsX4_pairOf_r6))))) ++ wsX40 ++ wsX00 ++ wsX20 ++ wsX10)
def wsX4_countSilent_r1 : List Cond := [Cond.fieldLink RX4 39 "WhisperJudge" "count" "I", Cond.fieldLink RX4 106 "WhisperJudge$Pair" "length" "I", Cond.methodLink RX4 102 yX4_pairOf, Cond.instanceMethod yX4_pairOf, Cond.selects RX4 yX4_pairOf yX4_pairOf, Cond.initialized RX4, Cond.code yX4_pairOf cX4_pairOf 3 (some (.object "WhisperJudge$Pair")), Cond.fieldLink RX4 17 "WhisperJudge" "pairs" "[LWhisperJudge$Pair;", Cond.fieldLink RX4 154 "WhisperJudge$Pair" "asOf" "I", Cond.fieldLink RX4 43 "WhisperJudge" "changes" "I", Cond.fieldLink RX4 30 "WhisperJudge" "room" "LWhisperJudge$Room;", Cond.fieldLink RX4 11 "WhisperJudge" "things" "[LWhisperJudge$Thing;", Cond.methodLink RX4 73 yX4_wallsNow, Cond.instanceMethod yX4_wallsNow, Cond.selects RX4 yX4_wallsNow yX4_wallsNow, Cond.code yX4_wallsNow cX4_wallsNow 3 (some .int), Cond.fieldLink RX4 58 "WhisperJudge$Thing" "wall" "I", Cond.methodLink RX4 133 yX1_build, Cond.instanceMethod yX1_build, Cond.selects RX1 yX1_build yX1_build, Cond.initialized RX1, Cond.code yX1_build cX1_build 6 none, Cond.fieldLink RX1 27 "WhisperJudge$Room" "acts" "I", Cond.fieldLink RX1 31 "WhisperJudge$Room" "start" "J"]
def wsX4_countSilent_r2 : List Cond := [Cond.fieldLink RX1 35 "WhisperJudge$Thing" "first" "I", Cond.fieldLink RX1 24 "WhisperJudge$Room" "firsts" "[I", Cond.fieldLink RX1 21 "WhisperJudge$Room" "cleanEach" "[I", Cond.fieldLink RX1 44 "WhisperJudge$Thing" "cleaned" "I", Cond.static yX4_wallIn, Cond.code yX4_wallIn cX4_wallIn 2 (some .int), Cond.methodLink RX1 47 yX1_buildAct, Cond.instanceMethod yX1_buildAct, Cond.selects RX1 yX1_buildAct yX1_buildAct, Cond.code yX1_buildAct cX1_buildAct 7 none, Cond.fieldLink RX1 9 "WhisperJudge$Room" "sentTo" "[I", Cond.fieldLink RX1 15 "WhisperJudge$Room" "heardTo" "[I", Cond.fieldLink RX1 18 "WhisperJudge$Room" "heardAs" "[I", Cond.fieldLink RX1 61 "WhisperJudge$Thing" "padded" "I", Cond.methodLink RX1 64 Lib.Math.min.name, Cond.static Lib.Math.min.name, Cond.initialized "java/lang/Math", Cond.code Lib.Math.min.name Lib.Math.min.code 2 (some .int), Cond.methodLink RX1 51 yX2_answer, Cond.instanceMethod yX2_answer, Cond.selects RX2 yX2_answer yX2_answer, Cond.initialized RX2, Cond.code yX2_answer cX2_answer 4 (some .int), Cond.fieldLink RX2 15 "WhisperJudge$Thing" "kind" "I"]
def wsX4_countSilent_r3 : List Cond := [Cond.fieldLink RX2 29 "WhisperJudge$Thing" "answers" "J", Cond.methodLink RX2 47 yX2_told, Cond.static yX2_told, Cond.code yX2_told cX2_told 5 (some .int), Cond.methodLink RX2 55 yX2_answerByKind, Cond.instanceMethod yX2_answerByKind, Cond.selects RX2 yX2_answerByKind yX2_answerByKind, Cond.code yX2_answerByKind cX2_answerByKind 4 (some .int), Cond.methodLink RX1 55 yX1_place, Cond.static yX1_place, Cond.code yX1_place cX1_place 2 (some .int), Cond.methodLink RX1 58 yX2_next, Cond.instanceMethod yX2_next, Cond.selects RX2 yX2_next yX2_next, Cond.code yX2_next cX2_next 4 (some .int), Cond.fieldLink RX2 25 "WhisperJudge$Thing" "nexts" "J", Cond.methodLink RX2 51 yX2_nextByKind, Cond.instanceMethod yX2_nextByKind, Cond.selects RX2 yX2_nextByKind yX2_nextByKind, Cond.code yX2_nextByKind cX2_nextByKind 4 (some .int), Cond.methodLink RX2 58 Lib.Math.min.name, Cond.methodLink RX2 64 Lib.Math.max.name, Cond.static Lib.Math.max.name, Cond.code Lib.Math.max.name Lib.Math.max.code 2 (some .int)]
def wsX4_countSilent_r4 : List Cond := [Cond.methodLink RX4 157 yX0_find, Cond.instanceMethod yX0_find, Cond.selects RX0 yX0_find yX0_find, Cond.initialized RX0, Cond.code yX0_find cX0_find 4 none, Cond.fieldLink RX0 31 "WhisperJudge$Pair" "length" "I", Cond.fieldLink RX0 34 "WhisperJudge$Pair" "queued" "I", Cond.fieldLink RX0 24 "WhisperJudge$Pair" "depth" "[I", Cond.fieldLink RX0 15 "WhisperJudge$Pair" "queue" "[I", Cond.methodLink RX0 37 yJ7_fill_53178, Cond.static yJ7_fill_53178, Cond.initialized RJ7, Cond.code yJ7_fill_53178 cJ7_fill_53178 4 none, Cond.methodLink RX0 48 yX0_node, Cond.static yX0_node, Cond.code yX0_node cX0_node 3 (some .int), Cond.methodLink RX0 52 yX0_reach, Cond.instanceMethod yX0_reach, Cond.selects RX0 yX0_reach yX0_reach, Cond.code yX0_reach cX0_reach 4 none, Cond.fieldLink RX0 18 "WhisperJudge$Pair" "before" "[I", Cond.fieldLink RX0 21 "WhisperJudge$Pair" "edge" "[I", Cond.methodLink RX0 56 yX0_goOn, Cond.instanceMethod yX0_goOn]
def wsX4_countSilent_r5 : List Cond := [Cond.selects RX0 yX0_goOn yX0_goOn, Cond.code yX0_goOn cX0_goOn 12 none, Cond.methodLink RX0 60 yX1_met, Cond.instanceMethod yX1_met, Cond.selects RX1 yX1_met yX1_met, Cond.code yX1_met cX1_met 5 (some .int), Cond.methodLink RX1 69 yX1_isCleaned, Cond.instanceMethod yX1_isCleaned, Cond.selects RX1 yX1_isCleaned yX1_isCleaned, Cond.code yX1_isCleaned cX1_isCleaned 3 (some .boolean), Cond.methodLink RX0 64 yX1_answer, Cond.instanceMethod yX1_answer, Cond.selects RX1 yX1_answer yX1_answer, Cond.code yX1_answer cX1_answer 4 (some .int), Cond.methodLink RX0 67 yX0_write, Cond.instanceMethod yX0_write, Cond.selects RX0 yX0_write yX0_write, Cond.code yX0_write cX0_write 7 none, Cond.fieldLink RX0 11 "WhisperJudge$Pair" "rows" "[I", Cond.methodLink RX0 77 yX0_number, Cond.static yX0_number, Cond.code yX0_number cX0_number 2 (some .int), Cond.methodLink RX0 70 yX1_left, Cond.instanceMethod yX1_left]
def wsX4_countSilent_r6 : List Cond := [Cond.selects RX1 yX1_left yX1_left, Cond.code yX1_left cX1_left 4 (some .int), Cond.methodLink RX0 73 yX1_period, Cond.instanceMethod yX1_period, Cond.selects RX1 yX1_period yX1_period, Cond.code yX1_period cX1_period 2 (some .int)]
def wsX4_countSilent : List Cond := .code yX4_countSilent cX4_countSilent 3 (some .int) :: ((wsX4_countSilent_r1 ++ (wsX4_countSilent_r2 ++ (wsX4_countSilent_r3 ++ (wsX4_countSilent_r4 ++ (wsX4_countSilent_r5 ++ wsX4_countSilent_r6))))) ++ wsX40 ++ wsX00 ++ wsX20 ++ wsX10)
def wsX4_sumOf : List Cond := .code yX4_sumOf cX4_sumOf 4 (some .int) :: ([.fieldLink RX4 39 "WhisperJudge" "count" "I", .fieldLink RX4 11 "WhisperJudge" "things" "[LWhisperJudge$Thing;", .fieldLink RX4 65 "WhisperJudge$Thing" "prices" "[I", .methodLink RX4 148 yX4_wallIn, .static yX4_wallIn, .initialized RX4, .code yX4_wallIn cX4_wallIn 2 (some .int)] ++ wsX40 ++ wsX20)
def wsX4_look_r1 : List Cond := [Cond.fieldLink RX4 39 "WhisperJudge" "count" "I", Cond.methodLink RX4 69 yX4_countSilent, Cond.instanceMethod yX4_countSilent, Cond.selects RX4 yX4_countSilent yX4_countSilent, Cond.initialized RX4, Cond.code yX4_countSilent cX4_countSilent 3 (some .int), Cond.fieldLink RX4 106 "WhisperJudge$Pair" "length" "I", Cond.methodLink RX4 102 yX4_pairOf, Cond.instanceMethod yX4_pairOf, Cond.selects RX4 yX4_pairOf yX4_pairOf, Cond.code yX4_pairOf cX4_pairOf 3 (some (.object "WhisperJudge$Pair")), Cond.fieldLink RX4 17 "WhisperJudge" "pairs" "[LWhisperJudge$Pair;", Cond.fieldLink RX4 154 "WhisperJudge$Pair" "asOf" "I", Cond.fieldLink RX4 43 "WhisperJudge" "changes" "I", Cond.fieldLink RX4 30 "WhisperJudge" "room" "LWhisperJudge$Room;", Cond.fieldLink RX4 11 "WhisperJudge" "things" "[LWhisperJudge$Thing;", Cond.methodLink RX4 73 yX4_wallsNow, Cond.instanceMethod yX4_wallsNow, Cond.selects RX4 yX4_wallsNow yX4_wallsNow, Cond.code yX4_wallsNow cX4_wallsNow 3 (some .int), Cond.fieldLink RX4 58 "WhisperJudge$Thing" "wall" "I", Cond.methodLink RX4 133 yX1_build, Cond.instanceMethod yX1_build, Cond.selects RX1 yX1_build yX1_build]
def wsX4_look_r2 : List Cond := [Cond.initialized RX1, Cond.code yX1_build cX1_build 6 none, Cond.fieldLink RX1 27 "WhisperJudge$Room" "acts" "I", Cond.fieldLink RX1 31 "WhisperJudge$Room" "start" "J", Cond.fieldLink RX1 35 "WhisperJudge$Thing" "first" "I", Cond.fieldLink RX1 24 "WhisperJudge$Room" "firsts" "[I", Cond.fieldLink RX1 21 "WhisperJudge$Room" "cleanEach" "[I", Cond.fieldLink RX1 44 "WhisperJudge$Thing" "cleaned" "I", Cond.static yX4_wallIn, Cond.code yX4_wallIn cX4_wallIn 2 (some .int), Cond.methodLink RX1 47 yX1_buildAct, Cond.instanceMethod yX1_buildAct, Cond.selects RX1 yX1_buildAct yX1_buildAct, Cond.code yX1_buildAct cX1_buildAct 7 none, Cond.fieldLink RX1 9 "WhisperJudge$Room" "sentTo" "[I", Cond.fieldLink RX1 15 "WhisperJudge$Room" "heardTo" "[I", Cond.fieldLink RX1 18 "WhisperJudge$Room" "heardAs" "[I", Cond.fieldLink RX1 61 "WhisperJudge$Thing" "padded" "I", Cond.methodLink RX1 64 Lib.Math.min.name, Cond.static Lib.Math.min.name, Cond.initialized "java/lang/Math", Cond.code Lib.Math.min.name Lib.Math.min.code 2 (some .int), Cond.methodLink RX1 51 yX2_answer, Cond.instanceMethod yX2_answer]
def wsX4_look_r3 : List Cond := [Cond.selects RX2 yX2_answer yX2_answer, Cond.initialized RX2, Cond.code yX2_answer cX2_answer 4 (some .int), Cond.fieldLink RX2 15 "WhisperJudge$Thing" "kind" "I", Cond.fieldLink RX2 29 "WhisperJudge$Thing" "answers" "J", Cond.methodLink RX2 47 yX2_told, Cond.static yX2_told, Cond.code yX2_told cX2_told 5 (some .int), Cond.methodLink RX2 55 yX2_answerByKind, Cond.instanceMethod yX2_answerByKind, Cond.selects RX2 yX2_answerByKind yX2_answerByKind, Cond.code yX2_answerByKind cX2_answerByKind 4 (some .int), Cond.methodLink RX1 55 yX1_place, Cond.static yX1_place, Cond.code yX1_place cX1_place 2 (some .int), Cond.methodLink RX1 58 yX2_next, Cond.instanceMethod yX2_next, Cond.selects RX2 yX2_next yX2_next, Cond.code yX2_next cX2_next 4 (some .int), Cond.fieldLink RX2 25 "WhisperJudge$Thing" "nexts" "J", Cond.methodLink RX2 51 yX2_nextByKind, Cond.instanceMethod yX2_nextByKind, Cond.selects RX2 yX2_nextByKind yX2_nextByKind, Cond.code yX2_nextByKind cX2_nextByKind 4 (some .int)]
def wsX4_look_r4 : List Cond := [Cond.methodLink RX2 58 Lib.Math.min.name, Cond.methodLink RX2 64 Lib.Math.max.name, Cond.static Lib.Math.max.name, Cond.code Lib.Math.max.name Lib.Math.max.code 2 (some .int), Cond.methodLink RX4 157 yX0_find, Cond.instanceMethod yX0_find, Cond.selects RX0 yX0_find yX0_find, Cond.initialized RX0, Cond.code yX0_find cX0_find 4 none, Cond.fieldLink RX0 31 "WhisperJudge$Pair" "length" "I", Cond.fieldLink RX0 34 "WhisperJudge$Pair" "queued" "I", Cond.fieldLink RX0 24 "WhisperJudge$Pair" "depth" "[I", Cond.fieldLink RX0 15 "WhisperJudge$Pair" "queue" "[I", Cond.methodLink RX0 37 yJ7_fill_53178, Cond.static yJ7_fill_53178, Cond.initialized RJ7, Cond.code yJ7_fill_53178 cJ7_fill_53178 4 none, Cond.methodLink RX0 48 yX0_node, Cond.static yX0_node, Cond.code yX0_node cX0_node 3 (some .int), Cond.methodLink RX0 52 yX0_reach, Cond.instanceMethod yX0_reach, Cond.selects RX0 yX0_reach yX0_reach, Cond.code yX0_reach cX0_reach 4 none]
def wsX4_look_r5 : List Cond := [Cond.fieldLink RX0 18 "WhisperJudge$Pair" "before" "[I", Cond.fieldLink RX0 21 "WhisperJudge$Pair" "edge" "[I", Cond.methodLink RX0 56 yX0_goOn, Cond.instanceMethod yX0_goOn, Cond.selects RX0 yX0_goOn yX0_goOn, Cond.code yX0_goOn cX0_goOn 12 none, Cond.methodLink RX0 60 yX1_met, Cond.instanceMethod yX1_met, Cond.selects RX1 yX1_met yX1_met, Cond.code yX1_met cX1_met 5 (some .int), Cond.methodLink RX1 69 yX1_isCleaned, Cond.instanceMethod yX1_isCleaned, Cond.selects RX1 yX1_isCleaned yX1_isCleaned, Cond.code yX1_isCleaned cX1_isCleaned 3 (some .boolean), Cond.methodLink RX0 64 yX1_answer, Cond.instanceMethod yX1_answer, Cond.selects RX1 yX1_answer yX1_answer, Cond.code yX1_answer cX1_answer 4 (some .int), Cond.methodLink RX0 67 yX0_write, Cond.instanceMethod yX0_write, Cond.selects RX0 yX0_write yX0_write, Cond.code yX0_write cX0_write 7 none, Cond.fieldLink RX0 11 "WhisperJudge$Pair" "rows" "[I", Cond.methodLink RX0 77 yX0_number]
def wsX4_look_r6 : List Cond := [Cond.static yX0_number, Cond.code yX0_number cX0_number 2 (some .int), Cond.methodLink RX0 70 yX1_left, Cond.instanceMethod yX1_left, Cond.selects RX1 yX1_left yX1_left, Cond.code yX1_left cX1_left 4 (some .int), Cond.methodLink RX0 73 yX1_period, Cond.instanceMethod yX1_period, Cond.selects RX1 yX1_period yX1_period, Cond.code yX1_period cX1_period 2 (some .int), Cond.methodLink RX4 76 yX4_sumOf, Cond.instanceMethod yX4_sumOf, Cond.selects RX4 yX4_sumOf yX4_sumOf, Cond.code yX4_sumOf cX4_sumOf 4 (some .int), Cond.fieldLink RX4 65 "WhisperJudge$Thing" "prices" "[I", Cond.methodLink RX4 148 yX4_wallIn]
def wsX4_look : List Cond := .code yX4_look cX4_look 2 (some .int) :: ((wsX4_look_r1 ++ (wsX4_look_r2 ++ (wsX4_look_r3 ++ (wsX4_look_r4 ++ (wsX4_look_r5 ++ wsX4_look_r6))))) ++ wsX40 ++ wsX00 ++ wsX20 ++ wsX10)
def wsX4_of : List Cond := .code yX4_of cX4_of 3 (some .int) :: ([.fieldLink RX4 11 "WhisperJudge" "things" "[LWhisperJudge$Thing;", .fieldLink RX4 80 "WhisperJudge$Thing" "kind" "I", .fieldLink RX4 83 "WhisperJudge$Thing" "first" "I", .fieldLink RX4 58 "WhisperJudge$Thing" "wall" "I", .fieldLink RX4 86 "WhisperJudge$Thing" "cleaned" "I", .fieldLink RX4 89 "WhisperJudge$Thing" "padded" "I", .methodLink RX4 50 yX4_isThing, .instanceMethod yX4_isThing, .selects RX4 yX4_isThing yX4_isThing, .initialized RX4, .code yX4_isThing cX4_isThing 2 (some .boolean), .fieldLink RX4 39 "WhisperJudge" "count" "I"] ++ wsX40 ++ wsX20)
def wsX4_does_r1 : List Cond := [Cond.fieldLink RX4 11 "WhisperJudge" "things" "[LWhisperJudge$Thing;", Cond.fieldLink RX4 80 "WhisperJudge$Thing" "kind" "I", Cond.methodLink RX4 50 yX4_isThing, Cond.instanceMethod yX4_isThing, Cond.selects RX4 yX4_isThing yX4_isThing, Cond.initialized RX4, Cond.code yX4_isThing cX4_isThing 2 (some .boolean), Cond.fieldLink RX4 39 "WhisperJudge" "count" "I", Cond.methodLink RX4 92 yX4_canBe, Cond.static yX4_canBe, Cond.code yX4_canBe cX4_canBe 2 (some .boolean), Cond.methodLink RX4 95 yX2_next, Cond.instanceMethod yX2_next, Cond.selects RX2 yX2_next yX2_next, Cond.initialized RX2, Cond.code yX2_next cX2_next 4 (some .int), Cond.fieldLink RX2 15 "WhisperJudge$Thing" "kind" "I", Cond.fieldLink RX2 25 "WhisperJudge$Thing" "nexts" "J", Cond.methodLink RX2 47 yX2_told, Cond.static yX2_told, Cond.code yX2_told cX2_told 5 (some .int), Cond.methodLink RX2 51 yX2_nextByKind, Cond.instanceMethod yX2_nextByKind, Cond.selects RX2 yX2_nextByKind yX2_nextByKind]
def wsX4_does_r2 : List Cond := [Cond.code yX2_nextByKind cX2_nextByKind 4 (some .int), Cond.methodLink RX2 58 Lib.Math.min.name, Cond.static Lib.Math.min.name, Cond.initialized "java/lang/Math", Cond.code Lib.Math.min.name Lib.Math.min.code 2 (some .int), Cond.methodLink RX2 64 Lib.Math.max.name, Cond.static Lib.Math.max.name, Cond.code Lib.Math.max.name Lib.Math.max.code 2 (some .int), Cond.methodLink RX4 99 yX2_answer, Cond.instanceMethod yX2_answer, Cond.selects RX2 yX2_answer yX2_answer, Cond.code yX2_answer cX2_answer 4 (some .int), Cond.fieldLink RX2 29 "WhisperJudge$Thing" "answers" "J", Cond.methodLink RX2 55 yX2_answerByKind, Cond.instanceMethod yX2_answerByKind, Cond.selects RX2 yX2_answerByKind yX2_answerByKind, Cond.code yX2_answerByKind cX2_answerByKind 4 (some .int)]
def wsX4_does : List Cond := .code yX4_does cX4_does 6 (some .int) :: ((wsX4_does_r1 ++ wsX4_does_r2) ++ wsX40 ++ wsX20)
def wsX4_silent_r1 : List Cond := [Cond.fieldLink RX4 106 "WhisperJudge$Pair" "length" "I", Cond.methodLink RX4 50 yX4_isThing, Cond.instanceMethod yX4_isThing, Cond.selects RX4 yX4_isThing yX4_isThing, Cond.initialized RX4, Cond.code yX4_isThing cX4_isThing 2 (some .boolean), Cond.fieldLink RX4 39 "WhisperJudge" "count" "I", Cond.methodLink RX4 102 yX4_pairOf, Cond.instanceMethod yX4_pairOf, Cond.selects RX4 yX4_pairOf yX4_pairOf, Cond.code yX4_pairOf cX4_pairOf 3 (some (.object "WhisperJudge$Pair")), Cond.fieldLink RX4 17 "WhisperJudge" "pairs" "[LWhisperJudge$Pair;", Cond.fieldLink RX4 154 "WhisperJudge$Pair" "asOf" "I", Cond.fieldLink RX4 43 "WhisperJudge" "changes" "I", Cond.fieldLink RX4 30 "WhisperJudge" "room" "LWhisperJudge$Room;", Cond.fieldLink RX4 11 "WhisperJudge" "things" "[LWhisperJudge$Thing;", Cond.methodLink RX4 73 yX4_wallsNow, Cond.instanceMethod yX4_wallsNow, Cond.selects RX4 yX4_wallsNow yX4_wallsNow, Cond.code yX4_wallsNow cX4_wallsNow 3 (some .int), Cond.fieldLink RX4 58 "WhisperJudge$Thing" "wall" "I", Cond.methodLink RX4 133 yX1_build, Cond.instanceMethod yX1_build, Cond.selects RX1 yX1_build yX1_build]
def wsX4_silent_r2 : List Cond := [Cond.initialized RX1, Cond.code yX1_build cX1_build 6 none, Cond.fieldLink RX1 27 "WhisperJudge$Room" "acts" "I", Cond.fieldLink RX1 31 "WhisperJudge$Room" "start" "J", Cond.fieldLink RX1 35 "WhisperJudge$Thing" "first" "I", Cond.fieldLink RX1 24 "WhisperJudge$Room" "firsts" "[I", Cond.fieldLink RX1 21 "WhisperJudge$Room" "cleanEach" "[I", Cond.fieldLink RX1 44 "WhisperJudge$Thing" "cleaned" "I", Cond.static yX4_wallIn, Cond.code yX4_wallIn cX4_wallIn 2 (some .int), Cond.methodLink RX1 47 yX1_buildAct, Cond.instanceMethod yX1_buildAct, Cond.selects RX1 yX1_buildAct yX1_buildAct, Cond.code yX1_buildAct cX1_buildAct 7 none, Cond.fieldLink RX1 9 "WhisperJudge$Room" "sentTo" "[I", Cond.fieldLink RX1 15 "WhisperJudge$Room" "heardTo" "[I", Cond.fieldLink RX1 18 "WhisperJudge$Room" "heardAs" "[I", Cond.fieldLink RX1 61 "WhisperJudge$Thing" "padded" "I", Cond.methodLink RX1 64 Lib.Math.min.name, Cond.static Lib.Math.min.name, Cond.initialized "java/lang/Math", Cond.code Lib.Math.min.name Lib.Math.min.code 2 (some .int), Cond.methodLink RX1 51 yX2_answer, Cond.instanceMethod yX2_answer]
def wsX4_silent_r3 : List Cond := [Cond.selects RX2 yX2_answer yX2_answer, Cond.initialized RX2, Cond.code yX2_answer cX2_answer 4 (some .int), Cond.fieldLink RX2 15 "WhisperJudge$Thing" "kind" "I", Cond.fieldLink RX2 29 "WhisperJudge$Thing" "answers" "J", Cond.methodLink RX2 47 yX2_told, Cond.static yX2_told, Cond.code yX2_told cX2_told 5 (some .int), Cond.methodLink RX2 55 yX2_answerByKind, Cond.instanceMethod yX2_answerByKind, Cond.selects RX2 yX2_answerByKind yX2_answerByKind, Cond.code yX2_answerByKind cX2_answerByKind 4 (some .int), Cond.methodLink RX1 55 yX1_place, Cond.static yX1_place, Cond.code yX1_place cX1_place 2 (some .int), Cond.methodLink RX1 58 yX2_next, Cond.instanceMethod yX2_next, Cond.selects RX2 yX2_next yX2_next, Cond.code yX2_next cX2_next 4 (some .int), Cond.fieldLink RX2 25 "WhisperJudge$Thing" "nexts" "J", Cond.methodLink RX2 51 yX2_nextByKind, Cond.instanceMethod yX2_nextByKind, Cond.selects RX2 yX2_nextByKind yX2_nextByKind, Cond.code yX2_nextByKind cX2_nextByKind 4 (some .int)]
def wsX4_silent_r4 : List Cond := [Cond.methodLink RX2 58 Lib.Math.min.name, Cond.methodLink RX2 64 Lib.Math.max.name, Cond.static Lib.Math.max.name, Cond.code Lib.Math.max.name Lib.Math.max.code 2 (some .int), Cond.methodLink RX4 157 yX0_find, Cond.instanceMethod yX0_find, Cond.selects RX0 yX0_find yX0_find, Cond.initialized RX0, Cond.code yX0_find cX0_find 4 none, Cond.fieldLink RX0 31 "WhisperJudge$Pair" "length" "I", Cond.fieldLink RX0 34 "WhisperJudge$Pair" "queued" "I", Cond.fieldLink RX0 24 "WhisperJudge$Pair" "depth" "[I", Cond.fieldLink RX0 15 "WhisperJudge$Pair" "queue" "[I", Cond.methodLink RX0 37 yJ7_fill_53178, Cond.static yJ7_fill_53178, Cond.initialized RJ7, Cond.code yJ7_fill_53178 cJ7_fill_53178 4 none, Cond.methodLink RX0 48 yX0_node, Cond.static yX0_node, Cond.code yX0_node cX0_node 3 (some .int), Cond.methodLink RX0 52 yX0_reach, Cond.instanceMethod yX0_reach, Cond.selects RX0 yX0_reach yX0_reach, Cond.code yX0_reach cX0_reach 4 none]
def wsX4_silent_r5 : List Cond := [Cond.fieldLink RX0 18 "WhisperJudge$Pair" "before" "[I", Cond.fieldLink RX0 21 "WhisperJudge$Pair" "edge" "[I", Cond.methodLink RX0 56 yX0_goOn, Cond.instanceMethod yX0_goOn, Cond.selects RX0 yX0_goOn yX0_goOn, Cond.code yX0_goOn cX0_goOn 12 none, Cond.methodLink RX0 60 yX1_met, Cond.instanceMethod yX1_met, Cond.selects RX1 yX1_met yX1_met, Cond.code yX1_met cX1_met 5 (some .int), Cond.methodLink RX1 69 yX1_isCleaned, Cond.instanceMethod yX1_isCleaned, Cond.selects RX1 yX1_isCleaned yX1_isCleaned, Cond.code yX1_isCleaned cX1_isCleaned 3 (some .boolean), Cond.methodLink RX0 64 yX1_answer, Cond.instanceMethod yX1_answer, Cond.selects RX1 yX1_answer yX1_answer, Cond.code yX1_answer cX1_answer 4 (some .int), Cond.methodLink RX0 67 yX0_write, Cond.instanceMethod yX0_write, Cond.selects RX0 yX0_write yX0_write, Cond.code yX0_write cX0_write 7 none, Cond.fieldLink RX0 11 "WhisperJudge$Pair" "rows" "[I", Cond.methodLink RX0 77 yX0_number]
def wsX4_silent_r6 : List Cond := [Cond.static yX0_number, Cond.code yX0_number cX0_number 2 (some .int), Cond.methodLink RX0 70 yX1_left, Cond.instanceMethod yX1_left, Cond.selects RX1 yX1_left yX1_left, Cond.code yX1_left cX1_left 4 (some .int), Cond.methodLink RX0 73 yX1_period, Cond.instanceMethod yX1_period, Cond.selects RX1 yX1_period yX1_period, Cond.code yX1_period cX1_period 2 (some .int)]
def wsX4_silent : List Cond := .code yX4_silent cX4_silent 2 (some .int) :: ((wsX4_silent_r1 ++ (wsX4_silent_r2 ++ (wsX4_silent_r3 ++ (wsX4_silent_r4 ++ (wsX4_silent_r5 ++ wsX4_silent_r6))))) ++ wsX00 ++ wsX40 ++ wsX20 ++ wsX10)
def wsX4_shown_r1 : List Cond := [Cond.fieldLink RX4 106 "WhisperJudge$Pair" "length" "I", Cond.methodLink RX4 50 yX4_isThing, Cond.instanceMethod yX4_isThing, Cond.selects RX4 yX4_isThing yX4_isThing, Cond.initialized RX4, Cond.code yX4_isThing cX4_isThing 2 (some .boolean), Cond.fieldLink RX4 39 "WhisperJudge" "count" "I", Cond.methodLink RX4 102 yX4_pairOf, Cond.instanceMethod yX4_pairOf, Cond.selects RX4 yX4_pairOf yX4_pairOf, Cond.code yX4_pairOf cX4_pairOf 3 (some (.object "WhisperJudge$Pair")), Cond.fieldLink RX4 17 "WhisperJudge" "pairs" "[LWhisperJudge$Pair;", Cond.fieldLink RX4 154 "WhisperJudge$Pair" "asOf" "I", Cond.fieldLink RX4 43 "WhisperJudge" "changes" "I", Cond.fieldLink RX4 30 "WhisperJudge" "room" "LWhisperJudge$Room;", Cond.fieldLink RX4 11 "WhisperJudge" "things" "[LWhisperJudge$Thing;", Cond.methodLink RX4 73 yX4_wallsNow, Cond.instanceMethod yX4_wallsNow, Cond.selects RX4 yX4_wallsNow yX4_wallsNow, Cond.code yX4_wallsNow cX4_wallsNow 3 (some .int), Cond.fieldLink RX4 58 "WhisperJudge$Thing" "wall" "I", Cond.methodLink RX4 133 yX1_build, Cond.instanceMethod yX1_build, Cond.selects RX1 yX1_build yX1_build]
def wsX4_shown_r2 : List Cond := [Cond.initialized RX1, Cond.code yX1_build cX1_build 6 none, Cond.fieldLink RX1 27 "WhisperJudge$Room" "acts" "I", Cond.fieldLink RX1 31 "WhisperJudge$Room" "start" "J", Cond.fieldLink RX1 35 "WhisperJudge$Thing" "first" "I", Cond.fieldLink RX1 24 "WhisperJudge$Room" "firsts" "[I", Cond.fieldLink RX1 21 "WhisperJudge$Room" "cleanEach" "[I", Cond.fieldLink RX1 44 "WhisperJudge$Thing" "cleaned" "I", Cond.static yX4_wallIn, Cond.code yX4_wallIn cX4_wallIn 2 (some .int), Cond.methodLink RX1 47 yX1_buildAct, Cond.instanceMethod yX1_buildAct, Cond.selects RX1 yX1_buildAct yX1_buildAct, Cond.code yX1_buildAct cX1_buildAct 7 none, Cond.fieldLink RX1 9 "WhisperJudge$Room" "sentTo" "[I", Cond.fieldLink RX1 15 "WhisperJudge$Room" "heardTo" "[I", Cond.fieldLink RX1 18 "WhisperJudge$Room" "heardAs" "[I", Cond.fieldLink RX1 61 "WhisperJudge$Thing" "padded" "I", Cond.methodLink RX1 64 Lib.Math.min.name, Cond.static Lib.Math.min.name, Cond.initialized "java/lang/Math", Cond.code Lib.Math.min.name Lib.Math.min.code 2 (some .int), Cond.methodLink RX1 51 yX2_answer, Cond.instanceMethod yX2_answer]
def wsX4_shown_r3 : List Cond := [Cond.selects RX2 yX2_answer yX2_answer, Cond.initialized RX2, Cond.code yX2_answer cX2_answer 4 (some .int), Cond.fieldLink RX2 15 "WhisperJudge$Thing" "kind" "I", Cond.fieldLink RX2 29 "WhisperJudge$Thing" "answers" "J", Cond.methodLink RX2 47 yX2_told, Cond.static yX2_told, Cond.code yX2_told cX2_told 5 (some .int), Cond.methodLink RX2 55 yX2_answerByKind, Cond.instanceMethod yX2_answerByKind, Cond.selects RX2 yX2_answerByKind yX2_answerByKind, Cond.code yX2_answerByKind cX2_answerByKind 4 (some .int), Cond.methodLink RX1 55 yX1_place, Cond.static yX1_place, Cond.code yX1_place cX1_place 2 (some .int), Cond.methodLink RX1 58 yX2_next, Cond.instanceMethod yX2_next, Cond.selects RX2 yX2_next yX2_next, Cond.code yX2_next cX2_next 4 (some .int), Cond.fieldLink RX2 25 "WhisperJudge$Thing" "nexts" "J", Cond.methodLink RX2 51 yX2_nextByKind, Cond.instanceMethod yX2_nextByKind, Cond.selects RX2 yX2_nextByKind yX2_nextByKind, Cond.code yX2_nextByKind cX2_nextByKind 4 (some .int)]
def wsX4_shown_r4 : List Cond := [Cond.methodLink RX2 58 Lib.Math.min.name, Cond.methodLink RX2 64 Lib.Math.max.name, Cond.static Lib.Math.max.name, Cond.code Lib.Math.max.name Lib.Math.max.code 2 (some .int), Cond.methodLink RX4 157 yX0_find, Cond.instanceMethod yX0_find, Cond.selects RX0 yX0_find yX0_find, Cond.initialized RX0, Cond.code yX0_find cX0_find 4 none, Cond.fieldLink RX0 31 "WhisperJudge$Pair" "length" "I", Cond.fieldLink RX0 34 "WhisperJudge$Pair" "queued" "I", Cond.fieldLink RX0 24 "WhisperJudge$Pair" "depth" "[I", Cond.fieldLink RX0 15 "WhisperJudge$Pair" "queue" "[I", Cond.methodLink RX0 37 yJ7_fill_53178, Cond.static yJ7_fill_53178, Cond.initialized RJ7, Cond.code yJ7_fill_53178 cJ7_fill_53178 4 none, Cond.methodLink RX0 48 yX0_node, Cond.static yX0_node, Cond.code yX0_node cX0_node 3 (some .int), Cond.methodLink RX0 52 yX0_reach, Cond.instanceMethod yX0_reach, Cond.selects RX0 yX0_reach yX0_reach, Cond.code yX0_reach cX0_reach 4 none]
def wsX4_shown_r5 : List Cond := [Cond.fieldLink RX0 18 "WhisperJudge$Pair" "before" "[I", Cond.fieldLink RX0 21 "WhisperJudge$Pair" "edge" "[I", Cond.methodLink RX0 56 yX0_goOn, Cond.instanceMethod yX0_goOn, Cond.selects RX0 yX0_goOn yX0_goOn, Cond.code yX0_goOn cX0_goOn 12 none, Cond.methodLink RX0 60 yX1_met, Cond.instanceMethod yX1_met, Cond.selects RX1 yX1_met yX1_met, Cond.code yX1_met cX1_met 5 (some .int), Cond.methodLink RX1 69 yX1_isCleaned, Cond.instanceMethod yX1_isCleaned, Cond.selects RX1 yX1_isCleaned yX1_isCleaned, Cond.code yX1_isCleaned cX1_isCleaned 3 (some .boolean), Cond.methodLink RX0 64 yX1_answer, Cond.instanceMethod yX1_answer, Cond.selects RX1 yX1_answer yX1_answer, Cond.code yX1_answer cX1_answer 4 (some .int), Cond.methodLink RX0 67 yX0_write, Cond.instanceMethod yX0_write, Cond.selects RX0 yX0_write yX0_write, Cond.code yX0_write cX0_write 7 none, Cond.fieldLink RX0 11 "WhisperJudge$Pair" "rows" "[I", Cond.methodLink RX0 77 yX0_number]
def wsX4_shown_r6 : List Cond := [Cond.static yX0_number, Cond.code yX0_number cX0_number 2 (some .int), Cond.methodLink RX0 70 yX1_left, Cond.instanceMethod yX1_left, Cond.selects RX1 yX1_left yX1_left, Cond.code yX1_left cX1_left 4 (some .int), Cond.methodLink RX0 73 yX1_period, Cond.instanceMethod yX1_period, Cond.selects RX1 yX1_period yX1_period, Cond.code yX1_period cX1_period 2 (some .int)]
def wsX4_shown : List Cond := .code yX4_shown cX4_shown 2 (some .int) :: ((wsX4_shown_r1 ++ (wsX4_shown_r2 ++ (wsX4_shown_r3 ++ (wsX4_shown_r4 ++ (wsX4_shown_r5 ++ wsX4_shown_r6))))) ++ wsX00 ++ wsX40 ++ wsX20 ++ wsX10)
def wsX4_show_r1 : List Cond := [Cond.fieldLink RX4 106 "WhisperJudge$Pair" "length" "I", Cond.fieldLink RX4 109 "WhisperJudge$Pair" "rows" "[I", Cond.methodLink RX4 50 yX4_isThing, Cond.instanceMethod yX4_isThing, Cond.selects RX4 yX4_isThing yX4_isThing, Cond.initialized RX4, Cond.code yX4_isThing cX4_isThing 2 (some .boolean), Cond.fieldLink RX4 39 "WhisperJudge" "count" "I", Cond.methodLink RX4 102 yX4_pairOf, Cond.instanceMethod yX4_pairOf, Cond.selects RX4 yX4_pairOf yX4_pairOf, Cond.code yX4_pairOf cX4_pairOf 3 (some (.object "WhisperJudge$Pair")), Cond.fieldLink RX4 17 "WhisperJudge" "pairs" "[LWhisperJudge$Pair;", Cond.fieldLink RX4 154 "WhisperJudge$Pair" "asOf" "I", Cond.fieldLink RX4 43 "WhisperJudge" "changes" "I", Cond.fieldLink RX4 30 "WhisperJudge" "room" "LWhisperJudge$Room;", Cond.fieldLink RX4 11 "WhisperJudge" "things" "[LWhisperJudge$Thing;", Cond.methodLink RX4 73 yX4_wallsNow, Cond.instanceMethod yX4_wallsNow, Cond.selects RX4 yX4_wallsNow yX4_wallsNow, Cond.code yX4_wallsNow cX4_wallsNow 3 (some .int), Cond.fieldLink RX4 58 "WhisperJudge$Thing" "wall" "I", Cond.methodLink RX4 133 yX1_build, Cond.instanceMethod yX1_build]
def wsX4_show_r2 : List Cond := [Cond.selects RX1 yX1_build yX1_build, Cond.initialized RX1, Cond.code yX1_build cX1_build 6 none, Cond.fieldLink RX1 27 "WhisperJudge$Room" "acts" "I", Cond.fieldLink RX1 31 "WhisperJudge$Room" "start" "J", Cond.fieldLink RX1 35 "WhisperJudge$Thing" "first" "I", Cond.fieldLink RX1 24 "WhisperJudge$Room" "firsts" "[I", Cond.fieldLink RX1 21 "WhisperJudge$Room" "cleanEach" "[I", Cond.fieldLink RX1 44 "WhisperJudge$Thing" "cleaned" "I", Cond.static yX4_wallIn, Cond.code yX4_wallIn cX4_wallIn 2 (some .int), Cond.methodLink RX1 47 yX1_buildAct, Cond.instanceMethod yX1_buildAct, Cond.selects RX1 yX1_buildAct yX1_buildAct, Cond.code yX1_buildAct cX1_buildAct 7 none, Cond.fieldLink RX1 9 "WhisperJudge$Room" "sentTo" "[I", Cond.fieldLink RX1 15 "WhisperJudge$Room" "heardTo" "[I", Cond.fieldLink RX1 18 "WhisperJudge$Room" "heardAs" "[I", Cond.fieldLink RX1 61 "WhisperJudge$Thing" "padded" "I", Cond.methodLink RX1 64 Lib.Math.min.name, Cond.static Lib.Math.min.name, Cond.initialized "java/lang/Math", Cond.code Lib.Math.min.name Lib.Math.min.code 2 (some .int), Cond.methodLink RX1 51 yX2_answer]
def wsX4_show_r3 : List Cond := [Cond.instanceMethod yX2_answer, Cond.selects RX2 yX2_answer yX2_answer, Cond.initialized RX2, Cond.code yX2_answer cX2_answer 4 (some .int), Cond.fieldLink RX2 15 "WhisperJudge$Thing" "kind" "I", Cond.fieldLink RX2 29 "WhisperJudge$Thing" "answers" "J", Cond.methodLink RX2 47 yX2_told, Cond.static yX2_told, Cond.code yX2_told cX2_told 5 (some .int), Cond.methodLink RX2 55 yX2_answerByKind, Cond.instanceMethod yX2_answerByKind, Cond.selects RX2 yX2_answerByKind yX2_answerByKind, Cond.code yX2_answerByKind cX2_answerByKind 4 (some .int), Cond.methodLink RX1 55 yX1_place, Cond.static yX1_place, Cond.code yX1_place cX1_place 2 (some .int), Cond.methodLink RX1 58 yX2_next, Cond.instanceMethod yX2_next, Cond.selects RX2 yX2_next yX2_next, Cond.code yX2_next cX2_next 4 (some .int), Cond.fieldLink RX2 25 "WhisperJudge$Thing" "nexts" "J", Cond.methodLink RX2 51 yX2_nextByKind, Cond.instanceMethod yX2_nextByKind, Cond.selects RX2 yX2_nextByKind yX2_nextByKind]
def wsX4_show_r4 : List Cond := [Cond.code yX2_nextByKind cX2_nextByKind 4 (some .int), Cond.methodLink RX2 58 Lib.Math.min.name, Cond.methodLink RX2 64 Lib.Math.max.name, Cond.static Lib.Math.max.name, Cond.code Lib.Math.max.name Lib.Math.max.code 2 (some .int), Cond.methodLink RX4 157 yX0_find, Cond.instanceMethod yX0_find, Cond.selects RX0 yX0_find yX0_find, Cond.initialized RX0, Cond.code yX0_find cX0_find 4 none, Cond.fieldLink RX0 31 "WhisperJudge$Pair" "length" "I", Cond.fieldLink RX0 34 "WhisperJudge$Pair" "queued" "I", Cond.fieldLink RX0 24 "WhisperJudge$Pair" "depth" "[I", Cond.fieldLink RX0 15 "WhisperJudge$Pair" "queue" "[I", Cond.methodLink RX0 37 yJ7_fill_53178, Cond.static yJ7_fill_53178, Cond.initialized RJ7, Cond.code yJ7_fill_53178 cJ7_fill_53178 4 none, Cond.methodLink RX0 48 yX0_node, Cond.static yX0_node, Cond.code yX0_node cX0_node 3 (some .int), Cond.methodLink RX0 52 yX0_reach, Cond.instanceMethod yX0_reach, Cond.selects RX0 yX0_reach yX0_reach]
def wsX4_show_r5 : List Cond := [Cond.code yX0_reach cX0_reach 4 none, Cond.fieldLink RX0 18 "WhisperJudge$Pair" "before" "[I", Cond.fieldLink RX0 21 "WhisperJudge$Pair" "edge" "[I", Cond.methodLink RX0 56 yX0_goOn, Cond.instanceMethod yX0_goOn, Cond.selects RX0 yX0_goOn yX0_goOn, Cond.code yX0_goOn cX0_goOn 12 none, Cond.methodLink RX0 60 yX1_met, Cond.instanceMethod yX1_met, Cond.selects RX1 yX1_met yX1_met, Cond.code yX1_met cX1_met 5 (some .int), Cond.methodLink RX1 69 yX1_isCleaned, Cond.instanceMethod yX1_isCleaned, Cond.selects RX1 yX1_isCleaned yX1_isCleaned, Cond.code yX1_isCleaned cX1_isCleaned 3 (some .boolean), Cond.methodLink RX0 64 yX1_answer, Cond.instanceMethod yX1_answer, Cond.selects RX1 yX1_answer yX1_answer, Cond.code yX1_answer cX1_answer 4 (some .int), Cond.methodLink RX0 67 yX0_write, Cond.instanceMethod yX0_write, Cond.selects RX0 yX0_write yX0_write, Cond.code yX0_write cX0_write 7 none, Cond.fieldLink RX0 11 "WhisperJudge$Pair" "rows" "[I"]
def wsX4_show_r6 : List Cond := [Cond.methodLink RX0 77 yX0_number, Cond.static yX0_number, Cond.code yX0_number cX0_number 2 (some .int), Cond.methodLink RX0 70 yX1_left, Cond.instanceMethod yX1_left, Cond.selects RX1 yX1_left yX1_left, Cond.code yX1_left cX1_left 4 (some .int), Cond.methodLink RX0 73 yX1_period, Cond.instanceMethod yX1_period, Cond.selects RX1 yX1_period yX1_period, Cond.code yX1_period cX1_period 2 (some .int)]
def wsX4_show : List Cond := .code yX4_show cX4_show 4 (some .int) :: ((wsX4_show_r1 ++ (wsX4_show_r2 ++ (wsX4_show_r3 ++ (wsX4_show_r4 ++ (wsX4_show_r5 ++ wsX4_show_r6))))) ++ wsX00 ++ wsX40 ++ wsX20 ++ wsX10)
def wsX4_whisperOf_r1 : List Cond := [Cond.fieldLink RX4 23 "WhisperJudge" "whispers" "[LWhisperJudge$Whisper;", Cond.fieldLink RX4 161 "WhisperJudge$Whisper" "asOf" "I", Cond.fieldLink RX4 43 "WhisperJudge" "changes" "I", Cond.fieldLink RX4 30 "WhisperJudge" "room" "LWhisperJudge$Room;", Cond.fieldLink RX4 11 "WhisperJudge" "things" "[LWhisperJudge$Thing;", Cond.fieldLink RX4 39 "WhisperJudge" "count" "I", Cond.fieldLink RX4 116 "WhisperJudge$Whisper" "many" "I", Cond.fieldLink RX4 162 "WhisperJudge$Room" "start" "J", Cond.methodLink RX4 73 yX4_wallsNow, Cond.instanceMethod yX4_wallsNow, Cond.selects RX4 yX4_wallsNow yX4_wallsNow, Cond.initialized RX4, Cond.code yX4_wallsNow cX4_wallsNow 3 (some .int), Cond.fieldLink RX4 58 "WhisperJudge$Thing" "wall" "I", Cond.methodLink RX4 133 yX1_build, Cond.instanceMethod yX1_build, Cond.selects RX1 yX1_build yX1_build, Cond.initialized RX1, Cond.code yX1_build cX1_build 6 none, Cond.fieldLink RX1 27 "WhisperJudge$Room" "acts" "I", Cond.fieldLink RX1 31 "WhisperJudge$Room" "start" "J", Cond.fieldLink RX1 35 "WhisperJudge$Thing" "first" "I", Cond.fieldLink RX1 24 "WhisperJudge$Room" "firsts" "[I", Cond.fieldLink RX1 21 "WhisperJudge$Room" "cleanEach" "[I"]
def wsX4_whisperOf_r2 : List Cond := [Cond.fieldLink RX1 44 "WhisperJudge$Thing" "cleaned" "I", Cond.static yX4_wallIn, Cond.code yX4_wallIn cX4_wallIn 2 (some .int), Cond.methodLink RX1 47 yX1_buildAct, Cond.instanceMethod yX1_buildAct, Cond.selects RX1 yX1_buildAct yX1_buildAct, Cond.code yX1_buildAct cX1_buildAct 7 none, Cond.fieldLink RX1 9 "WhisperJudge$Room" "sentTo" "[I", Cond.fieldLink RX1 15 "WhisperJudge$Room" "heardTo" "[I", Cond.fieldLink RX1 18 "WhisperJudge$Room" "heardAs" "[I", Cond.fieldLink RX1 61 "WhisperJudge$Thing" "padded" "I", Cond.methodLink RX1 64 Lib.Math.min.name, Cond.static Lib.Math.min.name, Cond.initialized "java/lang/Math", Cond.code Lib.Math.min.name Lib.Math.min.code 2 (some .int), Cond.methodLink RX1 51 yX2_answer, Cond.instanceMethod yX2_answer, Cond.selects RX2 yX2_answer yX2_answer, Cond.initialized RX2, Cond.code yX2_answer cX2_answer 4 (some .int), Cond.fieldLink RX2 15 "WhisperJudge$Thing" "kind" "I", Cond.fieldLink RX2 29 "WhisperJudge$Thing" "answers" "J", Cond.methodLink RX2 47 yX2_told, Cond.static yX2_told]
def wsX4_whisperOf_r3 : List Cond := [Cond.code yX2_told cX2_told 5 (some .int), Cond.methodLink RX2 55 yX2_answerByKind, Cond.instanceMethod yX2_answerByKind, Cond.selects RX2 yX2_answerByKind yX2_answerByKind, Cond.code yX2_answerByKind cX2_answerByKind 4 (some .int), Cond.methodLink RX1 55 yX1_place, Cond.static yX1_place, Cond.code yX1_place cX1_place 2 (some .int), Cond.methodLink RX1 58 yX2_next, Cond.instanceMethod yX2_next, Cond.selects RX2 yX2_next yX2_next, Cond.code yX2_next cX2_next 4 (some .int), Cond.fieldLink RX2 25 "WhisperJudge$Thing" "nexts" "J", Cond.methodLink RX2 51 yX2_nextByKind, Cond.instanceMethod yX2_nextByKind, Cond.selects RX2 yX2_nextByKind yX2_nextByKind, Cond.code yX2_nextByKind cX2_nextByKind 4 (some .int), Cond.methodLink RX2 58 Lib.Math.min.name, Cond.methodLink RX2 64 Lib.Math.max.name, Cond.static Lib.Math.max.name, Cond.code Lib.Math.max.name Lib.Math.max.code 2 (some .int), Cond.static yX3_grow, Cond.initialized RX3, Cond.code yX3_grow cX3_grow 11 none]
def wsX4_whisperOf_r4 : List Cond := [Cond.fieldLink RX3 25 "WhisperJudge$Whisper" "n" "I", Cond.fieldLink RX3 31 "WhisperJudge$Room" "acts" "I", Cond.fieldLink RX3 15 "WhisperJudge$Whisper" "acts" "[I", Cond.fieldLink RX3 18 "WhisperJudge$Whisper" "answers" "[I", Cond.methodLink RX3 28 yX3_addLetter, Cond.instanceMethod yX3_addLetter, Cond.selects RX3 yX3_addLetter yX3_addLetter, Cond.code yX3_addLetter cX3_addLetter 2 none, Cond.fieldLink RX3 54 "WhisperJudge$Whisper" "many" "I", Cond.fieldLink RX3 11 "WhisperJudge$Whisper" "rows" "[I", Cond.methodLink RX3 57 yX3_place, Cond.static yX3_place, Cond.code yX3_place cX3_place 2 (some .int), Cond.methodLink RX3 35 yX1_sent, Cond.instanceMethod yX1_sent, Cond.selects RX1 yX1_sent yX1_sent, Cond.code yX1_sent cX1_sent 12 (some .long), Cond.methodLink RX1 73 yX1_moved, Cond.static yX1_moved, Cond.code yX1_moved cX1_moved 7 (some .long), Cond.constantLong RX1 77 (1229782938247303441), Cond.constantLong RX1 79 (4222189076152335), Cond.constantLong RX1 81 (65535), Cond.methodLink RX1 69 yX1_isCleaned]
def wsX4_whisperOf_r5 : List Cond := [Cond.instanceMethod yX1_isCleaned, Cond.selects RX1 yX1_isCleaned yX1_isCleaned, Cond.code yX1_isCleaned cX1_isCleaned 3 (some .boolean), Cond.static yX4_mostBy, Cond.code yX4_mostBy cX4_mostBy 9 (some .int), Cond.methodLink RX4 194 yX1_answers, Cond.instanceMethod yX1_answers, Cond.selects RX1 yX1_answers yX1_answers, Cond.code yX1_answers cX1_answers 6 (some .int), Cond.methodLink RX4 198 yJ6_bitCount_0f7a4, Cond.static yJ6_bitCount_0f7a4, Cond.initialized RJ6, Cond.code yJ6_bitCount_0f7a4 cJ6_bitCount_0f7a4 1 (some .int), Cond.constant RJ6 265 (1431655765), Cond.constant RJ6 266 (858993459), Cond.constant RJ6 267 (252645135), Cond.methodLink RX4 203 yX1_heard, Cond.instanceMethod yX1_heard, Cond.selects RX1 yX1_heard yX1_heard, Cond.code yX1_heard cX1_heard 8 (some .long), Cond.methodLink RX4 174 yX4_most, Cond.static yX4_most, Cond.code yX4_most cX4_most 9 (some .int), Cond.fieldLink RX4 178 "WhisperJudge$Room" "acts" "I"]
def wsX4_whisperOf_r6 : List Cond := [Cond.methodLink RX4 189 Lib.Math.max.name, Cond.methodLink RX4 181 yX1_sent, Cond.methodLink RX4 185 yX4_mostBy, Cond.methodLink RX3 43 yX1_answers, Cond.methodLink RX3 46 yX1_heard, Cond.methodLink RX3 50 yX3_grow, Cond.methodLink RX4 170 yX3_addSenders, Cond.instanceMethod yX3_addSenders, Cond.selects RX3 yX3_addSenders yX3_addSenders, Cond.code yX3_addSenders cX3_addSenders 7 none, Cond.fieldLink RX3 61 "WhisperJudge$Room" "start" "J", Cond.methodLink RX3 65 yX3_step, Cond.instanceMethod yX3_step, Cond.selects RX3 yX3_step yX3_step, Cond.code yX3_step cX3_step 7 (some .long), Cond.methodLink RX3 69 yX3_leads, Cond.instanceMethod yX3_leads, Cond.selects RX3 yX3_leads yX3_leads, Cond.code yX3_leads cX3_leads 9 (some .boolean)]
def wsX4_whisperOf : List Cond := .code yX4_whisperOf cX4_whisperOf 3 (some (.object "WhisperJudge$Whisper")) :: ((wsX4_whisperOf_r1 ++ (wsX4_whisperOf_r2 ++ (wsX4_whisperOf_r3 ++ (wsX4_whisperOf_r4 ++ (wsX4_whisperOf_r5 ++ wsX4_whisperOf_r6))))) ++ wsX40 ++ wsX30 ++ wsX10 ++ wsX20)
def wsX4_letters_r1 : List Cond := [Cond.fieldLink RX4 116 "WhisperJudge$Whisper" "many" "I", Cond.methodLink RX4 112 yX4_whisperOf, Cond.instanceMethod yX4_whisperOf, Cond.selects RX4 yX4_whisperOf yX4_whisperOf, Cond.initialized RX4, Cond.code yX4_whisperOf cX4_whisperOf 3 (some (.object "WhisperJudge$Whisper")), Cond.fieldLink RX4 23 "WhisperJudge" "whispers" "[LWhisperJudge$Whisper;", Cond.fieldLink RX4 161 "WhisperJudge$Whisper" "asOf" "I", Cond.fieldLink RX4 43 "WhisperJudge" "changes" "I", Cond.fieldLink RX4 30 "WhisperJudge" "room" "LWhisperJudge$Room;", Cond.fieldLink RX4 11 "WhisperJudge" "things" "[LWhisperJudge$Thing;", Cond.fieldLink RX4 39 "WhisperJudge" "count" "I", Cond.fieldLink RX4 162 "WhisperJudge$Room" "start" "J", Cond.methodLink RX4 73 yX4_wallsNow, Cond.instanceMethod yX4_wallsNow, Cond.selects RX4 yX4_wallsNow yX4_wallsNow, Cond.code yX4_wallsNow cX4_wallsNow 3 (some .int), Cond.fieldLink RX4 58 "WhisperJudge$Thing" "wall" "I", Cond.methodLink RX4 133 yX1_build, Cond.instanceMethod yX1_build, Cond.selects RX1 yX1_build yX1_build, Cond.initialized RX1, Cond.code yX1_build cX1_build 6 none, Cond.fieldLink RX1 27 "WhisperJudge$Room" "acts" "I"]
def wsX4_letters_r2 : List Cond := [Cond.fieldLink RX1 31 "WhisperJudge$Room" "start" "J", Cond.fieldLink RX1 35 "WhisperJudge$Thing" "first" "I", Cond.fieldLink RX1 24 "WhisperJudge$Room" "firsts" "[I", Cond.fieldLink RX1 21 "WhisperJudge$Room" "cleanEach" "[I", Cond.fieldLink RX1 44 "WhisperJudge$Thing" "cleaned" "I", Cond.static yX4_wallIn, Cond.code yX4_wallIn cX4_wallIn 2 (some .int), Cond.methodLink RX1 47 yX1_buildAct, Cond.instanceMethod yX1_buildAct, Cond.selects RX1 yX1_buildAct yX1_buildAct, Cond.code yX1_buildAct cX1_buildAct 7 none, Cond.fieldLink RX1 9 "WhisperJudge$Room" "sentTo" "[I", Cond.fieldLink RX1 15 "WhisperJudge$Room" "heardTo" "[I", Cond.fieldLink RX1 18 "WhisperJudge$Room" "heardAs" "[I", Cond.fieldLink RX1 61 "WhisperJudge$Thing" "padded" "I", Cond.methodLink RX1 64 Lib.Math.min.name, Cond.static Lib.Math.min.name, Cond.initialized "java/lang/Math", Cond.code Lib.Math.min.name Lib.Math.min.code 2 (some .int), Cond.methodLink RX1 51 yX2_answer, Cond.instanceMethod yX2_answer, Cond.selects RX2 yX2_answer yX2_answer, Cond.initialized RX2, Cond.code yX2_answer cX2_answer 4 (some .int)]
def wsX4_letters_r3 : List Cond := [Cond.fieldLink RX2 15 "WhisperJudge$Thing" "kind" "I", Cond.fieldLink RX2 29 "WhisperJudge$Thing" "answers" "J", Cond.methodLink RX2 47 yX2_told, Cond.static yX2_told, Cond.code yX2_told cX2_told 5 (some .int), Cond.methodLink RX2 55 yX2_answerByKind, Cond.instanceMethod yX2_answerByKind, Cond.selects RX2 yX2_answerByKind yX2_answerByKind, Cond.code yX2_answerByKind cX2_answerByKind 4 (some .int), Cond.methodLink RX1 55 yX1_place, Cond.static yX1_place, Cond.code yX1_place cX1_place 2 (some .int), Cond.methodLink RX1 58 yX2_next, Cond.instanceMethod yX2_next, Cond.selects RX2 yX2_next yX2_next, Cond.code yX2_next cX2_next 4 (some .int), Cond.fieldLink RX2 25 "WhisperJudge$Thing" "nexts" "J", Cond.methodLink RX2 51 yX2_nextByKind, Cond.instanceMethod yX2_nextByKind, Cond.selects RX2 yX2_nextByKind yX2_nextByKind, Cond.code yX2_nextByKind cX2_nextByKind 4 (some .int), Cond.methodLink RX2 58 Lib.Math.min.name, Cond.methodLink RX2 64 Lib.Math.max.name, Cond.static Lib.Math.max.name]
def wsX4_letters_r4 : List Cond := [Cond.code Lib.Math.max.name Lib.Math.max.code 2 (some .int), Cond.static yX3_grow, Cond.initialized RX3, Cond.code yX3_grow cX3_grow 11 none, Cond.fieldLink RX3 25 "WhisperJudge$Whisper" "n" "I", Cond.fieldLink RX3 31 "WhisperJudge$Room" "acts" "I", Cond.fieldLink RX3 15 "WhisperJudge$Whisper" "acts" "[I", Cond.fieldLink RX3 18 "WhisperJudge$Whisper" "answers" "[I", Cond.methodLink RX3 28 yX3_addLetter, Cond.instanceMethod yX3_addLetter, Cond.selects RX3 yX3_addLetter yX3_addLetter, Cond.code yX3_addLetter cX3_addLetter 2 none, Cond.fieldLink RX3 54 "WhisperJudge$Whisper" "many" "I", Cond.fieldLink RX3 11 "WhisperJudge$Whisper" "rows" "[I", Cond.methodLink RX3 57 yX3_place, Cond.static yX3_place, Cond.code yX3_place cX3_place 2 (some .int), Cond.methodLink RX3 35 yX1_sent, Cond.instanceMethod yX1_sent, Cond.selects RX1 yX1_sent yX1_sent, Cond.code yX1_sent cX1_sent 12 (some .long), Cond.methodLink RX1 73 yX1_moved, Cond.static yX1_moved, Cond.code yX1_moved cX1_moved 7 (some .long)]
def wsX4_letters_r5 : List Cond := [Cond.constantLong RX1 77 (1229782938247303441), Cond.constantLong RX1 79 (4222189076152335), Cond.constantLong RX1 81 (65535), Cond.methodLink RX1 69 yX1_isCleaned, Cond.instanceMethod yX1_isCleaned, Cond.selects RX1 yX1_isCleaned yX1_isCleaned, Cond.code yX1_isCleaned cX1_isCleaned 3 (some .boolean), Cond.static yX4_mostBy, Cond.code yX4_mostBy cX4_mostBy 9 (some .int), Cond.methodLink RX4 194 yX1_answers, Cond.instanceMethod yX1_answers, Cond.selects RX1 yX1_answers yX1_answers, Cond.code yX1_answers cX1_answers 6 (some .int), Cond.methodLink RX4 198 yJ6_bitCount_0f7a4, Cond.static yJ6_bitCount_0f7a4, Cond.initialized RJ6, Cond.code yJ6_bitCount_0f7a4 cJ6_bitCount_0f7a4 1 (some .int), Cond.constant RJ6 265 (1431655765), Cond.constant RJ6 266 (858993459), Cond.constant RJ6 267 (252645135), Cond.methodLink RX4 203 yX1_heard, Cond.instanceMethod yX1_heard, Cond.selects RX1 yX1_heard yX1_heard, Cond.code yX1_heard cX1_heard 8 (some .long)]
def wsX4_letters_r6 : List Cond := [Cond.methodLink RX4 174 yX4_most, Cond.static yX4_most, Cond.code yX4_most cX4_most 9 (some .int), Cond.fieldLink RX4 178 "WhisperJudge$Room" "acts" "I", Cond.methodLink RX4 189 Lib.Math.max.name, Cond.methodLink RX4 181 yX1_sent, Cond.methodLink RX4 185 yX4_mostBy, Cond.methodLink RX3 43 yX1_answers, Cond.methodLink RX3 46 yX1_heard, Cond.methodLink RX3 50 yX3_grow, Cond.methodLink RX4 170 yX3_addSenders, Cond.instanceMethod yX3_addSenders, Cond.selects RX3 yX3_addSenders yX3_addSenders, Cond.code yX3_addSenders cX3_addSenders 7 none, Cond.fieldLink RX3 61 "WhisperJudge$Room" "start" "J", Cond.methodLink RX3 65 yX3_step, Cond.instanceMethod yX3_step, Cond.selects RX3 yX3_step yX3_step, Cond.code yX3_step cX3_step 7 (some .long), Cond.methodLink RX3 69 yX3_leads, Cond.instanceMethod yX3_leads, Cond.selects RX3 yX3_leads yX3_leads, Cond.code yX3_leads cX3_leads 9 (some .boolean)]
def wsX4_letters : List Cond := .code yX4_letters cX4_letters 2 (some .int) :: ((wsX4_letters_r1 ++ (wsX4_letters_r2 ++ (wsX4_letters_r3 ++ (wsX4_letters_r4 ++ (wsX4_letters_r5 ++ wsX4_letters_r6))))) ++ wsX30 ++ wsX40 ++ wsX10 ++ wsX20)
def wsX4_letter_r1 : List Cond := [Cond.fieldLink RX4 116 "WhisperJudge$Whisper" "many" "I", Cond.fieldLink RX4 119 "WhisperJudge$Whisper" "rows" "[I", Cond.methodLink RX4 112 yX4_whisperOf, Cond.instanceMethod yX4_whisperOf, Cond.selects RX4 yX4_whisperOf yX4_whisperOf, Cond.initialized RX4, Cond.code yX4_whisperOf cX4_whisperOf 3 (some (.object "WhisperJudge$Whisper")), Cond.fieldLink RX4 23 "WhisperJudge" "whispers" "[LWhisperJudge$Whisper;", Cond.fieldLink RX4 161 "WhisperJudge$Whisper" "asOf" "I", Cond.fieldLink RX4 43 "WhisperJudge" "changes" "I", Cond.fieldLink RX4 30 "WhisperJudge" "room" "LWhisperJudge$Room;", Cond.fieldLink RX4 11 "WhisperJudge" "things" "[LWhisperJudge$Thing;", Cond.fieldLink RX4 39 "WhisperJudge" "count" "I", Cond.fieldLink RX4 162 "WhisperJudge$Room" "start" "J", Cond.methodLink RX4 73 yX4_wallsNow, Cond.instanceMethod yX4_wallsNow, Cond.selects RX4 yX4_wallsNow yX4_wallsNow, Cond.code yX4_wallsNow cX4_wallsNow 3 (some .int), Cond.fieldLink RX4 58 "WhisperJudge$Thing" "wall" "I", Cond.methodLink RX4 133 yX1_build, Cond.instanceMethod yX1_build, Cond.selects RX1 yX1_build yX1_build, Cond.initialized RX1, Cond.code yX1_build cX1_build 6 none]
def wsX4_letter_r2 : List Cond := [Cond.fieldLink RX1 27 "WhisperJudge$Room" "acts" "I", Cond.fieldLink RX1 31 "WhisperJudge$Room" "start" "J", Cond.fieldLink RX1 35 "WhisperJudge$Thing" "first" "I", Cond.fieldLink RX1 24 "WhisperJudge$Room" "firsts" "[I", Cond.fieldLink RX1 21 "WhisperJudge$Room" "cleanEach" "[I", Cond.fieldLink RX1 44 "WhisperJudge$Thing" "cleaned" "I", Cond.static yX4_wallIn, Cond.code yX4_wallIn cX4_wallIn 2 (some .int), Cond.methodLink RX1 47 yX1_buildAct, Cond.instanceMethod yX1_buildAct, Cond.selects RX1 yX1_buildAct yX1_buildAct, Cond.code yX1_buildAct cX1_buildAct 7 none, Cond.fieldLink RX1 9 "WhisperJudge$Room" "sentTo" "[I", Cond.fieldLink RX1 15 "WhisperJudge$Room" "heardTo" "[I", Cond.fieldLink RX1 18 "WhisperJudge$Room" "heardAs" "[I", Cond.fieldLink RX1 61 "WhisperJudge$Thing" "padded" "I", Cond.methodLink RX1 64 Lib.Math.min.name, Cond.static Lib.Math.min.name, Cond.initialized "java/lang/Math", Cond.code Lib.Math.min.name Lib.Math.min.code 2 (some .int), Cond.methodLink RX1 51 yX2_answer, Cond.instanceMethod yX2_answer, Cond.selects RX2 yX2_answer yX2_answer, Cond.initialized RX2]
def wsX4_letter_r3 : List Cond := [Cond.code yX2_answer cX2_answer 4 (some .int), Cond.fieldLink RX2 15 "WhisperJudge$Thing" "kind" "I", Cond.fieldLink RX2 29 "WhisperJudge$Thing" "answers" "J", Cond.methodLink RX2 47 yX2_told, Cond.static yX2_told, Cond.code yX2_told cX2_told 5 (some .int), Cond.methodLink RX2 55 yX2_answerByKind, Cond.instanceMethod yX2_answerByKind, Cond.selects RX2 yX2_answerByKind yX2_answerByKind, Cond.code yX2_answerByKind cX2_answerByKind 4 (some .int), Cond.methodLink RX1 55 yX1_place, Cond.static yX1_place, Cond.code yX1_place cX1_place 2 (some .int), Cond.methodLink RX1 58 yX2_next, Cond.instanceMethod yX2_next, Cond.selects RX2 yX2_next yX2_next, Cond.code yX2_next cX2_next 4 (some .int), Cond.fieldLink RX2 25 "WhisperJudge$Thing" "nexts" "J", Cond.methodLink RX2 51 yX2_nextByKind, Cond.instanceMethod yX2_nextByKind, Cond.selects RX2 yX2_nextByKind yX2_nextByKind, Cond.code yX2_nextByKind cX2_nextByKind 4 (some .int), Cond.methodLink RX2 58 Lib.Math.min.name, Cond.methodLink RX2 64 Lib.Math.max.name]
def wsX4_letter_r4 : List Cond := [Cond.static Lib.Math.max.name, Cond.code Lib.Math.max.name Lib.Math.max.code 2 (some .int), Cond.static yX3_grow, Cond.initialized RX3, Cond.code yX3_grow cX3_grow 11 none, Cond.fieldLink RX3 25 "WhisperJudge$Whisper" "n" "I", Cond.fieldLink RX3 31 "WhisperJudge$Room" "acts" "I", Cond.fieldLink RX3 15 "WhisperJudge$Whisper" "acts" "[I", Cond.fieldLink RX3 18 "WhisperJudge$Whisper" "answers" "[I", Cond.methodLink RX3 28 yX3_addLetter, Cond.instanceMethod yX3_addLetter, Cond.selects RX3 yX3_addLetter yX3_addLetter, Cond.code yX3_addLetter cX3_addLetter 2 none, Cond.fieldLink RX3 54 "WhisperJudge$Whisper" "many" "I", Cond.fieldLink RX3 11 "WhisperJudge$Whisper" "rows" "[I", Cond.methodLink RX3 57 yX3_place, Cond.static yX3_place, Cond.code yX3_place cX3_place 2 (some .int), Cond.methodLink RX3 35 yX1_sent, Cond.instanceMethod yX1_sent, Cond.selects RX1 yX1_sent yX1_sent, Cond.code yX1_sent cX1_sent 12 (some .long), Cond.methodLink RX1 73 yX1_moved, Cond.static yX1_moved]
def wsX4_letter_r5 : List Cond := [Cond.code yX1_moved cX1_moved 7 (some .long), Cond.constantLong RX1 77 (1229782938247303441), Cond.constantLong RX1 79 (4222189076152335), Cond.constantLong RX1 81 (65535), Cond.methodLink RX1 69 yX1_isCleaned, Cond.instanceMethod yX1_isCleaned, Cond.selects RX1 yX1_isCleaned yX1_isCleaned, Cond.code yX1_isCleaned cX1_isCleaned 3 (some .boolean), Cond.static yX4_mostBy, Cond.code yX4_mostBy cX4_mostBy 9 (some .int), Cond.methodLink RX4 194 yX1_answers, Cond.instanceMethod yX1_answers, Cond.selects RX1 yX1_answers yX1_answers, Cond.code yX1_answers cX1_answers 6 (some .int), Cond.methodLink RX4 198 yJ6_bitCount_0f7a4, Cond.static yJ6_bitCount_0f7a4, Cond.initialized RJ6, Cond.code yJ6_bitCount_0f7a4 cJ6_bitCount_0f7a4 1 (some .int), Cond.constant RJ6 265 (1431655765), Cond.constant RJ6 266 (858993459), Cond.constant RJ6 267 (252645135), Cond.methodLink RX4 203 yX1_heard, Cond.instanceMethod yX1_heard, Cond.selects RX1 yX1_heard yX1_heard]
def wsX4_letter_r6 : List Cond := [Cond.code yX1_heard cX1_heard 8 (some .long), Cond.methodLink RX4 174 yX4_most, Cond.static yX4_most, Cond.code yX4_most cX4_most 9 (some .int), Cond.fieldLink RX4 178 "WhisperJudge$Room" "acts" "I", Cond.methodLink RX4 189 Lib.Math.max.name, Cond.methodLink RX4 181 yX1_sent, Cond.methodLink RX4 185 yX4_mostBy, Cond.methodLink RX3 43 yX1_answers, Cond.methodLink RX3 46 yX1_heard, Cond.methodLink RX3 50 yX3_grow, Cond.methodLink RX4 170 yX3_addSenders, Cond.instanceMethod yX3_addSenders, Cond.selects RX3 yX3_addSenders yX3_addSenders, Cond.code yX3_addSenders cX3_addSenders 7 none, Cond.fieldLink RX3 61 "WhisperJudge$Room" "start" "J", Cond.methodLink RX3 65 yX3_step, Cond.instanceMethod yX3_step, Cond.selects RX3 yX3_step yX3_step, Cond.code yX3_step cX3_step 7 (some .long), Cond.methodLink RX3 69 yX3_leads, Cond.instanceMethod yX3_leads, Cond.selects RX3 yX3_leads yX3_leads, Cond.code yX3_leads cX3_leads 9 (some .boolean)]
def wsX4_letter_r7 : List Cond := [Cond.methodLink RX4 120 yX3_place]
def wsX4_letter : List Cond := .code yX4_letter cX4_letter 5 (some .int) :: ((wsX4_letter_r1 ++ (wsX4_letter_r2 ++ (wsX4_letter_r3 ++ (wsX4_letter_r4 ++ (wsX4_letter_r5 ++ (wsX4_letter_r6 ++ wsX4_letter_r7)))))) ++ wsX30 ++ wsX40 ++ wsX10 ++ wsX20)
def wsX4_begin : List Cond := .code yX4_begin cX4_begin 2 none :: ([.fieldLink RX4 39 "WhisperJudge" "count" "I", .fieldLink RX4 11 "WhisperJudge" "things" "[LWhisperJudge$Thing;", .fieldLink RX4 83 "WhisperJudge$Thing" "first" "I", .fieldLink RX4 124 "WhisperJudge$Thing" "now" "I", .fieldLink RX4 127 "WhisperJudge" "ticks" "I"] ++ wsX40 ++ wsX20)
def wsX4_isAct : List Cond := .code yX4_isAct cX4_isAct 2 (some .boolean) :: ([.fieldLink RX4 39 "WhisperJudge" "count" "I"] ++ wsX40)
def wsX4_run_r1 : List Cond := [Cond.fieldLink RX4 30 "WhisperJudge" "room" "LWhisperJudge$Room;", Cond.fieldLink RX4 11 "WhisperJudge" "things" "[LWhisperJudge$Thing;", Cond.fieldLink RX4 39 "WhisperJudge" "count" "I", Cond.fieldLink RX4 124 "WhisperJudge$Thing" "now" "I", Cond.fieldLink RX4 127 "WhisperJudge" "ticks" "I", Cond.methodLink RX4 130 yX4_isAct, Cond.instanceMethod yX4_isAct, Cond.selects RX4 yX4_isAct yX4_isAct, Cond.initialized RX4, Cond.code yX4_isAct cX4_isAct 2 (some .boolean), Cond.methodLink RX4 73 yX4_wallsNow, Cond.instanceMethod yX4_wallsNow, Cond.selects RX4 yX4_wallsNow yX4_wallsNow, Cond.code yX4_wallsNow cX4_wallsNow 3 (some .int), Cond.fieldLink RX4 58 "WhisperJudge$Thing" "wall" "I", Cond.methodLink RX4 133 yX1_build, Cond.instanceMethod yX1_build, Cond.selects RX1 yX1_build yX1_build, Cond.initialized RX1, Cond.code yX1_build cX1_build 6 none, Cond.fieldLink RX1 27 "WhisperJudge$Room" "acts" "I", Cond.fieldLink RX1 31 "WhisperJudge$Room" "start" "J", Cond.fieldLink RX1 35 "WhisperJudge$Thing" "first" "I", Cond.fieldLink RX1 24 "WhisperJudge$Room" "firsts" "[I"]
def wsX4_run_r2 : List Cond := [Cond.fieldLink RX1 21 "WhisperJudge$Room" "cleanEach" "[I", Cond.fieldLink RX1 44 "WhisperJudge$Thing" "cleaned" "I", Cond.static yX4_wallIn, Cond.code yX4_wallIn cX4_wallIn 2 (some .int), Cond.methodLink RX1 47 yX1_buildAct, Cond.instanceMethod yX1_buildAct, Cond.selects RX1 yX1_buildAct yX1_buildAct, Cond.code yX1_buildAct cX1_buildAct 7 none, Cond.fieldLink RX1 9 "WhisperJudge$Room" "sentTo" "[I", Cond.fieldLink RX1 15 "WhisperJudge$Room" "heardTo" "[I", Cond.fieldLink RX1 18 "WhisperJudge$Room" "heardAs" "[I", Cond.fieldLink RX1 61 "WhisperJudge$Thing" "padded" "I", Cond.methodLink RX1 64 Lib.Math.min.name, Cond.static Lib.Math.min.name, Cond.initialized "java/lang/Math", Cond.code Lib.Math.min.name Lib.Math.min.code 2 (some .int), Cond.methodLink RX1 51 yX2_answer, Cond.instanceMethod yX2_answer, Cond.selects RX2 yX2_answer yX2_answer, Cond.initialized RX2, Cond.code yX2_answer cX2_answer 4 (some .int), Cond.fieldLink RX2 15 "WhisperJudge$Thing" "kind" "I", Cond.fieldLink RX2 29 "WhisperJudge$Thing" "answers" "J", Cond.methodLink RX2 47 yX2_told]
def wsX4_run_r3 : List Cond := [Cond.static yX2_told, Cond.code yX2_told cX2_told 5 (some .int), Cond.methodLink RX2 55 yX2_answerByKind, Cond.instanceMethod yX2_answerByKind, Cond.selects RX2 yX2_answerByKind yX2_answerByKind, Cond.code yX2_answerByKind cX2_answerByKind 4 (some .int), Cond.methodLink RX1 55 yX1_place, Cond.static yX1_place, Cond.code yX1_place cX1_place 2 (some .int), Cond.methodLink RX1 58 yX2_next, Cond.instanceMethod yX2_next, Cond.selects RX2 yX2_next yX2_next, Cond.code yX2_next cX2_next 4 (some .int), Cond.fieldLink RX2 25 "WhisperJudge$Thing" "nexts" "J", Cond.methodLink RX2 51 yX2_nextByKind, Cond.instanceMethod yX2_nextByKind, Cond.selects RX2 yX2_nextByKind yX2_nextByKind, Cond.code yX2_nextByKind cX2_nextByKind 4 (some .int), Cond.methodLink RX2 58 Lib.Math.min.name, Cond.methodLink RX2 64 Lib.Math.max.name, Cond.static Lib.Math.max.name, Cond.code Lib.Math.max.name Lib.Math.max.code 2 (some .int), Cond.methodLink RX4 137 yX1_met, Cond.instanceMethod yX1_met]
def wsX4_run_r4 : List Cond := [Cond.selects RX1 yX1_met yX1_met, Cond.code yX1_met cX1_met 5 (some .int), Cond.methodLink RX1 69 yX1_isCleaned, Cond.instanceMethod yX1_isCleaned, Cond.selects RX1 yX1_isCleaned yX1_isCleaned, Cond.code yX1_isCleaned cX1_isCleaned 3 (some .boolean), Cond.methodLink RX4 141 yX1_answer, Cond.instanceMethod yX1_answer, Cond.selects RX1 yX1_answer yX1_answer, Cond.code yX1_answer cX1_answer 4 (some .int), Cond.methodLink RX4 142 yX1_left, Cond.instanceMethod yX1_left, Cond.selects RX1 yX1_left yX1_left, Cond.code yX1_left cX1_left 4 (some .int)]
def wsX4_run : List Cond := .code yX4_run cX4_run 5 (some .int) :: ((wsX4_run_r1 ++ (wsX4_run_r2 ++ (wsX4_run_r3 ++ wsX4_run_r4))) ++ wsX40 ++ wsX20 ++ wsX10)
def wsX4_state : List Cond := .code yX4_state cX4_state 2 (some .int) :: ([.fieldLink RX4 11 "WhisperJudge" "things" "[LWhisperJudge$Thing;", .fieldLink RX4 124 "WhisperJudge$Thing" "now" "I", .methodLink RX4 50 yX4_isThing, .instanceMethod yX4_isThing, .selects RX4 yX4_isThing yX4_isThing, .initialized RX4, .code yX4_isThing cX4_isThing 2 (some .boolean), .fieldLink RX4 39 "WhisperJudge" "count" "I"] ++ wsX40 ++ wsX20)
def wsX4_ticks : List Cond := .code yX4_ticks cX4_ticks 1 (some .int) :: ([.fieldLink RX4 127 "WhisperJudge" "ticks" "I"] ++ wsX40)
def wsX4_lettersBehind_r1 : List Cond := [Cond.fieldLink RX4 30 "WhisperJudge" "room" "LWhisperJudge$Room;", Cond.fieldLink RX4 11 "WhisperJudge" "things" "[LWhisperJudge$Thing;", Cond.fieldLink RX4 39 "WhisperJudge" "count" "I", Cond.fieldLink RX4 162 "WhisperJudge$Room" "start" "J", Cond.methodLink RX4 133 yX1_build, Cond.instanceMethod yX1_build, Cond.selects RX1 yX1_build yX1_build, Cond.initialized RX1, Cond.code yX1_build cX1_build 6 none, Cond.fieldLink RX1 27 "WhisperJudge$Room" "acts" "I", Cond.fieldLink RX1 31 "WhisperJudge$Room" "start" "J", Cond.fieldLink RX1 35 "WhisperJudge$Thing" "first" "I", Cond.fieldLink RX1 24 "WhisperJudge$Room" "firsts" "[I", Cond.fieldLink RX1 21 "WhisperJudge$Room" "cleanEach" "[I", Cond.fieldLink RX1 44 "WhisperJudge$Thing" "cleaned" "I", Cond.static yX4_wallIn, Cond.initialized RX4, Cond.code yX4_wallIn cX4_wallIn 2 (some .int), Cond.methodLink RX1 47 yX1_buildAct, Cond.instanceMethod yX1_buildAct, Cond.selects RX1 yX1_buildAct yX1_buildAct, Cond.code yX1_buildAct cX1_buildAct 7 none, Cond.fieldLink RX1 9 "WhisperJudge$Room" "sentTo" "[I", Cond.fieldLink RX1 15 "WhisperJudge$Room" "heardTo" "[I"]
def wsX4_lettersBehind_r2 : List Cond := [Cond.fieldLink RX1 18 "WhisperJudge$Room" "heardAs" "[I", Cond.fieldLink RX1 61 "WhisperJudge$Thing" "padded" "I", Cond.methodLink RX1 64 Lib.Math.min.name, Cond.static Lib.Math.min.name, Cond.initialized "java/lang/Math", Cond.code Lib.Math.min.name Lib.Math.min.code 2 (some .int), Cond.methodLink RX1 51 yX2_answer, Cond.instanceMethod yX2_answer, Cond.selects RX2 yX2_answer yX2_answer, Cond.initialized RX2, Cond.code yX2_answer cX2_answer 4 (some .int), Cond.fieldLink RX2 15 "WhisperJudge$Thing" "kind" "I", Cond.fieldLink RX2 29 "WhisperJudge$Thing" "answers" "J", Cond.methodLink RX2 47 yX2_told, Cond.static yX2_told, Cond.code yX2_told cX2_told 5 (some .int), Cond.methodLink RX2 55 yX2_answerByKind, Cond.instanceMethod yX2_answerByKind, Cond.selects RX2 yX2_answerByKind yX2_answerByKind, Cond.code yX2_answerByKind cX2_answerByKind 4 (some .int), Cond.methodLink RX1 55 yX1_place, Cond.static yX1_place, Cond.code yX1_place cX1_place 2 (some .int), Cond.methodLink RX1 58 yX2_next]
def wsX4_lettersBehind_r3 : List Cond := [Cond.instanceMethod yX2_next, Cond.selects RX2 yX2_next yX2_next, Cond.code yX2_next cX2_next 4 (some .int), Cond.fieldLink RX2 25 "WhisperJudge$Thing" "nexts" "J", Cond.methodLink RX2 51 yX2_nextByKind, Cond.instanceMethod yX2_nextByKind, Cond.selects RX2 yX2_nextByKind yX2_nextByKind, Cond.code yX2_nextByKind cX2_nextByKind 4 (some .int), Cond.methodLink RX2 58 Lib.Math.min.name, Cond.methodLink RX2 64 Lib.Math.max.name, Cond.static Lib.Math.max.name, Cond.code Lib.Math.max.name Lib.Math.max.code 2 (some .int), Cond.methodLink RX4 174 yX4_most, Cond.static yX4_most, Cond.code yX4_most cX4_most 9 (some .int), Cond.fieldLink RX4 178 "WhisperJudge$Room" "acts" "I", Cond.methodLink RX4 189 Lib.Math.max.name, Cond.methodLink RX4 181 yX1_sent, Cond.instanceMethod yX1_sent, Cond.selects RX1 yX1_sent yX1_sent, Cond.code yX1_sent cX1_sent 12 (some .long), Cond.methodLink RX1 73 yX1_moved, Cond.static yX1_moved, Cond.code yX1_moved cX1_moved 7 (some .long)]
def wsX4_lettersBehind_r4 : List Cond := [Cond.constantLong RX1 77 (1229782938247303441), Cond.constantLong RX1 79 (4222189076152335), Cond.constantLong RX1 81 (65535), Cond.methodLink RX1 69 yX1_isCleaned, Cond.instanceMethod yX1_isCleaned, Cond.selects RX1 yX1_isCleaned yX1_isCleaned, Cond.code yX1_isCleaned cX1_isCleaned 3 (some .boolean), Cond.methodLink RX4 185 yX4_mostBy, Cond.static yX4_mostBy, Cond.code yX4_mostBy cX4_mostBy 9 (some .int), Cond.methodLink RX4 194 yX1_answers, Cond.instanceMethod yX1_answers, Cond.selects RX1 yX1_answers yX1_answers, Cond.code yX1_answers cX1_answers 6 (some .int), Cond.methodLink RX4 198 yJ6_bitCount_0f7a4, Cond.static yJ6_bitCount_0f7a4, Cond.initialized RJ6, Cond.code yJ6_bitCount_0f7a4 cJ6_bitCount_0f7a4 1 (some .int), Cond.constant RJ6 265 (1431655765), Cond.constant RJ6 266 (858993459), Cond.constant RJ6 267 (252645135), Cond.methodLink RX4 203 yX1_heard, Cond.instanceMethod yX1_heard, Cond.selects RX1 yX1_heard yX1_heard]
def wsX4_lettersBehind_r5 : List Cond := [Cond.code yX1_heard cX1_heard 8 (some .long)]
def wsX4_lettersBehind : List Cond := .code yX4_lettersBehind cX4_lettersBehind 3 (some .int) :: ((wsX4_lettersBehind_r1 ++ (wsX4_lettersBehind_r2 ++ (wsX4_lettersBehind_r3 ++ (wsX4_lettersBehind_r4 ++ wsX4_lettersBehind_r5)))) ++ wsX40 ++ wsX10 ++ wsX20)
def wsX4_walls_r1 : List Cond := [Cond.fieldLink RX4 39 "WhisperJudge" "count" "I", Cond.methodLink RX4 76 yX4_sumOf, Cond.instanceMethod yX4_sumOf, Cond.selects RX4 yX4_sumOf yX4_sumOf, Cond.initialized RX4, Cond.code yX4_sumOf cX4_sumOf 4 (some .int), Cond.fieldLink RX4 11 "WhisperJudge" "things" "[LWhisperJudge$Thing;", Cond.fieldLink RX4 65 "WhisperJudge$Thing" "prices" "[I", Cond.methodLink RX4 148 yX4_wallIn, Cond.static yX4_wallIn, Cond.code yX4_wallIn cX4_wallIn 2 (some .int), Cond.methodLink RX4 145 yX4_lettersBehind, Cond.instanceMethod yX4_lettersBehind, Cond.selects RX4 yX4_lettersBehind yX4_lettersBehind, Cond.code yX4_lettersBehind cX4_lettersBehind 3 (some .int), Cond.fieldLink RX4 30 "WhisperJudge" "room" "LWhisperJudge$Room;", Cond.fieldLink RX4 162 "WhisperJudge$Room" "start" "J", Cond.methodLink RX4 133 yX1_build, Cond.instanceMethod yX1_build, Cond.selects RX1 yX1_build yX1_build, Cond.initialized RX1, Cond.code yX1_build cX1_build 6 none, Cond.fieldLink RX1 27 "WhisperJudge$Room" "acts" "I", Cond.fieldLink RX1 31 "WhisperJudge$Room" "start" "J"]
def wsX4_walls_r2 : List Cond := [Cond.fieldLink RX1 35 "WhisperJudge$Thing" "first" "I", Cond.fieldLink RX1 24 "WhisperJudge$Room" "firsts" "[I", Cond.fieldLink RX1 21 "WhisperJudge$Room" "cleanEach" "[I", Cond.fieldLink RX1 44 "WhisperJudge$Thing" "cleaned" "I", Cond.methodLink RX1 47 yX1_buildAct, Cond.instanceMethod yX1_buildAct, Cond.selects RX1 yX1_buildAct yX1_buildAct, Cond.code yX1_buildAct cX1_buildAct 7 none, Cond.fieldLink RX1 9 "WhisperJudge$Room" "sentTo" "[I", Cond.fieldLink RX1 15 "WhisperJudge$Room" "heardTo" "[I", Cond.fieldLink RX1 18 "WhisperJudge$Room" "heardAs" "[I", Cond.fieldLink RX1 61 "WhisperJudge$Thing" "padded" "I", Cond.methodLink RX1 64 Lib.Math.min.name, Cond.static Lib.Math.min.name, Cond.initialized "java/lang/Math", Cond.code Lib.Math.min.name Lib.Math.min.code 2 (some .int), Cond.methodLink RX1 51 yX2_answer, Cond.instanceMethod yX2_answer, Cond.selects RX2 yX2_answer yX2_answer, Cond.initialized RX2, Cond.code yX2_answer cX2_answer 4 (some .int), Cond.fieldLink RX2 15 "WhisperJudge$Thing" "kind" "I", Cond.fieldLink RX2 29 "WhisperJudge$Thing" "answers" "J", Cond.methodLink RX2 47 yX2_told]
def wsX4_walls_r3 : List Cond := [Cond.static yX2_told, Cond.code yX2_told cX2_told 5 (some .int), Cond.methodLink RX2 55 yX2_answerByKind, Cond.instanceMethod yX2_answerByKind, Cond.selects RX2 yX2_answerByKind yX2_answerByKind, Cond.code yX2_answerByKind cX2_answerByKind 4 (some .int), Cond.methodLink RX1 55 yX1_place, Cond.static yX1_place, Cond.code yX1_place cX1_place 2 (some .int), Cond.methodLink RX1 58 yX2_next, Cond.instanceMethod yX2_next, Cond.selects RX2 yX2_next yX2_next, Cond.code yX2_next cX2_next 4 (some .int), Cond.fieldLink RX2 25 "WhisperJudge$Thing" "nexts" "J", Cond.methodLink RX2 51 yX2_nextByKind, Cond.instanceMethod yX2_nextByKind, Cond.selects RX2 yX2_nextByKind yX2_nextByKind, Cond.code yX2_nextByKind cX2_nextByKind 4 (some .int), Cond.methodLink RX2 58 Lib.Math.min.name, Cond.methodLink RX2 64 Lib.Math.max.name, Cond.static Lib.Math.max.name, Cond.code Lib.Math.max.name Lib.Math.max.code 2 (some .int), Cond.methodLink RX4 174 yX4_most, Cond.static yX4_most]
def wsX4_walls_r4 : List Cond := [Cond.code yX4_most cX4_most 9 (some .int), Cond.fieldLink RX4 178 "WhisperJudge$Room" "acts" "I", Cond.methodLink RX4 189 Lib.Math.max.name, Cond.methodLink RX4 181 yX1_sent, Cond.instanceMethod yX1_sent, Cond.selects RX1 yX1_sent yX1_sent, Cond.code yX1_sent cX1_sent 12 (some .long), Cond.methodLink RX1 73 yX1_moved, Cond.static yX1_moved, Cond.code yX1_moved cX1_moved 7 (some .long), Cond.constantLong RX1 77 (1229782938247303441), Cond.constantLong RX1 79 (4222189076152335), Cond.constantLong RX1 81 (65535), Cond.methodLink RX1 69 yX1_isCleaned, Cond.instanceMethod yX1_isCleaned, Cond.selects RX1 yX1_isCleaned yX1_isCleaned, Cond.code yX1_isCleaned cX1_isCleaned 3 (some .boolean), Cond.methodLink RX4 185 yX4_mostBy, Cond.static yX4_mostBy, Cond.code yX4_mostBy cX4_mostBy 9 (some .int), Cond.methodLink RX4 194 yX1_answers, Cond.instanceMethod yX1_answers, Cond.selects RX1 yX1_answers yX1_answers, Cond.code yX1_answers cX1_answers 6 (some .int)]
def wsX4_walls_r5 : List Cond := [Cond.methodLink RX4 198 yJ6_bitCount_0f7a4, Cond.static yJ6_bitCount_0f7a4, Cond.initialized RJ6, Cond.code yJ6_bitCount_0f7a4 cJ6_bitCount_0f7a4 1 (some .int), Cond.constant RJ6 265 (1431655765), Cond.constant RJ6 266 (858993459), Cond.constant RJ6 267 (252645135), Cond.methodLink RX4 203 yX1_heard, Cond.instanceMethod yX1_heard, Cond.selects RX1 yX1_heard yX1_heard, Cond.code yX1_heard cX1_heard 8 (some .long)]
def wsX4_walls : List Cond := .code yX4_walls cX4_walls 7 (some .int) :: ((wsX4_walls_r1 ++ (wsX4_walls_r2 ++ (wsX4_walls_r3 ++ (wsX4_walls_r4 ++ wsX4_walls_r5)))) ++ wsX40 ++ wsX20 ++ wsX10)
def wsX4_give : List Cond := .code yX4_give cX4_give 3 (some .boolean) :: ([.fieldLink RX4 39 "WhisperJudge" "count" "I", .fieldLink RX4 11 "WhisperJudge" "things" "[LWhisperJudge$Thing;", .fieldLink RX4 58 "WhisperJudge$Thing" "wall" "I", .fieldLink RX4 43 "WhisperJudge" "changes" "I", .methodLink RX4 148 yX4_wallIn, .static yX4_wallIn, .initialized RX4, .code yX4_wallIn cX4_wallIn 2 (some .int)] ++ wsX40 ++ wsX20)
def wsX5_init : List Cond := .code yX5_init cX5_init 1 none :: ([.methodLink RX5 1 objectInit, .instanceMethod objectInit, .code objectInit ⟨#[0xb1]⟩ 1 none, .arrayClass .int, .fieldLink RX5 7 "WhisperJudgeModel" "kind" "[I", .fieldLink RX5 13 "WhisperJudgeModel" "first" "[I", .fieldLink RX5 16 "WhisperJudgeModel" "wall" "[I", .fieldLink RX5 19 "WhisperJudgeModel" "clean" "[I", .fieldLink RX5 22 "WhisperJudgeModel" "pad" "[I", .fieldLink RX5 25 "WhisperJudgeModel" "price" "[I", .fieldLink RX5 28 "WhisperJudgeModel" "state" "[I", .arrayClass .long, .fieldLink RX5 31 "WhisperJudgeModel" "nextOf" "[J", .fieldLink RX5 35 "WhisperJudgeModel" "answerOf" "[J", .fieldLink RX5 38 "WhisperJudgeModel" "ahead" "[I", .fieldLink RX5 41 "WhisperJudgeModel" "knownSet" "[J", .fieldLink RX5 44 "WhisperJudgeModel" "knownTick" "[I", .fieldLink RX5 47 "WhisperJudgeModel" "knownIn" "[I", .fieldLink RX5 50 "WhisperJudgeModel" "knownMost" "[I", .fieldLink RX5 53 "WhisperJudgeModel" "acts" "[I", .fieldLink RX5 56 "WhisperJudgeModel" "said" "[I", .fieldLink RX5 59 "WhisperJudgeModel" "wish" "[I"] ++ wsX50)
def wsX5_isIn : List Cond := .code yX5_isIn cX5_isIn 3 (some .boolean) :: ([])
def wsX5_isThing : List Cond := .code yX5_isThing cX5_isThing 2 (some .boolean) :: ([.fieldLink RX5 62 "WhisperJudgeModel" "many" "I", .methodLink RX5 66 yX5_isIn, .static yX5_isIn, .initialized RX5, .code yX5_isIn cX5_isIn 3 (some .boolean)] ++ wsX50)
def wsX5_clear : List Cond := .code yX5_clear cX5_clear 1 none :: ([.fieldLink RX5 62 "WhisperJudgeModel" "many" "I"] ++ wsX50)
def wsX5_comes : List Cond := .code yX5_comes cX5_comes 5 (some .int) :: ([.fieldLink RX5 62 "WhisperJudgeModel" "many" "I", .fieldLink RX5 7 "WhisperJudgeModel" "kind" "[I", .fieldLink RX5 13 "WhisperJudgeModel" "first" "[I", .fieldLink RX5 16 "WhisperJudgeModel" "wall" "[I", .fieldLink RX5 19 "WhisperJudgeModel" "clean" "[I", .fieldLink RX5 22 "WhisperJudgeModel" "pad" "[I", .fieldLink RX5 25 "WhisperJudgeModel" "price" "[I", .fieldLink RX5 28 "WhisperJudgeModel" "state" "[I"] ++ wsX50)
def wsX5_thing : List Cond := .code yX5_thing cX5_thing 4 (some .int) :: ([.fieldLink RX5 62 "WhisperJudgeModel" "many" "I", .methodLink RX5 66 yX5_isIn, .static yX5_isIn, .initialized RX5, .code yX5_isIn cX5_isIn 3 (some .boolean), .methodLink RX5 70 yX5_comes, .instanceMethod yX5_comes, .selects RX5 yX5_comes yX5_comes, .code yX5_comes cX5_comes 5 (some .int), .fieldLink RX5 7 "WhisperJudgeModel" "kind" "[I", .fieldLink RX5 13 "WhisperJudgeModel" "first" "[I", .fieldLink RX5 16 "WhisperJudgeModel" "wall" "[I", .fieldLink RX5 19 "WhisperJudgeModel" "clean" "[I", .fieldLink RX5 22 "WhisperJudgeModel" "pad" "[I", .fieldLink RX5 25 "WhisperJudgeModel" "price" "[I", .fieldLink RX5 28 "WhisperJudgeModel" "state" "[I"] ++ wsX50)
def wsX5_table : List Cond := .code yX5_table cX5_table 7 (some .int) :: ([.fieldLink RX5 62 "WhisperJudgeModel" "many" "I", .fieldLink RX5 31 "WhisperJudgeModel" "nextOf" "[J", .fieldLink RX5 35 "WhisperJudgeModel" "answerOf" "[J", .methodLink RX5 66 yX5_isIn, .static yX5_isIn, .initialized RX5, .code yX5_isIn cX5_isIn 3 (some .boolean), .methodLink RX5 70 yX5_comes, .instanceMethod yX5_comes, .selects RX5 yX5_comes yX5_comes, .code yX5_comes cX5_comes 5 (some .int), .fieldLink RX5 7 "WhisperJudgeModel" "kind" "[I", .fieldLink RX5 13 "WhisperJudgeModel" "first" "[I", .fieldLink RX5 16 "WhisperJudgeModel" "wall" "[I", .fieldLink RX5 19 "WhisperJudgeModel" "clean" "[I", .fieldLink RX5 22 "WhisperJudgeModel" "pad" "[I", .fieldLink RX5 25 "WhisperJudgeModel" "price" "[I", .fieldLink RX5 28 "WhisperJudgeModel" "state" "[I"] ++ wsX50)
def wsX5_isBy : List Cond := .code yX5_isBy cX5_isBy 2 (some .boolean) :: ([.methodLink RX5 66 yX5_isIn, .static yX5_isIn, .initialized RX5, .code yX5_isIn cX5_isIn 3 (some .boolean)])
def wsX5_wall : List Cond := .code yX5_wall cX5_wall 4 (some .boolean) :: ([.fieldLink RX5 16 "WhisperJudgeModel" "wall" "[I", .fieldLink RX5 19 "WhisperJudgeModel" "clean" "[I", .fieldLink RX5 22 "WhisperJudgeModel" "pad" "[I", .methodLink RX5 74 yX5_isThing, .instanceMethod yX5_isThing, .selects RX5 yX5_isThing yX5_isThing, .initialized RX5, .code yX5_isThing cX5_isThing 2 (some .boolean), .fieldLink RX5 62 "WhisperJudgeModel" "many" "I", .methodLink RX5 66 yX5_isIn, .static yX5_isIn, .code yX5_isIn cX5_isIn 3 (some .boolean), .methodLink RX5 78 yX5_isBy, .static yX5_isBy, .code yX5_isBy cX5_isBy 2 (some .boolean)] ++ wsX50)
def wsX5_set : List Cond := .code yX5_set cX5_set 4 (some .boolean) :: ([.fieldLink RX5 19 "WhisperJudgeModel" "clean" "[I", .fieldLink RX5 22 "WhisperJudgeModel" "pad" "[I", .methodLink RX5 74 yX5_isThing, .instanceMethod yX5_isThing, .selects RX5 yX5_isThing yX5_isThing, .initialized RX5, .code yX5_isThing cX5_isThing 2 (some .boolean), .fieldLink RX5 62 "WhisperJudgeModel" "many" "I", .methodLink RX5 66 yX5_isIn, .static yX5_isIn, .code yX5_isIn cX5_isIn 3 (some .boolean), .methodLink RX5 78 yX5_isBy, .static yX5_isBy, .code yX5_isBy cX5_isBy 2 (some .boolean)] ++ wsX50)
def wsX5_price : List Cond := .code yX5_price cX5_price 4 (some .boolean) :: ([.fieldLink RX5 25 "WhisperJudgeModel" "price" "[I", .methodLink RX5 74 yX5_isThing, .instanceMethod yX5_isThing, .selects RX5 yX5_isThing yX5_isThing, .initialized RX5, .code yX5_isThing cX5_isThing 2 (some .boolean), .fieldLink RX5 62 "WhisperJudgeModel" "many" "I", .methodLink RX5 66 yX5_isIn, .static yX5_isIn, .code yX5_isIn cX5_isIn 3 (some .boolean)] ++ wsX50)
def wsX5_wallsNow : List Cond := .code yX5_wallsNow cX5_wallsNow 3 (some .int) :: ([.fieldLink RX5 62 "WhisperJudgeModel" "many" "I", .fieldLink RX5 16 "WhisperJudgeModel" "wall" "[I"] ++ wsX50)
def wsX5_costs : List Cond := .code yX5_costs cX5_costs 4 (some .int) :: ([.fieldLink RX5 62 "WhisperJudgeModel" "many" "I", .fieldLink RX5 25 "WhisperJudgeModel" "price" "[I"] ++ wsX50)
def wsX5_phases : List Cond := .code yX5_phases cX5_phases 2 (some .int) :: ([.fieldLink RX5 16 "WhisperJudgeModel" "wall" "[I", .fieldLink RX5 19 "WhisperJudgeModel" "clean" "[I"] ++ wsX50)
def wsX5_act : List Cond := .code yX5_act cX5_act 6 (some .int) :: ([.fieldLink RX5 7 "WhisperJudgeModel" "kind" "[I", .fieldLink RX5 31 "WhisperJudgeModel" "nextOf" "[J", .constantLong RX5 93 (3), .fieldLink RX5 35 "WhisperJudgeModel" "answerOf" "[J"] ++ wsX50)
def wsX5_sends : List Cond := .code yX5_sends cX5_sends 4 (some .int) :: ([.fieldLink RX5 16 "WhisperJudgeModel" "wall" "[I", .methodLink RX5 95 yX5_act, .instanceMethod yX5_act, .selects RX5 yX5_act yX5_act, .initialized RX5, .code yX5_act cX5_act 6 (some .int), .fieldLink RX5 7 "WhisperJudgeModel" "kind" "[I", .fieldLink RX5 31 "WhisperJudgeModel" "nextOf" "[J", .constantLong RX5 93 (3), .fieldLink RX5 35 "WhisperJudgeModel" "answerOf" "[J"] ++ wsX50)
def wsX5_cleans : List Cond := .code yX5_cleans cX5_cleans 4 (some .int) :: ([.fieldLink RX5 16 "WhisperJudgeModel" "wall" "[I", .fieldLink RX5 19 "WhisperJudgeModel" "clean" "[I", .fieldLink RX5 13 "WhisperJudgeModel" "first" "[I"] ++ wsX50)
def wsX5_answers : List Cond := .code yX5_answers cX5_answers 5 (some .int) :: ([.fieldLink RX5 16 "WhisperJudgeModel" "wall" "[I", .fieldLink RX5 22 "WhisperJudgeModel" "pad" "[I", .methodLink RX5 95 yX5_act, .instanceMethod yX5_act, .selects RX5 yX5_act yX5_act, .initialized RX5, .code yX5_act cX5_act 6 (some .int), .fieldLink RX5 7 "WhisperJudgeModel" "kind" "[I", .fieldLink RX5 31 "WhisperJudgeModel" "nextOf" "[J", .constantLong RX5 93 (3), .fieldLink RX5 35 "WhisperJudgeModel" "answerOf" "[J"] ++ wsX50)
def wsX5_hears : List Cond := .code yX5_hears cX5_hears 4 (some .int) :: ([.methodLink RX5 95 yX5_act, .instanceMethod yX5_act, .selects RX5 yX5_act yX5_act, .initialized RX5, .code yX5_act cX5_act 6 (some .int), .fieldLink RX5 7 "WhisperJudgeModel" "kind" "[I", .fieldLink RX5 31 "WhisperJudgeModel" "nextOf" "[J", .constantLong RX5 93 (3), .fieldLink RX5 35 "WhisperJudgeModel" "answerOf" "[J"] ++ wsX50)
def wsX5_at : List Cond := .code yX5_at cX5_at 4 (some .int) :: ([])
def wsX5_after_r1 : List Cond := [Cond.fieldLink RX5 38 "WhisperJudgeModel" "ahead" "[I", Cond.methodLink RX5 99 yX5_sends, Cond.instanceMethod yX5_sends, Cond.selects RX5 yX5_sends yX5_sends, Cond.initialized RX5, Cond.code yX5_sends cX5_sends 4 (some .int), Cond.fieldLink RX5 16 "WhisperJudgeModel" "wall" "[I", Cond.methodLink RX5 95 yX5_act, Cond.instanceMethod yX5_act, Cond.selects RX5 yX5_act yX5_act, Cond.code yX5_act cX5_act 6 (some .int), Cond.fieldLink RX5 7 "WhisperJudgeModel" "kind" "[I", Cond.fieldLink RX5 31 "WhisperJudgeModel" "nextOf" "[J", Cond.constantLong RX5 93 (3), Cond.fieldLink RX5 35 "WhisperJudgeModel" "answerOf" "[J", Cond.methodLink RX5 103 yX5_cleans, Cond.instanceMethod yX5_cleans, Cond.selects RX5 yX5_cleans yX5_cleans, Cond.code yX5_cleans cX5_cleans 4 (some .int), Cond.fieldLink RX5 19 "WhisperJudgeModel" "clean" "[I", Cond.fieldLink RX5 13 "WhisperJudgeModel" "first" "[I", Cond.methodLink RX5 106 yX5_answers, Cond.instanceMethod yX5_answers, Cond.selects RX5 yX5_answers yX5_answers]
def wsX5_after_r2 : List Cond := [Cond.code yX5_answers cX5_answers 5 (some .int), Cond.fieldLink RX5 22 "WhisperJudgeModel" "pad" "[I", Cond.methodLink RX5 109 yX5_hears, Cond.instanceMethod yX5_hears, Cond.selects RX5 yX5_hears yX5_hears, Cond.code yX5_hears cX5_hears 4 (some .int), Cond.methodLink RX5 112 yX5_phases, Cond.instanceMethod yX5_phases, Cond.selects RX5 yX5_phases yX5_phases, Cond.code yX5_phases cX5_phases 2 (some .int), Cond.methodLink RX5 115 yX5_at, Cond.instanceMethod yX5_at, Cond.selects RX5 yX5_at yX5_at, Cond.code yX5_at cX5_at 4 (some .int)]
def wsX5_after : List Cond := .code yX5_after cX5_after 10 (some .int) :: ((wsX5_after_r1 ++ wsX5_after_r2) ++ wsX50)
def wsX5_looksAhead_r1 : List Cond := [Cond.fieldLink RX5 38 "WhisperJudgeModel" "ahead" "[I", Cond.methodLink RX5 112 yX5_phases, Cond.instanceMethod yX5_phases, Cond.selects RX5 yX5_phases yX5_phases, Cond.initialized RX5, Cond.code yX5_phases cX5_phases 2 (some .int), Cond.fieldLink RX5 16 "WhisperJudgeModel" "wall" "[I", Cond.fieldLink RX5 19 "WhisperJudgeModel" "clean" "[I", Cond.methodLink RX5 118 yX5_after, Cond.instanceMethod yX5_after, Cond.selects RX5 yX5_after yX5_after, Cond.code yX5_after cX5_after 10 (some .int), Cond.methodLink RX5 99 yX5_sends, Cond.instanceMethod yX5_sends, Cond.selects RX5 yX5_sends yX5_sends, Cond.code yX5_sends cX5_sends 4 (some .int), Cond.methodLink RX5 95 yX5_act, Cond.instanceMethod yX5_act, Cond.selects RX5 yX5_act yX5_act, Cond.code yX5_act cX5_act 6 (some .int), Cond.fieldLink RX5 7 "WhisperJudgeModel" "kind" "[I", Cond.fieldLink RX5 31 "WhisperJudgeModel" "nextOf" "[J", Cond.constantLong RX5 93 (3), Cond.fieldLink RX5 35 "WhisperJudgeModel" "answerOf" "[J"]
def wsX5_looksAhead_r2 : List Cond := [Cond.methodLink RX5 103 yX5_cleans, Cond.instanceMethod yX5_cleans, Cond.selects RX5 yX5_cleans yX5_cleans, Cond.code yX5_cleans cX5_cleans 4 (some .int), Cond.fieldLink RX5 13 "WhisperJudgeModel" "first" "[I", Cond.methodLink RX5 106 yX5_answers, Cond.instanceMethod yX5_answers, Cond.selects RX5 yX5_answers yX5_answers, Cond.code yX5_answers cX5_answers 5 (some .int), Cond.fieldLink RX5 22 "WhisperJudgeModel" "pad" "[I", Cond.methodLink RX5 109 yX5_hears, Cond.instanceMethod yX5_hears, Cond.selects RX5 yX5_hears yX5_hears, Cond.code yX5_hears cX5_hears 4 (some .int), Cond.methodLink RX5 115 yX5_at, Cond.instanceMethod yX5_at, Cond.selects RX5 yX5_at yX5_at, Cond.code yX5_at cX5_at 4 (some .int)]
def wsX5_looksAhead : List Cond := .code yX5_looksAhead cX5_looksAhead 6 none :: ((wsX5_looksAhead_r1 ++ wsX5_looksAhead_r2) ++ wsX50)
def wsX5_shortest_r1 : List Cond := [Cond.fieldLink RX5 38 "WhisperJudgeModel" "ahead" "[I", Cond.fieldLink RX5 13 "WhisperJudgeModel" "first" "[I", Cond.methodLink RX5 122 yX5_looksAhead, Cond.instanceMethod yX5_looksAhead, Cond.selects RX5 yX5_looksAhead yX5_looksAhead, Cond.initialized RX5, Cond.code yX5_looksAhead cX5_looksAhead 6 none, Cond.methodLink RX5 112 yX5_phases, Cond.instanceMethod yX5_phases, Cond.selects RX5 yX5_phases yX5_phases, Cond.code yX5_phases cX5_phases 2 (some .int), Cond.fieldLink RX5 16 "WhisperJudgeModel" "wall" "[I", Cond.fieldLink RX5 19 "WhisperJudgeModel" "clean" "[I", Cond.methodLink RX5 118 yX5_after, Cond.instanceMethod yX5_after, Cond.selects RX5 yX5_after yX5_after, Cond.code yX5_after cX5_after 10 (some .int), Cond.methodLink RX5 99 yX5_sends, Cond.instanceMethod yX5_sends, Cond.selects RX5 yX5_sends yX5_sends, Cond.code yX5_sends cX5_sends 4 (some .int), Cond.methodLink RX5 95 yX5_act, Cond.instanceMethod yX5_act, Cond.selects RX5 yX5_act yX5_act]
def wsX5_shortest_r2 : List Cond := [Cond.code yX5_act cX5_act 6 (some .int), Cond.fieldLink RX5 7 "WhisperJudgeModel" "kind" "[I", Cond.fieldLink RX5 31 "WhisperJudgeModel" "nextOf" "[J", Cond.constantLong RX5 93 (3), Cond.fieldLink RX5 35 "WhisperJudgeModel" "answerOf" "[J", Cond.methodLink RX5 103 yX5_cleans, Cond.instanceMethod yX5_cleans, Cond.selects RX5 yX5_cleans yX5_cleans, Cond.code yX5_cleans cX5_cleans 4 (some .int), Cond.methodLink RX5 106 yX5_answers, Cond.instanceMethod yX5_answers, Cond.selects RX5 yX5_answers yX5_answers, Cond.code yX5_answers cX5_answers 5 (some .int), Cond.fieldLink RX5 22 "WhisperJudgeModel" "pad" "[I", Cond.methodLink RX5 109 yX5_hears, Cond.instanceMethod yX5_hears, Cond.selects RX5 yX5_hears yX5_hears, Cond.code yX5_hears cX5_hears 4 (some .int), Cond.methodLink RX5 115 yX5_at, Cond.instanceMethod yX5_at, Cond.selects RX5 yX5_at yX5_at, Cond.code yX5_at cX5_at 4 (some .int)]
def wsX5_shortest : List Cond := .code yX5_shortest cX5_shortest 3 (some .int) :: ((wsX5_shortest_r1 ++ wsX5_shortest_r2) ++ wsX50)
def wsX5_silent_r1 : List Cond := [Cond.methodLink RX5 74 yX5_isThing, Cond.instanceMethod yX5_isThing, Cond.selects RX5 yX5_isThing yX5_isThing, Cond.initialized RX5, Cond.code yX5_isThing cX5_isThing 2 (some .boolean), Cond.fieldLink RX5 62 "WhisperJudgeModel" "many" "I", Cond.methodLink RX5 66 yX5_isIn, Cond.static yX5_isIn, Cond.code yX5_isIn cX5_isIn 3 (some .boolean), Cond.methodLink RX5 126 yX5_shortest, Cond.instanceMethod yX5_shortest, Cond.selects RX5 yX5_shortest yX5_shortest, Cond.code yX5_shortest cX5_shortest 3 (some .int), Cond.fieldLink RX5 38 "WhisperJudgeModel" "ahead" "[I", Cond.fieldLink RX5 13 "WhisperJudgeModel" "first" "[I", Cond.methodLink RX5 122 yX5_looksAhead, Cond.instanceMethod yX5_looksAhead, Cond.selects RX5 yX5_looksAhead yX5_looksAhead, Cond.code yX5_looksAhead cX5_looksAhead 6 none, Cond.methodLink RX5 112 yX5_phases, Cond.instanceMethod yX5_phases, Cond.selects RX5 yX5_phases yX5_phases, Cond.code yX5_phases cX5_phases 2 (some .int), Cond.fieldLink RX5 16 "WhisperJudgeModel" "wall" "[I"]
def wsX5_silent_r2 : List Cond := [Cond.fieldLink RX5 19 "WhisperJudgeModel" "clean" "[I", Cond.methodLink RX5 118 yX5_after, Cond.instanceMethod yX5_after, Cond.selects RX5 yX5_after yX5_after, Cond.code yX5_after cX5_after 10 (some .int), Cond.methodLink RX5 99 yX5_sends, Cond.instanceMethod yX5_sends, Cond.selects RX5 yX5_sends yX5_sends, Cond.code yX5_sends cX5_sends 4 (some .int), Cond.methodLink RX5 95 yX5_act, Cond.instanceMethod yX5_act, Cond.selects RX5 yX5_act yX5_act, Cond.code yX5_act cX5_act 6 (some .int), Cond.fieldLink RX5 7 "WhisperJudgeModel" "kind" "[I", Cond.fieldLink RX5 31 "WhisperJudgeModel" "nextOf" "[J", Cond.constantLong RX5 93 (3), Cond.fieldLink RX5 35 "WhisperJudgeModel" "answerOf" "[J", Cond.methodLink RX5 103 yX5_cleans, Cond.instanceMethod yX5_cleans, Cond.selects RX5 yX5_cleans yX5_cleans, Cond.code yX5_cleans cX5_cleans 4 (some .int), Cond.methodLink RX5 106 yX5_answers, Cond.instanceMethod yX5_answers, Cond.selects RX5 yX5_answers yX5_answers]
def wsX5_silent_r3 : List Cond := [Cond.code yX5_answers cX5_answers 5 (some .int), Cond.fieldLink RX5 22 "WhisperJudgeModel" "pad" "[I", Cond.methodLink RX5 109 yX5_hears, Cond.instanceMethod yX5_hears, Cond.selects RX5 yX5_hears yX5_hears, Cond.code yX5_hears cX5_hears 4 (some .int), Cond.methodLink RX5 115 yX5_at, Cond.instanceMethod yX5_at, Cond.selects RX5 yX5_at yX5_at, Cond.code yX5_at cX5_at 4 (some .int)]
def wsX5_silent : List Cond := .code yX5_silent cX5_silent 2 (some .int) :: ((wsX5_silent_r1 ++ (wsX5_silent_r2 ++ wsX5_silent_r3)) ++ wsX50)
def wsX5_look_r1 : List Cond := [Cond.fieldLink RX5 62 "WhisperJudgeModel" "many" "I", Cond.methodLink RX5 82 yX5_silent, Cond.instanceMethod yX5_silent, Cond.selects RX5 yX5_silent yX5_silent, Cond.initialized RX5, Cond.code yX5_silent cX5_silent 2 (some .int), Cond.methodLink RX5 74 yX5_isThing, Cond.instanceMethod yX5_isThing, Cond.selects RX5 yX5_isThing yX5_isThing, Cond.code yX5_isThing cX5_isThing 2 (some .boolean), Cond.methodLink RX5 66 yX5_isIn, Cond.static yX5_isIn, Cond.code yX5_isIn cX5_isIn 3 (some .boolean), Cond.methodLink RX5 126 yX5_shortest, Cond.instanceMethod yX5_shortest, Cond.selects RX5 yX5_shortest yX5_shortest, Cond.code yX5_shortest cX5_shortest 3 (some .int), Cond.fieldLink RX5 38 "WhisperJudgeModel" "ahead" "[I", Cond.fieldLink RX5 13 "WhisperJudgeModel" "first" "[I", Cond.methodLink RX5 122 yX5_looksAhead, Cond.instanceMethod yX5_looksAhead, Cond.selects RX5 yX5_looksAhead yX5_looksAhead, Cond.code yX5_looksAhead cX5_looksAhead 6 none, Cond.methodLink RX5 112 yX5_phases]
def wsX5_look_r2 : List Cond := [Cond.instanceMethod yX5_phases, Cond.selects RX5 yX5_phases yX5_phases, Cond.code yX5_phases cX5_phases 2 (some .int), Cond.fieldLink RX5 16 "WhisperJudgeModel" "wall" "[I", Cond.fieldLink RX5 19 "WhisperJudgeModel" "clean" "[I", Cond.methodLink RX5 118 yX5_after, Cond.instanceMethod yX5_after, Cond.selects RX5 yX5_after yX5_after, Cond.code yX5_after cX5_after 10 (some .int), Cond.methodLink RX5 99 yX5_sends, Cond.instanceMethod yX5_sends, Cond.selects RX5 yX5_sends yX5_sends, Cond.code yX5_sends cX5_sends 4 (some .int), Cond.methodLink RX5 95 yX5_act, Cond.instanceMethod yX5_act, Cond.selects RX5 yX5_act yX5_act, Cond.code yX5_act cX5_act 6 (some .int), Cond.fieldLink RX5 7 "WhisperJudgeModel" "kind" "[I", Cond.fieldLink RX5 31 "WhisperJudgeModel" "nextOf" "[J", Cond.constantLong RX5 93 (3), Cond.fieldLink RX5 35 "WhisperJudgeModel" "answerOf" "[J", Cond.methodLink RX5 103 yX5_cleans, Cond.instanceMethod yX5_cleans, Cond.selects RX5 yX5_cleans yX5_cleans]
def wsX5_look_r3 : List Cond := [Cond.code yX5_cleans cX5_cleans 4 (some .int), Cond.methodLink RX5 106 yX5_answers, Cond.instanceMethod yX5_answers, Cond.selects RX5 yX5_answers yX5_answers, Cond.code yX5_answers cX5_answers 5 (some .int), Cond.fieldLink RX5 22 "WhisperJudgeModel" "pad" "[I", Cond.methodLink RX5 109 yX5_hears, Cond.instanceMethod yX5_hears, Cond.selects RX5 yX5_hears yX5_hears, Cond.code yX5_hears cX5_hears 4 (some .int), Cond.methodLink RX5 115 yX5_at, Cond.instanceMethod yX5_at, Cond.selects RX5 yX5_at yX5_at, Cond.code yX5_at cX5_at 4 (some .int), Cond.methodLink RX5 86 yX5_wallsNow, Cond.instanceMethod yX5_wallsNow, Cond.selects RX5 yX5_wallsNow yX5_wallsNow, Cond.code yX5_wallsNow cX5_wallsNow 3 (some .int), Cond.methodLink RX5 90 yX5_costs, Cond.instanceMethod yX5_costs, Cond.selects RX5 yX5_costs yX5_costs, Cond.code yX5_costs cX5_costs 4 (some .int), Cond.fieldLink RX5 25 "WhisperJudgeModel" "price" "[I"]
def wsX5_look : List Cond := .code yX5_look cX5_look 4 (some .int) :: ((wsX5_look_r1 ++ (wsX5_look_r2 ++ wsX5_look_r3)) ++ wsX50)
def wsX5_of : List Cond := .code yX5_of cX5_of 3 (some .int) :: ([.fieldLink RX5 7 "WhisperJudgeModel" "kind" "[I", .fieldLink RX5 13 "WhisperJudgeModel" "first" "[I", .fieldLink RX5 16 "WhisperJudgeModel" "wall" "[I", .fieldLink RX5 19 "WhisperJudgeModel" "clean" "[I", .fieldLink RX5 22 "WhisperJudgeModel" "pad" "[I", .methodLink RX5 74 yX5_isThing, .instanceMethod yX5_isThing, .selects RX5 yX5_isThing yX5_isThing, .initialized RX5, .code yX5_isThing cX5_isThing 2 (some .boolean), .fieldLink RX5 62 "WhisperJudgeModel" "many" "I", .methodLink RX5 66 yX5_isIn, .static yX5_isIn, .code yX5_isIn cX5_isIn 3 (some .boolean)] ++ wsX50)
def wsX5_does : List Cond := .code yX5_does cX5_does 7 (some .int) :: ([.fieldLink RX5 7 "WhisperJudgeModel" "kind" "[I", .methodLink RX5 74 yX5_isThing, .instanceMethod yX5_isThing, .selects RX5 yX5_isThing yX5_isThing, .initialized RX5, .code yX5_isThing cX5_isThing 2 (some .boolean), .fieldLink RX5 62 "WhisperJudgeModel" "many" "I", .methodLink RX5 66 yX5_isIn, .static yX5_isIn, .code yX5_isIn cX5_isIn 3 (some .boolean), .methodLink RX5 95 yX5_act, .instanceMethod yX5_act, .selects RX5 yX5_act yX5_act, .code yX5_act cX5_act 6 (some .int), .fieldLink RX5 31 "WhisperJudgeModel" "nextOf" "[J", .constantLong RX5 93 (3), .fieldLink RX5 35 "WhisperJudgeModel" "answerOf" "[J"] ++ wsX50)
def wsX5_shown_r1 : List Cond := [Cond.methodLink RX5 74 yX5_isThing, Cond.instanceMethod yX5_isThing, Cond.selects RX5 yX5_isThing yX5_isThing, Cond.initialized RX5, Cond.code yX5_isThing cX5_isThing 2 (some .boolean), Cond.fieldLink RX5 62 "WhisperJudgeModel" "many" "I", Cond.methodLink RX5 66 yX5_isIn, Cond.static yX5_isIn, Cond.code yX5_isIn cX5_isIn 3 (some .boolean), Cond.methodLink RX5 126 yX5_shortest, Cond.instanceMethod yX5_shortest, Cond.selects RX5 yX5_shortest yX5_shortest, Cond.code yX5_shortest cX5_shortest 3 (some .int), Cond.fieldLink RX5 38 "WhisperJudgeModel" "ahead" "[I", Cond.fieldLink RX5 13 "WhisperJudgeModel" "first" "[I", Cond.methodLink RX5 122 yX5_looksAhead, Cond.instanceMethod yX5_looksAhead, Cond.selects RX5 yX5_looksAhead yX5_looksAhead, Cond.code yX5_looksAhead cX5_looksAhead 6 none, Cond.methodLink RX5 112 yX5_phases, Cond.instanceMethod yX5_phases, Cond.selects RX5 yX5_phases yX5_phases, Cond.code yX5_phases cX5_phases 2 (some .int), Cond.fieldLink RX5 16 "WhisperJudgeModel" "wall" "[I"]
def wsX5_shown_r2 : List Cond := [Cond.fieldLink RX5 19 "WhisperJudgeModel" "clean" "[I", Cond.methodLink RX5 118 yX5_after, Cond.instanceMethod yX5_after, Cond.selects RX5 yX5_after yX5_after, Cond.code yX5_after cX5_after 10 (some .int), Cond.methodLink RX5 99 yX5_sends, Cond.instanceMethod yX5_sends, Cond.selects RX5 yX5_sends yX5_sends, Cond.code yX5_sends cX5_sends 4 (some .int), Cond.methodLink RX5 95 yX5_act, Cond.instanceMethod yX5_act, Cond.selects RX5 yX5_act yX5_act, Cond.code yX5_act cX5_act 6 (some .int), Cond.fieldLink RX5 7 "WhisperJudgeModel" "kind" "[I", Cond.fieldLink RX5 31 "WhisperJudgeModel" "nextOf" "[J", Cond.constantLong RX5 93 (3), Cond.fieldLink RX5 35 "WhisperJudgeModel" "answerOf" "[J", Cond.methodLink RX5 103 yX5_cleans, Cond.instanceMethod yX5_cleans, Cond.selects RX5 yX5_cleans yX5_cleans, Cond.code yX5_cleans cX5_cleans 4 (some .int), Cond.methodLink RX5 106 yX5_answers, Cond.instanceMethod yX5_answers, Cond.selects RX5 yX5_answers yX5_answers]
def wsX5_shown_r3 : List Cond := [Cond.code yX5_answers cX5_answers 5 (some .int), Cond.fieldLink RX5 22 "WhisperJudgeModel" "pad" "[I", Cond.methodLink RX5 109 yX5_hears, Cond.instanceMethod yX5_hears, Cond.selects RX5 yX5_hears yX5_hears, Cond.code yX5_hears cX5_hears 4 (some .int), Cond.methodLink RX5 115 yX5_at, Cond.instanceMethod yX5_at, Cond.selects RX5 yX5_at yX5_at, Cond.code yX5_at cX5_at 4 (some .int)]
def wsX5_shown : List Cond := .code yX5_shown cX5_shown 2 (some .int) :: ((wsX5_shown_r1 ++ (wsX5_shown_r2 ++ wsX5_shown_r3)) ++ wsX50)
def wsX5_named : List Cond := .code yX5_named cX5_named 2 (some .int) :: ([])
def wsX5_show_r1 : List Cond := [Cond.fieldLink RX5 13 "WhisperJudgeModel" "first" "[I", Cond.methodLink RX5 74 yX5_isThing, Cond.instanceMethod yX5_isThing, Cond.selects RX5 yX5_isThing yX5_isThing, Cond.initialized RX5, Cond.code yX5_isThing cX5_isThing 2 (some .boolean), Cond.fieldLink RX5 62 "WhisperJudgeModel" "many" "I", Cond.methodLink RX5 66 yX5_isIn, Cond.static yX5_isIn, Cond.code yX5_isIn cX5_isIn 3 (some .boolean), Cond.methodLink RX5 126 yX5_shortest, Cond.instanceMethod yX5_shortest, Cond.selects RX5 yX5_shortest yX5_shortest, Cond.code yX5_shortest cX5_shortest 3 (some .int), Cond.fieldLink RX5 38 "WhisperJudgeModel" "ahead" "[I", Cond.methodLink RX5 122 yX5_looksAhead, Cond.instanceMethod yX5_looksAhead, Cond.selects RX5 yX5_looksAhead yX5_looksAhead, Cond.code yX5_looksAhead cX5_looksAhead 6 none, Cond.methodLink RX5 112 yX5_phases, Cond.instanceMethod yX5_phases, Cond.selects RX5 yX5_phases yX5_phases, Cond.code yX5_phases cX5_phases 2 (some .int), Cond.fieldLink RX5 16 "WhisperJudgeModel" "wall" "[I"]
def wsX5_show_r2 : List Cond := [Cond.fieldLink RX5 19 "WhisperJudgeModel" "clean" "[I", Cond.methodLink RX5 118 yX5_after, Cond.instanceMethod yX5_after, Cond.selects RX5 yX5_after yX5_after, Cond.code yX5_after cX5_after 10 (some .int), Cond.methodLink RX5 99 yX5_sends, Cond.instanceMethod yX5_sends, Cond.selects RX5 yX5_sends yX5_sends, Cond.code yX5_sends cX5_sends 4 (some .int), Cond.methodLink RX5 95 yX5_act, Cond.instanceMethod yX5_act, Cond.selects RX5 yX5_act yX5_act, Cond.code yX5_act cX5_act 6 (some .int), Cond.fieldLink RX5 7 "WhisperJudgeModel" "kind" "[I", Cond.fieldLink RX5 31 "WhisperJudgeModel" "nextOf" "[J", Cond.constantLong RX5 93 (3), Cond.fieldLink RX5 35 "WhisperJudgeModel" "answerOf" "[J", Cond.methodLink RX5 103 yX5_cleans, Cond.instanceMethod yX5_cleans, Cond.selects RX5 yX5_cleans yX5_cleans, Cond.code yX5_cleans cX5_cleans 4 (some .int), Cond.methodLink RX5 106 yX5_answers, Cond.instanceMethod yX5_answers, Cond.selects RX5 yX5_answers yX5_answers]
def wsX5_show_r3 : List Cond := [Cond.code yX5_answers cX5_answers 5 (some .int), Cond.fieldLink RX5 22 "WhisperJudgeModel" "pad" "[I", Cond.methodLink RX5 109 yX5_hears, Cond.instanceMethod yX5_hears, Cond.selects RX5 yX5_hears yX5_hears, Cond.code yX5_hears cX5_hears 4 (some .int), Cond.methodLink RX5 115 yX5_at, Cond.instanceMethod yX5_at, Cond.selects RX5 yX5_at yX5_at, Cond.code yX5_at cX5_at 4 (some .int), Cond.methodLink RX5 129 yX5_named, Cond.static yX5_named, Cond.code yX5_named cX5_named 2 (some .int)]
def wsX5_show : List Cond := .code yX5_show cX5_show 13 (some .int) :: ((wsX5_show_r1 ++ (wsX5_show_r2 ++ wsX5_show_r3)) ++ wsX50)
def wsX5_isAct : List Cond := .code yX5_isAct cX5_isAct 2 (some .boolean) :: ([.fieldLink RX5 62 "WhisperJudgeModel" "many" "I", .methodLink RX5 66 yX5_isIn, .static yX5_isIn, .initialized RX5, .code yX5_isIn cX5_isIn 3 (some .boolean)] ++ wsX50)
def wsX5_startOf : List Cond := .code yX5_startOf cX5_startOf 3 (some .int) :: ([.fieldLink RX5 62 "WhisperJudgeModel" "many" "I", .fieldLink RX5 13 "WhisperJudgeModel" "first" "[I"] ++ wsX50)
def wsX5_part : List Cond := .code yX5_part cX5_part 2 (some .int) :: ([])
def wsX5_with : List Cond := .code yX5_with cX5_with 3 (some .int) :: ([])
def wsX5_sent : List Cond := .code yX5_sent cX5_sent 6 (some .int) :: ([.fieldLink RX5 62 "WhisperJudgeModel" "many" "I", .fieldLink RX5 16 "WhisperJudgeModel" "wall" "[I", .fieldLink RX5 19 "WhisperJudgeModel" "clean" "[I", .fieldLink RX5 13 "WhisperJudgeModel" "first" "[I", .methodLink RX5 132 yX5_part, .static yX5_part, .initialized RX5, .code yX5_part cX5_part 2 (some .int), .methodLink RX5 99 yX5_sends, .instanceMethod yX5_sends, .selects RX5 yX5_sends yX5_sends, .code yX5_sends cX5_sends 4 (some .int), .methodLink RX5 95 yX5_act, .instanceMethod yX5_act, .selects RX5 yX5_act yX5_act, .code yX5_act cX5_act 6 (some .int), .fieldLink RX5 7 "WhisperJudgeModel" "kind" "[I", .fieldLink RX5 31 "WhisperJudgeModel" "nextOf" "[J", .constantLong RX5 93 (3), .fieldLink RX5 35 "WhisperJudgeModel" "answerOf" "[J", .methodLink RX5 135 yX5_with, .static yX5_with, .code yX5_with cX5_with 3 (some .int)] ++ wsX50)
def wsX5_heard : List Cond := .code yX5_heard cX5_heard 3 (some .int) :: ([.methodLink RX5 132 yX5_part, .static yX5_part, .initialized RX5, .code yX5_part cX5_part 2 (some .int), .methodLink RX5 109 yX5_hears, .instanceMethod yX5_hears, .selects RX5 yX5_hears yX5_hears, .code yX5_hears cX5_hears 4 (some .int), .methodLink RX5 95 yX5_act, .instanceMethod yX5_act, .selects RX5 yX5_act yX5_act, .code yX5_act cX5_act 6 (some .int), .fieldLink RX5 7 "WhisperJudgeModel" "kind" "[I", .fieldLink RX5 31 "WhisperJudgeModel" "nextOf" "[J", .constantLong RX5 93 (3), .fieldLink RX5 35 "WhisperJudgeModel" "answerOf" "[J", .methodLink RX5 135 yX5_with, .static yX5_with, .code yX5_with cX5_with 3 (some .int)] ++ wsX50)
def wsX5_told : List Cond := .code yX5_told cX5_told 3 (some .int) :: ([.methodLink RX5 132 yX5_part, .static yX5_part, .initialized RX5, .code yX5_part cX5_part 2 (some .int), .methodLink RX5 106 yX5_answers, .instanceMethod yX5_answers, .selects RX5 yX5_answers yX5_answers, .code yX5_answers cX5_answers 5 (some .int), .fieldLink RX5 16 "WhisperJudgeModel" "wall" "[I", .fieldLink RX5 22 "WhisperJudgeModel" "pad" "[I", .methodLink RX5 95 yX5_act, .instanceMethod yX5_act, .selects RX5 yX5_act yX5_act, .code yX5_act cX5_act 6 (some .int), .fieldLink RX5 7 "WhisperJudgeModel" "kind" "[I", .fieldLink RX5 31 "WhisperJudgeModel" "nextOf" "[J", .constantLong RX5 93 (3), .fieldLink RX5 35 "WhisperJudgeModel" "answerOf" "[J"] ++ wsX50)
def wsX5_spreads_r1 : List Cond := [Cond.methodLink RX5 138 yX5_isAct, Cond.instanceMethod yX5_isAct, Cond.selects RX5 yX5_isAct yX5_isAct, Cond.initialized RX5, Cond.code yX5_isAct cX5_isAct 2 (some .boolean), Cond.fieldLink RX5 62 "WhisperJudgeModel" "many" "I", Cond.methodLink RX5 66 yX5_isIn, Cond.static yX5_isIn, Cond.code yX5_isIn cX5_isIn 3 (some .boolean), Cond.methodLink RX5 141 yX5_sent, Cond.instanceMethod yX5_sent, Cond.selects RX5 yX5_sent yX5_sent, Cond.code yX5_sent cX5_sent 6 (some .int), Cond.fieldLink RX5 16 "WhisperJudgeModel" "wall" "[I", Cond.fieldLink RX5 19 "WhisperJudgeModel" "clean" "[I", Cond.fieldLink RX5 13 "WhisperJudgeModel" "first" "[I", Cond.methodLink RX5 132 yX5_part, Cond.static yX5_part, Cond.code yX5_part cX5_part 2 (some .int), Cond.methodLink RX5 99 yX5_sends, Cond.instanceMethod yX5_sends, Cond.selects RX5 yX5_sends yX5_sends, Cond.code yX5_sends cX5_sends 4 (some .int), Cond.methodLink RX5 95 yX5_act]
def wsX5_spreads_r2 : List Cond := [Cond.instanceMethod yX5_act, Cond.selects RX5 yX5_act yX5_act, Cond.code yX5_act cX5_act 6 (some .int), Cond.fieldLink RX5 7 "WhisperJudgeModel" "kind" "[I", Cond.fieldLink RX5 31 "WhisperJudgeModel" "nextOf" "[J", Cond.constantLong RX5 93 (3), Cond.fieldLink RX5 35 "WhisperJudgeModel" "answerOf" "[J", Cond.methodLink RX5 135 yX5_with, Cond.static yX5_with, Cond.code yX5_with cX5_with 3 (some .int)]
def wsX5_spreads : List Cond := .code yX5_spreads cX5_spreads 8 (some .long) :: ((wsX5_spreads_r1 ++ wsX5_spreads_r2) ++ wsX50)
def wsX5_parts_r1 : List Cond := [Cond.methodLink RX5 144 yX5_told, Cond.instanceMethod yX5_told, Cond.selects RX5 yX5_told yX5_told, Cond.initialized RX5, Cond.code yX5_told cX5_told 3 (some .int), Cond.methodLink RX5 132 yX5_part, Cond.static yX5_part, Cond.code yX5_part cX5_part 2 (some .int), Cond.methodLink RX5 106 yX5_answers, Cond.instanceMethod yX5_answers, Cond.selects RX5 yX5_answers yX5_answers, Cond.code yX5_answers cX5_answers 5 (some .int), Cond.fieldLink RX5 16 "WhisperJudgeModel" "wall" "[I", Cond.fieldLink RX5 22 "WhisperJudgeModel" "pad" "[I", Cond.methodLink RX5 95 yX5_act, Cond.instanceMethod yX5_act, Cond.selects RX5 yX5_act yX5_act, Cond.code yX5_act cX5_act 6 (some .int), Cond.fieldLink RX5 7 "WhisperJudgeModel" "kind" "[I", Cond.fieldLink RX5 31 "WhisperJudgeModel" "nextOf" "[J", Cond.constantLong RX5 93 (3), Cond.fieldLink RX5 35 "WhisperJudgeModel" "answerOf" "[J", Cond.methodLink RX5 147 yX5_heard, Cond.instanceMethod yX5_heard]
def wsX5_parts_r2 : List Cond := [Cond.selects RX5 yX5_heard yX5_heard, Cond.code yX5_heard cX5_heard 3 (some .int), Cond.methodLink RX5 109 yX5_hears, Cond.instanceMethod yX5_hears, Cond.selects RX5 yX5_hears yX5_hears, Cond.code yX5_hears cX5_hears 4 (some .int), Cond.methodLink RX5 135 yX5_with, Cond.static yX5_with, Cond.code yX5_with cX5_with 3 (some .int)]
def wsX5_parts : List Cond := .code yX5_parts cX5_parts 8 (some .long) :: ((wsX5_parts_r1 ++ wsX5_parts_r2) ++ wsX50)
def wsX5_answersOf : List Cond := .code yX5_answersOf cX5_answersOf 6 (some .int) :: ([.methodLink RX5 144 yX5_told, .instanceMethod yX5_told, .selects RX5 yX5_told yX5_told, .initialized RX5, .code yX5_told cX5_told 3 (some .int), .methodLink RX5 132 yX5_part, .static yX5_part, .code yX5_part cX5_part 2 (some .int), .methodLink RX5 106 yX5_answers, .instanceMethod yX5_answers, .selects RX5 yX5_answers yX5_answers, .code yX5_answers cX5_answers 5 (some .int), .fieldLink RX5 16 "WhisperJudgeModel" "wall" "[I", .fieldLink RX5 22 "WhisperJudgeModel" "pad" "[I", .methodLink RX5 95 yX5_act, .instanceMethod yX5_act, .selects RX5 yX5_act yX5_act, .code yX5_act cX5_act 6 (some .int), .fieldLink RX5 7 "WhisperJudgeModel" "kind" "[I", .fieldLink RX5 31 "WhisperJudgeModel" "nextOf" "[J", .constantLong RX5 93 (3), .fieldLink RX5 35 "WhisperJudgeModel" "answerOf" "[J"] ++ wsX50)
def wsX5_by_r1 : List Cond := [Cond.methodLink RX5 171 yX5_parts, Cond.instanceMethod yX5_parts, Cond.selects RX5 yX5_parts yX5_parts, Cond.initialized RX5, Cond.code yX5_parts cX5_parts 8 (some .long), Cond.methodLink RX5 144 yX5_told, Cond.instanceMethod yX5_told, Cond.selects RX5 yX5_told yX5_told, Cond.code yX5_told cX5_told 3 (some .int), Cond.methodLink RX5 132 yX5_part, Cond.static yX5_part, Cond.code yX5_part cX5_part 2 (some .int), Cond.methodLink RX5 106 yX5_answers, Cond.instanceMethod yX5_answers, Cond.selects RX5 yX5_answers yX5_answers, Cond.code yX5_answers cX5_answers 5 (some .int), Cond.fieldLink RX5 16 "WhisperJudgeModel" "wall" "[I", Cond.fieldLink RX5 22 "WhisperJudgeModel" "pad" "[I", Cond.methodLink RX5 95 yX5_act, Cond.instanceMethod yX5_act, Cond.selects RX5 yX5_act yX5_act, Cond.code yX5_act cX5_act 6 (some .int), Cond.fieldLink RX5 7 "WhisperJudgeModel" "kind" "[I", Cond.fieldLink RX5 31 "WhisperJudgeModel" "nextOf" "[J"]
def wsX5_by_r2 : List Cond := [Cond.constantLong RX5 93 (3), Cond.fieldLink RX5 35 "WhisperJudgeModel" "answerOf" "[J", Cond.methodLink RX5 147 yX5_heard, Cond.instanceMethod yX5_heard, Cond.selects RX5 yX5_heard yX5_heard, Cond.code yX5_heard cX5_heard 3 (some .int), Cond.methodLink RX5 109 yX5_hears, Cond.instanceMethod yX5_hears, Cond.selects RX5 yX5_hears yX5_hears, Cond.code yX5_hears cX5_hears 4 (some .int), Cond.methodLink RX5 135 yX5_with, Cond.static yX5_with, Cond.code yX5_with cX5_with 3 (some .int), Cond.methodLink RX5 175 yX5_most, Cond.instanceMethod yX5_most, Cond.selects RX5 yX5_most yX5_most, Cond.code yX5_most cX5_most 11 (some .int), Cond.constantLong RX5 150 (31), Cond.constantLong RX5 152 (1021), Cond.constantLong RX5 154 (4095), Cond.fieldLink RX5 47 "WhisperJudgeModel" "knownIn" "[I", Cond.fieldLink RX5 156 "WhisperJudgeModel" "question" "I", Cond.fieldLink RX5 41 "WhisperJudgeModel" "knownSet" "[J", Cond.fieldLink RX5 44 "WhisperJudgeModel" "knownTick" "[I"]
def wsX5_by_r3 : List Cond := [Cond.fieldLink RX5 50 "WhisperJudgeModel" "knownMost" "[I", Cond.methodLink RX5 159 yX5_spreads, Cond.instanceMethod yX5_spreads, Cond.selects RX5 yX5_spreads yX5_spreads, Cond.code yX5_spreads cX5_spreads 8 (some .long), Cond.methodLink RX5 138 yX5_isAct, Cond.instanceMethod yX5_isAct, Cond.selects RX5 yX5_isAct yX5_isAct, Cond.code yX5_isAct cX5_isAct 2 (some .boolean), Cond.fieldLink RX5 62 "WhisperJudgeModel" "many" "I", Cond.methodLink RX5 66 yX5_isIn, Cond.static yX5_isIn, Cond.code yX5_isIn cX5_isIn 3 (some .boolean), Cond.methodLink RX5 141 yX5_sent, Cond.instanceMethod yX5_sent, Cond.selects RX5 yX5_sent yX5_sent, Cond.code yX5_sent cX5_sent 6 (some .int), Cond.fieldLink RX5 19 "WhisperJudgeModel" "clean" "[I", Cond.fieldLink RX5 13 "WhisperJudgeModel" "first" "[I", Cond.methodLink RX5 99 yX5_sends, Cond.instanceMethod yX5_sends, Cond.selects RX5 yX5_sends yX5_sends, Cond.code yX5_sends cX5_sends 4 (some .int), Cond.methodLink RX5 163 yX5_answersOf]
def wsX5_by_r4 : List Cond := [Cond.instanceMethod yX5_answersOf, Cond.selects RX5 yX5_answersOf yX5_answersOf, Cond.code yX5_answersOf cX5_answersOf 6 (some .int), Cond.methodLink RX5 167 yX5_by, Cond.instanceMethod yX5_by, Cond.selects RX5 yX5_by yX5_by]
def wsX5_by : List Cond := .code yX5_by cX5_by 8 (some .int) :: ((wsX5_by_r1 ++ (wsX5_by_r2 ++ (wsX5_by_r3 ++ wsX5_by_r4))) ++ wsX50)
def wsX5_most_r1 : List Cond := [Cond.constantLong RX5 150 (31), Cond.constantLong RX5 152 (1021), Cond.constantLong RX5 154 (4095), Cond.fieldLink RX5 47 "WhisperJudgeModel" "knownIn" "[I", Cond.fieldLink RX5 156 "WhisperJudgeModel" "question" "I", Cond.fieldLink RX5 41 "WhisperJudgeModel" "knownSet" "[J", Cond.fieldLink RX5 44 "WhisperJudgeModel" "knownTick" "[I", Cond.fieldLink RX5 50 "WhisperJudgeModel" "knownMost" "[I", Cond.methodLink RX5 159 yX5_spreads, Cond.instanceMethod yX5_spreads, Cond.selects RX5 yX5_spreads yX5_spreads, Cond.initialized RX5, Cond.code yX5_spreads cX5_spreads 8 (some .long), Cond.methodLink RX5 138 yX5_isAct, Cond.instanceMethod yX5_isAct, Cond.selects RX5 yX5_isAct yX5_isAct, Cond.code yX5_isAct cX5_isAct 2 (some .boolean), Cond.fieldLink RX5 62 "WhisperJudgeModel" "many" "I", Cond.methodLink RX5 66 yX5_isIn, Cond.static yX5_isIn, Cond.code yX5_isIn cX5_isIn 3 (some .boolean), Cond.methodLink RX5 141 yX5_sent, Cond.instanceMethod yX5_sent, Cond.selects RX5 yX5_sent yX5_sent]
def wsX5_most_r2 : List Cond := [Cond.code yX5_sent cX5_sent 6 (some .int), Cond.fieldLink RX5 16 "WhisperJudgeModel" "wall" "[I", Cond.fieldLink RX5 19 "WhisperJudgeModel" "clean" "[I", Cond.fieldLink RX5 13 "WhisperJudgeModel" "first" "[I", Cond.methodLink RX5 132 yX5_part, Cond.static yX5_part, Cond.code yX5_part cX5_part 2 (some .int), Cond.methodLink RX5 99 yX5_sends, Cond.instanceMethod yX5_sends, Cond.selects RX5 yX5_sends yX5_sends, Cond.code yX5_sends cX5_sends 4 (some .int), Cond.methodLink RX5 95 yX5_act, Cond.instanceMethod yX5_act, Cond.selects RX5 yX5_act yX5_act, Cond.code yX5_act cX5_act 6 (some .int), Cond.fieldLink RX5 7 "WhisperJudgeModel" "kind" "[I", Cond.fieldLink RX5 31 "WhisperJudgeModel" "nextOf" "[J", Cond.constantLong RX5 93 (3), Cond.fieldLink RX5 35 "WhisperJudgeModel" "answerOf" "[J", Cond.methodLink RX5 135 yX5_with, Cond.static yX5_with, Cond.code yX5_with cX5_with 3 (some .int), Cond.methodLink RX5 163 yX5_answersOf, Cond.instanceMethod yX5_answersOf]
def wsX5_most_r3 : List Cond := [Cond.selects RX5 yX5_answersOf yX5_answersOf, Cond.code yX5_answersOf cX5_answersOf 6 (some .int), Cond.methodLink RX5 144 yX5_told, Cond.instanceMethod yX5_told, Cond.selects RX5 yX5_told yX5_told, Cond.code yX5_told cX5_told 3 (some .int), Cond.methodLink RX5 106 yX5_answers, Cond.instanceMethod yX5_answers, Cond.selects RX5 yX5_answers yX5_answers, Cond.code yX5_answers cX5_answers 5 (some .int), Cond.fieldLink RX5 22 "WhisperJudgeModel" "pad" "[I", Cond.methodLink RX5 167 yX5_by, Cond.instanceMethod yX5_by, Cond.selects RX5 yX5_by yX5_by, Cond.code yX5_by cX5_by 8 (some .int), Cond.methodLink RX5 171 yX5_parts, Cond.instanceMethod yX5_parts, Cond.selects RX5 yX5_parts yX5_parts, Cond.code yX5_parts cX5_parts 8 (some .long), Cond.methodLink RX5 147 yX5_heard, Cond.instanceMethod yX5_heard, Cond.selects RX5 yX5_heard yX5_heard, Cond.code yX5_heard cX5_heard 3 (some .int), Cond.methodLink RX5 109 yX5_hears]
def wsX5_most_r4 : List Cond := [Cond.instanceMethod yX5_hears, Cond.selects RX5 yX5_hears yX5_hears, Cond.code yX5_hears cX5_hears 4 (some .int), Cond.methodLink RX5 175 yX5_most, Cond.instanceMethod yX5_most, Cond.selects RX5 yX5_most yX5_most]
def wsX5_most : List Cond := .code yX5_most cX5_most 11 (some .int) :: ((wsX5_most_r1 ++ (wsX5_most_r2 ++ (wsX5_most_r3 ++ wsX5_most_r4))) ++ wsX50)
def wsX5_letters_r1 : List Cond := [Cond.fieldLink RX5 156 "WhisperJudgeModel" "question" "I", Cond.methodLink RX5 66 yX5_isIn, Cond.static yX5_isIn, Cond.initialized RX5, Cond.code yX5_isIn cX5_isIn 3 (some .boolean), Cond.methodLink RX5 179 yX5_startOf, Cond.instanceMethod yX5_startOf, Cond.selects RX5 yX5_startOf yX5_startOf, Cond.code yX5_startOf cX5_startOf 3 (some .int), Cond.fieldLink RX5 62 "WhisperJudgeModel" "many" "I", Cond.fieldLink RX5 13 "WhisperJudgeModel" "first" "[I", Cond.methodLink RX5 175 yX5_most, Cond.instanceMethod yX5_most, Cond.selects RX5 yX5_most yX5_most, Cond.code yX5_most cX5_most 11 (some .int), Cond.constantLong RX5 150 (31), Cond.constantLong RX5 152 (1021), Cond.constantLong RX5 154 (4095), Cond.fieldLink RX5 47 "WhisperJudgeModel" "knownIn" "[I", Cond.fieldLink RX5 41 "WhisperJudgeModel" "knownSet" "[J", Cond.fieldLink RX5 44 "WhisperJudgeModel" "knownTick" "[I", Cond.fieldLink RX5 50 "WhisperJudgeModel" "knownMost" "[I", Cond.methodLink RX5 159 yX5_spreads, Cond.instanceMethod yX5_spreads]
def wsX5_letters_r2 : List Cond := [Cond.selects RX5 yX5_spreads yX5_spreads, Cond.code yX5_spreads cX5_spreads 8 (some .long), Cond.methodLink RX5 138 yX5_isAct, Cond.instanceMethod yX5_isAct, Cond.selects RX5 yX5_isAct yX5_isAct, Cond.code yX5_isAct cX5_isAct 2 (some .boolean), Cond.methodLink RX5 141 yX5_sent, Cond.instanceMethod yX5_sent, Cond.selects RX5 yX5_sent yX5_sent, Cond.code yX5_sent cX5_sent 6 (some .int), Cond.fieldLink RX5 16 "WhisperJudgeModel" "wall" "[I", Cond.fieldLink RX5 19 "WhisperJudgeModel" "clean" "[I", Cond.methodLink RX5 132 yX5_part, Cond.static yX5_part, Cond.code yX5_part cX5_part 2 (some .int), Cond.methodLink RX5 99 yX5_sends, Cond.instanceMethod yX5_sends, Cond.selects RX5 yX5_sends yX5_sends, Cond.code yX5_sends cX5_sends 4 (some .int), Cond.methodLink RX5 95 yX5_act, Cond.instanceMethod yX5_act, Cond.selects RX5 yX5_act yX5_act, Cond.code yX5_act cX5_act 6 (some .int), Cond.fieldLink RX5 7 "WhisperJudgeModel" "kind" "[I"]
def wsX5_letters_r3 : List Cond := [Cond.fieldLink RX5 31 "WhisperJudgeModel" "nextOf" "[J", Cond.constantLong RX5 93 (3), Cond.fieldLink RX5 35 "WhisperJudgeModel" "answerOf" "[J", Cond.methodLink RX5 135 yX5_with, Cond.static yX5_with, Cond.code yX5_with cX5_with 3 (some .int), Cond.methodLink RX5 163 yX5_answersOf, Cond.instanceMethod yX5_answersOf, Cond.selects RX5 yX5_answersOf yX5_answersOf, Cond.code yX5_answersOf cX5_answersOf 6 (some .int), Cond.methodLink RX5 144 yX5_told, Cond.instanceMethod yX5_told, Cond.selects RX5 yX5_told yX5_told, Cond.code yX5_told cX5_told 3 (some .int), Cond.methodLink RX5 106 yX5_answers, Cond.instanceMethod yX5_answers, Cond.selects RX5 yX5_answers yX5_answers, Cond.code yX5_answers cX5_answers 5 (some .int), Cond.fieldLink RX5 22 "WhisperJudgeModel" "pad" "[I", Cond.methodLink RX5 167 yX5_by, Cond.instanceMethod yX5_by, Cond.selects RX5 yX5_by yX5_by, Cond.code yX5_by cX5_by 8 (some .int), Cond.methodLink RX5 171 yX5_parts]
def wsX5_letters_r4 : List Cond := [Cond.instanceMethod yX5_parts, Cond.selects RX5 yX5_parts yX5_parts, Cond.code yX5_parts cX5_parts 8 (some .long), Cond.methodLink RX5 147 yX5_heard, Cond.instanceMethod yX5_heard, Cond.selects RX5 yX5_heard yX5_heard, Cond.code yX5_heard cX5_heard 3 (some .int), Cond.methodLink RX5 109 yX5_hears, Cond.instanceMethod yX5_hears, Cond.selects RX5 yX5_hears yX5_hears, Cond.code yX5_hears cX5_hears 4 (some .int)]
def wsX5_letters : List Cond := .code yX5_letters cX5_letters 2 (some .int) :: ((wsX5_letters_r1 ++ (wsX5_letters_r2 ++ (wsX5_letters_r3 ++ wsX5_letters_r4))) ++ wsX50)
def wsX5_finds_r1 : List Cond := [Cond.fieldLink RX5 156 "WhisperJudgeModel" "question" "I", Cond.fieldLink RX5 53 "WhisperJudgeModel" "acts" "[I", Cond.fieldLink RX5 56 "WhisperJudgeModel" "said" "[I", Cond.methodLink RX5 179 yX5_startOf, Cond.instanceMethod yX5_startOf, Cond.selects RX5 yX5_startOf yX5_startOf, Cond.initialized RX5, Cond.code yX5_startOf cX5_startOf 3 (some .int), Cond.fieldLink RX5 62 "WhisperJudgeModel" "many" "I", Cond.fieldLink RX5 13 "WhisperJudgeModel" "first" "[I", Cond.methodLink RX5 159 yX5_spreads, Cond.instanceMethod yX5_spreads, Cond.selects RX5 yX5_spreads yX5_spreads, Cond.code yX5_spreads cX5_spreads 8 (some .long), Cond.methodLink RX5 138 yX5_isAct, Cond.instanceMethod yX5_isAct, Cond.selects RX5 yX5_isAct yX5_isAct, Cond.code yX5_isAct cX5_isAct 2 (some .boolean), Cond.methodLink RX5 66 yX5_isIn, Cond.static yX5_isIn, Cond.code yX5_isIn cX5_isIn 3 (some .boolean), Cond.methodLink RX5 141 yX5_sent, Cond.instanceMethod yX5_sent, Cond.selects RX5 yX5_sent yX5_sent]
def wsX5_finds_r2 : List Cond := [Cond.code yX5_sent cX5_sent 6 (some .int), Cond.fieldLink RX5 16 "WhisperJudgeModel" "wall" "[I", Cond.fieldLink RX5 19 "WhisperJudgeModel" "clean" "[I", Cond.methodLink RX5 132 yX5_part, Cond.static yX5_part, Cond.code yX5_part cX5_part 2 (some .int), Cond.methodLink RX5 99 yX5_sends, Cond.instanceMethod yX5_sends, Cond.selects RX5 yX5_sends yX5_sends, Cond.code yX5_sends cX5_sends 4 (some .int), Cond.methodLink RX5 95 yX5_act, Cond.instanceMethod yX5_act, Cond.selects RX5 yX5_act yX5_act, Cond.code yX5_act cX5_act 6 (some .int), Cond.fieldLink RX5 7 "WhisperJudgeModel" "kind" "[I", Cond.fieldLink RX5 31 "WhisperJudgeModel" "nextOf" "[J", Cond.constantLong RX5 93 (3), Cond.fieldLink RX5 35 "WhisperJudgeModel" "answerOf" "[J", Cond.methodLink RX5 135 yX5_with, Cond.static yX5_with, Cond.code yX5_with cX5_with 3 (some .int), Cond.methodLink RX5 175 yX5_most, Cond.instanceMethod yX5_most, Cond.selects RX5 yX5_most yX5_most]
def wsX5_finds_r3 : List Cond := [Cond.code yX5_most cX5_most 11 (some .int), Cond.constantLong RX5 150 (31), Cond.constantLong RX5 152 (1021), Cond.constantLong RX5 154 (4095), Cond.fieldLink RX5 47 "WhisperJudgeModel" "knownIn" "[I", Cond.fieldLink RX5 41 "WhisperJudgeModel" "knownSet" "[J", Cond.fieldLink RX5 44 "WhisperJudgeModel" "knownTick" "[I", Cond.fieldLink RX5 50 "WhisperJudgeModel" "knownMost" "[I", Cond.methodLink RX5 163 yX5_answersOf, Cond.instanceMethod yX5_answersOf, Cond.selects RX5 yX5_answersOf yX5_answersOf, Cond.code yX5_answersOf cX5_answersOf 6 (some .int), Cond.methodLink RX5 144 yX5_told, Cond.instanceMethod yX5_told, Cond.selects RX5 yX5_told yX5_told, Cond.code yX5_told cX5_told 3 (some .int), Cond.methodLink RX5 106 yX5_answers, Cond.instanceMethod yX5_answers, Cond.selects RX5 yX5_answers yX5_answers, Cond.code yX5_answers cX5_answers 5 (some .int), Cond.fieldLink RX5 22 "WhisperJudgeModel" "pad" "[I", Cond.methodLink RX5 167 yX5_by, Cond.instanceMethod yX5_by, Cond.selects RX5 yX5_by yX5_by]
def wsX5_finds_r4 : List Cond := [Cond.code yX5_by cX5_by 8 (some .int), Cond.methodLink RX5 171 yX5_parts, Cond.instanceMethod yX5_parts, Cond.selects RX5 yX5_parts yX5_parts, Cond.code yX5_parts cX5_parts 8 (some .long), Cond.methodLink RX5 147 yX5_heard, Cond.instanceMethod yX5_heard, Cond.selects RX5 yX5_heard yX5_heard, Cond.code yX5_heard cX5_heard 3 (some .int), Cond.methodLink RX5 109 yX5_hears, Cond.instanceMethod yX5_hears, Cond.selects RX5 yX5_hears yX5_hears, Cond.code yX5_hears cX5_hears 4 (some .int)]
def wsX5_finds : List Cond := .code yX5_finds cX5_finds 12 (some .boolean) :: ((wsX5_finds_r1 ++ (wsX5_finds_r2 ++ (wsX5_finds_r3 ++ wsX5_finds_r4))) ++ wsX50)
def wsX5_leads_r1 : List Cond := [Cond.fieldLink RX5 53 "WhisperJudgeModel" "acts" "[I", Cond.fieldLink RX5 56 "WhisperJudgeModel" "said" "[I", Cond.fieldLink RX5 59 "WhisperJudgeModel" "wish" "[I", Cond.methodLink RX5 138 yX5_isAct, Cond.instanceMethod yX5_isAct, Cond.selects RX5 yX5_isAct yX5_isAct, Cond.initialized RX5, Cond.code yX5_isAct cX5_isAct 2 (some .boolean), Cond.fieldLink RX5 62 "WhisperJudgeModel" "many" "I", Cond.methodLink RX5 66 yX5_isIn, Cond.static yX5_isIn, Cond.code yX5_isIn cX5_isIn 3 (some .boolean), Cond.methodLink RX5 141 yX5_sent, Cond.instanceMethod yX5_sent, Cond.selects RX5 yX5_sent yX5_sent, Cond.code yX5_sent cX5_sent 6 (some .int), Cond.fieldLink RX5 16 "WhisperJudgeModel" "wall" "[I", Cond.fieldLink RX5 19 "WhisperJudgeModel" "clean" "[I", Cond.fieldLink RX5 13 "WhisperJudgeModel" "first" "[I", Cond.methodLink RX5 132 yX5_part, Cond.static yX5_part, Cond.code yX5_part cX5_part 2 (some .int), Cond.methodLink RX5 99 yX5_sends, Cond.instanceMethod yX5_sends]
def wsX5_leads_r2 : List Cond := [Cond.selects RX5 yX5_sends yX5_sends, Cond.code yX5_sends cX5_sends 4 (some .int), Cond.methodLink RX5 95 yX5_act, Cond.instanceMethod yX5_act, Cond.selects RX5 yX5_act yX5_act, Cond.code yX5_act cX5_act 6 (some .int), Cond.fieldLink RX5 7 "WhisperJudgeModel" "kind" "[I", Cond.fieldLink RX5 31 "WhisperJudgeModel" "nextOf" "[J", Cond.constantLong RX5 93 (3), Cond.fieldLink RX5 35 "WhisperJudgeModel" "answerOf" "[J", Cond.methodLink RX5 135 yX5_with, Cond.static yX5_with, Cond.code yX5_with cX5_with 3 (some .int), Cond.methodLink RX5 144 yX5_told, Cond.instanceMethod yX5_told, Cond.selects RX5 yX5_told yX5_told, Cond.code yX5_told cX5_told 3 (some .int), Cond.methodLink RX5 106 yX5_answers, Cond.instanceMethod yX5_answers, Cond.selects RX5 yX5_answers yX5_answers, Cond.code yX5_answers cX5_answers 5 (some .int), Cond.fieldLink RX5 22 "WhisperJudgeModel" "pad" "[I", Cond.methodLink RX5 147 yX5_heard, Cond.instanceMethod yX5_heard]
def wsX5_leads_r3 : List Cond := [Cond.selects RX5 yX5_heard yX5_heard, Cond.code yX5_heard cX5_heard 3 (some .int), Cond.methodLink RX5 109 yX5_hears, Cond.instanceMethod yX5_hears, Cond.selects RX5 yX5_hears yX5_hears, Cond.code yX5_hears cX5_hears 4 (some .int), Cond.methodLink RX5 182 yX5_leads, Cond.instanceMethod yX5_leads, Cond.selects RX5 yX5_leads yX5_leads]
def wsX5_leads : List Cond := .code yX5_leads cX5_leads 6 (some .boolean) :: ((wsX5_leads_r1 ++ (wsX5_leads_r2 ++ wsX5_leads_r3)) ++ wsX50)
def wsX5_letter_r1 : List Cond := [Cond.fieldLink RX5 53 "WhisperJudgeModel" "acts" "[I", Cond.fieldLink RX5 56 "WhisperJudgeModel" "said" "[I", Cond.fieldLink RX5 59 "WhisperJudgeModel" "wish" "[I", Cond.methodLink RX5 66 yX5_isIn, Cond.static yX5_isIn, Cond.initialized RX5, Cond.code yX5_isIn cX5_isIn 3 (some .boolean), Cond.methodLink RX5 185 yX5_finds, Cond.instanceMethod yX5_finds, Cond.selects RX5 yX5_finds yX5_finds, Cond.code yX5_finds cX5_finds 12 (some .boolean), Cond.fieldLink RX5 156 "WhisperJudgeModel" "question" "I", Cond.methodLink RX5 179 yX5_startOf, Cond.instanceMethod yX5_startOf, Cond.selects RX5 yX5_startOf yX5_startOf, Cond.code yX5_startOf cX5_startOf 3 (some .int), Cond.fieldLink RX5 62 "WhisperJudgeModel" "many" "I", Cond.fieldLink RX5 13 "WhisperJudgeModel" "first" "[I", Cond.methodLink RX5 159 yX5_spreads, Cond.instanceMethod yX5_spreads, Cond.selects RX5 yX5_spreads yX5_spreads, Cond.code yX5_spreads cX5_spreads 8 (some .long), Cond.methodLink RX5 138 yX5_isAct, Cond.instanceMethod yX5_isAct]
def wsX5_letter_r2 : List Cond := [Cond.selects RX5 yX5_isAct yX5_isAct, Cond.code yX5_isAct cX5_isAct 2 (some .boolean), Cond.methodLink RX5 141 yX5_sent, Cond.instanceMethod yX5_sent, Cond.selects RX5 yX5_sent yX5_sent, Cond.code yX5_sent cX5_sent 6 (some .int), Cond.fieldLink RX5 16 "WhisperJudgeModel" "wall" "[I", Cond.fieldLink RX5 19 "WhisperJudgeModel" "clean" "[I", Cond.methodLink RX5 132 yX5_part, Cond.static yX5_part, Cond.code yX5_part cX5_part 2 (some .int), Cond.methodLink RX5 99 yX5_sends, Cond.instanceMethod yX5_sends, Cond.selects RX5 yX5_sends yX5_sends, Cond.code yX5_sends cX5_sends 4 (some .int), Cond.methodLink RX5 95 yX5_act, Cond.instanceMethod yX5_act, Cond.selects RX5 yX5_act yX5_act, Cond.code yX5_act cX5_act 6 (some .int), Cond.fieldLink RX5 7 "WhisperJudgeModel" "kind" "[I", Cond.fieldLink RX5 31 "WhisperJudgeModel" "nextOf" "[J", Cond.constantLong RX5 93 (3), Cond.fieldLink RX5 35 "WhisperJudgeModel" "answerOf" "[J", Cond.methodLink RX5 135 yX5_with]
def wsX5_letter_r3 : List Cond := [Cond.static yX5_with, Cond.code yX5_with cX5_with 3 (some .int), Cond.methodLink RX5 175 yX5_most, Cond.instanceMethod yX5_most, Cond.selects RX5 yX5_most yX5_most, Cond.code yX5_most cX5_most 11 (some .int), Cond.constantLong RX5 150 (31), Cond.constantLong RX5 152 (1021), Cond.constantLong RX5 154 (4095), Cond.fieldLink RX5 47 "WhisperJudgeModel" "knownIn" "[I", Cond.fieldLink RX5 41 "WhisperJudgeModel" "knownSet" "[J", Cond.fieldLink RX5 44 "WhisperJudgeModel" "knownTick" "[I", Cond.fieldLink RX5 50 "WhisperJudgeModel" "knownMost" "[I", Cond.methodLink RX5 163 yX5_answersOf, Cond.instanceMethod yX5_answersOf, Cond.selects RX5 yX5_answersOf yX5_answersOf, Cond.code yX5_answersOf cX5_answersOf 6 (some .int), Cond.methodLink RX5 144 yX5_told, Cond.instanceMethod yX5_told, Cond.selects RX5 yX5_told yX5_told, Cond.code yX5_told cX5_told 3 (some .int), Cond.methodLink RX5 106 yX5_answers, Cond.instanceMethod yX5_answers, Cond.selects RX5 yX5_answers yX5_answers]
def wsX5_letter_r4 : List Cond := [Cond.code yX5_answers cX5_answers 5 (some .int), Cond.fieldLink RX5 22 "WhisperJudgeModel" "pad" "[I", Cond.methodLink RX5 167 yX5_by, Cond.instanceMethod yX5_by, Cond.selects RX5 yX5_by yX5_by, Cond.code yX5_by cX5_by 8 (some .int), Cond.methodLink RX5 171 yX5_parts, Cond.instanceMethod yX5_parts, Cond.selects RX5 yX5_parts yX5_parts, Cond.code yX5_parts cX5_parts 8 (some .long), Cond.methodLink RX5 147 yX5_heard, Cond.instanceMethod yX5_heard, Cond.selects RX5 yX5_heard yX5_heard, Cond.code yX5_heard cX5_heard 3 (some .int), Cond.methodLink RX5 109 yX5_hears, Cond.instanceMethod yX5_hears, Cond.selects RX5 yX5_hears yX5_hears, Cond.code yX5_hears cX5_hears 4 (some .int), Cond.methodLink RX5 182 yX5_leads, Cond.instanceMethod yX5_leads, Cond.selects RX5 yX5_leads yX5_leads, Cond.code yX5_leads cX5_leads 6 (some .boolean)]
def wsX5_letter : List Cond := .code yX5_letter cX5_letter 5 (some .int) :: ((wsX5_letter_r1 ++ (wsX5_letter_r2 ++ (wsX5_letter_r3 ++ wsX5_letter_r4))) ++ wsX50)
def wsX5_begin : List Cond := .code yX5_begin cX5_begin 2 none :: ([.fieldLink RX5 188 "WhisperJudgeModel" "ticks" "I", .fieldLink RX5 62 "WhisperJudgeModel" "many" "I", .fieldLink RX5 28 "WhisperJudgeModel" "state" "[I", .fieldLink RX5 13 "WhisperJudgeModel" "first" "[I"] ++ wsX50)
def wsX5_run_r1 : List Cond := [Cond.fieldLink RX5 62 "WhisperJudgeModel" "many" "I", Cond.fieldLink RX5 28 "WhisperJudgeModel" "state" "[I", Cond.fieldLink RX5 188 "WhisperJudgeModel" "ticks" "I", Cond.methodLink RX5 138 yX5_isAct, Cond.instanceMethod yX5_isAct, Cond.selects RX5 yX5_isAct yX5_isAct, Cond.initialized RX5, Cond.code yX5_isAct cX5_isAct 2 (some .boolean), Cond.methodLink RX5 66 yX5_isIn, Cond.static yX5_isIn, Cond.code yX5_isIn cX5_isIn 3 (some .boolean), Cond.methodLink RX5 141 yX5_sent, Cond.instanceMethod yX5_sent, Cond.selects RX5 yX5_sent yX5_sent, Cond.code yX5_sent cX5_sent 6 (some .int), Cond.fieldLink RX5 16 "WhisperJudgeModel" "wall" "[I", Cond.fieldLink RX5 19 "WhisperJudgeModel" "clean" "[I", Cond.fieldLink RX5 13 "WhisperJudgeModel" "first" "[I", Cond.methodLink RX5 132 yX5_part, Cond.static yX5_part, Cond.code yX5_part cX5_part 2 (some .int), Cond.methodLink RX5 99 yX5_sends, Cond.instanceMethod yX5_sends, Cond.selects RX5 yX5_sends yX5_sends]
def wsX5_run_r2 : List Cond := [Cond.code yX5_sends cX5_sends 4 (some .int), Cond.methodLink RX5 95 yX5_act, Cond.instanceMethod yX5_act, Cond.selects RX5 yX5_act yX5_act, Cond.code yX5_act cX5_act 6 (some .int), Cond.fieldLink RX5 7 "WhisperJudgeModel" "kind" "[I", Cond.fieldLink RX5 31 "WhisperJudgeModel" "nextOf" "[J", Cond.constantLong RX5 93 (3), Cond.fieldLink RX5 35 "WhisperJudgeModel" "answerOf" "[J", Cond.methodLink RX5 135 yX5_with, Cond.static yX5_with, Cond.code yX5_with cX5_with 3 (some .int), Cond.methodLink RX5 144 yX5_told, Cond.instanceMethod yX5_told, Cond.selects RX5 yX5_told yX5_told, Cond.code yX5_told cX5_told 3 (some .int), Cond.methodLink RX5 106 yX5_answers, Cond.instanceMethod yX5_answers, Cond.selects RX5 yX5_answers yX5_answers, Cond.code yX5_answers cX5_answers 5 (some .int), Cond.fieldLink RX5 22 "WhisperJudgeModel" "pad" "[I", Cond.methodLink RX5 147 yX5_heard, Cond.instanceMethod yX5_heard, Cond.selects RX5 yX5_heard yX5_heard]
def wsX5_run_r3 : List Cond := [Cond.code yX5_heard cX5_heard 3 (some .int), Cond.methodLink RX5 109 yX5_hears, Cond.instanceMethod yX5_hears, Cond.selects RX5 yX5_hears yX5_hears, Cond.code yX5_hears cX5_hears 4 (some .int)]
def wsX5_run : List Cond := .code yX5_run cX5_run 6 (some .int) :: ((wsX5_run_r1 ++ (wsX5_run_r2 ++ wsX5_run_r3)) ++ wsX50)
def wsX5_state : List Cond := .code yX5_state cX5_state 2 (some .int) :: ([.fieldLink RX5 28 "WhisperJudgeModel" "state" "[I", .methodLink RX5 74 yX5_isThing, .instanceMethod yX5_isThing, .selects RX5 yX5_isThing yX5_isThing, .initialized RX5, .code yX5_isThing cX5_isThing 2 (some .boolean), .fieldLink RX5 62 "WhisperJudgeModel" "many" "I", .methodLink RX5 66 yX5_isIn, .static yX5_isIn, .code yX5_isIn cX5_isIn 3 (some .boolean)] ++ wsX50)
def wsX5_ticks : List Cond := .code yX5_ticks cX5_ticks 1 (some .int) :: ([.fieldLink RX5 188 "WhisperJudgeModel" "ticks" "I"] ++ wsX50)
def wsX5_gives : List Cond := .code yX5_gives cX5_gives 3 none :: ([.fieldLink RX5 62 "WhisperJudgeModel" "many" "I", .fieldLink RX5 16 "WhisperJudgeModel" "wall" "[I"] ++ wsX50)
def wsX5_walls_r1 : List Cond := [Cond.fieldLink RX5 62 "WhisperJudgeModel" "many" "I", Cond.methodLink RX5 66 yX5_isIn, Cond.static yX5_isIn, Cond.initialized RX5, Cond.code yX5_isIn cX5_isIn 3 (some .boolean), Cond.methodLink RX5 86 yX5_wallsNow, Cond.instanceMethod yX5_wallsNow, Cond.selects RX5 yX5_wallsNow yX5_wallsNow, Cond.code yX5_wallsNow cX5_wallsNow 3 (some .int), Cond.fieldLink RX5 16 "WhisperJudgeModel" "wall" "[I", Cond.methodLink RX5 90 yX5_costs, Cond.instanceMethod yX5_costs, Cond.selects RX5 yX5_costs yX5_costs, Cond.code yX5_costs cX5_costs 4 (some .int), Cond.fieldLink RX5 25 "WhisperJudgeModel" "price" "[I", Cond.methodLink RX5 191 yX5_gives, Cond.instanceMethod yX5_gives, Cond.selects RX5 yX5_gives yX5_gives, Cond.code yX5_gives cX5_gives 3 none, Cond.methodLink RX5 194 yX5_letters, Cond.instanceMethod yX5_letters, Cond.selects RX5 yX5_letters yX5_letters, Cond.code yX5_letters cX5_letters 2 (some .int), Cond.fieldLink RX5 156 "WhisperJudgeModel" "question" "I"]
def wsX5_walls_r2 : List Cond := [Cond.methodLink RX5 179 yX5_startOf, Cond.instanceMethod yX5_startOf, Cond.selects RX5 yX5_startOf yX5_startOf, Cond.code yX5_startOf cX5_startOf 3 (some .int), Cond.fieldLink RX5 13 "WhisperJudgeModel" "first" "[I", Cond.methodLink RX5 175 yX5_most, Cond.instanceMethod yX5_most, Cond.selects RX5 yX5_most yX5_most, Cond.code yX5_most cX5_most 11 (some .int), Cond.constantLong RX5 150 (31), Cond.constantLong RX5 152 (1021), Cond.constantLong RX5 154 (4095), Cond.fieldLink RX5 47 "WhisperJudgeModel" "knownIn" "[I", Cond.fieldLink RX5 41 "WhisperJudgeModel" "knownSet" "[J", Cond.fieldLink RX5 44 "WhisperJudgeModel" "knownTick" "[I", Cond.fieldLink RX5 50 "WhisperJudgeModel" "knownMost" "[I", Cond.methodLink RX5 159 yX5_spreads, Cond.instanceMethod yX5_spreads, Cond.selects RX5 yX5_spreads yX5_spreads, Cond.code yX5_spreads cX5_spreads 8 (some .long), Cond.methodLink RX5 138 yX5_isAct, Cond.instanceMethod yX5_isAct, Cond.selects RX5 yX5_isAct yX5_isAct, Cond.code yX5_isAct cX5_isAct 2 (some .boolean)]
def wsX5_walls_r3 : List Cond := [Cond.methodLink RX5 141 yX5_sent, Cond.instanceMethod yX5_sent, Cond.selects RX5 yX5_sent yX5_sent, Cond.code yX5_sent cX5_sent 6 (some .int), Cond.fieldLink RX5 19 "WhisperJudgeModel" "clean" "[I", Cond.methodLink RX5 132 yX5_part, Cond.static yX5_part, Cond.code yX5_part cX5_part 2 (some .int), Cond.methodLink RX5 99 yX5_sends, Cond.instanceMethod yX5_sends, Cond.selects RX5 yX5_sends yX5_sends, Cond.code yX5_sends cX5_sends 4 (some .int), Cond.methodLink RX5 95 yX5_act, Cond.instanceMethod yX5_act, Cond.selects RX5 yX5_act yX5_act, Cond.code yX5_act cX5_act 6 (some .int), Cond.fieldLink RX5 7 "WhisperJudgeModel" "kind" "[I", Cond.fieldLink RX5 31 "WhisperJudgeModel" "nextOf" "[J", Cond.constantLong RX5 93 (3), Cond.fieldLink RX5 35 "WhisperJudgeModel" "answerOf" "[J", Cond.methodLink RX5 135 yX5_with, Cond.static yX5_with, Cond.code yX5_with cX5_with 3 (some .int), Cond.methodLink RX5 163 yX5_answersOf]
def wsX5_walls_r4 : List Cond := [Cond.instanceMethod yX5_answersOf, Cond.selects RX5 yX5_answersOf yX5_answersOf, Cond.code yX5_answersOf cX5_answersOf 6 (some .int), Cond.methodLink RX5 144 yX5_told, Cond.instanceMethod yX5_told, Cond.selects RX5 yX5_told yX5_told, Cond.code yX5_told cX5_told 3 (some .int), Cond.methodLink RX5 106 yX5_answers, Cond.instanceMethod yX5_answers, Cond.selects RX5 yX5_answers yX5_answers, Cond.code yX5_answers cX5_answers 5 (some .int), Cond.fieldLink RX5 22 "WhisperJudgeModel" "pad" "[I", Cond.methodLink RX5 167 yX5_by, Cond.instanceMethod yX5_by, Cond.selects RX5 yX5_by yX5_by, Cond.code yX5_by cX5_by 8 (some .int), Cond.methodLink RX5 171 yX5_parts, Cond.instanceMethod yX5_parts, Cond.selects RX5 yX5_parts yX5_parts, Cond.code yX5_parts cX5_parts 8 (some .long), Cond.methodLink RX5 147 yX5_heard, Cond.instanceMethod yX5_heard, Cond.selects RX5 yX5_heard yX5_heard, Cond.code yX5_heard cX5_heard 3 (some .int)]
def wsX5_walls_r5 : List Cond := [Cond.methodLink RX5 109 yX5_hears, Cond.instanceMethod yX5_hears, Cond.selects RX5 yX5_hears yX5_hears, Cond.code yX5_hears cX5_hears 4 (some .int)]
def wsX5_walls : List Cond := .code yX5_walls cX5_walls 7 (some .int) :: ((wsX5_walls_r1 ++ (wsX5_walls_r2 ++ (wsX5_walls_r3 ++ (wsX5_walls_r4 ++ wsX5_walls_r5)))) ++ wsX50)
def wsX5_give : List Cond := .code yX5_give cX5_give 2 (some .boolean) :: ([.methodLink RX5 66 yX5_isIn, .static yX5_isIn, .initialized RX5, .code yX5_isIn cX5_isIn 3 (some .boolean), .methodLink RX5 191 yX5_gives, .instanceMethod yX5_gives, .selects RX5 yX5_gives yX5_gives, .code yX5_gives cX5_gives 3 none, .fieldLink RX5 62 "WhisperJudgeModel" "many" "I", .fieldLink RX5 16 "WhisperJudgeModel" "wall" "[I"] ++ wsX50)
def wsJ9_max_7cf53 : List Cond := .code yJ9_max_7cf53 cJ9_max_7cf53 2 (some .int) :: ([])
def wsJ9_min_7cf53 : List Cond := .code yJ9_min_7cf53 cJ9_min_7cf53 2 (some .int) :: ([])
def wsL_law_r1 : List Cond := [Cond.classLink RL 7 RX4, Cond.instantiable RX4 7, Cond.initialized RX4, Cond.classLink RL 10 RX5, Cond.instantiable RX5 20, Cond.initialized RX5, Cond.constantLong RL 22 (4294967295), Cond.methodLink RL 9 yX4_init, Cond.instanceMethod yX4_init, Cond.code yX4_init cX4_init 2 none, Cond.methodLink RX4 1 objectInit, Cond.instanceMethod objectInit, Cond.code objectInit ⟨#[0xb1]⟩ 1 none, Cond.classLink RX4 9 RX2, Cond.fieldLink RX4 11 "WhisperJudge" "things" "[LWhisperJudge$Thing;", Cond.classLink RX4 15 RX0, Cond.fieldLink RX4 17 "WhisperJudge" "pairs" "[LWhisperJudge$Pair;", Cond.classLink RX4 21 RX3, Cond.fieldLink RX4 23 "WhisperJudge" "whispers" "[LWhisperJudge$Whisper;", Cond.classLink RX4 27 RX1, Cond.instantiable RX1 7, Cond.initialized RX1, Cond.fieldLink RX4 30 "WhisperJudge" "room" "LWhisperJudge$Room;", Cond.instantiable RX2 9]
def wsL_law_r2 : List Cond := [Cond.initialized RX2, Cond.instantiable RX0 8, Cond.initialized RX0, Cond.instantiable RX3 6, Cond.initialized RX3, Cond.instanceMethod yX1_init, Cond.code yX1_init cX1_init 1 none, Cond.methodLink RX1 3 objectInit, Cond.arrayClass .int, Cond.fieldLink RX1 9 "WhisperJudge$Room" "sentTo" "[I", Cond.fieldLink RX1 15 "WhisperJudge$Room" "heardTo" "[I", Cond.fieldLink RX1 18 "WhisperJudge$Room" "heardAs" "[I", Cond.fieldLink RX1 21 "WhisperJudge$Room" "cleanEach" "[I", Cond.fieldLink RX1 24 "WhisperJudge$Room" "firsts" "[I", Cond.instanceMethod yX2_init, Cond.code yX2_init cX2_init 1 none, Cond.methodLink RX2 3 objectInit, Cond.fieldLink RX2 9 "WhisperJudge$Thing" "prices" "[I", Cond.instanceMethod yX0_init, Cond.code yX0_init cX0_init 1 none, Cond.methodLink RX0 3 objectInit, Cond.fieldLink RX0 11 "WhisperJudge$Pair" "rows" "[I", Cond.fieldLink RX0 15 "WhisperJudge$Pair" "queue" "[I", Cond.fieldLink RX0 18 "WhisperJudge$Pair" "before" "[I"]
def wsL_law_r3 : List Cond := [Cond.fieldLink RX0 21 "WhisperJudge$Pair" "edge" "[I", Cond.fieldLink RX0 24 "WhisperJudge$Pair" "depth" "[I", Cond.fieldLink RX0 27 "WhisperJudge$Pair" "asOf" "I", Cond.methodLink RX4 36 yX3_init, Cond.instanceMethod yX3_init, Cond.code yX3_init cX3_init 2 none, Cond.methodLink RX3 3 objectInit, Cond.fieldLink RX3 11 "WhisperJudge$Whisper" "rows" "[I", Cond.fieldLink RX3 15 "WhisperJudge$Whisper" "acts" "[I", Cond.fieldLink RX3 18 "WhisperJudge$Whisper" "answers" "[I", Cond.fieldLink RX3 21 "WhisperJudge$Whisper" "asOf" "I", Cond.fieldLink RX3 25 "WhisperJudge$Whisper" "n" "I", Cond.methodLink RL 12 yX5_init, Cond.instanceMethod yX5_init, Cond.code yX5_init cX5_init 1 none, Cond.methodLink RX5 1 objectInit, Cond.fieldLink RX5 7 "WhisperJudgeModel" "kind" "[I", Cond.fieldLink RX5 13 "WhisperJudgeModel" "first" "[I", Cond.fieldLink RX5 16 "WhisperJudgeModel" "wall" "[I", Cond.fieldLink RX5 19 "WhisperJudgeModel" "clean" "[I", Cond.fieldLink RX5 22 "WhisperJudgeModel" "pad" "[I", Cond.fieldLink RX5 25 "WhisperJudgeModel" "price" "[I", Cond.fieldLink RX5 28 "WhisperJudgeModel" "state" "[I", Cond.arrayClass .long]
def wsL_law_r4 : List Cond := [Cond.fieldLink RX5 31 "WhisperJudgeModel" "nextOf" "[J", Cond.fieldLink RX5 35 "WhisperJudgeModel" "answerOf" "[J", Cond.fieldLink RX5 38 "WhisperJudgeModel" "ahead" "[I", Cond.fieldLink RX5 41 "WhisperJudgeModel" "knownSet" "[J", Cond.fieldLink RX5 44 "WhisperJudgeModel" "knownTick" "[I", Cond.fieldLink RX5 47 "WhisperJudgeModel" "knownIn" "[I", Cond.fieldLink RX5 50 "WhisperJudgeModel" "knownMost" "[I", Cond.fieldLink RX5 53 "WhisperJudgeModel" "acts" "[I", Cond.fieldLink RX5 56 "WhisperJudgeModel" "said" "[I", Cond.fieldLink RX5 59 "WhisperJudgeModel" "wish" "[I", Cond.methodLink RL 13 yX4_clear, Cond.instanceMethod yX4_clear, Cond.selects RX4 yX4_clear yX4_clear, Cond.code yX4_clear cX4_clear 1 none, Cond.fieldLink RX4 39 "WhisperJudge" "count" "I", Cond.fieldLink RX4 43 "WhisperJudge" "changes" "I", Cond.methodLink RL 16 yX5_clear, Cond.instanceMethod yX5_clear, Cond.selects RX5 yX5_clear yX5_clear, Cond.code yX5_clear cX5_clear 1 none, Cond.fieldLink RX5 62 "WhisperJudgeModel" "many" "I", Cond.methodLink RL 17 yX4_thing, Cond.instanceMethod yX4_thing, Cond.selects RX4 yX4_thing yX4_thing]
def wsL_law_r5 : List Cond := [Cond.code yX4_thing cX4_thing 3 (some .int), Cond.methodLink RX4 46 yX4_come, Cond.instanceMethod yX4_come, Cond.selects RX4 yX4_come yX4_come, Cond.code yX4_come cX4_come 7 (some .int), Cond.methodLink RX4 92 yX4_canBe, Cond.static yX4_canBe, Cond.code yX4_canBe cX4_canBe 2 (some .boolean), Cond.methodLink RX4 151 yX2_come, Cond.instanceMethod yX2_come, Cond.selects RX2 yX2_come yX2_come, Cond.code yX2_come cX2_come 7 none, Cond.fieldLink RX2 15 "WhisperJudge$Thing" "kind" "I", Cond.fieldLink RX2 19 "WhisperJudge$Thing" "first" "I", Cond.fieldLink RX2 22 "WhisperJudge$Thing" "now" "I", Cond.fieldLink RX2 25 "WhisperJudge$Thing" "nexts" "J", Cond.fieldLink RX2 29 "WhisperJudge$Thing" "answers" "J", Cond.fieldLink RX2 32 "WhisperJudge$Thing" "wall" "I", Cond.fieldLink RX2 35 "WhisperJudge$Thing" "cleaned" "I", Cond.fieldLink RX2 38 "WhisperJudge$Thing" "padded" "I", Cond.methodLink RX2 41 yJ7_fill_53178, Cond.static yJ7_fill_53178, Cond.initialized RJ7, Cond.code yJ7_fill_53178 cJ7_fill_53178 4 none]
def wsL_law_r6 : List Cond := [Cond.methodLink RL 21 yX5_thing, Cond.instanceMethod yX5_thing, Cond.selects RX5 yX5_thing yX5_thing, Cond.code yX5_thing cX5_thing 4 (some .int), Cond.methodLink RX5 66 yX5_isIn, Cond.static yX5_isIn, Cond.code yX5_isIn cX5_isIn 3 (some .boolean), Cond.methodLink RX5 70 yX5_comes, Cond.instanceMethod yX5_comes, Cond.selects RX5 yX5_comes yX5_comes, Cond.code yX5_comes cX5_comes 5 (some .int), Cond.methodLink RL 24 yX4_table, Cond.instanceMethod yX4_table, Cond.selects RX4 yX4_table yX4_table, Cond.code yX4_table cX4_table 6 (some .int), Cond.methodLink RL 28 yX5_table, Cond.instanceMethod yX5_table, Cond.selects RX5 yX5_table yX5_table, Cond.code yX5_table cX5_table 7 (some .int), Cond.methodLink RL 29 yX4_wall, Cond.instanceMethod yX4_wall, Cond.selects RX4 yX4_wall yX4_wall, Cond.code yX4_wall cX4_wall 4 (some .boolean), Cond.fieldLink RX4 58 "WhisperJudge$Thing" "wall" "I"]
def wsL_law_r7 : List Cond := [Cond.methodLink RX4 50 yX4_isThing, Cond.instanceMethod yX4_isThing, Cond.selects RX4 yX4_isThing yX4_isThing, Cond.code yX4_isThing cX4_isThing 2 (some .boolean), Cond.methodLink RX4 54 yX4_canHave, Cond.static yX4_canHave, Cond.code yX4_canHave cX4_canHave 2 (some .boolean), Cond.methodLink RX4 61 yX2_keep, Cond.instanceMethod yX2_keep, Cond.selects RX2 yX2_keep yX2_keep, Cond.code yX2_keep cX2_keep 3 none, Cond.methodLink RL 33 yX5_wall, Cond.instanceMethod yX5_wall, Cond.selects RX5 yX5_wall yX5_wall, Cond.code yX5_wall cX5_wall 4 (some .boolean), Cond.methodLink RX5 74 yX5_isThing, Cond.instanceMethod yX5_isThing, Cond.selects RX5 yX5_isThing yX5_isThing, Cond.code yX5_isThing cX5_isThing 2 (some .boolean), Cond.methodLink RX5 78 yX5_isBy, Cond.static yX5_isBy, Cond.code yX5_isBy cX5_isBy 2 (some .boolean), Cond.methodLink RL 34 yX4_set, Cond.instanceMethod yX4_set]
def wsL_law_r8 : List Cond := [Cond.selects RX4 yX4_set yX4_set, Cond.code yX4_set cX4_set 4 (some .boolean), Cond.methodLink RL 37 yX5_set, Cond.instanceMethod yX5_set, Cond.selects RX5 yX5_set yX5_set, Cond.code yX5_set cX5_set 4 (some .boolean), Cond.methodLink RL 38 yX4_price, Cond.instanceMethod yX4_price, Cond.selects RX4 yX4_price yX4_price, Cond.code yX4_price cX4_price 4 (some .boolean), Cond.fieldLink RX4 65 "WhisperJudge$Thing" "prices" "[I", Cond.methodLink RL 41 yX5_price, Cond.instanceMethod yX5_price, Cond.selects RX5 yX5_price yX5_price, Cond.code yX5_price cX5_price 4 (some .boolean), Cond.methodLink RL 42 yX4_look, Cond.instanceMethod yX4_look, Cond.selects RX4 yX4_look yX4_look, Cond.code yX4_look cX4_look 2 (some .int), Cond.methodLink RX4 69 yX4_countSilent, Cond.instanceMethod yX4_countSilent, Cond.selects RX4 yX4_countSilent yX4_countSilent, Cond.code yX4_countSilent cX4_countSilent 3 (some .int), Cond.fieldLink RX4 106 "WhisperJudge$Pair" "length" "I"]
def wsL_law_r9 : List Cond := [Cond.methodLink RX4 102 yX4_pairOf, Cond.instanceMethod yX4_pairOf, Cond.selects RX4 yX4_pairOf yX4_pairOf, Cond.code yX4_pairOf cX4_pairOf 3 (some (.object "WhisperJudge$Pair")), Cond.fieldLink RX4 154 "WhisperJudge$Pair" "asOf" "I", Cond.methodLink RX4 73 yX4_wallsNow, Cond.instanceMethod yX4_wallsNow, Cond.selects RX4 yX4_wallsNow yX4_wallsNow, Cond.code yX4_wallsNow cX4_wallsNow 3 (some .int), Cond.methodLink RX4 133 yX1_build, Cond.instanceMethod yX1_build, Cond.selects RX1 yX1_build yX1_build, Cond.code yX1_build cX1_build 6 none, Cond.fieldLink RX1 27 "WhisperJudge$Room" "acts" "I", Cond.fieldLink RX1 31 "WhisperJudge$Room" "start" "J", Cond.fieldLink RX1 35 "WhisperJudge$Thing" "first" "I", Cond.fieldLink RX1 44 "WhisperJudge$Thing" "cleaned" "I", Cond.static yX4_wallIn, Cond.code yX4_wallIn cX4_wallIn 2 (some .int), Cond.methodLink RX1 47 yX1_buildAct, Cond.instanceMethod yX1_buildAct, Cond.selects RX1 yX1_buildAct yX1_buildAct, Cond.code yX1_buildAct cX1_buildAct 7 none, Cond.fieldLink RX1 61 "WhisperJudge$Thing" "padded" "I"]
def wsL_law_r10 : List Cond := [Cond.methodLink RX1 64 Lib.Math.min.name, Cond.static Lib.Math.min.name, Cond.initialized "java/lang/Math", Cond.code Lib.Math.min.name Lib.Math.min.code 2 (some .int), Cond.methodLink RX1 51 yX2_answer, Cond.instanceMethod yX2_answer, Cond.selects RX2 yX2_answer yX2_answer, Cond.code yX2_answer cX2_answer 4 (some .int), Cond.methodLink RX2 47 yX2_told, Cond.static yX2_told, Cond.code yX2_told cX2_told 5 (some .int), Cond.methodLink RX2 55 yX2_answerByKind, Cond.instanceMethod yX2_answerByKind, Cond.selects RX2 yX2_answerByKind yX2_answerByKind, Cond.code yX2_answerByKind cX2_answerByKind 4 (some .int), Cond.methodLink RX1 55 yX1_place, Cond.static yX1_place, Cond.code yX1_place cX1_place 2 (some .int), Cond.methodLink RX1 58 yX2_next, Cond.instanceMethod yX2_next, Cond.selects RX2 yX2_next yX2_next, Cond.code yX2_next cX2_next 4 (some .int), Cond.methodLink RX2 51 yX2_nextByKind, Cond.instanceMethod yX2_nextByKind]
def wsL_law_r11 : List Cond := [Cond.selects RX2 yX2_nextByKind yX2_nextByKind, Cond.code yX2_nextByKind cX2_nextByKind 4 (some .int), Cond.methodLink RX2 58 Lib.Math.min.name, Cond.methodLink RX2 64 Lib.Math.max.name, Cond.static Lib.Math.max.name, Cond.code Lib.Math.max.name Lib.Math.max.code 2 (some .int), Cond.methodLink RX4 157 yX0_find, Cond.instanceMethod yX0_find, Cond.selects RX0 yX0_find yX0_find, Cond.code yX0_find cX0_find 4 none, Cond.fieldLink RX0 31 "WhisperJudge$Pair" "length" "I", Cond.fieldLink RX0 34 "WhisperJudge$Pair" "queued" "I", Cond.methodLink RX0 37 yJ7_fill_53178, Cond.methodLink RX0 48 yX0_node, Cond.static yX0_node, Cond.code yX0_node cX0_node 3 (some .int), Cond.methodLink RX0 52 yX0_reach, Cond.instanceMethod yX0_reach, Cond.selects RX0 yX0_reach yX0_reach, Cond.code yX0_reach cX0_reach 4 none, Cond.methodLink RX0 56 yX0_goOn, Cond.instanceMethod yX0_goOn, Cond.selects RX0 yX0_goOn yX0_goOn, Cond.code yX0_goOn cX0_goOn 12 none]
def wsL_law_r12 : List Cond := [Cond.methodLink RX0 60 yX1_met, Cond.instanceMethod yX1_met, Cond.selects RX1 yX1_met yX1_met, Cond.code yX1_met cX1_met 5 (some .int), Cond.methodLink RX1 69 yX1_isCleaned, Cond.instanceMethod yX1_isCleaned, Cond.selects RX1 yX1_isCleaned yX1_isCleaned, Cond.code yX1_isCleaned cX1_isCleaned 3 (some .boolean), Cond.methodLink RX0 64 yX1_answer, Cond.instanceMethod yX1_answer, Cond.selects RX1 yX1_answer yX1_answer, Cond.code yX1_answer cX1_answer 4 (some .int), Cond.methodLink RX0 67 yX0_write, Cond.instanceMethod yX0_write, Cond.selects RX0 yX0_write yX0_write, Cond.code yX0_write cX0_write 7 none, Cond.methodLink RX0 77 yX0_number, Cond.static yX0_number, Cond.code yX0_number cX0_number 2 (some .int), Cond.methodLink RX0 70 yX1_left, Cond.instanceMethod yX1_left, Cond.selects RX1 yX1_left yX1_left, Cond.code yX1_left cX1_left 4 (some .int), Cond.methodLink RX0 73 yX1_period]
def wsL_law_r13 : List Cond := [Cond.instanceMethod yX1_period, Cond.selects RX1 yX1_period yX1_period, Cond.code yX1_period cX1_period 2 (some .int), Cond.methodLink RX4 76 yX4_sumOf, Cond.instanceMethod yX4_sumOf, Cond.selects RX4 yX4_sumOf yX4_sumOf, Cond.code yX4_sumOf cX4_sumOf 4 (some .int), Cond.methodLink RX4 148 yX4_wallIn, Cond.methodLink RL 46 yX5_look, Cond.instanceMethod yX5_look, Cond.selects RX5 yX5_look yX5_look, Cond.code yX5_look cX5_look 4 (some .int), Cond.methodLink RX5 82 yX5_silent, Cond.instanceMethod yX5_silent, Cond.selects RX5 yX5_silent yX5_silent, Cond.code yX5_silent cX5_silent 2 (some .int), Cond.methodLink RX5 126 yX5_shortest, Cond.instanceMethod yX5_shortest, Cond.selects RX5 yX5_shortest yX5_shortest, Cond.code yX5_shortest cX5_shortest 3 (some .int), Cond.methodLink RX5 122 yX5_looksAhead, Cond.instanceMethod yX5_looksAhead, Cond.selects RX5 yX5_looksAhead yX5_looksAhead, Cond.code yX5_looksAhead cX5_looksAhead 6 none]
def wsL_law_r14 : List Cond := [Cond.methodLink RX5 112 yX5_phases, Cond.instanceMethod yX5_phases, Cond.selects RX5 yX5_phases yX5_phases, Cond.code yX5_phases cX5_phases 2 (some .int), Cond.methodLink RX5 118 yX5_after, Cond.instanceMethod yX5_after, Cond.selects RX5 yX5_after yX5_after, Cond.code yX5_after cX5_after 10 (some .int), Cond.methodLink RX5 99 yX5_sends, Cond.instanceMethod yX5_sends, Cond.selects RX5 yX5_sends yX5_sends, Cond.code yX5_sends cX5_sends 4 (some .int), Cond.methodLink RX5 95 yX5_act, Cond.instanceMethod yX5_act, Cond.selects RX5 yX5_act yX5_act, Cond.code yX5_act cX5_act 6 (some .int), Cond.constantLong RX5 93 (3), Cond.methodLink RX5 103 yX5_cleans, Cond.instanceMethod yX5_cleans, Cond.selects RX5 yX5_cleans yX5_cleans, Cond.code yX5_cleans cX5_cleans 4 (some .int), Cond.methodLink RX5 106 yX5_answers, Cond.instanceMethod yX5_answers, Cond.selects RX5 yX5_answers yX5_answers]
def wsL_law_r15 : List Cond := [Cond.code yX5_answers cX5_answers 5 (some .int), Cond.methodLink RX5 109 yX5_hears, Cond.instanceMethod yX5_hears, Cond.selects RX5 yX5_hears yX5_hears, Cond.code yX5_hears cX5_hears 4 (some .int), Cond.methodLink RX5 115 yX5_at, Cond.instanceMethod yX5_at, Cond.selects RX5 yX5_at yX5_at, Cond.code yX5_at cX5_at 4 (some .int), Cond.methodLink RX5 86 yX5_wallsNow, Cond.instanceMethod yX5_wallsNow, Cond.selects RX5 yX5_wallsNow yX5_wallsNow, Cond.code yX5_wallsNow cX5_wallsNow 3 (some .int), Cond.methodLink RX5 90 yX5_costs, Cond.instanceMethod yX5_costs, Cond.selects RX5 yX5_costs yX5_costs, Cond.code yX5_costs cX5_costs 4 (some .int), Cond.methodLink RL 47 yX4_of, Cond.instanceMethod yX4_of, Cond.selects RX4 yX4_of yX4_of, Cond.code yX4_of cX4_of 3 (some .int), Cond.fieldLink RX4 80 "WhisperJudge$Thing" "kind" "I", Cond.fieldLink RX4 83 "WhisperJudge$Thing" "first" "I", Cond.fieldLink RX4 86 "WhisperJudge$Thing" "cleaned" "I"]
def wsL_law_r16 : List Cond := [Cond.fieldLink RX4 89 "WhisperJudge$Thing" "padded" "I", Cond.methodLink RL 50 yX5_of, Cond.instanceMethod yX5_of, Cond.selects RX5 yX5_of yX5_of, Cond.code yX5_of cX5_of 3 (some .int), Cond.methodLink RL 51 yX4_does, Cond.instanceMethod yX4_does, Cond.selects RX4 yX4_does yX4_does, Cond.code yX4_does cX4_does 6 (some .int), Cond.methodLink RX4 95 yX2_next, Cond.methodLink RX4 99 yX2_answer, Cond.methodLink RL 55 yX5_does, Cond.instanceMethod yX5_does, Cond.selects RX5 yX5_does yX5_does, Cond.code yX5_does cX5_does 7 (some .int), Cond.methodLink RL 56 yX4_silent, Cond.instanceMethod yX4_silent, Cond.selects RX4 yX4_silent yX4_silent, Cond.code yX4_silent cX4_silent 2 (some .int), Cond.methodLink RL 59 yX5_silent, Cond.methodLink RL 60 yX4_shown, Cond.instanceMethod yX4_shown, Cond.selects RX4 yX4_shown yX4_shown, Cond.code yX4_shown cX4_shown 2 (some .int)]
def wsL_law_r17 : List Cond := [Cond.methodLink RL 63 yX5_shown, Cond.instanceMethod yX5_shown, Cond.selects RX5 yX5_shown yX5_shown, Cond.code yX5_shown cX5_shown 2 (some .int), Cond.methodLink RL 64 yX4_show, Cond.instanceMethod yX4_show, Cond.selects RX4 yX4_show yX4_show, Cond.code yX4_show cX4_show 4 (some .int), Cond.fieldLink RX4 109 "WhisperJudge$Pair" "rows" "[I", Cond.methodLink RL 68 yX5_show, Cond.instanceMethod yX5_show, Cond.selects RX5 yX5_show yX5_show, Cond.code yX5_show cX5_show 13 (some .int), Cond.methodLink RX5 129 yX5_named, Cond.static yX5_named, Cond.code yX5_named cX5_named 2 (some .int), Cond.methodLink RL 69 yX4_letters, Cond.instanceMethod yX4_letters, Cond.selects RX4 yX4_letters yX4_letters, Cond.code yX4_letters cX4_letters 2 (some .int), Cond.fieldLink RX4 116 "WhisperJudge$Whisper" "many" "I", Cond.methodLink RX4 112 yX4_whisperOf, Cond.instanceMethod yX4_whisperOf, Cond.selects RX4 yX4_whisperOf yX4_whisperOf]
def wsL_law_r18 : List Cond := [Cond.code yX4_whisperOf cX4_whisperOf 3 (some (.object "WhisperJudge$Whisper")), Cond.fieldLink RX4 161 "WhisperJudge$Whisper" "asOf" "I", Cond.fieldLink RX4 162 "WhisperJudge$Room" "start" "J", Cond.static yX3_grow, Cond.code yX3_grow cX3_grow 11 none, Cond.fieldLink RX3 31 "WhisperJudge$Room" "acts" "I", Cond.methodLink RX3 28 yX3_addLetter, Cond.instanceMethod yX3_addLetter, Cond.selects RX3 yX3_addLetter yX3_addLetter, Cond.code yX3_addLetter cX3_addLetter 2 none, Cond.fieldLink RX3 54 "WhisperJudge$Whisper" "many" "I", Cond.methodLink RX3 57 yX3_place, Cond.static yX3_place, Cond.code yX3_place cX3_place 2 (some .int), Cond.methodLink RX3 35 yX1_sent, Cond.instanceMethod yX1_sent, Cond.selects RX1 yX1_sent yX1_sent, Cond.code yX1_sent cX1_sent 12 (some .long), Cond.methodLink RX1 73 yX1_moved, Cond.static yX1_moved, Cond.code yX1_moved cX1_moved 7 (some .long), Cond.constantLong RX1 77 (1229782938247303441), Cond.constantLong RX1 79 (4222189076152335), Cond.constantLong RX1 81 (65535)]
def wsL_law_r19 : List Cond := [Cond.static yX4_mostBy, Cond.code yX4_mostBy cX4_mostBy 9 (some .int), Cond.methodLink RX4 194 yX1_answers, Cond.instanceMethod yX1_answers, Cond.selects RX1 yX1_answers yX1_answers, Cond.code yX1_answers cX1_answers 6 (some .int), Cond.methodLink RX4 198 yJ6_bitCount_0f7a4, Cond.static yJ6_bitCount_0f7a4, Cond.initialized RJ6, Cond.code yJ6_bitCount_0f7a4 cJ6_bitCount_0f7a4 1 (some .int), Cond.constant RJ6 265 (1431655765), Cond.constant RJ6 266 (858993459), Cond.constant RJ6 267 (252645135), Cond.methodLink RX4 203 yX1_heard, Cond.instanceMethod yX1_heard, Cond.selects RX1 yX1_heard yX1_heard, Cond.code yX1_heard cX1_heard 8 (some .long), Cond.methodLink RX4 174 yX4_most, Cond.static yX4_most, Cond.code yX4_most cX4_most 9 (some .int), Cond.fieldLink RX4 178 "WhisperJudge$Room" "acts" "I", Cond.methodLink RX4 189 Lib.Math.max.name, Cond.methodLink RX4 181 yX1_sent, Cond.methodLink RX4 185 yX4_mostBy]
def wsL_law_r20 : List Cond := [Cond.methodLink RX3 43 yX1_answers, Cond.methodLink RX3 46 yX1_heard, Cond.methodLink RX3 50 yX3_grow, Cond.methodLink RX4 170 yX3_addSenders, Cond.instanceMethod yX3_addSenders, Cond.selects RX3 yX3_addSenders yX3_addSenders, Cond.code yX3_addSenders cX3_addSenders 7 none, Cond.fieldLink RX3 61 "WhisperJudge$Room" "start" "J", Cond.methodLink RX3 65 yX3_step, Cond.instanceMethod yX3_step, Cond.selects RX3 yX3_step yX3_step, Cond.code yX3_step cX3_step 7 (some .long), Cond.methodLink RX3 69 yX3_leads, Cond.instanceMethod yX3_leads, Cond.selects RX3 yX3_leads yX3_leads, Cond.code yX3_leads cX3_leads 9 (some .boolean), Cond.methodLink RL 72 yX5_letters, Cond.instanceMethod yX5_letters, Cond.selects RX5 yX5_letters yX5_letters, Cond.code yX5_letters cX5_letters 2 (some .int), Cond.fieldLink RX5 156 "WhisperJudgeModel" "question" "I", Cond.methodLink RX5 179 yX5_startOf, Cond.instanceMethod yX5_startOf, Cond.selects RX5 yX5_startOf yX5_startOf]
def wsL_law_r21 : List Cond := [Cond.code yX5_startOf cX5_startOf 3 (some .int), Cond.methodLink RX5 175 yX5_most, Cond.instanceMethod yX5_most, Cond.selects RX5 yX5_most yX5_most, Cond.code yX5_most cX5_most 11 (some .int), Cond.constantLong RX5 150 (31), Cond.constantLong RX5 152 (1021), Cond.constantLong RX5 154 (4095), Cond.methodLink RX5 159 yX5_spreads, Cond.instanceMethod yX5_spreads, Cond.selects RX5 yX5_spreads yX5_spreads, Cond.code yX5_spreads cX5_spreads 8 (some .long), Cond.methodLink RX5 138 yX5_isAct, Cond.instanceMethod yX5_isAct, Cond.selects RX5 yX5_isAct yX5_isAct, Cond.code yX5_isAct cX5_isAct 2 (some .boolean), Cond.methodLink RX5 141 yX5_sent, Cond.instanceMethod yX5_sent, Cond.selects RX5 yX5_sent yX5_sent, Cond.code yX5_sent cX5_sent 6 (some .int), Cond.methodLink RX5 132 yX5_part, Cond.static yX5_part, Cond.code yX5_part cX5_part 2 (some .int), Cond.methodLink RX5 135 yX5_with]
def wsL_law_r22 : List Cond := [Cond.static yX5_with, Cond.code yX5_with cX5_with 3 (some .int), Cond.methodLink RX5 163 yX5_answersOf, Cond.instanceMethod yX5_answersOf, Cond.selects RX5 yX5_answersOf yX5_answersOf, Cond.code yX5_answersOf cX5_answersOf 6 (some .int), Cond.methodLink RX5 144 yX5_told, Cond.instanceMethod yX5_told, Cond.selects RX5 yX5_told yX5_told, Cond.code yX5_told cX5_told 3 (some .int), Cond.methodLink RX5 167 yX5_by, Cond.instanceMethod yX5_by, Cond.selects RX5 yX5_by yX5_by, Cond.code yX5_by cX5_by 8 (some .int), Cond.methodLink RX5 171 yX5_parts, Cond.instanceMethod yX5_parts, Cond.selects RX5 yX5_parts yX5_parts, Cond.code yX5_parts cX5_parts 8 (some .long), Cond.methodLink RX5 147 yX5_heard, Cond.instanceMethod yX5_heard, Cond.selects RX5 yX5_heard yX5_heard, Cond.code yX5_heard cX5_heard 3 (some .int), Cond.methodLink RL 73 yX4_letter, Cond.instanceMethod yX4_letter]
def wsL_law_r23 : List Cond := [Cond.selects RX4 yX4_letter yX4_letter, Cond.code yX4_letter cX4_letter 5 (some .int), Cond.fieldLink RX4 119 "WhisperJudge$Whisper" "rows" "[I", Cond.methodLink RX4 120 yX3_place, Cond.methodLink RL 77 yX5_letter, Cond.instanceMethod yX5_letter, Cond.selects RX5 yX5_letter yX5_letter, Cond.code yX5_letter cX5_letter 5 (some .int), Cond.methodLink RX5 185 yX5_finds, Cond.instanceMethod yX5_finds, Cond.selects RX5 yX5_finds yX5_finds, Cond.code yX5_finds cX5_finds 12 (some .boolean), Cond.methodLink RX5 182 yX5_leads, Cond.instanceMethod yX5_leads, Cond.selects RX5 yX5_leads yX5_leads, Cond.code yX5_leads cX5_leads 6 (some .boolean), Cond.methodLink RL 78 yX4_begin, Cond.instanceMethod yX4_begin, Cond.selects RX4 yX4_begin yX4_begin, Cond.code yX4_begin cX4_begin 2 none, Cond.fieldLink RX4 124 "WhisperJudge$Thing" "now" "I", Cond.fieldLink RX4 127 "WhisperJudge" "ticks" "I", Cond.methodLink RL 81 yX5_begin, Cond.instanceMethod yX5_begin]
def wsL_law_r24 : List Cond := [Cond.selects RX5 yX5_begin yX5_begin, Cond.code yX5_begin cX5_begin 2 none, Cond.fieldLink RX5 188 "WhisperJudgeModel" "ticks" "I", Cond.methodLink RL 82 yX4_run, Cond.instanceMethod yX4_run, Cond.selects RX4 yX4_run yX4_run, Cond.code yX4_run cX4_run 5 (some .int), Cond.methodLink RX4 130 yX4_isAct, Cond.instanceMethod yX4_isAct, Cond.selects RX4 yX4_isAct yX4_isAct, Cond.code yX4_isAct cX4_isAct 2 (some .boolean), Cond.methodLink RX4 137 yX1_met, Cond.methodLink RX4 141 yX1_answer, Cond.methodLink RX4 142 yX1_left, Cond.methodLink RL 85 yX5_run, Cond.instanceMethod yX5_run, Cond.selects RX5 yX5_run yX5_run, Cond.code yX5_run cX5_run 6 (some .int), Cond.methodLink RL 86 yX4_state, Cond.instanceMethod yX4_state, Cond.selects RX4 yX4_state yX4_state, Cond.code yX4_state cX4_state 2 (some .int), Cond.methodLink RL 89 yX5_state, Cond.instanceMethod yX5_state]
def wsL_law_r25 : List Cond := [Cond.selects RX5 yX5_state yX5_state, Cond.code yX5_state cX5_state 2 (some .int), Cond.methodLink RL 90 yX4_ticks, Cond.instanceMethod yX4_ticks, Cond.selects RX4 yX4_ticks yX4_ticks, Cond.code yX4_ticks cX4_ticks 1 (some .int), Cond.methodLink RL 94 yX5_ticks, Cond.instanceMethod yX5_ticks, Cond.selects RX5 yX5_ticks yX5_ticks, Cond.code yX5_ticks cX5_ticks 1 (some .int), Cond.methodLink RL 95 yX4_walls, Cond.instanceMethod yX4_walls, Cond.selects RX4 yX4_walls yX4_walls, Cond.code yX4_walls cX4_walls 7 (some .int), Cond.methodLink RX4 145 yX4_lettersBehind, Cond.instanceMethod yX4_lettersBehind, Cond.selects RX4 yX4_lettersBehind yX4_lettersBehind, Cond.code yX4_lettersBehind cX4_lettersBehind 3 (some .int), Cond.methodLink RL 98 yX5_walls, Cond.instanceMethod yX5_walls, Cond.selects RX5 yX5_walls yX5_walls, Cond.code yX5_walls cX5_walls 7 (some .int), Cond.methodLink RX5 191 yX5_gives, Cond.instanceMethod yX5_gives]
def wsL_law_r26 : List Cond := [Cond.selects RX5 yX5_gives yX5_gives, Cond.code yX5_gives cX5_gives 3 none, Cond.methodLink RX5 194 yX5_letters, Cond.methodLink RL 99 yX4_give, Cond.instanceMethod yX4_give, Cond.selects RX4 yX4_give yX4_give, Cond.code yX4_give cX4_give 3 (some .boolean), Cond.methodLink RL 103 yX5_give, Cond.instanceMethod yX5_give, Cond.selects RX5 yX5_give yX5_give, Cond.code yX5_give cX5_give 2 (some .boolean)]
def wsL_law : List Cond := (wsL_law_r1 ++ (wsL_law_r2 ++ (wsL_law_r3 ++ (wsL_law_r4 ++ (wsL_law_r5 ++ (wsL_law_r6 ++ (wsL_law_r7 ++ (wsL_law_r8 ++ (wsL_law_r9 ++ (wsL_law_r10 ++ (wsL_law_r11 ++ (wsL_law_r12 ++ (wsL_law_r13 ++ (wsL_law_r14 ++ (wsL_law_r15 ++ (wsL_law_r16 ++ (wsL_law_r17 ++ (wsL_law_r18 ++ (wsL_law_r19 ++ (wsL_law_r20 ++ (wsL_law_r21 ++ (wsL_law_r22 ++ (wsL_law_r23 ++ (wsL_law_r24 ++ (wsL_law_r25 ++ wsL_law_r26))))))))))))))))))))))))) ++ wsX40 ++ wsX50 ++ wsX10 ++ wsX20 ++ wsX00 ++ wsX30 ++ ([] : List Cond)

set_option maxRecDepth 20000 in
theorem wl_r1 : GoodIn lw_tbl wsL_law_r1 := goodIn_r _ [56, 57, 47, 510, 511, 52, 787, 58, 59, 60, 61, 62, 63, 64, 207, 66, 208, 68, 209, 70, 71, 48, 210, 104] (by decide +kernel) (by decide +kernel)
set_option maxRecDepth 20000 in
theorem wl_r2 : GoodIn lw_tbl wsL_law_r2 := goodIn_r _ [49, 147, 50, 180, 51, 73, 74, 75, 103, 76, 77, 78, 79, 80, 106, 107, 108, 109, 149, 150, 151, 152, 154, 155] (by decide +kernel) (by decide +kernel)
set_option maxRecDepth 20000 in
theorem wl_r3 : GoodIn lw_tbl wsL_law_r3 := goodIn_r _ [156, 157, 161, 181, 182, 183, 184, 185, 187, 188, 192, 189, 512, 513, 514, 515, 517, 518, 519, 520, 521, 522, 523, 577] (by decide +kernel) (by decide +kernel)
set_option maxRecDepth 20000 in
theorem wl_r4 : GoodIn lw_tbl wsL_law_r4 := goodIn_r _ [524, 525, 527, 528, 529, 530, 531, 533, 534, 535, 229, 230, 231, 232, 211, 213, 578, 579, 580, 581, 516, 233, 234, 235] (by decide +kernel) (by decide +kernel)
set_option maxRecDepth 20000 in
theorem wl_r5 : GoodIn lw_tbl wsL_law_r5 := goodIn_r _ [236, 237, 239, 0, 240, 241, 242, 243, 244, 245, 246, 247, 111, 113, 124, 126, 127, 116, 118, 121, 248, 249, 53, 250] (by decide +kernel) (by decide +kernel)
set_option maxRecDepth 20000 in
theorem wl_r6 : GoodIn lw_tbl wsL_law_r6 := goodIn_r _ [582, 583, 584, 585, 586, 587, 588, 589, 591, 19, 592, 251, 252, 253, 254, 593, 594, 595, 596, 255, 256, 257, 258, 117] (by decide +kernel) (by decide +kernel)
set_option maxRecDepth 20000 in
theorem wl_r7 : GoodIn lw_tbl wsL_law_r7 := goodIn_r _ [259, 261, 1, 262, 263, 264, 265, 266, 267, 268, 269, 597, 598, 599, 600, 601, 603, 20, 604, 605, 606, 607, 270, 271] (by decide +kernel) (by decide +kernel)
set_option maxRecDepth 20000 in
theorem wl_r8 : GoodIn lw_tbl wsL_law_r8 := goodIn_r _ [272, 273, 608, 609, 610, 611, 274, 275, 276, 277, 110, 612, 613, 614, 615, 278, 279, 280, 281, 282, 284, 2, 285, 160] (by decide +kernel) (by decide +kernel)
set_option maxRecDepth 20000 in
theorem wl_r9 : GoodIn lw_tbl wsL_law_r9 := goodIn_r _ [286, 288, 3, 289, 162, 290, 292, 4, 293, 294, 295, 296, 297, 82, 85, 114, 119, 299, 300, 301, 303, 5, 304, 122] (by decide +kernel) (by decide +kernel)
set_option maxRecDepth 20000 in
theorem wl_r10 : GoodIn lw_tbl wsL_law_r10 := goodIn_r _ [333, 328, 54, 329, 305, 306, 307, 308, 309, 310, 311, 312, 314, 6, 315, 316, 317, 318, 319, 320, 321, 322, 323, 325] (by decide +kernel) (by decide +kernel)
set_option maxRecDepth 20000 in
theorem wl_r11 : GoodIn lw_tbl wsL_law_r11 := goodIn_r _ [7, 326, 327, 330, 331, 332, 334, 335, 336, 337, 159, 158, 338, 339, 340, 341, 342, 344, 8, 345, 346, 348, 9, 349] (by decide +kernel) (by decide +kernel)
set_option maxRecDepth 20000 in
theorem wl_r12 : GoodIn lw_tbl wsL_law_r12 := goodIn_r _ [350, 351, 352, 353, 354, 356, 10, 357, 358, 359, 360, 361, 362, 364, 11, 365, 366, 367, 368, 369, 370, 371, 372, 373] (by decide +kernel) (by decide +kernel)
set_option maxRecDepth 20000 in
theorem wl_r13 : GoodIn lw_tbl wsL_law_r13 := goodIn_r _ [374, 375, 376, 377, 379, 12, 380, 381, 616, 617, 618, 619, 620, 621, 622, 623, 624, 626, 21, 627, 628, 630, 22, 631] (by decide +kernel) (by decide +kernel)
set_option maxRecDepth 20000 in
theorem wl_r14 : GoodIn lw_tbl wsL_law_r14 := goodIn_r _ [632, 634, 23, 635, 636, 638, 24, 639, 640, 642, 25, 643, 644, 646, 26, 647, 648, 649, 651, 27, 652, 653, 655, 28] (by decide +kernel) (by decide +kernel)
set_option maxRecDepth 20000 in
theorem wl_r15 : GoodIn lw_tbl wsL_law_r15 := goodIn_r _ [656, 657, 659, 29, 660, 661, 663, 30, 664, 665, 667, 31, 668, 669, 671, 32, 672, 382, 383, 384, 385, 112, 115, 120] (by decide +kernel) (by decide +kernel)
set_option maxRecDepth 20000 in
theorem wl_r16 : GoodIn lw_tbl wsL_law_r16 := goodIn_r _ [123, 673, 674, 675, 676, 386, 387, 388, 389, 390, 391, 677, 678, 679, 680, 392, 393, 394, 395, 681, 396, 397, 398, 399] (by decide +kernel) (by decide +kernel)
set_option maxRecDepth 20000 in
theorem wl_r17 : GoodIn lw_tbl wsL_law_r17 := goodIn_r _ [682, 683, 684, 685, 400, 401, 402, 403, 153, 686, 687, 688, 689, 690, 691, 692, 404, 405, 406, 407, 191, 408, 410, 13] (by decide +kernel) (by decide +kernel)
set_option maxRecDepth 20000 in
theorem wl_r18 : GoodIn lw_tbl wsL_law_r18 := goodIn_r _ [411, 193, 87, 413, 414, 83, 415, 417, 14, 418, 190, 419, 420, 421, 422, 423, 424, 425, 426, 427, 428, 429, 430, 431] (by decide +kernel) (by decide +kernel)
set_option maxRecDepth 20000 in
theorem wl_r19 : GoodIn lw_tbl wsL_law_r19 := goodIn_r _ [433, 434, 435, 436, 437, 438, 439, 440, 55, 441, 442, 443, 444, 445, 446, 447, 448, 449, 450, 451, 84, 454, 452, 453] (by decide +kernel) (by decide +kernel)
set_option maxRecDepth 20000 in
theorem wl_r20 : GoodIn lw_tbl wsL_law_r20 := goodIn_r _ [455, 456, 457, 458, 459, 460, 461, 86, 462, 464, 15, 465, 466, 468, 16, 469, 693, 694, 695, 696, 532, 697, 699, 33] (by decide +kernel) (by decide +kernel)
set_option maxRecDepth 20000 in
theorem wl_r21 : GoodIn lw_tbl wsL_law_r21 := goodIn_r _ [700, 701, 703, 34, 704, 705, 706, 707, 708, 710, 35, 711, 712, 714, 36, 715, 716, 718, 37, 719, 720, 721, 722, 723] (by decide +kernel) (by decide +kernel)
set_option maxRecDepth 20000 in
theorem wl_r22 : GoodIn lw_tbl wsL_law_r22 := goodIn_r _ [724, 725, 726, 728, 38, 729, 730, 732, 39, 733, 734, 736, 40, 737, 738, 740, 41, 741, 742, 744, 42, 745, 470, 471] (by decide +kernel) (by decide +kernel)
set_option maxRecDepth 20000 in
theorem wl_r23 : GoodIn lw_tbl wsL_law_r23 := goodIn_r _ [472, 473, 186, 474, 746, 747, 748, 749, 750, 752, 43, 753, 754, 756, 44, 757, 475, 476, 477, 478, 125, 212, 758, 759] (by decide +kernel) (by decide +kernel)
set_option maxRecDepth 20000 in
theorem wl_r24 : GoodIn lw_tbl wsL_law_r24 := goodIn_r _ [760, 761, 526, 479, 480, 481, 482, 483, 485, 17, 486, 487, 488, 489, 762, 763, 764, 765, 490, 491, 492, 493, 766, 767] (by decide +kernel) (by decide +kernel)
set_option maxRecDepth 20000 in
theorem wl_r25 : GoodIn lw_tbl wsL_law_r25 := goodIn_r _ [768, 769, 494, 495, 496, 497, 770, 771, 772, 773, 498, 499, 500, 501, 502, 504, 18, 505, 774, 775, 776, 777, 778, 780] (by decide +kernel) (by decide +kernel)
set_option maxRecDepth 20000 in
theorem wl_r26 : GoodIn lw_tbl wsL_law_r26 := goodIn_r _ [45, 781, 782, 506, 507, 508, 509, 783, 784, 785, 786] (by decide +kernel) (by decide +kernel)
set_option maxRecDepth 20000 in
theorem wl_X0 : GoodIn lw_tbl wsX00 := goodIn_r _ [163, 165, 167, 169, 171, 173, 175, 177] (by decide +kernel) (by decide +kernel)
set_option maxRecDepth 20000 in
theorem wl_X1 : GoodIn lw_tbl wsX10 := goodIn_r _ [88, 90, 92, 94, 96, 98, 100] (by decide +kernel) (by decide +kernel)
set_option maxRecDepth 20000 in
theorem wl_X2 : GoodIn lw_tbl wsX20 := goodIn_r _ [128, 130, 132, 134, 136, 138, 140, 142, 144] (by decide +kernel) (by decide +kernel)
set_option maxRecDepth 20000 in
theorem wl_X3 : GoodIn lw_tbl wsX30 := goodIn_r _ [194, 196, 198, 200, 202, 204] (by decide +kernel) (by decide +kernel)
set_option maxRecDepth 20000 in
theorem wl_X4 : GoodIn lw_tbl wsX40 := goodIn_r _ [214, 216, 218, 220, 222, 224, 226] (by decide +kernel) (by decide +kernel)
set_option maxRecDepth 20000 in
theorem wl_X5 : GoodIn lw_tbl wsX50 := goodIn_r _ [536, 538, 540, 542, 544, 546, 548, 550, 552, 554, 556, 558, 560, 562, 564, 566, 568, 570, 572, 574] (by decide +kernel) (by decide +kernel)
theorem wsL_law_good : GoodIn lw_tbl wsL_law := (goodIn_app (goodIn_app (goodIn_app (goodIn_app (goodIn_app (goodIn_app (goodIn_app (goodIn_app wl_r1 (goodIn_app wl_r2 (goodIn_app wl_r3 (goodIn_app wl_r4 (goodIn_app wl_r5 (goodIn_app wl_r6 (goodIn_app wl_r7 (goodIn_app wl_r8 (goodIn_app wl_r9 (goodIn_app wl_r10 (goodIn_app wl_r11 (goodIn_app wl_r12 (goodIn_app wl_r13 (goodIn_app wl_r14 (goodIn_app wl_r15 (goodIn_app wl_r16 (goodIn_app wl_r17 (goodIn_app wl_r18 (goodIn_app wl_r19 (goodIn_app wl_r20 (goodIn_app wl_r21 (goodIn_app wl_r22 (goodIn_app wl_r23 (goodIn_app wl_r24 (goodIn_app wl_r25 (wl_r26)))))))))))))))))))))))))) wl_X4) wl_X5) wl_X1) wl_X2) wl_X0) wl_X3) (fun w h => absurd h List.not_mem_nil))
theorem wsL_law_in : ∀ w ∈ wsL_law, w ∈ lw_tbl := fun w h => (wsL_law_good w h).1
theorem inlX0 : ∀ w ∈ wsX00, w ∈ wsL_law := fun _ h => List.mem_append_left _ (List.mem_append_left _ (List.mem_append_right _ h))
theorem inX0 : ∀ w ∈ wsX00, w ∈ lw_tbl := fun w h => wsL_law_in w (inlX0 w h)
theorem inlX1 : ∀ w ∈ wsX10, w ∈ wsL_law := fun _ h => List.mem_append_left _ (List.mem_append_left _ (List.mem_append_left _ (List.mem_append_left _ (List.mem_append_right _ h))))
theorem inX1 : ∀ w ∈ wsX10, w ∈ lw_tbl := fun w h => wsL_law_in w (inlX1 w h)
theorem inlX2 : ∀ w ∈ wsX20, w ∈ wsL_law := fun _ h => List.mem_append_left _ (List.mem_append_left _ (List.mem_append_left _ (List.mem_append_right _ h)))
theorem inX2 : ∀ w ∈ wsX20, w ∈ lw_tbl := fun w h => wsL_law_in w (inlX2 w h)
theorem inlX3 : ∀ w ∈ wsX30, w ∈ wsL_law := fun _ h => List.mem_append_left _ (List.mem_append_right _ h)
theorem inX3 : ∀ w ∈ wsX30, w ∈ lw_tbl := fun w h => wsL_law_in w (inlX3 w h)
theorem inlX4 : ∀ w ∈ wsX40, w ∈ wsL_law := fun _ h => List.mem_append_left _ (List.mem_append_left _ (List.mem_append_left _ (List.mem_append_left _ (List.mem_append_left _ (List.mem_append_left _ (List.mem_append_right _ h))))))
theorem inX4 : ∀ w ∈ wsX40, w ∈ lw_tbl := fun w h => wsL_law_in w (inlX4 w h)
theorem inlX5 : ∀ w ∈ wsX50, w ∈ wsL_law := fun _ h => List.mem_append_left _ (List.mem_append_left _ (List.mem_append_left _ (List.mem_append_left _ (List.mem_append_left _ (List.mem_append_right _ h)))))
theorem inX5 : ∀ w ∈ wsX50, w ∈ lw_tbl := fun w h => wsL_law_in w (inlX5 w h)
theorem inJ6 : ∀ w ∈ wsJ60, w ∈ lw_tbl := by decide +kernel
theorem inJ9 : ∀ w ∈ wsJ90, w ∈ lw_tbl := by decide +kernel
theorem inJ7 : ∀ w ∈ wsJ70, w ∈ lw_tbl := by decide +kernel
abbrev vwCl : List vw_C := [(RX0, TX0, 8), (RX1, TX1, 7), (RX2, TX2, 9), (RX3, TX3, 6), (RX4, TX4, 7), (RX5, TX5, 20)]
end
section
theorem dX0_init_0 : decode cX0_init 0 = .ok (.aload_n 0, 1) := by decide +kernel
theorem dX0_init_1 : decode cX0_init 1 = .ok (.invokespecial 3, 3) := by decide +kernel
theorem dX0_init_4 : decode cX0_init 4 = .ok (.aload_n 0, 1) := by decide +kernel
theorem dX0_init_5 : decode cX0_init 5 = .ok (.sipush 320, 3) := by decide +kernel
theorem dX0_init_8 : decode cX0_init 8 = .ok (.newarray .int, 2) := by decide +kernel
theorem dX0_init_10 : decode cX0_init 10 = .ok (.putfield 11, 3) := by decide +kernel
theorem dX0_init_13 : decode cX0_init 13 = .ok (.aload_n 0, 1) := by decide +kernel
theorem dX0_init_14 : decode cX0_init 14 = .ok (.bipush 64, 2) := by decide +kernel
theorem dX0_init_16 : decode cX0_init 16 = .ok (.newarray .int, 2) := by decide +kernel
theorem dX0_init_18 : decode cX0_init 18 = .ok (.putfield 15, 3) := by decide +kernel
theorem dX0_init_21 : decode cX0_init 21 = .ok (.aload_n 0, 1) := by decide +kernel
theorem dX0_init_22 : decode cX0_init 22 = .ok (.bipush 64, 2) := by decide +kernel
theorem dX0_init_24 : decode cX0_init 24 = .ok (.newarray .int, 2) := by decide +kernel
theorem dX0_init_26 : decode cX0_init 26 = .ok (.putfield 18, 3) := by decide +kernel
theorem dX0_init_29 : decode cX0_init 29 = .ok (.aload_n 0, 1) := by decide +kernel
theorem dX0_init_30 : decode cX0_init 30 = .ok (.bipush 64, 2) := by decide +kernel
theorem dX0_init_32 : decode cX0_init 32 = .ok (.newarray .int, 2) := by decide +kernel
theorem dX0_init_34 : decode cX0_init 34 = .ok (.putfield 21, 3) := by decide +kernel
theorem dX0_init_37 : decode cX0_init 37 = .ok (.aload_n 0, 1) := by decide +kernel
theorem dX0_init_38 : decode cX0_init 38 = .ok (.bipush 64, 2) := by decide +kernel
theorem dX0_init_40 : decode cX0_init 40 = .ok (.newarray .int, 2) := by decide +kernel
theorem dX0_init_42 : decode cX0_init 42 = .ok (.putfield 24, 3) := by decide +kernel
theorem dX0_init_45 : decode cX0_init 45 = .ok (.aload_n 0, 1) := by decide +kernel
theorem dX0_init_46 : decode cX0_init 46 = .ok (.iconst (-1), 1) := by decide +kernel
theorem dX0_init_47 : decode cX0_init 47 = .ok (.putfield 27, 3) := by decide +kernel
theorem dX0_init_50 : decode cX0_init 50 = .ok (.return_, 1) := by decide +kernel
set_option maxRecDepth 20000 in
theorem ggX0_find_J7_fill_53178 : GoodIn wsX0_find wsJ7_fill_53178 := goodIn_r _ [8] (by decide +kernel) (by decide +kernel)
set_option maxRecDepth 20000 in
theorem gX0_find_J7_fill_53178 : GoodIn wsX0_find (va_wsS RX0 37 yJ7_fill_53178 wsJ7_fill_53178) := goodIn_app (goodIn_of _ (by decide +kernel)) ggX0_find_J7_fill_53178
set_option maxRecDepth 20000 in
theorem ggX0_find_X0_node : GoodIn wsX0_find wsX0_node := goodIn_r _ [12] (by decide +kernel) (by decide +kernel)
set_option maxRecDepth 20000 in
theorem gX0_find_X0_node : GoodIn wsX0_find (va_wsS RX0 48 yX0_node wsX0_node) := goodIn_app (goodIn_of _ (by decide +kernel)) ggX0_find_X0_node
set_option maxRecDepth 20000 in
theorem ggX0_find_X0_reach : GoodIn wsX0_find wsX0_reach := goodIn_r _ [16, 3, 2, 17, 18, 4, 60, 61, 62, 63, 64, 65, 66, 67] (by decide +kernel) (by decide +kernel)
set_option maxRecDepth 20000 in
theorem gX0_find_X0_reach : GoodIn wsX0_find (wsV RX0 52 RX0 yX0_reach wsX0_reach) := goodIn_app (goodIn_of _ (by decide +kernel)) ggX0_find_X0_reach
set_option maxRecDepth 20000 in
theorem ggX0_find_X0_goOn : GoodIn wsX0_find wsX0_goOn := goodIn_r _ [22, 1, 23, 24, 25, 26, 27, 28, 29, 30, 31, 32, 33, 34, 35, 36, 37, 38, 39, 40, 41, 42, 43, 44, 45, 11, 46, 3, 47, 18, 17, 48, 49, 50, 51, 52, 53, 54, 55, 56, 57, 58, 59, 9, 10, 12, 13, 14, 15, 16, 2, 4, 60, 61, 62, 63, 64, 65, 66, 67, 68, 69, 70, 71, 72, 73, 74] (by decide +kernel) (by decide +kernel)
set_option maxRecDepth 20000 in
theorem gX0_find_X0_goOn : GoodIn wsX0_find (wsV RX0 56 RX0 yX0_goOn wsX0_goOn) := goodIn_app (goodIn_of _ (by decide +kernel)) ggX0_find_X0_goOn
theorem dX0_find_0 : decode cX0_find 0 = .ok (.aload_n 0, 1) := by decide +kernel
theorem dX0_find_1 : decode cX0_find 1 = .ok (.iconst 0, 1) := by decide +kernel
theorem dX0_find_2 : decode cX0_find 2 = .ok (.putfield 31, 3) := by decide +kernel
theorem dX0_find_5 : decode cX0_find 5 = .ok (.aload_n 0, 1) := by decide +kernel
theorem dX0_find_6 : decode cX0_find 6 = .ok (.iconst 0, 1) := by decide +kernel
theorem dX0_find_7 : decode cX0_find 7 = .ok (.putfield 34, 3) := by decide +kernel
theorem dX0_find_10 : decode cX0_find 10 = .ok (.aload_n 0, 1) := by decide +kernel
theorem dX0_find_11 : decode cX0_find 11 = .ok (.getfield 24, 3) := by decide +kernel
theorem dX0_find_14 : decode cX0_find 14 = .ok (.iconst (-1), 1) := by decide +kernel
theorem dX0_find_15 : decode cX0_find 15 = .ok (.invokestatic 37, 3) := by decide +kernel
theorem dX0_find_18 : decode cX0_find 18 = .ok (.aload_n 0, 1) := by decide +kernel
theorem dX0_find_19 : decode cX0_find 19 = .ok (.aload_n 1, 1) := by decide +kernel
theorem dX0_find_20 : decode cX0_find 20 = .ok (.getfield 43, 3) := by decide +kernel
theorem dX0_find_23 : decode cX0_find 23 = .ok (.iload_n 2, 1) := by decide +kernel
theorem dX0_find_24 : decode cX0_find 24 = .ok (.iaload, 1) := by decide +kernel
theorem dX0_find_25 : decode cX0_find 25 = .ok (.aload_n 1, 1) := by decide +kernel
theorem dX0_find_26 : decode cX0_find 26 = .ok (.getfield 43, 3) := by decide +kernel
theorem dX0_find_29 : decode cX0_find 29 = .ok (.iload_n 2, 1) := by decide +kernel
theorem dX0_find_30 : decode cX0_find 30 = .ok (.iaload, 1) := by decide +kernel
theorem dX0_find_31 : decode cX0_find 31 = .ok (.iconst 0, 1) := by decide +kernel
theorem dX0_find_32 : decode cX0_find 32 = .ok (.invokestatic 48, 3) := by decide +kernel
theorem dX0_find_35 : decode cX0_find 35 = .ok (.iconst (-1), 1) := by decide +kernel
theorem dX0_find_36 : decode cX0_find 36 = .ok (.iconst 0, 1) := by decide +kernel
theorem dX0_find_37 : decode cX0_find 37 = .ok (.invokevirtual 52, 3) := by decide +kernel
theorem dX0_find_40 : decode cX0_find 40 = .ok (.iconst 0, 1) := by decide +kernel
theorem dX0_find_41 : decode cX0_find 41 = .ok (.istore_n 3, 1) := by decide +kernel
theorem dX0_find_42 : decode cX0_find 42 = .ok (.iload_n 3, 1) := by decide +kernel
theorem dX0_find_43 : decode cX0_find 43 = .ok (.aload_n 0, 1) := by decide +kernel
theorem dX0_find_44 : decode cX0_find 44 = .ok (.getfield 34, 3) := by decide +kernel
theorem dX0_find_47 : decode cX0_find 47 = .ok (.if_icmp .ge 28, 3) := by decide +kernel
theorem dX0_find_50 : decode cX0_find 50 = .ok (.aload_n 0, 1) := by decide +kernel
theorem dX0_find_51 : decode cX0_find 51 = .ok (.getfield 31, 3) := by decide +kernel
theorem dX0_find_54 : decode cX0_find 54 = .ok (.ifCond .ne 21, 3) := by decide +kernel
theorem dX0_find_57 : decode cX0_find 57 = .ok (.aload_n 0, 1) := by decide +kernel
theorem dX0_find_58 : decode cX0_find 58 = .ok (.aload_n 1, 1) := by decide +kernel
theorem dX0_find_59 : decode cX0_find 59 = .ok (.iload_n 2, 1) := by decide +kernel
theorem dX0_find_60 : decode cX0_find 60 = .ok (.aload_n 0, 1) := by decide +kernel
theorem dX0_find_61 : decode cX0_find 61 = .ok (.getfield 15, 3) := by decide +kernel
theorem dX0_find_64 : decode cX0_find 64 = .ok (.iload_n 3, 1) := by decide +kernel
theorem dX0_find_65 : decode cX0_find 65 = .ok (.iaload, 1) := by decide +kernel
theorem dX0_find_66 : decode cX0_find 66 = .ok (.invokevirtual 56, 3) := by decide +kernel
theorem dX0_find_69 : decode cX0_find 69 = .ok (.iinc 3 1, 3) := by decide +kernel
theorem dX0_find_72 : decode cX0_find 72 = .ok (.goto (-30), 3) := by decide +kernel
theorem dX0_find_75 : decode cX0_find 75 = .ok (.return_, 1) := by decide +kernel
theorem dX0_node_0 : decode cX0_node 0 = .ok (.iload_n 0, 1) := by decide +kernel
theorem dX0_node_1 : decode cX0_node 1 = .ok (.iconst 4, 1) := by decide +kernel
theorem dX0_node_2 : decode cX0_node 2 = .ok (.ishl, 1) := by decide +kernel
theorem dX0_node_3 : decode cX0_node 3 = .ok (.iload_n 1, 1) := by decide +kernel
theorem dX0_node_4 : decode cX0_node 4 = .ok (.iconst 2, 1) := by decide +kernel
theorem dX0_node_5 : decode cX0_node 5 = .ok (.ishl, 1) := by decide +kernel
theorem dX0_node_6 : decode cX0_node 6 = .ok (.ior, 1) := by decide +kernel
theorem dX0_node_7 : decode cX0_node 7 = .ok (.iload_n 2, 1) := by decide +kernel
theorem dX0_node_8 : decode cX0_node 8 = .ok (.ior, 1) := by decide +kernel
theorem dX0_node_9 : decode cX0_node 9 = .ok (.bipush 63, 2) := by decide +kernel
theorem dX0_node_11 : decode cX0_node 11 = .ok (.iand, 1) := by decide +kernel
theorem dX0_node_12 : decode cX0_node 12 = .ok (.ireturn, 1) := by decide +kernel
theorem dX0_reach_0 : decode cX0_reach 0 = .ok (.aload_n 0, 1) := by decide +kernel
theorem dX0_reach_1 : decode cX0_reach 1 = .ok (.getfield 24, 3) := by decide +kernel
theorem dX0_reach_4 : decode cX0_reach 4 = .ok (.iload_n 1, 1) := by decide +kernel
theorem dX0_reach_5 : decode cX0_reach 5 = .ok (.iaload, 1) := by decide +kernel
theorem dX0_reach_6 : decode cX0_reach 6 = .ok (.iconst (-1), 1) := by decide +kernel
theorem dX0_reach_7 : decode cX0_reach 7 = .ok (.if_icmp .ne 12, 3) := by decide +kernel
theorem dX0_reach_10 : decode cX0_reach 10 = .ok (.aload_n 0, 1) := by decide +kernel
theorem dX0_reach_11 : decode cX0_reach 11 = .ok (.getfield 34, 3) := by decide +kernel
theorem dX0_reach_14 : decode cX0_reach 14 = .ok (.bipush 64, 2) := by decide +kernel
theorem dX0_reach_16 : decode cX0_reach 16 = .ok (.if_icmp .lt 4, 3) := by decide +kernel
theorem dX0_reach_19 : decode cX0_reach 19 = .ok (.return_, 1) := by decide +kernel
theorem dX0_reach_20 : decode cX0_reach 20 = .ok (.aload_n 0, 1) := by decide +kernel
theorem dX0_reach_21 : decode cX0_reach 21 = .ok (.getfield 24, 3) := by decide +kernel
theorem dX0_reach_24 : decode cX0_reach 24 = .ok (.iload_n 1, 1) := by decide +kernel
theorem dX0_reach_25 : decode cX0_reach 25 = .ok (.iload_n 2, 1) := by decide +kernel
theorem dX0_reach_26 : decode cX0_reach 26 = .ok (.iconst (-1), 1) := by decide +kernel
theorem dX0_reach_27 : decode cX0_reach 27 = .ok (.if_icmp .ne 7, 3) := by decide +kernel
theorem dX0_reach_30 : decode cX0_reach 30 = .ok (.iconst 0, 1) := by decide +kernel
theorem dX0_reach_31 : decode cX0_reach 31 = .ok (.goto 11, 3) := by decide +kernel
theorem dX0_reach_34 : decode cX0_reach 34 = .ok (.aload_n 0, 1) := by decide +kernel
theorem dX0_reach_35 : decode cX0_reach 35 = .ok (.getfield 24, 3) := by decide +kernel
theorem dX0_reach_38 : decode cX0_reach 38 = .ok (.iload_n 2, 1) := by decide +kernel
theorem dX0_reach_39 : decode cX0_reach 39 = .ok (.iaload, 1) := by decide +kernel
theorem dX0_reach_40 : decode cX0_reach 40 = .ok (.iconst 1, 1) := by decide +kernel
theorem dX0_reach_41 : decode cX0_reach 41 = .ok (.iadd, 1) := by decide +kernel
theorem dX0_reach_42 : decode cX0_reach 42 = .ok (.iastore, 1) := by decide +kernel
theorem dX0_reach_43 : decode cX0_reach 43 = .ok (.aload_n 0, 1) := by decide +kernel
theorem dX0_reach_44 : decode cX0_reach 44 = .ok (.getfield 18, 3) := by decide +kernel
theorem dX0_reach_47 : decode cX0_reach 47 = .ok (.iload_n 1, 1) := by decide +kernel
theorem dX0_reach_48 : decode cX0_reach 48 = .ok (.iload_n 2, 1) := by decide +kernel
theorem dX0_reach_49 : decode cX0_reach 49 = .ok (.iastore, 1) := by decide +kernel
theorem dX0_reach_50 : decode cX0_reach 50 = .ok (.aload_n 0, 1) := by decide +kernel
theorem dX0_reach_51 : decode cX0_reach 51 = .ok (.getfield 21, 3) := by decide +kernel
theorem dX0_reach_54 : decode cX0_reach 54 = .ok (.iload_n 1, 1) := by decide +kernel
theorem dX0_reach_55 : decode cX0_reach 55 = .ok (.iload_n 3, 1) := by decide +kernel
theorem dX0_reach_56 : decode cX0_reach 56 = .ok (.iastore, 1) := by decide +kernel
theorem dX0_reach_57 : decode cX0_reach 57 = .ok (.aload_n 0, 1) := by decide +kernel
theorem dX0_reach_58 : decode cX0_reach 58 = .ok (.getfield 15, 3) := by decide +kernel
theorem dX0_reach_61 : decode cX0_reach 61 = .ok (.aload_n 0, 1) := by decide +kernel
theorem dX0_reach_62 : decode cX0_reach 62 = .ok (.getfield 34, 3) := by decide +kernel
theorem dX0_reach_65 : decode cX0_reach 65 = .ok (.iload_n 1, 1) := by decide +kernel
theorem dX0_reach_66 : decode cX0_reach 66 = .ok (.iastore, 1) := by decide +kernel
theorem dX0_reach_67 : decode cX0_reach 67 = .ok (.aload_n 0, 1) := by decide +kernel
theorem dX0_reach_68 : decode cX0_reach 68 = .ok (.dup, 1) := by decide +kernel
theorem dX0_reach_69 : decode cX0_reach 69 = .ok (.getfield 34, 3) := by decide +kernel
theorem dX0_reach_72 : decode cX0_reach 72 = .ok (.iconst 1, 1) := by decide +kernel
theorem dX0_reach_73 : decode cX0_reach 73 = .ok (.iadd, 1) := by decide +kernel
theorem dX0_reach_74 : decode cX0_reach 74 = .ok (.putfield 34, 3) := by decide +kernel
theorem dX0_reach_77 : decode cX0_reach 77 = .ok (.return_, 1) := by decide +kernel
set_option maxRecDepth 20000 in
theorem ggX0_goOn_X1_met : GoodIn wsX0_goOn wsX1_met := goodIn_r _ [6, 7, 8, 9, 10, 11, 5, 12, 13, 14, 15, 16, 60, 61, 62, 63, 64, 65, 66] (by decide +kernel) (by decide +kernel)
set_option maxRecDepth 20000 in
theorem gX0_goOn_X1_met : GoodIn wsX0_goOn (wsV RX0 60 RX1 yX1_met wsX1_met) := goodIn_app (goodIn_of _ (by decide +kernel)) ggX0_goOn_X1_met
set_option maxRecDepth 20000 in
theorem ggX0_goOn_X1_answer : GoodIn wsX0_goOn wsX1_answer := goodIn_r _ [20, 21, 14, 15, 5, 16, 60, 61, 62, 63, 64, 65, 66] (by decide +kernel) (by decide +kernel)
set_option maxRecDepth 20000 in
theorem gX0_goOn_X1_answer : GoodIn wsX0_goOn (wsV RX0 64 RX1 yX1_answer wsX1_answer) := goodIn_app (goodIn_of _ (by decide +kernel)) ggX0_goOn_X1_answer
set_option maxRecDepth 20000 in
theorem ggX0_goOn_X0_write : GoodIn wsX0_goOn wsX0_write := goodIn_r _ [26, 27, 1, 28, 29, 30, 31, 32, 25, 33, 52, 53, 54, 55, 56, 57, 58, 59] (by decide +kernel) (by decide +kernel)
set_option maxRecDepth 20000 in
theorem gX0_goOn_X0_write : GoodIn wsX0_goOn (wsV RX0 67 RX0 yX0_write wsX0_write) := goodIn_app (goodIn_of _ (by decide +kernel)) ggX0_goOn_X0_write
set_option maxRecDepth 20000 in
theorem ggX0_goOn_X1_left : GoodIn wsX0_goOn wsX1_left := goodIn_r _ [37, 38, 14, 15, 5, 16, 60, 61, 62, 63, 64, 65, 66] (by decide +kernel) (by decide +kernel)
set_option maxRecDepth 20000 in
theorem gX0_goOn_X1_left : GoodIn wsX0_goOn (wsV RX0 70 RX1 yX1_left wsX1_left) := goodIn_app (goodIn_of _ (by decide +kernel)) ggX0_goOn_X1_left
set_option maxRecDepth 20000 in
theorem ggX0_goOn_X1_period : GoodIn wsX0_goOn wsX1_period := goodIn_r _ [42, 13, 60, 61, 62, 63, 64, 65, 66] (by decide +kernel) (by decide +kernel)
set_option maxRecDepth 20000 in
theorem gX0_goOn_X1_period : GoodIn wsX0_goOn (wsV RX0 73 RX1 yX1_period wsX1_period) := goodIn_app (goodIn_of _ (by decide +kernel)) ggX0_goOn_X1_period
set_option maxRecDepth 20000 in
theorem ggX0_goOn_X0_node : GoodIn wsX0_goOn wsX0_node := goodIn_r _ [45] (by decide +kernel) (by decide +kernel)
set_option maxRecDepth 20000 in
theorem gX0_goOn_X0_node : GoodIn wsX0_goOn (va_wsS RX0 48 yX0_node wsX0_node) := goodIn_app (goodIn_of _ (by decide +kernel)) ggX0_goOn_X0_node
set_option maxRecDepth 20000 in
theorem ggX0_goOn_X0_reach : GoodIn wsX0_goOn wsX0_reach := goodIn_r _ [49, 27, 50, 30, 29, 51, 52, 53, 54, 55, 56, 57, 58, 59] (by decide +kernel) (by decide +kernel)
set_option maxRecDepth 20000 in
theorem gX0_goOn_X0_reach : GoodIn wsX0_goOn (wsV RX0 52 RX0 yX0_reach wsX0_reach) := goodIn_app (goodIn_of _ (by decide +kernel)) ggX0_goOn_X0_reach
theorem dX0_goOn_0 : decode cX0_goOn 0 = .ok (.iload_n 3, 1) := by decide +kernel
theorem dX0_goOn_1 : decode cX0_goOn 1 = .ok (.iconst 3, 1) := by decide +kernel
theorem dX0_goOn_2 : decode cX0_goOn 2 = .ok (.iand, 1) := by decide +kernel
theorem dX0_goOn_3 : decode cX0_goOn 3 = .ok (.istore 4, 2) := by decide +kernel
theorem dX0_goOn_5 : decode cX0_goOn 5 = .ok (.iconst 0, 1) := by decide +kernel
theorem dX0_goOn_6 : decode cX0_goOn 6 = .ok (.istore 5, 2) := by decide +kernel
theorem dX0_goOn_8 : decode cX0_goOn 8 = .ok (.iload 5, 2) := by decide +kernel
theorem dX0_goOn_10 : decode cX0_goOn 10 = .ok (.bipush 64, 2) := by decide +kernel
theorem dX0_goOn_12 : decode cX0_goOn 12 = .ok (.if_icmp .ge 152, 3) := by decide +kernel
theorem dX0_goOn_15 : decode cX0_goOn 15 = .ok (.aload_n 0, 1) := by decide +kernel
theorem dX0_goOn_16 : decode cX0_goOn 16 = .ok (.getfield 31, 3) := by decide +kernel
theorem dX0_goOn_19 : decode cX0_goOn 19 = .ok (.ifCond .ne 145, 3) := by decide +kernel
theorem dX0_goOn_22 : decode cX0_goOn 22 = .ok (.iload 5, 2) := by decide +kernel
theorem dX0_goOn_24 : decode cX0_goOn 24 = .ok (.iconst 3, 1) := by decide +kernel
theorem dX0_goOn_25 : decode cX0_goOn 25 = .ok (.iand, 1) := by decide +kernel
theorem dX0_goOn_26 : decode cX0_goOn 26 = .ok (.istore 6, 2) := by decide +kernel
theorem dX0_goOn_28 : decode cX0_goOn 28 = .ok (.aload_n 1, 1) := by decide +kernel
theorem dX0_goOn_29 : decode cX0_goOn 29 = .ok (.iload_n 2, 1) := by decide +kernel
theorem dX0_goOn_30 : decode cX0_goOn 30 = .ok (.iload_n 3, 1) := by decide +kernel
theorem dX0_goOn_31 : decode cX0_goOn 31 = .ok (.iconst 4, 1) := by decide +kernel
theorem dX0_goOn_32 : decode cX0_goOn 32 = .ok (.ishr, 1) := by decide +kernel
theorem dX0_goOn_33 : decode cX0_goOn 33 = .ok (.iload 5, 2) := by decide +kernel
theorem dX0_goOn_35 : decode cX0_goOn 35 = .ok (.iconst 4, 1) := by decide +kernel
theorem dX0_goOn_36 : decode cX0_goOn 36 = .ok (.ishr, 1) := by decide +kernel
theorem dX0_goOn_37 : decode cX0_goOn 37 = .ok (.iload 4, 2) := by decide +kernel
theorem dX0_goOn_39 : decode cX0_goOn 39 = .ok (.invokevirtual 60, 3) := by decide +kernel
theorem dX0_goOn_42 : decode cX0_goOn 42 = .ok (.istore 7, 2) := by decide +kernel
theorem dX0_goOn_44 : decode cX0_goOn 44 = .ok (.aload_n 1, 1) := by decide +kernel
theorem dX0_goOn_45 : decode cX0_goOn 45 = .ok (.iload_n 2, 1) := by decide +kernel
theorem dX0_goOn_46 : decode cX0_goOn 46 = .ok (.iload_n 3, 1) := by decide +kernel
theorem dX0_goOn_47 : decode cX0_goOn 47 = .ok (.iconst 2, 1) := by decide +kernel
theorem dX0_goOn_48 : decode cX0_goOn 48 = .ok (.ishr, 1) := by decide +kernel
theorem dX0_goOn_49 : decode cX0_goOn 49 = .ok (.iconst 3, 1) := by decide +kernel
theorem dX0_goOn_50 : decode cX0_goOn 50 = .ok (.iand, 1) := by decide +kernel
theorem dX0_goOn_51 : decode cX0_goOn 51 = .ok (.iload 5, 2) := by decide +kernel
theorem dX0_goOn_53 : decode cX0_goOn 53 = .ok (.iconst 2, 1) := by decide +kernel
theorem dX0_goOn_54 : decode cX0_goOn 54 = .ok (.ishr, 1) := by decide +kernel
theorem dX0_goOn_55 : decode cX0_goOn 55 = .ok (.iconst 3, 1) := by decide +kernel
theorem dX0_goOn_56 : decode cX0_goOn 56 = .ok (.iand, 1) := by decide +kernel
theorem dX0_goOn_57 : decode cX0_goOn 57 = .ok (.iload 4, 2) := by decide +kernel
theorem dX0_goOn_59 : decode cX0_goOn 59 = .ok (.invokevirtual 60, 3) := by decide +kernel
theorem dX0_goOn_62 : decode cX0_goOn 62 = .ok (.istore 8, 2) := by decide +kernel
theorem dX0_goOn_64 : decode cX0_goOn 64 = .ok (.aload_n 1, 1) := by decide +kernel
theorem dX0_goOn_65 : decode cX0_goOn 65 = .ok (.iload_n 2, 1) := by decide +kernel
theorem dX0_goOn_66 : decode cX0_goOn 66 = .ok (.iload 7, 2) := by decide +kernel
theorem dX0_goOn_68 : decode cX0_goOn 68 = .ok (.iload 6, 2) := by decide +kernel
theorem dX0_goOn_70 : decode cX0_goOn 70 = .ok (.invokevirtual 64, 3) := by decide +kernel
theorem dX0_goOn_73 : decode cX0_goOn 73 = .ok (.istore 9, 2) := by decide +kernel
theorem dX0_goOn_75 : decode cX0_goOn 75 = .ok (.aload_n 1, 1) := by decide +kernel
theorem dX0_goOn_76 : decode cX0_goOn 76 = .ok (.iload_n 2, 1) := by decide +kernel
theorem dX0_goOn_77 : decode cX0_goOn 77 = .ok (.iload 8, 2) := by decide +kernel
theorem dX0_goOn_79 : decode cX0_goOn 79 = .ok (.iload 6, 2) := by decide +kernel
theorem dX0_goOn_81 : decode cX0_goOn 81 = .ok (.invokevirtual 64, 3) := by decide +kernel
theorem dX0_goOn_84 : decode cX0_goOn 84 = .ok (.istore 10, 2) := by decide +kernel
theorem dX0_goOn_86 : decode cX0_goOn 86 = .ok (.iload 5, 2) := by decide +kernel
theorem dX0_goOn_88 : decode cX0_goOn 88 = .ok (.iload 9, 2) := by decide +kernel
theorem dX0_goOn_90 : decode cX0_goOn 90 = .ok (.bipush 6, 2) := by decide +kernel
theorem dX0_goOn_92 : decode cX0_goOn 92 = .ok (.ishl, 1) := by decide +kernel
theorem dX0_goOn_93 : decode cX0_goOn 93 = .ok (.ior, 1) := by decide +kernel
theorem dX0_goOn_94 : decode cX0_goOn 94 = .ok (.iload 10, 2) := by decide +kernel
theorem dX0_goOn_96 : decode cX0_goOn 96 = .ok (.bipush 8, 2) := by decide +kernel
theorem dX0_goOn_98 : decode cX0_goOn 98 = .ok (.ishl, 1) := by decide +kernel
theorem dX0_goOn_99 : decode cX0_goOn 99 = .ok (.ior, 1) := by decide +kernel
theorem dX0_goOn_100 : decode cX0_goOn 100 = .ok (.istore 11, 2) := by decide +kernel
theorem dX0_goOn_102 : decode cX0_goOn 102 = .ok (.iload 9, 2) := by decide +kernel
theorem dX0_goOn_104 : decode cX0_goOn 104 = .ok (.iload 10, 2) := by decide +kernel
theorem dX0_goOn_106 : decode cX0_goOn 106 = .ok (.if_icmp .eq 14, 3) := by decide +kernel
theorem dX0_goOn_109 : decode cX0_goOn 109 = .ok (.aload_n 0, 1) := by decide +kernel
theorem dX0_goOn_110 : decode cX0_goOn 110 = .ok (.iload_n 2, 1) := by decide +kernel
theorem dX0_goOn_111 : decode cX0_goOn 111 = .ok (.iload_n 3, 1) := by decide +kernel
theorem dX0_goOn_112 : decode cX0_goOn 112 = .ok (.iload 11, 2) := by decide +kernel
theorem dX0_goOn_114 : decode cX0_goOn 114 = .ok (.invokevirtual 67, 3) := by decide +kernel
theorem dX0_goOn_117 : decode cX0_goOn 117 = .ok (.goto 41, 3) := by decide +kernel
theorem dX0_goOn_120 : decode cX0_goOn 120 = .ok (.aload_n 0, 1) := by decide +kernel
theorem dX0_goOn_121 : decode cX0_goOn 121 = .ok (.aload_n 1, 1) := by decide +kernel
theorem dX0_goOn_122 : decode cX0_goOn 122 = .ok (.iload_n 2, 1) := by decide +kernel
theorem dX0_goOn_123 : decode cX0_goOn 123 = .ok (.iload 7, 2) := by decide +kernel
theorem dX0_goOn_125 : decode cX0_goOn 125 = .ok (.iload 6, 2) := by decide +kernel
theorem dX0_goOn_127 : decode cX0_goOn 127 = .ok (.invokevirtual 70, 3) := by decide +kernel
theorem dX0_goOn_130 : decode cX0_goOn 130 = .ok (.aload_n 1, 1) := by decide +kernel
theorem dX0_goOn_131 : decode cX0_goOn 131 = .ok (.iload_n 2, 1) := by decide +kernel
theorem dX0_goOn_132 : decode cX0_goOn 132 = .ok (.iload 8, 2) := by decide +kernel
theorem dX0_goOn_134 : decode cX0_goOn 134 = .ok (.iload 6, 2) := by decide +kernel
theorem dX0_goOn_136 : decode cX0_goOn 136 = .ok (.invokevirtual 70, 3) := by decide +kernel
theorem dX0_goOn_139 : decode cX0_goOn 139 = .ok (.iload 4, 2) := by decide +kernel
theorem dX0_goOn_141 : decode cX0_goOn 141 = .ok (.iconst 1, 1) := by decide +kernel
theorem dX0_goOn_142 : decode cX0_goOn 142 = .ok (.iadd, 1) := by decide +kernel
theorem dX0_goOn_143 : decode cX0_goOn 143 = .ok (.aload_n 1, 1) := by decide +kernel
theorem dX0_goOn_144 : decode cX0_goOn 144 = .ok (.iload_n 2, 1) := by decide +kernel
theorem dX0_goOn_145 : decode cX0_goOn 145 = .ok (.invokevirtual 73, 3) := by decide +kernel
theorem dX0_goOn_148 : decode cX0_goOn 148 = .ok (.irem, 1) := by decide +kernel
theorem dX0_goOn_149 : decode cX0_goOn 149 = .ok (.invokestatic 48, 3) := by decide +kernel
theorem dX0_goOn_152 : decode cX0_goOn 152 = .ok (.iload_n 3, 1) := by decide +kernel
theorem dX0_goOn_153 : decode cX0_goOn 153 = .ok (.iload 11, 2) := by decide +kernel
theorem dX0_goOn_155 : decode cX0_goOn 155 = .ok (.invokevirtual 52, 3) := by decide +kernel
theorem dX0_goOn_158 : decode cX0_goOn 158 = .ok (.iinc 5 1, 3) := by decide +kernel
theorem dX0_goOn_161 : decode cX0_goOn 161 = .ok (.goto (-153), 3) := by decide +kernel
theorem dX0_goOn_164 : decode cX0_goOn 164 = .ok (.return_, 1) := by decide +kernel
set_option maxRecDepth 20000 in
theorem ggX0_write_X0_number : GoodIn wsX0_write wsX0_number := goodIn_r _ [9] (by decide +kernel) (by decide +kernel)
set_option maxRecDepth 20000 in
theorem gX0_write_X0_number : GoodIn wsX0_write (va_wsS RX0 77 yX0_number wsX0_number) := goodIn_app (goodIn_of _ (by decide +kernel)) ggX0_write_X0_number
theorem dX0_write_0 : decode cX0_write 0 = .ok (.aload_n 0, 1) := by decide +kernel
theorem dX0_write_1 : decode cX0_write 1 = .ok (.aload_n 0, 1) := by decide +kernel
theorem dX0_write_2 : decode cX0_write 2 = .ok (.getfield 24, 3) := by decide +kernel
theorem dX0_write_5 : decode cX0_write 5 = .ok (.iload_n 2, 1) := by decide +kernel
theorem dX0_write_6 : decode cX0_write 6 = .ok (.iaload, 1) := by decide +kernel
theorem dX0_write_7 : decode cX0_write 7 = .ok (.iconst 1, 1) := by decide +kernel
theorem dX0_write_8 : decode cX0_write 8 = .ok (.iadd, 1) := by decide +kernel
theorem dX0_write_9 : decode cX0_write 9 = .ok (.putfield 31, 3) := by decide +kernel
theorem dX0_write_12 : decode cX0_write 12 = .ok (.iload_n 2, 1) := by decide +kernel
theorem dX0_write_13 : decode cX0_write 13 = .ok (.istore 4, 2) := by decide +kernel
theorem dX0_write_15 : decode cX0_write 15 = .ok (.iload_n 3, 1) := by decide +kernel
theorem dX0_write_16 : decode cX0_write 16 = .ok (.istore 5, 2) := by decide +kernel
theorem dX0_write_18 : decode cX0_write 18 = .ok (.aload_n 0, 1) := by decide +kernel
theorem dX0_write_19 : decode cX0_write 19 = .ok (.getfield 31, 3) := by decide +kernel
theorem dX0_write_22 : decode cX0_write 22 = .ok (.iconst 1, 1) := by decide +kernel
theorem dX0_write_23 : decode cX0_write 23 = .ok (.isub, 1) := by decide +kernel
theorem dX0_write_24 : decode cX0_write 24 = .ok (.istore 6, 2) := by decide +kernel
theorem dX0_write_26 : decode cX0_write 26 = .ok (.iload 6, 2) := by decide +kernel
theorem dX0_write_28 : decode cX0_write 28 = .ok (.ifCond .lt 128, 3) := by decide +kernel
theorem dX0_write_31 : decode cX0_write 31 = .ok (.iload 4, 2) := by decide +kernel
theorem dX0_write_33 : decode cX0_write 33 = .ok (.iconst (-1), 1) := by decide +kernel
theorem dX0_write_34 : decode cX0_write 34 = .ok (.if_icmp .eq 122, 3) := by decide +kernel
theorem dX0_write_37 : decode cX0_write 37 = .ok (.aload_n 0, 1) := by decide +kernel
theorem dX0_write_38 : decode cX0_write 38 = .ok (.getfield 11, 3) := by decide +kernel
theorem dX0_write_41 : decode cX0_write 41 = .ok (.iconst 5, 1) := by decide +kernel
theorem dX0_write_42 : decode cX0_write 42 = .ok (.iload 6, 2) := by decide +kernel
theorem dX0_write_44 : decode cX0_write 44 = .ok (.imul, 1) := by decide +kernel
theorem dX0_write_45 : decode cX0_write 45 = .ok (.iload_n 1, 1) := by decide +kernel
theorem dX0_write_46 : decode cX0_write 46 = .ok (.iload 5, 2) := by decide +kernel
theorem dX0_write_48 : decode cX0_write 48 = .ok (.iconst 4, 1) := by decide +kernel
theorem dX0_write_49 : decode cX0_write 49 = .ok (.ishr, 1) := by decide +kernel
theorem dX0_write_50 : decode cX0_write 50 = .ok (.iconst 3, 1) := by decide +kernel
theorem dX0_write_51 : decode cX0_write 51 = .ok (.iand, 1) := by decide +kernel
theorem dX0_write_52 : decode cX0_write 52 = .ok (.invokestatic 77, 3) := by decide +kernel
theorem dX0_write_55 : decode cX0_write 55 = .ok (.iastore, 1) := by decide +kernel
theorem dX0_write_56 : decode cX0_write 56 = .ok (.aload_n 0, 1) := by decide +kernel
theorem dX0_write_57 : decode cX0_write 57 = .ok (.getfield 11, 3) := by decide +kernel
theorem dX0_write_60 : decode cX0_write 60 = .ok (.iconst 5, 1) := by decide +kernel
theorem dX0_write_61 : decode cX0_write 61 = .ok (.iload 6, 2) := by decide +kernel
theorem dX0_write_63 : decode cX0_write 63 = .ok (.imul, 1) := by decide +kernel
theorem dX0_write_64 : decode cX0_write 64 = .ok (.iconst 1, 1) := by decide +kernel
theorem dX0_write_65 : decode cX0_write 65 = .ok (.iadd, 1) := by decide +kernel
theorem dX0_write_66 : decode cX0_write 66 = .ok (.iload_n 1, 1) := by decide +kernel
theorem dX0_write_67 : decode cX0_write 67 = .ok (.iload 5, 2) := by decide +kernel
theorem dX0_write_69 : decode cX0_write 69 = .ok (.iconst 2, 1) := by decide +kernel
theorem dX0_write_70 : decode cX0_write 70 = .ok (.ishr, 1) := by decide +kernel
theorem dX0_write_71 : decode cX0_write 71 = .ok (.iconst 3, 1) := by decide +kernel
theorem dX0_write_72 : decode cX0_write 72 = .ok (.iand, 1) := by decide +kernel
theorem dX0_write_73 : decode cX0_write 73 = .ok (.invokestatic 77, 3) := by decide +kernel
theorem dX0_write_76 : decode cX0_write 76 = .ok (.iastore, 1) := by decide +kernel
theorem dX0_write_77 : decode cX0_write 77 = .ok (.aload_n 0, 1) := by decide +kernel
theorem dX0_write_78 : decode cX0_write 78 = .ok (.getfield 11, 3) := by decide +kernel
theorem dX0_write_81 : decode cX0_write 81 = .ok (.iconst 5, 1) := by decide +kernel
theorem dX0_write_82 : decode cX0_write 82 = .ok (.iload 6, 2) := by decide +kernel
theorem dX0_write_84 : decode cX0_write 84 = .ok (.imul, 1) := by decide +kernel
theorem dX0_write_85 : decode cX0_write 85 = .ok (.iconst 2, 1) := by decide +kernel
theorem dX0_write_86 : decode cX0_write 86 = .ok (.iadd, 1) := by decide +kernel
theorem dX0_write_87 : decode cX0_write 87 = .ok (.iload_n 1, 1) := by decide +kernel
theorem dX0_write_88 : decode cX0_write 88 = .ok (.iload 5, 2) := by decide +kernel
theorem dX0_write_90 : decode cX0_write 90 = .ok (.iconst 3, 1) := by decide +kernel
theorem dX0_write_91 : decode cX0_write 91 = .ok (.iand, 1) := by decide +kernel
theorem dX0_write_92 : decode cX0_write 92 = .ok (.invokestatic 77, 3) := by decide +kernel
theorem dX0_write_95 : decode cX0_write 95 = .ok (.iastore, 1) := by decide +kernel
theorem dX0_write_96 : decode cX0_write 96 = .ok (.aload_n 0, 1) := by decide +kernel
theorem dX0_write_97 : decode cX0_write 97 = .ok (.getfield 11, 3) := by decide +kernel
theorem dX0_write_100 : decode cX0_write 100 = .ok (.iconst 5, 1) := by decide +kernel
theorem dX0_write_101 : decode cX0_write 101 = .ok (.iload 6, 2) := by decide +kernel
theorem dX0_write_103 : decode cX0_write 103 = .ok (.imul, 1) := by decide +kernel
theorem dX0_write_104 : decode cX0_write 104 = .ok (.iconst 3, 1) := by decide +kernel
theorem dX0_write_105 : decode cX0_write 105 = .ok (.iadd, 1) := by decide +kernel
theorem dX0_write_106 : decode cX0_write 106 = .ok (.iload 5, 2) := by decide +kernel
theorem dX0_write_108 : decode cX0_write 108 = .ok (.bipush 6, 2) := by decide +kernel
theorem dX0_write_110 : decode cX0_write 110 = .ok (.ishr, 1) := by decide +kernel
theorem dX0_write_111 : decode cX0_write 111 = .ok (.iconst 3, 1) := by decide +kernel
theorem dX0_write_112 : decode cX0_write 112 = .ok (.iand, 1) := by decide +kernel
theorem dX0_write_113 : decode cX0_write 113 = .ok (.iastore, 1) := by decide +kernel
theorem dX0_write_114 : decode cX0_write 114 = .ok (.aload_n 0, 1) := by decide +kernel
theorem dX0_write_115 : decode cX0_write 115 = .ok (.getfield 11, 3) := by decide +kernel
theorem dX0_write_118 : decode cX0_write 118 = .ok (.iconst 5, 1) := by decide +kernel
theorem dX0_write_119 : decode cX0_write 119 = .ok (.iload 6, 2) := by decide +kernel
theorem dX0_write_121 : decode cX0_write 121 = .ok (.imul, 1) := by decide +kernel
theorem dX0_write_122 : decode cX0_write 122 = .ok (.iconst 4, 1) := by decide +kernel
theorem dX0_write_123 : decode cX0_write 123 = .ok (.iadd, 1) := by decide +kernel
theorem dX0_write_124 : decode cX0_write 124 = .ok (.iload 5, 2) := by decide +kernel
theorem dX0_write_126 : decode cX0_write 126 = .ok (.bipush 8, 2) := by decide +kernel
theorem dX0_write_128 : decode cX0_write 128 = .ok (.ishr, 1) := by decide +kernel
theorem dX0_write_129 : decode cX0_write 129 = .ok (.iconst 3, 1) := by decide +kernel
theorem dX0_write_130 : decode cX0_write 130 = .ok (.iand, 1) := by decide +kernel
theorem dX0_write_131 : decode cX0_write 131 = .ok (.iastore, 1) := by decide +kernel
theorem dX0_write_132 : decode cX0_write 132 = .ok (.aload_n 0, 1) := by decide +kernel
theorem dX0_write_133 : decode cX0_write 133 = .ok (.getfield 21, 3) := by decide +kernel
theorem dX0_write_136 : decode cX0_write 136 = .ok (.iload 4, 2) := by decide +kernel
theorem dX0_write_138 : decode cX0_write 138 = .ok (.iaload, 1) := by decide +kernel
theorem dX0_write_139 : decode cX0_write 139 = .ok (.istore 5, 2) := by decide +kernel
theorem dX0_write_141 : decode cX0_write 141 = .ok (.aload_n 0, 1) := by decide +kernel
theorem dX0_write_142 : decode cX0_write 142 = .ok (.getfield 18, 3) := by decide +kernel
theorem dX0_write_145 : decode cX0_write 145 = .ok (.iload 4, 2) := by decide +kernel
theorem dX0_write_147 : decode cX0_write 147 = .ok (.iaload, 1) := by decide +kernel
theorem dX0_write_148 : decode cX0_write 148 = .ok (.istore 4, 2) := by decide +kernel
theorem dX0_write_150 : decode cX0_write 150 = .ok (.iinc 6 (-1), 3) := by decide +kernel
theorem dX0_write_153 : decode cX0_write 153 = .ok (.goto (-127), 3) := by decide +kernel
theorem dX0_write_156 : decode cX0_write 156 = .ok (.return_, 1) := by decide +kernel
theorem dX0_number_0 : decode cX0_number 0 = .ok (.iload_n 1, 1) := by decide +kernel
theorem dX0_number_1 : decode cX0_number 1 = .ok (.iconst 3, 1) := by decide +kernel
theorem dX0_number_2 : decode cX0_number 2 = .ok (.if_icmp .ge 11, 3) := by decide +kernel
theorem dX0_number_5 : decode cX0_number 5 = .ok (.iconst 3, 1) := by decide +kernel
theorem dX0_number_6 : decode cX0_number 6 = .ok (.iload_n 0, 1) := by decide +kernel
theorem dX0_number_7 : decode cX0_number 7 = .ok (.imul, 1) := by decide +kernel
theorem dX0_number_8 : decode cX0_number 8 = .ok (.iload_n 1, 1) := by decide +kernel
theorem dX0_number_9 : decode cX0_number 9 = .ok (.iadd, 1) := by decide +kernel
theorem dX0_number_10 : decode cX0_number 10 = .ok (.goto 5, 3) := by decide +kernel
theorem dX0_number_13 : decode cX0_number 13 = .ok (.bipush 9, 2) := by decide +kernel
theorem dX0_number_15 : decode cX0_number 15 = .ok (.ireturn, 1) := by decide +kernel
theorem dX1_init_0 : decode cX1_init 0 = .ok (.aload_n 0, 1) := by decide +kernel
theorem dX1_init_1 : decode cX1_init 1 = .ok (.invokespecial 3, 3) := by decide +kernel
theorem dX1_init_4 : decode cX1_init 4 = .ok (.aload_n 0, 1) := by decide +kernel
theorem dX1_init_5 : decode cX1_init 5 = .ok (.bipush 36, 2) := by decide +kernel
theorem dX1_init_7 : decode cX1_init 7 = .ok (.newarray .int, 2) := by decide +kernel
theorem dX1_init_9 : decode cX1_init 9 = .ok (.putfield 9, 3) := by decide +kernel
theorem dX1_init_12 : decode cX1_init 12 = .ok (.aload_n 0, 1) := by decide +kernel
theorem dX1_init_13 : decode cX1_init 13 = .ok (.bipush 36, 2) := by decide +kernel
theorem dX1_init_15 : decode cX1_init 15 = .ok (.newarray .int, 2) := by decide +kernel
theorem dX1_init_17 : decode cX1_init 17 = .ok (.putfield 15, 3) := by decide +kernel
theorem dX1_init_20 : decode cX1_init 20 = .ok (.aload_n 0, 1) := by decide +kernel
theorem dX1_init_21 : decode cX1_init 21 = .ok (.bipush 36, 2) := by decide +kernel
theorem dX1_init_23 : decode cX1_init 23 = .ok (.newarray .int, 2) := by decide +kernel
theorem dX1_init_25 : decode cX1_init 25 = .ok (.putfield 18, 3) := by decide +kernel
theorem dX1_init_28 : decode cX1_init 28 = .ok (.aload_n 0, 1) := by decide +kernel
theorem dX1_init_29 : decode cX1_init 29 = .ok (.iconst 3, 1) := by decide +kernel
theorem dX1_init_30 : decode cX1_init 30 = .ok (.newarray .int, 2) := by decide +kernel
theorem dX1_init_32 : decode cX1_init 32 = .ok (.putfield 21, 3) := by decide +kernel
theorem dX1_init_35 : decode cX1_init 35 = .ok (.aload_n 0, 1) := by decide +kernel
theorem dX1_init_36 : decode cX1_init 36 = .ok (.iconst 3, 1) := by decide +kernel
theorem dX1_init_37 : decode cX1_init 37 = .ok (.newarray .int, 2) := by decide +kernel
theorem dX1_init_39 : decode cX1_init 39 = .ok (.putfield 24, 3) := by decide +kernel
theorem dX1_init_42 : decode cX1_init 42 = .ok (.return_, 1) := by decide +kernel
set_option maxRecDepth 20000 in
theorem ggX1_build_X4_wallIn : GoodIn wsX1_build wsX4_wallIn := goodIn_r _ [9] (by decide +kernel) (by decide +kernel)
set_option maxRecDepth 20000 in
theorem gX1_build_X4_wallIn_n40 : GoodIn wsX1_build (wsX4_wallIn) := ggX1_build_X4_wallIn
set_option maxRecDepth 20000 in
theorem ggX1_build_X1_buildAct : GoodIn wsX1_build wsX1_buildAct := goodIn_r _ [14, 15, 16, 17, 18, 19, 20, 21, 22, 23, 24, 25, 26, 27, 28, 29, 30, 31, 32, 33, 34, 35, 36, 37, 38, 13, 39, 40, 41, 42, 43, 44, 45, 46, 47, 48, 49, 50, 51, 52, 53, 54, 55, 56, 57, 58, 59, 60, 61, 62, 63, 64, 65, 66, 67, 68] (by decide +kernel) (by decide +kernel)
set_option maxRecDepth 20000 in
theorem gX1_build_X1_buildAct : GoodIn wsX1_build (wsV RX1 47 RX1 yX1_buildAct wsX1_buildAct) := goodIn_app (goodIn_of _ (by decide +kernel)) ggX1_build_X1_buildAct
theorem dX1_build_0 : decode cX1_build 0 = .ok (.aload_n 0, 1) := by decide +kernel
theorem dX1_build_1 : decode cX1_build 1 = .ok (.iconst 3, 1) := by decide +kernel
theorem dX1_build_2 : decode cX1_build 2 = .ok (.iload_n 2, 1) := by decide +kernel
theorem dX1_build_3 : decode cX1_build 3 = .ok (.imul, 1) := by decide +kernel
theorem dX1_build_4 : decode cX1_build 4 = .ok (.putfield 27, 3) := by decide +kernel
theorem dX1_build_7 : decode cX1_build 7 = .ok (.aload_n 0, 1) := by decide +kernel
theorem dX1_build_8 : decode cX1_build 8 = .ok (.lconst 1, 1) := by decide +kernel
theorem dX1_build_9 : decode cX1_build 9 = .ok (.putfield 31, 3) := by decide +kernel
theorem dX1_build_12 : decode cX1_build 12 = .ok (.iconst 0, 1) := by decide +kernel
theorem dX1_build_13 : decode cX1_build 13 = .ok (.istore 4, 2) := by decide +kernel
theorem dX1_build_15 : decode cX1_build 15 = .ok (.iload 4, 2) := by decide +kernel
theorem dX1_build_17 : decode cX1_build 17 = .ok (.iload_n 2, 1) := by decide +kernel
theorem dX1_build_18 : decode cX1_build 18 = .ok (.if_icmp .ge 105, 3) := by decide +kernel
theorem dX1_build_21 : decode cX1_build 21 = .ok (.aload_n 0, 1) := by decide +kernel
theorem dX1_build_22 : decode cX1_build 22 = .ok (.dup, 1) := by decide +kernel
theorem dX1_build_23 : decode cX1_build 23 = .ok (.getfield 31, 3) := by decide +kernel
theorem dX1_build_26 : decode cX1_build 26 = .ok (.aload_n 1, 1) := by decide +kernel
theorem dX1_build_27 : decode cX1_build 27 = .ok (.iload 4, 2) := by decide +kernel
theorem dX1_build_29 : decode cX1_build 29 = .ok (.aaload, 1) := by decide +kernel
theorem dX1_build_30 : decode cX1_build 30 = .ok (.getfield 35, 3) := by decide +kernel
theorem dX1_build_33 : decode cX1_build 33 = .ok (.iconst 2, 1) := by decide +kernel
theorem dX1_build_34 : decode cX1_build 34 = .ok (.iload 4, 2) := by decide +kernel
theorem dX1_build_36 : decode cX1_build 36 = .ok (.imul, 1) := by decide +kernel
theorem dX1_build_37 : decode cX1_build 37 = .ok (.ishl, 1) := by decide +kernel
theorem dX1_build_38 : decode cX1_build 38 = .ok (.lshl, 1) := by decide +kernel
theorem dX1_build_39 : decode cX1_build 39 = .ok (.putfield 31, 3) := by decide +kernel
theorem dX1_build_42 : decode cX1_build 42 = .ok (.aload_n 0, 1) := by decide +kernel
theorem dX1_build_43 : decode cX1_build 43 = .ok (.getfield 24, 3) := by decide +kernel
theorem dX1_build_46 : decode cX1_build 46 = .ok (.iload 4, 2) := by decide +kernel
theorem dX1_build_48 : decode cX1_build 48 = .ok (.aload_n 1, 1) := by decide +kernel
theorem dX1_build_49 : decode cX1_build 49 = .ok (.iload 4, 2) := by decide +kernel
theorem dX1_build_51 : decode cX1_build 51 = .ok (.aaload, 1) := by decide +kernel
theorem dX1_build_52 : decode cX1_build 52 = .ok (.getfield 35, 3) := by decide +kernel
theorem dX1_build_55 : decode cX1_build 55 = .ok (.iastore, 1) := by decide +kernel
theorem dX1_build_56 : decode cX1_build 56 = .ok (.aload_n 0, 1) := by decide +kernel
theorem dX1_build_57 : decode cX1_build 57 = .ok (.getfield 21, 3) := by decide +kernel
theorem dX1_build_60 : decode cX1_build 60 = .ok (.iload 4, 2) := by decide +kernel
theorem dX1_build_62 : decode cX1_build 62 = .ok (.iload_n 3, 1) := by decide +kernel
theorem dX1_build_63 : decode cX1_build 63 = .ok (.iload 4, 2) := by decide +kernel
theorem dX1_build_65 : decode cX1_build 65 = .ok (.invokestatic 40, 3) := by decide +kernel
theorem dX1_build_68 : decode cX1_build 68 = .ok (.iconst 1, 1) := by decide +kernel
theorem dX1_build_69 : decode cX1_build 69 = .ok (.if_icmp .ne 13, 3) := by decide +kernel
theorem dX1_build_72 : decode cX1_build 72 = .ok (.aload_n 1, 1) := by decide +kernel
theorem dX1_build_73 : decode cX1_build 73 = .ok (.iload 4, 2) := by decide +kernel
theorem dX1_build_75 : decode cX1_build 75 = .ok (.aaload, 1) := by decide +kernel
theorem dX1_build_76 : decode cX1_build 76 = .ok (.getfield 44, 3) := by decide +kernel
theorem dX1_build_79 : decode cX1_build 79 = .ok (.goto 4, 3) := by decide +kernel
theorem dX1_build_82 : decode cX1_build 82 = .ok (.iconst 0, 1) := by decide +kernel
theorem dX1_build_83 : decode cX1_build 83 = .ok (.iastore, 1) := by decide +kernel
theorem dX1_build_84 : decode cX1_build 84 = .ok (.iconst 0, 1) := by decide +kernel
theorem dX1_build_85 : decode cX1_build 85 = .ok (.istore 5, 2) := by decide +kernel
theorem dX1_build_87 : decode cX1_build 87 = .ok (.iload 5, 2) := by decide +kernel
theorem dX1_build_89 : decode cX1_build 89 = .ok (.iconst 3, 1) := by decide +kernel
theorem dX1_build_90 : decode cX1_build 90 = .ok (.if_icmp .ge 27, 3) := by decide +kernel
theorem dX1_build_93 : decode cX1_build 93 = .ok (.aload_n 0, 1) := by decide +kernel
theorem dX1_build_94 : decode cX1_build 94 = .ok (.aload_n 1, 1) := by decide +kernel
theorem dX1_build_95 : decode cX1_build 95 = .ok (.iload 4, 2) := by decide +kernel
theorem dX1_build_97 : decode cX1_build 97 = .ok (.aaload, 1) := by decide +kernel
theorem dX1_build_98 : decode cX1_build 98 = .ok (.iload_n 3, 1) := by decide +kernel
theorem dX1_build_99 : decode cX1_build 99 = .ok (.iload 4, 2) := by decide +kernel
theorem dX1_build_101 : decode cX1_build 101 = .ok (.invokestatic 40, 3) := by decide +kernel
theorem dX1_build_104 : decode cX1_build 104 = .ok (.iload 4, 2) := by decide +kernel
theorem dX1_build_106 : decode cX1_build 106 = .ok (.iload 5, 2) := by decide +kernel
theorem dX1_build_108 : decode cX1_build 108 = .ok (.invokevirtual 47, 3) := by decide +kernel
theorem dX1_build_111 : decode cX1_build 111 = .ok (.iinc 5 1, 3) := by decide +kernel
theorem dX1_build_114 : decode cX1_build 114 = .ok (.goto (-27), 3) := by decide +kernel
theorem dX1_build_117 : decode cX1_build 117 = .ok (.iinc 4 1, 3) := by decide +kernel
theorem dX1_build_120 : decode cX1_build 120 = .ok (.goto (-105), 3) := by decide +kernel
theorem dX1_build_123 : decode cX1_build 123 = .ok (.return_, 1) := by decide +kernel
set_option maxRecDepth 20000 in
theorem ggX1_buildAct_X2_answer : GoodIn wsX1_buildAct wsX2_answer := goodIn_r _ [13, 14, 15, 16, 17, 12, 18, 19, 20, 21, 22, 47, 48, 49, 50, 51, 52, 53, 54, 55] (by decide +kernel) (by decide +kernel)
set_option maxRecDepth 20000 in
theorem gX1_buildAct_X2_answer : GoodIn wsX1_buildAct (wsV RX1 51 RX2 yX2_answer wsX2_answer) := goodIn_app (goodIn_of _ (by decide +kernel)) ggX1_buildAct_X2_answer
set_option maxRecDepth 20000 in
theorem ggX1_buildAct_X1_place : GoodIn wsX1_buildAct wsX1_place := goodIn_r _ [26] (by decide +kernel) (by decide +kernel)
set_option maxRecDepth 20000 in
theorem gX1_buildAct_X1_place : GoodIn wsX1_buildAct (va_wsS RX1 55 yX1_place wsX1_place) := goodIn_app (goodIn_of _ (by decide +kernel)) ggX1_buildAct_X1_place
set_option maxRecDepth 20000 in
theorem ggX1_buildAct_X2_next : GoodIn wsX1_buildAct wsX2_next := goodIn_r _ [30, 14, 31, 16, 17, 12, 18, 32, 33, 34, 35, 36, 6, 7, 8, 37, 38, 39, 47, 48, 49, 50, 51, 52, 53, 54, 55] (by decide +kernel) (by decide +kernel)
set_option maxRecDepth 20000 in
theorem gX1_buildAct_X2_next : GoodIn wsX1_buildAct (wsV RX1 58 RX2 yX2_next wsX2_next) := goodIn_app (goodIn_of _ (by decide +kernel)) ggX1_buildAct_X2_next
theorem dX1_buildAct_0 : decode cX1_buildAct 0 = .ok (.iconst 0, 1) := by decide +kernel
theorem dX1_buildAct_1 : decode cX1_buildAct 1 = .ok (.istore 5, 2) := by decide +kernel
theorem dX1_buildAct_3 : decode cX1_buildAct 3 = .ok (.iload 5, 2) := by decide +kernel
theorem dX1_buildAct_5 : decode cX1_buildAct 5 = .ok (.iconst 4, 1) := by decide +kernel
theorem dX1_buildAct_6 : decode cX1_buildAct 6 = .ok (.if_icmp .ge 109, 3) := by decide +kernel
theorem dX1_buildAct_9 : decode cX1_buildAct 9 = .ok (.aload_n 1, 1) := by decide +kernel
theorem dX1_buildAct_10 : decode cX1_buildAct 10 = .ok (.iconst 1, 1) := by decide +kernel
theorem dX1_buildAct_11 : decode cX1_buildAct 11 = .ok (.iload 5, 2) := by decide +kernel
theorem dX1_buildAct_13 : decode cX1_buildAct 13 = .ok (.iload 4, 2) := by decide +kernel
theorem dX1_buildAct_15 : decode cX1_buildAct 15 = .ok (.invokevirtual 51, 3) := by decide +kernel
theorem dX1_buildAct_18 : decode cX1_buildAct 18 = .ok (.istore 6, 2) := by decide +kernel
theorem dX1_buildAct_20 : decode cX1_buildAct 20 = .ok (.aload_n 0, 1) := by decide +kernel
theorem dX1_buildAct_21 : decode cX1_buildAct 21 = .ok (.getfield 9, 3) := by decide +kernel
theorem dX1_buildAct_24 : decode cX1_buildAct 24 = .ok (.iload_n 3, 1) := by decide +kernel
theorem dX1_buildAct_25 : decode cX1_buildAct 25 = .ok (.iload 4, 2) := by decide +kernel
theorem dX1_buildAct_27 : decode cX1_buildAct 27 = .ok (.invokestatic 55, 3) := by decide +kernel
theorem dX1_buildAct_30 : decode cX1_buildAct 30 = .ok (.iload 5, 2) := by decide +kernel
theorem dX1_buildAct_32 : decode cX1_buildAct 32 = .ok (.iadd, 1) := by decide +kernel
theorem dX1_buildAct_33 : decode cX1_buildAct 33 = .ok (.iload_n 2, 1) := by decide +kernel
theorem dX1_buildAct_34 : decode cX1_buildAct 34 = .ok (.iconst 2, 1) := by decide +kernel
theorem dX1_buildAct_35 : decode cX1_buildAct 35 = .ok (.if_icmp .ne 8, 3) := by decide +kernel
theorem dX1_buildAct_38 : decode cX1_buildAct 38 = .ok (.iload 5, 2) := by decide +kernel
theorem dX1_buildAct_40 : decode cX1_buildAct 40 = .ok (.goto 12, 3) := by decide +kernel
theorem dX1_buildAct_43 : decode cX1_buildAct 43 = .ok (.aload_n 1, 1) := by decide +kernel
theorem dX1_buildAct_44 : decode cX1_buildAct 44 = .ok (.iconst 0, 1) := by decide +kernel
theorem dX1_buildAct_45 : decode cX1_buildAct 45 = .ok (.iload 5, 2) := by decide +kernel
theorem dX1_buildAct_47 : decode cX1_buildAct 47 = .ok (.iload 4, 2) := by decide +kernel
theorem dX1_buildAct_49 : decode cX1_buildAct 49 = .ok (.invokevirtual 58, 3) := by decide +kernel
theorem dX1_buildAct_52 : decode cX1_buildAct 52 = .ok (.iastore, 1) := by decide +kernel
theorem dX1_buildAct_53 : decode cX1_buildAct 53 = .ok (.aload_n 0, 1) := by decide +kernel
theorem dX1_buildAct_54 : decode cX1_buildAct 54 = .ok (.getfield 15, 3) := by decide +kernel
theorem dX1_buildAct_57 : decode cX1_buildAct 57 = .ok (.iload_n 3, 1) := by decide +kernel
theorem dX1_buildAct_58 : decode cX1_buildAct 58 = .ok (.iload 4, 2) := by decide +kernel
theorem dX1_buildAct_60 : decode cX1_buildAct 60 = .ok (.invokestatic 55, 3) := by decide +kernel
theorem dX1_buildAct_63 : decode cX1_buildAct 63 = .ok (.iload 5, 2) := by decide +kernel
theorem dX1_buildAct_65 : decode cX1_buildAct 65 = .ok (.iadd, 1) := by decide +kernel
theorem dX1_buildAct_66 : decode cX1_buildAct 66 = .ok (.aload_n 1, 1) := by decide +kernel
theorem dX1_buildAct_67 : decode cX1_buildAct 67 = .ok (.iconst 1, 1) := by decide +kernel
theorem dX1_buildAct_68 : decode cX1_buildAct 68 = .ok (.iload 5, 2) := by decide +kernel
theorem dX1_buildAct_70 : decode cX1_buildAct 70 = .ok (.iload 4, 2) := by decide +kernel
theorem dX1_buildAct_72 : decode cX1_buildAct 72 = .ok (.invokevirtual 58, 3) := by decide +kernel
theorem dX1_buildAct_75 : decode cX1_buildAct 75 = .ok (.iastore, 1) := by decide +kernel
theorem dX1_buildAct_76 : decode cX1_buildAct 76 = .ok (.aload_n 0, 1) := by decide +kernel
theorem dX1_buildAct_77 : decode cX1_buildAct 77 = .ok (.getfield 18, 3) := by decide +kernel
theorem dX1_buildAct_80 : decode cX1_buildAct 80 = .ok (.iload_n 3, 1) := by decide +kernel
theorem dX1_buildAct_81 : decode cX1_buildAct 81 = .ok (.iload 4, 2) := by decide +kernel
theorem dX1_buildAct_83 : decode cX1_buildAct 83 = .ok (.invokestatic 55, 3) := by decide +kernel
theorem dX1_buildAct_86 : decode cX1_buildAct 86 = .ok (.iload 5, 2) := by decide +kernel
theorem dX1_buildAct_88 : decode cX1_buildAct 88 = .ok (.iadd, 1) := by decide +kernel
theorem dX1_buildAct_89 : decode cX1_buildAct 89 = .ok (.iload_n 2, 1) := by decide +kernel
theorem dX1_buildAct_90 : decode cX1_buildAct 90 = .ok (.iconst 3, 1) := by decide +kernel
theorem dX1_buildAct_91 : decode cX1_buildAct 91 = .ok (.if_icmp .ne 15, 3) := by decide +kernel
theorem dX1_buildAct_94 : decode cX1_buildAct 94 = .ok (.iload 6, 2) := by decide +kernel
theorem dX1_buildAct_96 : decode cX1_buildAct 96 = .ok (.aload_n 1, 1) := by decide +kernel
theorem dX1_buildAct_97 : decode cX1_buildAct 97 = .ok (.getfield 61, 3) := by decide +kernel
theorem dX1_buildAct_100 : decode cX1_buildAct 100 = .ok (.invokestatic 64, 3) := by decide +kernel
theorem dX1_buildAct_103 : decode cX1_buildAct 103 = .ok (.goto 5, 3) := by decide +kernel
theorem dX1_buildAct_106 : decode cX1_buildAct 106 = .ok (.iload 6, 2) := by decide +kernel
theorem dX1_buildAct_108 : decode cX1_buildAct 108 = .ok (.iastore, 1) := by decide +kernel
theorem dX1_buildAct_109 : decode cX1_buildAct 109 = .ok (.iinc 5 1, 3) := by decide +kernel
theorem dX1_buildAct_112 : decode cX1_buildAct 112 = .ok (.goto (-109), 3) := by decide +kernel
theorem dX1_buildAct_115 : decode cX1_buildAct 115 = .ok (.return_, 1) := by decide +kernel
theorem dX1_place_0 : decode cX1_place 0 = .ok (.iconst 4, 1) := by decide +kernel
theorem dX1_place_1 : decode cX1_place 1 = .ok (.iconst 3, 1) := by decide +kernel
theorem dX1_place_2 : decode cX1_place 2 = .ok (.iload_n 0, 1) := by decide +kernel
theorem dX1_place_3 : decode cX1_place 3 = .ok (.imul, 1) := by decide +kernel
theorem dX1_place_4 : decode cX1_place 4 = .ok (.iload_n 1, 1) := by decide +kernel
theorem dX1_place_5 : decode cX1_place 5 = .ok (.iadd, 1) := by decide +kernel
theorem dX1_place_6 : decode cX1_place 6 = .ok (.imul, 1) := by decide +kernel
theorem dX1_place_7 : decode cX1_place 7 = .ok (.ireturn, 1) := by decide +kernel
theorem dX1_period_0 : decode cX1_period 0 = .ok (.aload_n 0, 1) := by decide +kernel
theorem dX1_period_1 : decode cX1_period 1 = .ok (.getfield 21, 3) := by decide +kernel
theorem dX1_period_4 : decode cX1_period 4 = .ok (.iload_n 1, 1) := by decide +kernel
theorem dX1_period_5 : decode cX1_period 5 = .ok (.iaload, 1) := by decide +kernel
theorem dX1_period_6 : decode cX1_period 6 = .ok (.ifCond .le 12, 3) := by decide +kernel
theorem dX1_period_9 : decode cX1_period 9 = .ok (.aload_n 0, 1) := by decide +kernel
theorem dX1_period_10 : decode cX1_period 10 = .ok (.getfield 21, 3) := by decide +kernel
theorem dX1_period_13 : decode cX1_period 13 = .ok (.iload_n 1, 1) := by decide +kernel
theorem dX1_period_14 : decode cX1_period 14 = .ok (.iaload, 1) := by decide +kernel
theorem dX1_period_15 : decode cX1_period 15 = .ok (.goto 4, 3) := by decide +kernel
theorem dX1_period_18 : decode cX1_period 18 = .ok (.iconst 1, 1) := by decide +kernel
theorem dX1_period_19 : decode cX1_period 19 = .ok (.ireturn, 1) := by decide +kernel
theorem dX1_isCleaned_0 : decode cX1_isCleaned 0 = .ok (.aload_n 0, 1) := by decide +kernel
theorem dX1_isCleaned_1 : decode cX1_isCleaned 1 = .ok (.getfield 21, 3) := by decide +kernel
theorem dX1_isCleaned_4 : decode cX1_isCleaned 4 = .ok (.iload_n 1, 1) := by decide +kernel
theorem dX1_isCleaned_5 : decode cX1_isCleaned 5 = .ok (.iaload, 1) := by decide +kernel
theorem dX1_isCleaned_6 : decode cX1_isCleaned 6 = .ok (.ifCond .le 20, 3) := by decide +kernel
theorem dX1_isCleaned_9 : decode cX1_isCleaned 9 = .ok (.iload_n 2, 1) := by decide +kernel
theorem dX1_isCleaned_10 : decode cX1_isCleaned 10 = .ok (.iconst 1, 1) := by decide +kernel
theorem dX1_isCleaned_11 : decode cX1_isCleaned 11 = .ok (.iadd, 1) := by decide +kernel
theorem dX1_isCleaned_12 : decode cX1_isCleaned 12 = .ok (.aload_n 0, 1) := by decide +kernel
theorem dX1_isCleaned_13 : decode cX1_isCleaned 13 = .ok (.getfield 21, 3) := by decide +kernel
theorem dX1_isCleaned_16 : decode cX1_isCleaned 16 = .ok (.iload_n 1, 1) := by decide +kernel
theorem dX1_isCleaned_17 : decode cX1_isCleaned 17 = .ok (.iaload, 1) := by decide +kernel
theorem dX1_isCleaned_18 : decode cX1_isCleaned 18 = .ok (.irem, 1) := by decide +kernel
theorem dX1_isCleaned_19 : decode cX1_isCleaned 19 = .ok (.ifCond .ne 7, 3) := by decide +kernel
theorem dX1_isCleaned_22 : decode cX1_isCleaned 22 = .ok (.iconst 1, 1) := by decide +kernel
theorem dX1_isCleaned_23 : decode cX1_isCleaned 23 = .ok (.goto 4, 3) := by decide +kernel
theorem dX1_isCleaned_26 : decode cX1_isCleaned 26 = .ok (.iconst 0, 1) := by decide +kernel
theorem dX1_isCleaned_27 : decode cX1_isCleaned 27 = .ok (.ireturn, 1) := by decide +kernel
set_option maxRecDepth 20000 in
theorem ggX1_met_X1_isCleaned : GoodIn wsX1_met wsX1_isCleaned := goodIn_r _ [7, 8, 12, 13, 14, 15, 16, 17, 18] (by decide +kernel) (by decide +kernel)
set_option maxRecDepth 20000 in
theorem gX1_met_X1_isCleaned : GoodIn wsX1_met (wsV RX1 69 RX1 yX1_isCleaned wsX1_isCleaned) := goodIn_app (goodIn_of _ (by decide +kernel)) ggX1_met_X1_isCleaned
set_option maxRecDepth 20000 in
theorem ggX1_met_X1_place : GoodIn wsX1_met wsX1_place := goodIn_r _ [11] (by decide +kernel) (by decide +kernel)
set_option maxRecDepth 20000 in
theorem gX1_met_X1_place : GoodIn wsX1_met (va_wsS RX1 55 yX1_place wsX1_place) := goodIn_app (goodIn_of _ (by decide +kernel)) ggX1_met_X1_place
theorem dX1_met_0 : decode cX1_met 0 = .ok (.aload_n 0, 1) := by decide +kernel
theorem dX1_met_1 : decode cX1_met 1 = .ok (.iload_n 1, 1) := by decide +kernel
theorem dX1_met_2 : decode cX1_met 2 = .ok (.iload 4, 2) := by decide +kernel
theorem dX1_met_4 : decode cX1_met 4 = .ok (.invokevirtual 69, 3) := by decide +kernel
theorem dX1_met_7 : decode cX1_met 7 = .ok (.ifCond .eq 10, 3) := by decide +kernel
theorem dX1_met_10 : decode cX1_met 10 = .ok (.aload_n 0, 1) := by decide +kernel
theorem dX1_met_11 : decode cX1_met 11 = .ok (.getfield 24, 3) := by decide +kernel
theorem dX1_met_14 : decode cX1_met 14 = .ok (.iload_n 1, 1) := by decide +kernel
theorem dX1_met_15 : decode cX1_met 15 = .ok (.iaload, 1) := by decide +kernel
theorem dX1_met_16 : decode cX1_met 16 = .ok (.ireturn, 1) := by decide +kernel
theorem dX1_met_17 : decode cX1_met 17 = .ok (.iload_n 3, 1) := by decide +kernel
theorem dX1_met_18 : decode cX1_met 18 = .ok (.iconst 3, 1) := by decide +kernel
theorem dX1_met_19 : decode cX1_met 19 = .ok (.if_icmp .lt 7, 3) := by decide +kernel
theorem dX1_met_22 : decode cX1_met 22 = .ok (.iload_n 2, 1) := by decide +kernel
theorem dX1_met_23 : decode cX1_met 23 = .ok (.goto 15, 3) := by decide +kernel
theorem dX1_met_26 : decode cX1_met 26 = .ok (.aload_n 0, 1) := by decide +kernel
theorem dX1_met_27 : decode cX1_met 27 = .ok (.getfield 9, 3) := by decide +kernel
theorem dX1_met_30 : decode cX1_met 30 = .ok (.iload_n 1, 1) := by decide +kernel
theorem dX1_met_31 : decode cX1_met 31 = .ok (.iload_n 3, 1) := by decide +kernel
theorem dX1_met_32 : decode cX1_met 32 = .ok (.invokestatic 55, 3) := by decide +kernel
theorem dX1_met_35 : decode cX1_met 35 = .ok (.iload_n 2, 1) := by decide +kernel
theorem dX1_met_36 : decode cX1_met 36 = .ok (.iadd, 1) := by decide +kernel
theorem dX1_met_37 : decode cX1_met 37 = .ok (.iaload, 1) := by decide +kernel
theorem dX1_met_38 : decode cX1_met 38 = .ok (.ireturn, 1) := by decide +kernel
set_option maxRecDepth 20000 in
theorem ggX1_answer_X1_place : GoodIn wsX1_answer wsX1_place := goodIn_r _ [5] (by decide +kernel) (by decide +kernel)
set_option maxRecDepth 20000 in
theorem gX1_answer_X1_place : GoodIn wsX1_answer (va_wsS RX1 55 yX1_place wsX1_place) := goodIn_app (goodIn_of _ (by decide +kernel)) ggX1_answer_X1_place
theorem dX1_answer_0 : decode cX1_answer 0 = .ok (.iload_n 3, 1) := by decide +kernel
theorem dX1_answer_1 : decode cX1_answer 1 = .ok (.iconst 3, 1) := by decide +kernel
theorem dX1_answer_2 : decode cX1_answer 2 = .ok (.if_icmp .lt 7, 3) := by decide +kernel
theorem dX1_answer_5 : decode cX1_answer 5 = .ok (.iconst 0, 1) := by decide +kernel
theorem dX1_answer_6 : decode cX1_answer 6 = .ok (.goto 15, 3) := by decide +kernel
theorem dX1_answer_9 : decode cX1_answer 9 = .ok (.aload_n 0, 1) := by decide +kernel
theorem dX1_answer_10 : decode cX1_answer 10 = .ok (.getfield 18, 3) := by decide +kernel
theorem dX1_answer_13 : decode cX1_answer 13 = .ok (.iload_n 1, 1) := by decide +kernel
theorem dX1_answer_14 : decode cX1_answer 14 = .ok (.iload_n 3, 1) := by decide +kernel
theorem dX1_answer_15 : decode cX1_answer 15 = .ok (.invokestatic 55, 3) := by decide +kernel
theorem dX1_answer_18 : decode cX1_answer 18 = .ok (.iload_n 2, 1) := by decide +kernel
theorem dX1_answer_19 : decode cX1_answer 19 = .ok (.iadd, 1) := by decide +kernel
theorem dX1_answer_20 : decode cX1_answer 20 = .ok (.iaload, 1) := by decide +kernel
theorem dX1_answer_21 : decode cX1_answer 21 = .ok (.ireturn, 1) := by decide +kernel
set_option maxRecDepth 20000 in
theorem ggX1_left_X1_place : GoodIn wsX1_left wsX1_place := goodIn_r _ [5] (by decide +kernel) (by decide +kernel)
set_option maxRecDepth 20000 in
theorem gX1_left_X1_place : GoodIn wsX1_left (va_wsS RX1 55 yX1_place wsX1_place) := goodIn_app (goodIn_of _ (by decide +kernel)) ggX1_left_X1_place
theorem dX1_left_0 : decode cX1_left 0 = .ok (.iload_n 3, 1) := by decide +kernel
theorem dX1_left_1 : decode cX1_left 1 = .ok (.iconst 3, 1) := by decide +kernel
theorem dX1_left_2 : decode cX1_left 2 = .ok (.if_icmp .lt 7, 3) := by decide +kernel
theorem dX1_left_5 : decode cX1_left 5 = .ok (.iload_n 2, 1) := by decide +kernel
theorem dX1_left_6 : decode cX1_left 6 = .ok (.goto 15, 3) := by decide +kernel
theorem dX1_left_9 : decode cX1_left 9 = .ok (.aload_n 0, 1) := by decide +kernel
theorem dX1_left_10 : decode cX1_left 10 = .ok (.getfield 15, 3) := by decide +kernel
theorem dX1_left_13 : decode cX1_left 13 = .ok (.iload_n 1, 1) := by decide +kernel
theorem dX1_left_14 : decode cX1_left 14 = .ok (.iload_n 3, 1) := by decide +kernel
theorem dX1_left_15 : decode cX1_left 15 = .ok (.invokestatic 55, 3) := by decide +kernel
theorem dX1_left_18 : decode cX1_left 18 = .ok (.iload_n 2, 1) := by decide +kernel
theorem dX1_left_19 : decode cX1_left 19 = .ok (.iadd, 1) := by decide +kernel
theorem dX1_left_20 : decode cX1_left 20 = .ok (.iaload, 1) := by decide +kernel
theorem dX1_left_21 : decode cX1_left 21 = .ok (.ireturn, 1) := by decide +kernel
set_option maxRecDepth 20000 in
theorem ggX1_sent_X1_moved : GoodIn wsX1_sent wsX1_moved := goodIn_r _ [7, 8, 9, 10] (by decide +kernel) (by decide +kernel)
set_option maxRecDepth 20000 in
theorem gX1_sent_X1_moved : GoodIn wsX1_sent (va_wsS RX1 73 yX1_moved wsX1_moved) := goodIn_app (goodIn_of _ (by decide +kernel)) ggX1_sent_X1_moved
set_option maxRecDepth 20000 in
theorem ggX1_sent_X1_isCleaned : GoodIn wsX1_sent wsX1_isCleaned := goodIn_r _ [14, 15, 16, 17, 18, 19, 20, 21, 22] (by decide +kernel) (by decide +kernel)
set_option maxRecDepth 20000 in
theorem gX1_sent_X1_isCleaned : GoodIn wsX1_sent (wsV RX1 69 RX1 yX1_isCleaned wsX1_isCleaned) := goodIn_app (goodIn_of _ (by decide +kernel)) ggX1_sent_X1_isCleaned
theorem dX1_sent_0 : decode cX1_sent 0 = .ok (.lconst 0, 1) := by decide +kernel
theorem dX1_sent_1 : decode cX1_sent 1 = .ok (.lstore 6, 2) := by decide +kernel
theorem dX1_sent_3 : decode cX1_sent 3 = .ok (.iload_n 3, 1) := by decide +kernel
theorem dX1_sent_4 : decode cX1_sent 4 = .ok (.istore 8, 2) := by decide +kernel
theorem dX1_sent_6 : decode cX1_sent 6 = .ok (.iload 8, 2) := by decide +kernel
theorem dX1_sent_8 : decode cX1_sent 8 = .ok (.iload 4, 2) := by decide +kernel
theorem dX1_sent_10 : decode cX1_sent 10 = .ok (.if_icmp .gt 69, 3) := by decide +kernel
theorem dX1_sent_13 : decode cX1_sent 13 = .ok (.iload 8, 2) := by decide +kernel
theorem dX1_sent_15 : decode cX1_sent 15 = .ok (.aload_n 0, 1) := by decide +kernel
theorem dX1_sent_16 : decode cX1_sent 16 = .ok (.getfield 27, 3) := by decide +kernel
theorem dX1_sent_19 : decode cX1_sent 19 = .ok (.if_icmp .lt 12, 3) := by decide +kernel
theorem dX1_sent_22 : decode cX1_sent 22 = .ok (.lload 6, 2) := by decide +kernel
theorem dX1_sent_24 : decode cX1_sent 24 = .ok (.lload_n 1, 1) := by decide +kernel
theorem dX1_sent_25 : decode cX1_sent 25 = .ok (.lor, 1) := by decide +kernel
theorem dX1_sent_26 : decode cX1_sent 26 = .ok (.lstore 6, 2) := by decide +kernel
theorem dX1_sent_28 : decode cX1_sent 28 = .ok (.goto 45, 3) := by decide +kernel
theorem dX1_sent_31 : decode cX1_sent 31 = .ok (.iconst 0, 1) := by decide +kernel
theorem dX1_sent_32 : decode cX1_sent 32 = .ok (.istore 9, 2) := by decide +kernel
theorem dX1_sent_34 : decode cX1_sent 34 = .ok (.iload 9, 2) := by decide +kernel
theorem dX1_sent_36 : decode cX1_sent 36 = .ok (.iconst 4, 1) := by decide +kernel
theorem dX1_sent_37 : decode cX1_sent 37 = .ok (.if_icmp .ge 36, 3) := by decide +kernel
theorem dX1_sent_40 : decode cX1_sent 40 = .ok (.lload 6, 2) := by decide +kernel
theorem dX1_sent_42 : decode cX1_sent 42 = .ok (.lload_n 1, 1) := by decide +kernel
theorem dX1_sent_43 : decode cX1_sent 43 = .ok (.iload 8, 2) := by decide +kernel
theorem dX1_sent_45 : decode cX1_sent 45 = .ok (.iconst 3, 1) := by decide +kernel
theorem dX1_sent_46 : decode cX1_sent 46 = .ok (.idiv, 1) := by decide +kernel
theorem dX1_sent_47 : decode cX1_sent 47 = .ok (.iload 9, 2) := by decide +kernel
theorem dX1_sent_49 : decode cX1_sent 49 = .ok (.aload_n 0, 1) := by decide +kernel
theorem dX1_sent_50 : decode cX1_sent 50 = .ok (.getfield 9, 3) := by decide +kernel
theorem dX1_sent_53 : decode cX1_sent 53 = .ok (.iconst 4, 1) := by decide +kernel
theorem dX1_sent_54 : decode cX1_sent 54 = .ok (.iload 8, 2) := by decide +kernel
theorem dX1_sent_56 : decode cX1_sent 56 = .ok (.imul, 1) := by decide +kernel
theorem dX1_sent_57 : decode cX1_sent 57 = .ok (.iload 9, 2) := by decide +kernel
theorem dX1_sent_59 : decode cX1_sent 59 = .ok (.iadd, 1) := by decide +kernel
theorem dX1_sent_60 : decode cX1_sent 60 = .ok (.iaload, 1) := by decide +kernel
theorem dX1_sent_61 : decode cX1_sent 61 = .ok (.invokestatic 73, 3) := by decide +kernel
theorem dX1_sent_64 : decode cX1_sent 64 = .ok (.lor, 1) := by decide +kernel
theorem dX1_sent_65 : decode cX1_sent 65 = .ok (.lstore 6, 2) := by decide +kernel
theorem dX1_sent_67 : decode cX1_sent 67 = .ok (.iinc 9 1, 3) := by decide +kernel
theorem dX1_sent_70 : decode cX1_sent 70 = .ok (.goto (-36), 3) := by decide +kernel
theorem dX1_sent_73 : decode cX1_sent 73 = .ok (.iinc 8 1, 3) := by decide +kernel
theorem dX1_sent_76 : decode cX1_sent 76 = .ok (.goto (-70), 3) := by decide +kernel
theorem dX1_sent_79 : decode cX1_sent 79 = .ok (.iconst 0, 1) := by decide +kernel
theorem dX1_sent_80 : decode cX1_sent 80 = .ok (.istore 8, 2) := by decide +kernel
theorem dX1_sent_82 : decode cX1_sent 82 = .ok (.iload 8, 2) := by decide +kernel
theorem dX1_sent_84 : decode cX1_sent 84 = .ok (.iconst 3, 1) := by decide +kernel
theorem dX1_sent_85 : decode cX1_sent 85 = .ok (.imul, 1) := by decide +kernel
theorem dX1_sent_86 : decode cX1_sent 86 = .ok (.aload_n 0, 1) := by decide +kernel
theorem dX1_sent_87 : decode cX1_sent 87 = .ok (.getfield 27, 3) := by decide +kernel
theorem dX1_sent_90 : decode cX1_sent 90 = .ok (.if_icmp .ge 66, 3) := by decide +kernel
theorem dX1_sent_93 : decode cX1_sent 93 = .ok (.aload_n 0, 1) := by decide +kernel
theorem dX1_sent_94 : decode cX1_sent 94 = .ok (.iload 8, 2) := by decide +kernel
theorem dX1_sent_96 : decode cX1_sent 96 = .ok (.iload 5, 2) := by decide +kernel
theorem dX1_sent_98 : decode cX1_sent 98 = .ok (.invokevirtual 69, 3) := by decide +kernel
theorem dX1_sent_101 : decode cX1_sent 101 = .ok (.ifCond .ne 6, 3) := by decide +kernel
theorem dX1_sent_104 : decode cX1_sent 104 = .ok (.goto 46, 3) := by decide +kernel
theorem dX1_sent_107 : decode cX1_sent 107 = .ok (.lload 6, 2) := by decide +kernel
theorem dX1_sent_109 : decode cX1_sent 109 = .ok (.lstore 9, 2) := by decide +kernel
theorem dX1_sent_111 : decode cX1_sent 111 = .ok (.lconst 0, 1) := by decide +kernel
theorem dX1_sent_112 : decode cX1_sent 112 = .ok (.lstore 6, 2) := by decide +kernel
theorem dX1_sent_114 : decode cX1_sent 114 = .ok (.iconst 0, 1) := by decide +kernel
theorem dX1_sent_115 : decode cX1_sent 115 = .ok (.istore 11, 2) := by decide +kernel
theorem dX1_sent_117 : decode cX1_sent 117 = .ok (.iload 11, 2) := by decide +kernel
theorem dX1_sent_119 : decode cX1_sent 119 = .ok (.iconst 4, 1) := by decide +kernel
theorem dX1_sent_120 : decode cX1_sent 120 = .ok (.if_icmp .ge 30, 3) := by decide +kernel
theorem dX1_sent_123 : decode cX1_sent 123 = .ok (.lload 6, 2) := by decide +kernel
theorem dX1_sent_125 : decode cX1_sent 125 = .ok (.lload 9, 2) := by decide +kernel
theorem dX1_sent_127 : decode cX1_sent 127 = .ok (.iload 8, 2) := by decide +kernel
theorem dX1_sent_129 : decode cX1_sent 129 = .ok (.iload 11, 2) := by decide +kernel
theorem dX1_sent_131 : decode cX1_sent 131 = .ok (.aload_n 0, 1) := by decide +kernel
theorem dX1_sent_132 : decode cX1_sent 132 = .ok (.getfield 24, 3) := by decide +kernel
theorem dX1_sent_135 : decode cX1_sent 135 = .ok (.iload 8, 2) := by decide +kernel
theorem dX1_sent_137 : decode cX1_sent 137 = .ok (.iaload, 1) := by decide +kernel
theorem dX1_sent_138 : decode cX1_sent 138 = .ok (.invokestatic 73, 3) := by decide +kernel
theorem dX1_sent_141 : decode cX1_sent 141 = .ok (.lor, 1) := by decide +kernel
theorem dX1_sent_142 : decode cX1_sent 142 = .ok (.lstore 6, 2) := by decide +kernel
theorem dX1_sent_144 : decode cX1_sent 144 = .ok (.iinc 11 1, 3) := by decide +kernel
theorem dX1_sent_147 : decode cX1_sent 147 = .ok (.goto (-30), 3) := by decide +kernel
theorem dX1_sent_150 : decode cX1_sent 150 = .ok (.iinc 8 1, 3) := by decide +kernel
theorem dX1_sent_153 : decode cX1_sent 153 = .ok (.goto (-71), 3) := by decide +kernel
theorem dX1_sent_156 : decode cX1_sent 156 = .ok (.lload 6, 2) := by decide +kernel
theorem dX1_sent_158 : decode cX1_sent 158 = .ok (.lreturn, 1) := by decide +kernel
set_option maxRecDepth 20000 in
theorem ggX1_answers_X1_moved : GoodIn wsX1_answers wsX1_moved := goodIn_r _ [6, 7, 8, 9] (by decide +kernel) (by decide +kernel)
set_option maxRecDepth 20000 in
theorem gX1_answers_X1_moved : GoodIn wsX1_answers (va_wsS RX1 73 yX1_moved wsX1_moved) := goodIn_app (goodIn_of _ (by decide +kernel)) ggX1_answers_X1_moved
theorem dX1_answers_0 : decode cX1_answers 0 = .ok (.iload_n 3, 1) := by decide +kernel
theorem dX1_answers_1 : decode cX1_answers 1 = .ok (.aload_n 0, 1) := by decide +kernel
theorem dX1_answers_2 : decode cX1_answers 2 = .ok (.getfield 27, 3) := by decide +kernel
theorem dX1_answers_5 : decode cX1_answers 5 = .ok (.if_icmp .lt 5, 3) := by decide +kernel
theorem dX1_answers_8 : decode cX1_answers 8 = .ok (.iconst 1, 1) := by decide +kernel
theorem dX1_answers_9 : decode cX1_answers 9 = .ok (.ireturn, 1) := by decide +kernel
theorem dX1_answers_10 : decode cX1_answers 10 = .ok (.iconst 0, 1) := by decide +kernel
theorem dX1_answers_11 : decode cX1_answers 11 = .ok (.istore 4, 2) := by decide +kernel
theorem dX1_answers_13 : decode cX1_answers 13 = .ok (.iconst 0, 1) := by decide +kernel
theorem dX1_answers_14 : decode cX1_answers 14 = .ok (.istore 5, 2) := by decide +kernel
theorem dX1_answers_16 : decode cX1_answers 16 = .ok (.iload 5, 2) := by decide +kernel
theorem dX1_answers_18 : decode cX1_answers 18 = .ok (.iconst 4, 1) := by decide +kernel
theorem dX1_answers_19 : decode cX1_answers 19 = .ok (.if_icmp .ge 42, 3) := by decide +kernel
theorem dX1_answers_22 : decode cX1_answers 22 = .ok (.lload_n 1, 1) := by decide +kernel
theorem dX1_answers_23 : decode cX1_answers 23 = .ok (.iload_n 3, 1) := by decide +kernel
theorem dX1_answers_24 : decode cX1_answers 24 = .ok (.iconst 3, 1) := by decide +kernel
theorem dX1_answers_25 : decode cX1_answers 25 = .ok (.idiv, 1) := by decide +kernel
theorem dX1_answers_26 : decode cX1_answers 26 = .ok (.iload 5, 2) := by decide +kernel
theorem dX1_answers_28 : decode cX1_answers 28 = .ok (.iconst 0, 1) := by decide +kernel
theorem dX1_answers_29 : decode cX1_answers 29 = .ok (.invokestatic 73, 3) := by decide +kernel
theorem dX1_answers_32 : decode cX1_answers 32 = .ok (.lconst 0, 1) := by decide +kernel
theorem dX1_answers_33 : decode cX1_answers 33 = .ok (.lcmp, 1) := by decide +kernel
theorem dX1_answers_34 : decode cX1_answers 34 = .ok (.ifCond .eq 21, 3) := by decide +kernel
theorem dX1_answers_37 : decode cX1_answers 37 = .ok (.iload 4, 2) := by decide +kernel
theorem dX1_answers_39 : decode cX1_answers 39 = .ok (.iconst 1, 1) := by decide +kernel
theorem dX1_answers_40 : decode cX1_answers 40 = .ok (.aload_n 0, 1) := by decide +kernel
theorem dX1_answers_41 : decode cX1_answers 41 = .ok (.getfield 18, 3) := by decide +kernel
theorem dX1_answers_44 : decode cX1_answers 44 = .ok (.iconst 4, 1) := by decide +kernel
theorem dX1_answers_45 : decode cX1_answers 45 = .ok (.iload_n 3, 1) := by decide +kernel
theorem dX1_answers_46 : decode cX1_answers 46 = .ok (.imul, 1) := by decide +kernel
theorem dX1_answers_47 : decode cX1_answers 47 = .ok (.iload 5, 2) := by decide +kernel
theorem dX1_answers_49 : decode cX1_answers 49 = .ok (.iadd, 1) := by decide +kernel
theorem dX1_answers_50 : decode cX1_answers 50 = .ok (.iaload, 1) := by decide +kernel
theorem dX1_answers_51 : decode cX1_answers 51 = .ok (.ishl, 1) := by decide +kernel
theorem dX1_answers_52 : decode cX1_answers 52 = .ok (.ior, 1) := by decide +kernel
theorem dX1_answers_53 : decode cX1_answers 53 = .ok (.istore 4, 2) := by decide +kernel
theorem dX1_answers_55 : decode cX1_answers 55 = .ok (.iinc 5 1, 3) := by decide +kernel
theorem dX1_answers_58 : decode cX1_answers 58 = .ok (.goto (-42), 3) := by decide +kernel
theorem dX1_answers_61 : decode cX1_answers 61 = .ok (.iload 4, 2) := by decide +kernel
theorem dX1_answers_63 : decode cX1_answers 63 = .ok (.ireturn, 1) := by decide +kernel
set_option maxRecDepth 20000 in
theorem ggX1_heard_X1_moved : GoodIn wsX1_heard wsX1_moved := goodIn_r _ [7, 8, 9, 10] (by decide +kernel) (by decide +kernel)
set_option maxRecDepth 20000 in
theorem gX1_heard_X1_moved : GoodIn wsX1_heard (va_wsS RX1 73 yX1_moved wsX1_moved) := goodIn_app (goodIn_of _ (by decide +kernel)) ggX1_heard_X1_moved
theorem dX1_heard_0 : decode cX1_heard 0 = .ok (.iload_n 3, 1) := by decide +kernel
theorem dX1_heard_1 : decode cX1_heard 1 = .ok (.aload_n 0, 1) := by decide +kernel
theorem dX1_heard_2 : decode cX1_heard 2 = .ok (.getfield 27, 3) := by decide +kernel
theorem dX1_heard_5 : decode cX1_heard 5 = .ok (.if_icmp .lt 14, 3) := by decide +kernel
theorem dX1_heard_8 : decode cX1_heard 8 = .ok (.iload 4, 2) := by decide +kernel
theorem dX1_heard_10 : decode cX1_heard 10 = .ok (.ifCond .ne 7, 3) := by decide +kernel
theorem dX1_heard_13 : decode cX1_heard 13 = .ok (.lload_n 1, 1) := by decide +kernel
theorem dX1_heard_14 : decode cX1_heard 14 = .ok (.goto 4, 3) := by decide +kernel
theorem dX1_heard_17 : decode cX1_heard 17 = .ok (.lconst 0, 1) := by decide +kernel
theorem dX1_heard_18 : decode cX1_heard 18 = .ok (.lreturn, 1) := by decide +kernel
theorem dX1_heard_19 : decode cX1_heard 19 = .ok (.lconst 0, 1) := by decide +kernel
theorem dX1_heard_20 : decode cX1_heard 20 = .ok (.lstore 5, 2) := by decide +kernel
theorem dX1_heard_22 : decode cX1_heard 22 = .ok (.iconst 0, 1) := by decide +kernel
theorem dX1_heard_23 : decode cX1_heard 23 = .ok (.istore 7, 2) := by decide +kernel
theorem dX1_heard_25 : decode cX1_heard 25 = .ok (.iload 7, 2) := by decide +kernel
theorem dX1_heard_27 : decode cX1_heard 27 = .ok (.iconst 4, 1) := by decide +kernel
theorem dX1_heard_28 : decode cX1_heard 28 = .ok (.if_icmp .ge 50, 3) := by decide +kernel
theorem dX1_heard_31 : decode cX1_heard 31 = .ok (.aload_n 0, 1) := by decide +kernel
theorem dX1_heard_32 : decode cX1_heard 32 = .ok (.getfield 18, 3) := by decide +kernel
theorem dX1_heard_35 : decode cX1_heard 35 = .ok (.iconst 4, 1) := by decide +kernel
theorem dX1_heard_36 : decode cX1_heard 36 = .ok (.iload_n 3, 1) := by decide +kernel
theorem dX1_heard_37 : decode cX1_heard 37 = .ok (.imul, 1) := by decide +kernel
theorem dX1_heard_38 : decode cX1_heard 38 = .ok (.iload 7, 2) := by decide +kernel
theorem dX1_heard_40 : decode cX1_heard 40 = .ok (.iadd, 1) := by decide +kernel
theorem dX1_heard_41 : decode cX1_heard 41 = .ok (.iaload, 1) := by decide +kernel
theorem dX1_heard_42 : decode cX1_heard 42 = .ok (.iload 4, 2) := by decide +kernel
theorem dX1_heard_44 : decode cX1_heard 44 = .ok (.if_icmp .ne 28, 3) := by decide +kernel
theorem dX1_heard_47 : decode cX1_heard 47 = .ok (.lload 5, 2) := by decide +kernel
theorem dX1_heard_49 : decode cX1_heard 49 = .ok (.lload_n 1, 1) := by decide +kernel
theorem dX1_heard_50 : decode cX1_heard 50 = .ok (.iload_n 3, 1) := by decide +kernel
theorem dX1_heard_51 : decode cX1_heard 51 = .ok (.iconst 3, 1) := by decide +kernel
theorem dX1_heard_52 : decode cX1_heard 52 = .ok (.idiv, 1) := by decide +kernel
theorem dX1_heard_53 : decode cX1_heard 53 = .ok (.iload 7, 2) := by decide +kernel
theorem dX1_heard_55 : decode cX1_heard 55 = .ok (.aload_n 0, 1) := by decide +kernel
theorem dX1_heard_56 : decode cX1_heard 56 = .ok (.getfield 15, 3) := by decide +kernel
theorem dX1_heard_59 : decode cX1_heard 59 = .ok (.iconst 4, 1) := by decide +kernel
theorem dX1_heard_60 : decode cX1_heard 60 = .ok (.iload_n 3, 1) := by decide +kernel
theorem dX1_heard_61 : decode cX1_heard 61 = .ok (.imul, 1) := by decide +kernel
theorem dX1_heard_62 : decode cX1_heard 62 = .ok (.iload 7, 2) := by decide +kernel
theorem dX1_heard_64 : decode cX1_heard 64 = .ok (.iadd, 1) := by decide +kernel
theorem dX1_heard_65 : decode cX1_heard 65 = .ok (.iaload, 1) := by decide +kernel
theorem dX1_heard_66 : decode cX1_heard 66 = .ok (.invokestatic 73, 3) := by decide +kernel
theorem dX1_heard_69 : decode cX1_heard 69 = .ok (.lor, 1) := by decide +kernel
theorem dX1_heard_70 : decode cX1_heard 70 = .ok (.lstore 5, 2) := by decide +kernel
theorem dX1_heard_72 : decode cX1_heard 72 = .ok (.iinc 7 1, 3) := by decide +kernel
theorem dX1_heard_75 : decode cX1_heard 75 = .ok (.goto (-50), 3) := by decide +kernel
theorem dX1_heard_78 : decode cX1_heard 78 = .ok (.lload 5, 2) := by decide +kernel
theorem dX1_heard_80 : decode cX1_heard 80 = .ok (.lreturn, 1) := by decide +kernel
theorem dX1_moved_0 : decode cX1_moved 0 = .ok (.iload_n 2, 1) := by decide +kernel
theorem dX1_moved_1 : decode cX1_moved 1 = .ok (.ifCond .ne 9, 3) := by decide +kernel
theorem dX1_moved_4 : decode cX1_moved 4 = .ok (.ldc2_w 77, 3) := by decide +kernel
theorem dX1_moved_7 : decode cX1_moved 7 = .ok (.goto 17, 3) := by decide +kernel
theorem dX1_moved_10 : decode cX1_moved 10 = .ok (.iload_n 2, 1) := by decide +kernel
theorem dX1_moved_11 : decode cX1_moved 11 = .ok (.iconst 1, 1) := by decide +kernel
theorem dX1_moved_12 : decode cX1_moved 12 = .ok (.if_icmp .ne 9, 3) := by decide +kernel
theorem dX1_moved_15 : decode cX1_moved 15 = .ok (.ldc2_w 79, 3) := by decide +kernel
theorem dX1_moved_18 : decode cX1_moved 18 = .ok (.goto 6, 3) := by decide +kernel
theorem dX1_moved_21 : decode cX1_moved 21 = .ok (.ldc2_w 81, 3) := by decide +kernel
theorem dX1_moved_24 : decode cX1_moved 24 = .ok (.lstore 5, 2) := by decide +kernel
theorem dX1_moved_26 : decode cX1_moved 26 = .ok (.lload_n 0, 1) := by decide +kernel
theorem dX1_moved_27 : decode cX1_moved 27 = .ok (.iload_n 3, 1) := by decide +kernel
theorem dX1_moved_28 : decode cX1_moved 28 = .ok (.iconst 2, 1) := by decide +kernel
theorem dX1_moved_29 : decode cX1_moved 29 = .ok (.iload_n 2, 1) := by decide +kernel
theorem dX1_moved_30 : decode cX1_moved 30 = .ok (.imul, 1) := by decide +kernel
theorem dX1_moved_31 : decode cX1_moved 31 = .ok (.ishl, 1) := by decide +kernel
theorem dX1_moved_32 : decode cX1_moved 32 = .ok (.lushr, 1) := by decide +kernel
theorem dX1_moved_33 : decode cX1_moved 33 = .ok (.lload 5, 2) := by decide +kernel
theorem dX1_moved_35 : decode cX1_moved 35 = .ok (.land, 1) := by decide +kernel
theorem dX1_moved_36 : decode cX1_moved 36 = .ok (.iload 4, 2) := by decide +kernel
theorem dX1_moved_38 : decode cX1_moved 38 = .ok (.iconst 2, 1) := by decide +kernel
theorem dX1_moved_39 : decode cX1_moved 39 = .ok (.iload_n 2, 1) := by decide +kernel
theorem dX1_moved_40 : decode cX1_moved 40 = .ok (.imul, 1) := by decide +kernel
theorem dX1_moved_41 : decode cX1_moved 41 = .ok (.ishl, 1) := by decide +kernel
theorem dX1_moved_42 : decode cX1_moved 42 = .ok (.lshl, 1) := by decide +kernel
theorem dX1_moved_43 : decode cX1_moved 43 = .ok (.lreturn, 1) := by decide +kernel
theorem dX2_init_0 : decode cX2_init 0 = .ok (.aload_n 0, 1) := by decide +kernel
theorem dX2_init_1 : decode cX2_init 1 = .ok (.invokespecial 3, 3) := by decide +kernel
theorem dX2_init_4 : decode cX2_init 4 = .ok (.aload_n 0, 1) := by decide +kernel
theorem dX2_init_5 : decode cX2_init 5 = .ok (.iconst 4, 1) := by decide +kernel
theorem dX2_init_6 : decode cX2_init 6 = .ok (.newarray .int, 2) := by decide +kernel
theorem dX2_init_8 : decode cX2_init 8 = .ok (.putfield 9, 3) := by decide +kernel
theorem dX2_init_11 : decode cX2_init 11 = .ok (.return_, 1) := by decide +kernel
set_option maxRecDepth 20000 in
theorem ggX2_come_J7_fill_53178 : GoodIn wsX2_come wsJ7_fill_53178 := goodIn_r _ [13] (by decide +kernel) (by decide +kernel)
set_option maxRecDepth 20000 in
theorem gX2_come_J7_fill_53178 : GoodIn wsX2_come (va_wsS RX2 41 yJ7_fill_53178 wsJ7_fill_53178) := goodIn_app (goodIn_of _ (by decide +kernel)) ggX2_come_J7_fill_53178
theorem dX2_come_0 : decode cX2_come 0 = .ok (.aload_n 0, 1) := by decide +kernel
theorem dX2_come_1 : decode cX2_come 1 = .ok (.iload_n 1, 1) := by decide +kernel
theorem dX2_come_2 : decode cX2_come 2 = .ok (.putfield 15, 3) := by decide +kernel
theorem dX2_come_5 : decode cX2_come 5 = .ok (.aload_n 0, 1) := by decide +kernel
theorem dX2_come_6 : decode cX2_come 6 = .ok (.iload_n 2, 1) := by decide +kernel
theorem dX2_come_7 : decode cX2_come 7 = .ok (.putfield 19, 3) := by decide +kernel
theorem dX2_come_10 : decode cX2_come 10 = .ok (.aload_n 0, 1) := by decide +kernel
theorem dX2_come_11 : decode cX2_come 11 = .ok (.iload_n 2, 1) := by decide +kernel
end
section
theorem dX2_come_12 : decode cX2_come 12 = .ok (.putfield 22, 3) := by decide +kernel
theorem dX2_come_15 : decode cX2_come 15 = .ok (.aload_n 0, 1) := by decide +kernel
theorem dX2_come_16 : decode cX2_come 16 = .ok (.lload_n 3, 1) := by decide +kernel
theorem dX2_come_17 : decode cX2_come 17 = .ok (.putfield 25, 3) := by decide +kernel
theorem dX2_come_20 : decode cX2_come 20 = .ok (.aload_n 0, 1) := by decide +kernel
theorem dX2_come_21 : decode cX2_come 21 = .ok (.lload 5, 2) := by decide +kernel
theorem dX2_come_23 : decode cX2_come 23 = .ok (.putfield 29, 3) := by decide +kernel
theorem dX2_come_26 : decode cX2_come 26 = .ok (.aload_n 0, 1) := by decide +kernel
theorem dX2_come_27 : decode cX2_come 27 = .ok (.iconst 0, 1) := by decide +kernel
theorem dX2_come_28 : decode cX2_come 28 = .ok (.putfield 32, 3) := by decide +kernel
theorem dX2_come_31 : decode cX2_come 31 = .ok (.aload_n 0, 1) := by decide +kernel
theorem dX2_come_32 : decode cX2_come 32 = .ok (.iconst 1, 1) := by decide +kernel
theorem dX2_come_33 : decode cX2_come 33 = .ok (.putfield 35, 3) := by decide +kernel
theorem dX2_come_36 : decode cX2_come 36 = .ok (.aload_n 0, 1) := by decide +kernel
theorem dX2_come_37 : decode cX2_come 37 = .ok (.iconst 0, 1) := by decide +kernel
theorem dX2_come_38 : decode cX2_come 38 = .ok (.putfield 38, 3) := by decide +kernel
theorem dX2_come_41 : decode cX2_come 41 = .ok (.aload_n 0, 1) := by decide +kernel
theorem dX2_come_42 : decode cX2_come 42 = .ok (.getfield 9, 3) := by decide +kernel
theorem dX2_come_45 : decode cX2_come 45 = .ok (.iconst 1, 1) := by decide +kernel
theorem dX2_come_46 : decode cX2_come 46 = .ok (.invokestatic 41, 3) := by decide +kernel
theorem dX2_come_49 : decode cX2_come 49 = .ok (.aload_n 0, 1) := by decide +kernel
theorem dX2_come_50 : decode cX2_come 50 = .ok (.getfield 9, 3) := by decide +kernel
theorem dX2_come_53 : decode cX2_come 53 = .ok (.iconst 0, 1) := by decide +kernel
theorem dX2_come_54 : decode cX2_come 54 = .ok (.iconst 0, 1) := by decide +kernel
theorem dX2_come_55 : decode cX2_come 55 = .ok (.iastore, 1) := by decide +kernel
theorem dX2_come_56 : decode cX2_come 56 = .ok (.return_, 1) := by decide +kernel
theorem dX2_keep_0 : decode cX2_keep 0 = .ok (.iload_n 1, 1) := by decide +kernel
theorem dX2_keep_1 : decode cX2_keep 1 = .ok (.iconst 1, 1) := by decide +kernel
theorem dX2_keep_2 : decode cX2_keep 2 = .ok (.if_icmp .ne 11, 3) := by decide +kernel
theorem dX2_keep_5 : decode cX2_keep 5 = .ok (.aload_n 0, 1) := by decide +kernel
theorem dX2_keep_6 : decode cX2_keep 6 = .ok (.iload_n 2, 1) := by decide +kernel
theorem dX2_keep_7 : decode cX2_keep 7 = .ok (.putfield 35, 3) := by decide +kernel
theorem dX2_keep_10 : decode cX2_keep 10 = .ok (.goto 13, 3) := by decide +kernel
theorem dX2_keep_13 : decode cX2_keep 13 = .ok (.iload_n 1, 1) := by decide +kernel
theorem dX2_keep_14 : decode cX2_keep 14 = .ok (.iconst 3, 1) := by decide +kernel
theorem dX2_keep_15 : decode cX2_keep 15 = .ok (.if_icmp .ne 8, 3) := by decide +kernel
theorem dX2_keep_18 : decode cX2_keep 18 = .ok (.aload_n 0, 1) := by decide +kernel
theorem dX2_keep_19 : decode cX2_keep 19 = .ok (.iload_n 2, 1) := by decide +kernel
theorem dX2_keep_20 : decode cX2_keep 20 = .ok (.putfield 38, 3) := by decide +kernel
theorem dX2_keep_23 : decode cX2_keep 23 = .ok (.return_, 1) := by decide +kernel
set_option maxRecDepth 20000 in
theorem ggX2_next_X2_told : GoodIn wsX2_next wsX2_told := goodIn_r _ [6] (by decide +kernel) (by decide +kernel)
set_option maxRecDepth 20000 in
theorem gX2_next_X2_told : GoodIn wsX2_next (va_wsS RX2 47 yX2_told wsX2_told) := goodIn_app (goodIn_of _ (by decide +kernel)) ggX2_next_X2_told
set_option maxRecDepth 20000 in
theorem ggX2_next_X2_nextByKind : GoodIn wsX2_next wsX2_nextByKind := goodIn_r _ [10, 1, 11, 12, 13, 14, 15, 16, 17, 18, 19, 20, 21, 22, 23, 24, 25, 26] (by decide +kernel) (by decide +kernel)
set_option maxRecDepth 20000 in
theorem gX2_next_X2_nextByKind : GoodIn wsX2_next (wsV RX2 51 RX2 yX2_nextByKind wsX2_nextByKind) := goodIn_app (goodIn_of _ (by decide +kernel)) ggX2_next_X2_nextByKind
theorem dX2_next_0 : decode cX2_next 0 = .ok (.aload_n 0, 1) := by decide +kernel
theorem dX2_next_1 : decode cX2_next 1 = .ok (.getfield 15, 3) := by decide +kernel
theorem dX2_next_4 : decode cX2_next 4 = .ok (.iconst 4, 1) := by decide +kernel
theorem dX2_next_5 : decode cX2_next 5 = .ok (.if_icmp .ne 16, 3) := by decide +kernel
theorem dX2_next_8 : decode cX2_next 8 = .ok (.aload_n 0, 1) := by decide +kernel
theorem dX2_next_9 : decode cX2_next 9 = .ok (.getfield 25, 3) := by decide +kernel
theorem dX2_next_12 : decode cX2_next 12 = .ok (.iload_n 1, 1) := by decide +kernel
theorem dX2_next_13 : decode cX2_next 13 = .ok (.iload_n 2, 1) := by decide +kernel
theorem dX2_next_14 : decode cX2_next 14 = .ok (.iload_n 3, 1) := by decide +kernel
theorem dX2_next_15 : decode cX2_next 15 = .ok (.invokestatic 47, 3) := by decide +kernel
theorem dX2_next_18 : decode cX2_next 18 = .ok (.goto 12, 3) := by decide +kernel
theorem dX2_next_21 : decode cX2_next 21 = .ok (.aload_n 0, 1) := by decide +kernel
theorem dX2_next_22 : decode cX2_next 22 = .ok (.iload_n 1, 1) := by decide +kernel
theorem dX2_next_23 : decode cX2_next 23 = .ok (.iconst 1, 1) := by decide +kernel
theorem dX2_next_24 : decode cX2_next 24 = .ok (.iadd, 1) := by decide +kernel
theorem dX2_next_25 : decode cX2_next 25 = .ok (.iload_n 2, 1) := by decide +kernel
theorem dX2_next_26 : decode cX2_next 26 = .ok (.iload_n 3, 1) := by decide +kernel
theorem dX2_next_27 : decode cX2_next 27 = .ok (.invokevirtual 51, 3) := by decide +kernel
theorem dX2_next_30 : decode cX2_next 30 = .ok (.ireturn, 1) := by decide +kernel
set_option maxRecDepth 20000 in
theorem ggX2_answer_X2_told : GoodIn wsX2_answer wsX2_told := goodIn_r _ [6] (by decide +kernel) (by decide +kernel)
set_option maxRecDepth 20000 in
theorem gX2_answer_X2_told : GoodIn wsX2_answer (va_wsS RX2 47 yX2_told wsX2_told) := goodIn_app (goodIn_of _ (by decide +kernel)) ggX2_answer_X2_told
set_option maxRecDepth 20000 in
theorem ggX2_answer_X2_answerByKind : GoodIn wsX2_answer wsX2_answerByKind := goodIn_r _ [10, 1, 11, 12, 13, 14, 15, 16, 17, 18, 19] (by decide +kernel) (by decide +kernel)
set_option maxRecDepth 20000 in
theorem gX2_answer_X2_answerByKind : GoodIn wsX2_answer (wsV RX2 55 RX2 yX2_answerByKind wsX2_answerByKind) := goodIn_app (goodIn_of _ (by decide +kernel)) ggX2_answer_X2_answerByKind
theorem dX2_answer_0 : decode cX2_answer 0 = .ok (.aload_n 0, 1) := by decide +kernel
theorem dX2_answer_1 : decode cX2_answer 1 = .ok (.getfield 15, 3) := by decide +kernel
theorem dX2_answer_4 : decode cX2_answer 4 = .ok (.iconst 4, 1) := by decide +kernel
theorem dX2_answer_5 : decode cX2_answer 5 = .ok (.if_icmp .ne 16, 3) := by decide +kernel
theorem dX2_answer_8 : decode cX2_answer 8 = .ok (.aload_n 0, 1) := by decide +kernel
theorem dX2_answer_9 : decode cX2_answer 9 = .ok (.getfield 29, 3) := by decide +kernel
theorem dX2_answer_12 : decode cX2_answer 12 = .ok (.iload_n 1, 1) := by decide +kernel
theorem dX2_answer_13 : decode cX2_answer 13 = .ok (.iload_n 2, 1) := by decide +kernel
theorem dX2_answer_14 : decode cX2_answer 14 = .ok (.iload_n 3, 1) := by decide +kernel
theorem dX2_answer_15 : decode cX2_answer 15 = .ok (.invokestatic 47, 3) := by decide +kernel
theorem dX2_answer_18 : decode cX2_answer 18 = .ok (.goto 12, 3) := by decide +kernel
theorem dX2_answer_21 : decode cX2_answer 21 = .ok (.aload_n 0, 1) := by decide +kernel
theorem dX2_answer_22 : decode cX2_answer 22 = .ok (.iload_n 1, 1) := by decide +kernel
theorem dX2_answer_23 : decode cX2_answer 23 = .ok (.iconst 1, 1) := by decide +kernel
theorem dX2_answer_24 : decode cX2_answer 24 = .ok (.iadd, 1) := by decide +kernel
theorem dX2_answer_25 : decode cX2_answer 25 = .ok (.iload_n 2, 1) := by decide +kernel
theorem dX2_answer_26 : decode cX2_answer 26 = .ok (.iload_n 3, 1) := by decide +kernel
theorem dX2_answer_27 : decode cX2_answer 27 = .ok (.invokevirtual 55, 3) := by decide +kernel
theorem dX2_answer_30 : decode cX2_answer 30 = .ok (.ireturn, 1) := by decide +kernel
theorem dX2_told_0 : decode cX2_told 0 = .ok (.lload_n 0, 1) := by decide +kernel
theorem dX2_told_1 : decode cX2_told 1 = .ok (.iconst 2, 1) := by decide +kernel
theorem dX2_told_2 : decode cX2_told 2 = .ok (.bipush 12, 2) := by decide +kernel
theorem dX2_told_4 : decode cX2_told 4 = .ok (.iload_n 2, 1) := by decide +kernel
theorem dX2_told_5 : decode cX2_told 5 = .ok (.imul, 1) := by decide +kernel
theorem dX2_told_6 : decode cX2_told 6 = .ok (.iconst 3, 1) := by decide +kernel
theorem dX2_told_7 : decode cX2_told 7 = .ok (.iload_n 3, 1) := by decide +kernel
theorem dX2_told_8 : decode cX2_told 8 = .ok (.imul, 1) := by decide +kernel
theorem dX2_told_9 : decode cX2_told 9 = .ok (.iadd, 1) := by decide +kernel
theorem dX2_told_10 : decode cX2_told 10 = .ok (.iload 4, 2) := by decide +kernel
theorem dX2_told_12 : decode cX2_told 12 = .ok (.iadd, 1) := by decide +kernel
theorem dX2_told_13 : decode cX2_told 13 = .ok (.imul, 1) := by decide +kernel
theorem dX2_told_14 : decode cX2_told 14 = .ok (.lushr, 1) := by decide +kernel
theorem dX2_told_15 : decode cX2_told 15 = .ok (.l2i, 1) := by decide +kernel
theorem dX2_told_16 : decode cX2_told 16 = .ok (.iconst 3, 1) := by decide +kernel
theorem dX2_told_17 : decode cX2_told 17 = .ok (.iand, 1) := by decide +kernel
theorem dX2_told_18 : decode cX2_told 18 = .ok (.ireturn, 1) := by decide +kernel
theorem dX2_nextByKind_0 : decode cX2_nextByKind 0 = .ok (.iload_n 3, 1) := by decide +kernel
theorem dX2_nextByKind_1 : decode cX2_nextByKind 1 = .ok (.iconst 1, 1) := by decide +kernel
theorem dX2_nextByKind_2 : decode cX2_nextByKind 2 = .ok (.if_icmp .le 5, 3) := by decide +kernel
theorem dX2_nextByKind_5 : decode cX2_nextByKind 5 = .ok (.iload_n 2, 1) := by decide +kernel
theorem dX2_nextByKind_6 : decode cX2_nextByKind 6 = .ok (.ireturn, 1) := by decide +kernel
theorem dX2_nextByKind_7 : decode cX2_nextByKind 7 = .ok (.aload_n 0, 1) := by decide +kernel
theorem dX2_nextByKind_8 : decode cX2_nextByKind 8 = .ok (.getfield 15, 3) := by decide +kernel
theorem dX2_nextByKind_11 : decode cX2_nextByKind 11 = .ok (.tableswitch 82 0 2 #[25, 35, 57], 25) := by decide +kernel
theorem dX2_nextByKind_36 : decode cX2_nextByKind 36 = .ok (.iload_n 3, 1) := by decide +kernel
theorem dX2_nextByKind_37 : decode cX2_nextByKind 37 = .ok (.ifCond .ne 7, 3) := by decide +kernel
theorem dX2_nextByKind_40 : decode cX2_nextByKind 40 = .ok (.iload_n 1, 1) := by decide +kernel
theorem dX2_nextByKind_41 : decode cX2_nextByKind 41 = .ok (.goto 4, 3) := by decide +kernel
theorem dX2_nextByKind_44 : decode cX2_nextByKind 44 = .ok (.iconst 0, 1) := by decide +kernel
theorem dX2_nextByKind_45 : decode cX2_nextByKind 45 = .ok (.ireturn, 1) := by decide +kernel
theorem dX2_nextByKind_46 : decode cX2_nextByKind 46 = .ok (.iload_n 3, 1) := by decide +kernel
theorem dX2_nextByKind_47 : decode cX2_nextByKind 47 = .ok (.ifCond .ne 13, 3) := by decide +kernel
theorem dX2_nextByKind_50 : decode cX2_nextByKind 50 = .ok (.iload_n 2, 1) := by decide +kernel
theorem dX2_nextByKind_51 : decode cX2_nextByKind 51 = .ok (.iconst 1, 1) := by decide +kernel
theorem dX2_nextByKind_52 : decode cX2_nextByKind 52 = .ok (.iadd, 1) := by decide +kernel
theorem dX2_nextByKind_53 : decode cX2_nextByKind 53 = .ok (.iconst 3, 1) := by decide +kernel
theorem dX2_nextByKind_54 : decode cX2_nextByKind 54 = .ok (.invokestatic 58, 3) := by decide +kernel
theorem dX2_nextByKind_57 : decode cX2_nextByKind 57 = .ok (.goto 10, 3) := by decide +kernel
theorem dX2_nextByKind_60 : decode cX2_nextByKind 60 = .ok (.iload_n 2, 1) := by decide +kernel
theorem dX2_nextByKind_61 : decode cX2_nextByKind 61 = .ok (.iconst 1, 1) := by decide +kernel
theorem dX2_nextByKind_62 : decode cX2_nextByKind 62 = .ok (.isub, 1) := by decide +kernel
theorem dX2_nextByKind_63 : decode cX2_nextByKind 63 = .ok (.iconst 0, 1) := by decide +kernel
theorem dX2_nextByKind_64 : decode cX2_nextByKind 64 = .ok (.invokestatic 64, 3) := by decide +kernel
theorem dX2_nextByKind_67 : decode cX2_nextByKind 67 = .ok (.ireturn, 1) := by decide +kernel
theorem dX2_nextByKind_68 : decode cX2_nextByKind 68 = .ok (.iload_n 3, 1) := by decide +kernel
theorem dX2_nextByKind_69 : decode cX2_nextByKind 69 = .ok (.ifCond .ne 13, 3) := by decide +kernel
theorem dX2_nextByKind_72 : decode cX2_nextByKind 72 = .ok (.iload_n 2, 1) := by decide +kernel
theorem dX2_nextByKind_73 : decode cX2_nextByKind 73 = .ok (.ifCond .ne 7, 3) := by decide +kernel
theorem dX2_nextByKind_76 : decode cX2_nextByKind 76 = .ok (.iload_n 1, 1) := by decide +kernel
theorem dX2_nextByKind_77 : decode cX2_nextByKind 77 = .ok (.goto 4, 3) := by decide +kernel
theorem dX2_nextByKind_80 : decode cX2_nextByKind 80 = .ok (.iload_n 2, 1) := by decide +kernel
theorem dX2_nextByKind_81 : decode cX2_nextByKind 81 = .ok (.ireturn, 1) := by decide +kernel
theorem dX2_nextByKind_82 : decode cX2_nextByKind 82 = .ok (.iload_n 2, 1) := by decide +kernel
theorem dX2_nextByKind_83 : decode cX2_nextByKind 83 = .ok (.iload_n 1, 1) := by decide +kernel
theorem dX2_nextByKind_84 : decode cX2_nextByKind 84 = .ok (.if_icmp .ne 7, 3) := by decide +kernel
theorem dX2_nextByKind_87 : decode cX2_nextByKind 87 = .ok (.iconst 0, 1) := by decide +kernel
theorem dX2_nextByKind_88 : decode cX2_nextByKind 88 = .ok (.goto 4, 3) := by decide +kernel
theorem dX2_nextByKind_91 : decode cX2_nextByKind 91 = .ok (.iload_n 2, 1) := by decide +kernel
theorem dX2_nextByKind_92 : decode cX2_nextByKind 92 = .ok (.ireturn, 1) := by decide +kernel
theorem dX2_nextByKind_93 : decode cX2_nextByKind 93 = .ok (.iload_n 3, 1) := by decide +kernel
theorem dX2_nextByKind_94 : decode cX2_nextByKind 94 = .ok (.ifCond .ne 7, 3) := by decide +kernel
theorem dX2_nextByKind_97 : decode cX2_nextByKind 97 = .ok (.iload_n 2, 1) := by decide +kernel
theorem dX2_nextByKind_98 : decode cX2_nextByKind 98 = .ok (.goto 8, 3) := by decide +kernel
theorem dX2_nextByKind_101 : decode cX2_nextByKind 101 = .ok (.iload_n 2, 1) := by decide +kernel
theorem dX2_nextByKind_102 : decode cX2_nextByKind 102 = .ok (.iconst 1, 1) := by decide +kernel
theorem dX2_nextByKind_103 : decode cX2_nextByKind 103 = .ok (.iadd, 1) := by decide +kernel
theorem dX2_nextByKind_104 : decode cX2_nextByKind 104 = .ok (.iconst 3, 1) := by decide +kernel
theorem dX2_nextByKind_105 : decode cX2_nextByKind 105 = .ok (.iand, 1) := by decide +kernel
theorem dX2_nextByKind_106 : decode cX2_nextByKind 106 = .ok (.ireturn, 1) := by decide +kernel
theorem dX2_answerByKind_0 : decode cX2_answerByKind 0 = .ok (.iload_n 3, 1) := by decide +kernel
theorem dX2_answerByKind_1 : decode cX2_answerByKind 1 = .ok (.iconst 1, 1) := by decide +kernel
theorem dX2_answerByKind_2 : decode cX2_answerByKind 2 = .ok (.if_icmp .le 5, 3) := by decide +kernel
theorem dX2_answerByKind_5 : decode cX2_answerByKind 5 = .ok (.iconst 0, 1) := by decide +kernel
theorem dX2_answerByKind_6 : decode cX2_answerByKind 6 = .ok (.ireturn, 1) := by decide +kernel
theorem dX2_answerByKind_7 : decode cX2_answerByKind 7 = .ok (.aload_n 0, 1) := by decide +kernel
theorem dX2_answerByKind_8 : decode cX2_answerByKind 8 = .ok (.getfield 15, 3) := by decide +kernel
theorem dX2_answerByKind_11 : decode cX2_answerByKind 11 = .ok (.tableswitch 78 0 2 #[25, 40, 59], 25) := by decide +kernel
theorem dX2_answerByKind_36 : decode cX2_answerByKind 36 = .ok (.iload_n 3, 1) := by decide +kernel
theorem dX2_answerByKind_37 : decode cX2_answerByKind 37 = .ok (.ifCond .ne 12, 3) := by decide +kernel
theorem dX2_answerByKind_40 : decode cX2_answerByKind 40 = .ok (.iload_n 2, 1) := by decide +kernel
theorem dX2_answerByKind_41 : decode cX2_answerByKind 41 = .ok (.iload_n 1, 1) := by decide +kernel
theorem dX2_answerByKind_42 : decode cX2_answerByKind 42 = .ok (.if_icmp .eq 7, 3) := by decide +kernel
theorem dX2_answerByKind_45 : decode cX2_answerByKind 45 = .ok (.iconst 1, 1) := by decide +kernel
theorem dX2_answerByKind_46 : decode cX2_answerByKind 46 = .ok (.goto 4, 3) := by decide +kernel
theorem dX2_answerByKind_49 : decode cX2_answerByKind 49 = .ok (.iconst 0, 1) := by decide +kernel
theorem dX2_answerByKind_50 : decode cX2_answerByKind 50 = .ok (.ireturn, 1) := by decide +kernel
theorem dX2_answerByKind_51 : decode cX2_answerByKind 51 = .ok (.iload_n 2, 1) := by decide +kernel
theorem dX2_answerByKind_52 : decode cX2_answerByKind 52 = .ok (.iload_n 3, 1) := by decide +kernel
theorem dX2_answerByKind_53 : decode cX2_answerByKind 53 = .ok (.ifCond .ne 7, 3) := by decide +kernel
theorem dX2_answerByKind_56 : decode cX2_answerByKind 56 = .ok (.iconst 3, 1) := by decide +kernel
theorem dX2_answerByKind_57 : decode cX2_answerByKind 57 = .ok (.goto 4, 3) := by decide +kernel
theorem dX2_answerByKind_60 : decode cX2_answerByKind 60 = .ok (.iconst 0, 1) := by decide +kernel
theorem dX2_answerByKind_61 : decode cX2_answerByKind 61 = .ok (.if_icmp .ne 7, 3) := by decide +kernel
theorem dX2_answerByKind_64 : decode cX2_answerByKind 64 = .ok (.iconst 1, 1) := by decide +kernel
theorem dX2_answerByKind_65 : decode cX2_answerByKind 65 = .ok (.goto 4, 3) := by decide +kernel
theorem dX2_answerByKind_68 : decode cX2_answerByKind 68 = .ok (.iconst 0, 1) := by decide +kernel
theorem dX2_answerByKind_69 : decode cX2_answerByKind 69 = .ok (.ireturn, 1) := by decide +kernel
theorem dX2_answerByKind_70 : decode cX2_answerByKind 70 = .ok (.iload_n 2, 1) := by decide +kernel
theorem dX2_answerByKind_71 : decode cX2_answerByKind 71 = .ok (.iload_n 1, 1) := by decide +kernel
theorem dX2_answerByKind_72 : decode cX2_answerByKind 72 = .ok (.if_icmp .eq 11, 3) := by decide +kernel
theorem dX2_answerByKind_75 : decode cX2_answerByKind 75 = .ok (.iload_n 3, 1) := by decide +kernel
theorem dX2_answerByKind_76 : decode cX2_answerByKind 76 = .ok (.ifCond .ne 11, 3) := by decide +kernel
theorem dX2_answerByKind_79 : decode cX2_answerByKind 79 = .ok (.iload_n 2, 1) := by decide +kernel
theorem dX2_answerByKind_80 : decode cX2_answerByKind 80 = .ok (.ifCond .ne 7, 3) := by decide +kernel
theorem dX2_answerByKind_83 : decode cX2_answerByKind 83 = .ok (.iconst 0, 1) := by decide +kernel
theorem dX2_answerByKind_84 : decode cX2_answerByKind 84 = .ok (.goto 4, 3) := by decide +kernel
theorem dX2_answerByKind_87 : decode cX2_answerByKind 87 = .ok (.iconst 1, 1) := by decide +kernel
theorem dX2_answerByKind_88 : decode cX2_answerByKind 88 = .ok (.ireturn, 1) := by decide +kernel
theorem dX2_answerByKind_89 : decode cX2_answerByKind 89 = .ok (.iload_n 3, 1) := by decide +kernel
theorem dX2_answerByKind_90 : decode cX2_answerByKind 90 = .ok (.ifCond .ne 7, 3) := by decide +kernel
theorem dX2_answerByKind_93 : decode cX2_answerByKind 93 = .ok (.iload_n 2, 1) := by decide +kernel
theorem dX2_answerByKind_94 : decode cX2_answerByKind 94 = .ok (.goto 4, 3) := by decide +kernel
theorem dX2_answerByKind_97 : decode cX2_answerByKind 97 = .ok (.iconst 0, 1) := by decide +kernel
theorem dX2_answerByKind_98 : decode cX2_answerByKind 98 = .ok (.ireturn, 1) := by decide +kernel
theorem dX3_init_0 : decode cX3_init 0 = .ok (.aload_n 0, 1) := by decide +kernel
theorem dX3_init_1 : decode cX3_init 1 = .ok (.invokespecial 3, 3) := by decide +kernel
theorem dX3_init_4 : decode cX3_init 4 = .ok (.aload_n 0, 1) := by decide +kernel
theorem dX3_init_5 : decode cX3_init 5 = .ok (.sipush 576, 3) := by decide +kernel
theorem dX3_init_8 : decode cX3_init 8 = .ok (.newarray .int, 2) := by decide +kernel
theorem dX3_init_10 : decode cX3_init 10 = .ok (.putfield 11, 3) := by decide +kernel
theorem dX3_init_13 : decode cX3_init 13 = .ok (.aload_n 0, 1) := by decide +kernel
theorem dX3_init_14 : decode cX3_init 14 = .ok (.iconst 3, 1) := by decide +kernel
theorem dX3_init_15 : decode cX3_init 15 = .ok (.newarray .int, 2) := by decide +kernel
theorem dX3_init_17 : decode cX3_init 17 = .ok (.putfield 15, 3) := by decide +kernel
theorem dX3_init_20 : decode cX3_init 20 = .ok (.aload_n 0, 1) := by decide +kernel
theorem dX3_init_21 : decode cX3_init 21 = .ok (.iconst 3, 1) := by decide +kernel
theorem dX3_init_22 : decode cX3_init 22 = .ok (.newarray .int, 2) := by decide +kernel
theorem dX3_init_24 : decode cX3_init 24 = .ok (.putfield 18, 3) := by decide +kernel
theorem dX3_init_27 : decode cX3_init 27 = .ok (.aload_n 0, 1) := by decide +kernel
theorem dX3_init_28 : decode cX3_init 28 = .ok (.iconst (-1), 1) := by decide +kernel
theorem dX3_init_29 : decode cX3_init 29 = .ok (.putfield 21, 3) := by decide +kernel
theorem dX3_init_32 : decode cX3_init 32 = .ok (.aload_n 0, 1) := by decide +kernel
theorem dX3_init_33 : decode cX3_init 33 = .ok (.iload_n 1, 1) := by decide +kernel
theorem dX3_init_34 : decode cX3_init 34 = .ok (.putfield 25, 3) := by decide +kernel
theorem dX3_init_37 : decode cX3_init 37 = .ok (.return_, 1) := by decide +kernel
theorem dX3_place_0 : decode cX3_place 0 = .ok (.iconst 3, 1) := by decide +kernel
theorem dX3_place_1 : decode cX3_place 1 = .ok (.iconst 3, 1) := by decide +kernel
theorem dX3_place_2 : decode cX3_place 2 = .ok (.iload_n 0, 1) := by decide +kernel
theorem dX3_place_3 : decode cX3_place 3 = .ok (.imul, 1) := by decide +kernel
theorem dX3_place_4 : decode cX3_place 4 = .ok (.iload_n 1, 1) := by decide +kernel
theorem dX3_place_5 : decode cX3_place 5 = .ok (.iadd, 1) := by decide +kernel
theorem dX3_place_6 : decode cX3_place 6 = .ok (.imul, 1) := by decide +kernel
theorem dX3_place_7 : decode cX3_place 7 = .ok (.ireturn, 1) := by decide +kernel
set_option maxRecDepth 20000 in
theorem ggX3_grow_X3_addLetter : GoodIn wsX3_grow wsX3_addLetter := goodIn_r _ [9, 10, 1, 11, 3, 4, 12, 13, 8, 14, 68, 69, 70, 71, 72, 73] (by decide +kernel) (by decide +kernel)
set_option maxRecDepth 20000 in
theorem gX3_grow_X3_addLetter : GoodIn wsX3_grow (wsV RX3 28 RX3 yX3_addLetter wsX3_addLetter) := goodIn_app (goodIn_of _ (by decide +kernel)) ggX3_grow_X3_addLetter
set_option maxRecDepth 20000 in
theorem ggX3_grow_X1_sent : GoodIn wsX3_grow wsX1_sent := goodIn_r _ [19, 20, 21, 22, 23, 24, 18, 25, 26, 27, 28, 29, 30, 31, 32, 33, 74, 75, 76, 77, 78, 79, 80] (by decide +kernel) (by decide +kernel)
set_option maxRecDepth 20000 in
theorem gX3_grow_X1_sent : GoodIn wsX3_grow (wsV RX3 35 RX1 yX1_sent wsX1_sent) := goodIn_app (goodIn_of _ (by decide +kernel)) ggX3_grow_X1_sent
set_option maxRecDepth 20000 in
theorem ggX3_grow_X4_mostBy : GoodIn wsX3_grow wsX4_mostBy := goodIn_r _ [36, 37, 38, 39, 18, 40, 20, 41, 23, 24, 25, 26, 27, 28, 42, 43, 44, 45, 46, 47, 48, 49, 50, 51, 52, 53, 54, 55, 35, 56, 57, 58, 59, 60, 61, 62, 16, 17, 19, 21, 22, 29, 30, 31, 32, 33, 63, 34, 74, 75, 76, 77, 78, 79, 80] (by decide +kernel) (by decide +kernel)
set_option maxRecDepth 20000 in
theorem gX3_grow_X4_mostBy_n39 : GoodIn wsX3_grow (wsX4_mostBy) := ggX3_grow_X4_mostBy
set_option maxRecDepth 20000 in
theorem ggX3_grow_X1_answers : GoodIn wsX3_grow wsX1_answers := goodIn_r _ [40, 20, 41, 23, 24, 18, 25, 26, 27, 28, 74, 75, 76, 77, 78, 79, 80] (by decide +kernel) (by decide +kernel)
set_option maxRecDepth 20000 in
theorem gX3_grow_X1_answers : GoodIn wsX3_grow (wsV RX3 43 RX1 yX1_answers wsX1_answers) := goodIn_app (goodIn_of _ (by decide +kernel)) ggX3_grow_X1_answers
set_option maxRecDepth 20000 in
theorem ggX3_grow_X1_heard : GoodIn wsX3_grow wsX1_heard := goodIn_r _ [52, 20, 41, 53, 23, 24, 18, 25, 26, 27, 28, 74, 75, 76, 77, 78, 79, 80] (by decide +kernel) (by decide +kernel)
set_option maxRecDepth 20000 in
theorem gX3_grow_X1_heard : GoodIn wsX3_grow (wsV RX3 46 RX1 yX1_heard wsX1_heard) := goodIn_app (goodIn_of _ (by decide +kernel)) ggX3_grow_X1_heard
set_option maxRecDepth 20000 in
theorem ggX3_grow_X3_grow : GoodIn wsX3_grow wsX3_grow := goodIn_r _ [0, 1, 2, 3, 4, 5, 6, 7, 8, 9, 10, 11, 12, 13, 14, 15, 16, 17, 18, 19, 20, 21, 22, 23, 24, 25, 26, 27, 28, 29, 30, 31, 32, 33, 34, 35, 36, 37, 38, 39, 40, 41, 42, 43, 44, 45, 46, 47, 48, 49, 50, 51, 52, 53, 54, 55, 56, 57, 58, 59, 60, 61, 62, 63, 64, 65, 66, 67, 68, 69, 70, 71, 72, 73, 74, 75, 76, 77, 78, 79, 80] (by decide +kernel) (by decide +kernel)
set_option maxRecDepth 20000 in
theorem gX3_grow_X3_grow : GoodIn wsX3_grow (va_wsS RX3 50 yX3_grow wsX3_grow) := goodIn_app (goodIn_of _ (by decide +kernel)) ggX3_grow_X3_grow
theorem dX3_grow_0 : decode cX3_grow 0 = .ok (.iload 4, 2) := by decide +kernel
theorem dX3_grow_2 : decode cX3_grow 2 = .ok (.aload_n 0, 1) := by decide +kernel
theorem dX3_grow_3 : decode cX3_grow 3 = .ok (.getfield 25, 3) := by decide +kernel
theorem dX3_grow_6 : decode cX3_grow 6 = .ok (.if_icmp .lt 8, 3) := by decide +kernel
theorem dX3_grow_9 : decode cX3_grow 9 = .ok (.aload_n 0, 1) := by decide +kernel
theorem dX3_grow_10 : decode cX3_grow 10 = .ok (.invokevirtual 28, 3) := by decide +kernel
theorem dX3_grow_13 : decode cX3_grow 13 = .ok (.return_, 1) := by decide +kernel
theorem dX3_grow_14 : decode cX3_grow 14 = .ok (.aload_n 1, 1) := by decide +kernel
theorem dX3_grow_15 : decode cX3_grow 15 = .ok (.lload_n 2, 1) := by decide +kernel
theorem dX3_grow_16 : decode cX3_grow 16 = .ok (.iconst 0, 1) := by decide +kernel
theorem dX3_grow_17 : decode cX3_grow 17 = .ok (.aload_n 1, 1) := by decide +kernel
theorem dX3_grow_18 : decode cX3_grow 18 = .ok (.getfield 31, 3) := by decide +kernel
theorem dX3_grow_21 : decode cX3_grow 21 = .ok (.iload 4, 2) := by decide +kernel
theorem dX3_grow_23 : decode cX3_grow 23 = .ok (.invokevirtual 35, 3) := by decide +kernel
theorem dX3_grow_26 : decode cX3_grow 26 = .ok (.lstore 5, 2) := by decide +kernel
theorem dX3_grow_28 : decode cX3_grow 28 = .ok (.iconst 0, 1) := by decide +kernel
theorem dX3_grow_29 : decode cX3_grow 29 = .ok (.istore 7, 2) := by decide +kernel
theorem dX3_grow_31 : decode cX3_grow 31 = .ok (.iconst 0, 1) := by decide +kernel
theorem dX3_grow_32 : decode cX3_grow 32 = .ok (.istore 8, 2) := by decide +kernel
theorem dX3_grow_34 : decode cX3_grow 34 = .ok (.iconst 0, 1) := by decide +kernel
theorem dX3_grow_35 : decode cX3_grow 35 = .ok (.istore 9, 2) := by decide +kernel
theorem dX3_grow_37 : decode cX3_grow 37 = .ok (.iload 9, 2) := by decide +kernel
theorem dX3_grow_39 : decode cX3_grow 39 = .ok (.aload_n 1, 1) := by decide +kernel
theorem dX3_grow_40 : decode cX3_grow 40 = .ok (.getfield 31, 3) := by decide +kernel
theorem dX3_grow_43 : decode cX3_grow 43 = .ok (.if_icmp .gt 40, 3) := by decide +kernel
theorem dX3_grow_46 : decode cX3_grow 46 = .ok (.aload_n 1, 1) := by decide +kernel
theorem dX3_grow_47 : decode cX3_grow 47 = .ok (.lload 5, 2) := by decide +kernel
theorem dX3_grow_49 : decode cX3_grow 49 = .ok (.iload 9, 2) := by decide +kernel
theorem dX3_grow_51 : decode cX3_grow 51 = .ok (.iload 4, 2) := by decide +kernel
theorem dX3_grow_53 : decode cX3_grow 53 = .ok (.aload_n 0, 1) := by decide +kernel
theorem dX3_grow_54 : decode cX3_grow 54 = .ok (.getfield 25, 3) := by decide +kernel
theorem dX3_grow_57 : decode cX3_grow 57 = .ok (.invokestatic 39, 3) := by decide +kernel
theorem dX3_grow_60 : decode cX3_grow 60 = .ok (.istore 10, 2) := by decide +kernel
theorem dX3_grow_62 : decode cX3_grow 62 = .ok (.iload 10, 2) := by decide +kernel
theorem dX3_grow_64 : decode cX3_grow 64 = .ok (.iload 8, 2) := by decide +kernel
theorem dX3_grow_66 : decode cX3_grow 66 = .ok (.if_icmp .le 11, 3) := by decide +kernel
theorem dX3_grow_69 : decode cX3_grow 69 = .ok (.iload 9, 2) := by decide +kernel
theorem dX3_grow_71 : decode cX3_grow 71 = .ok (.istore 7, 2) := by decide +kernel
theorem dX3_grow_73 : decode cX3_grow 73 = .ok (.iload 10, 2) := by decide +kernel
theorem dX3_grow_75 : decode cX3_grow 75 = .ok (.istore 8, 2) := by decide +kernel
theorem dX3_grow_77 : decode cX3_grow 77 = .ok (.iinc 9 1, 3) := by decide +kernel
theorem dX3_grow_80 : decode cX3_grow 80 = .ok (.goto (-43), 3) := by decide +kernel
theorem dX3_grow_83 : decode cX3_grow 83 = .ok (.aload_n 1, 1) := by decide +kernel
theorem dX3_grow_84 : decode cX3_grow 84 = .ok (.lload 5, 2) := by decide +kernel
theorem dX3_grow_86 : decode cX3_grow 86 = .ok (.iload 7, 2) := by decide +kernel
theorem dX3_grow_88 : decode cX3_grow 88 = .ok (.invokevirtual 43, 3) := by decide +kernel
theorem dX3_grow_91 : decode cX3_grow 91 = .ok (.istore 9, 2) := by decide +kernel
theorem dX3_grow_93 : decode cX3_grow 93 = .ok (.iconst 0, 1) := by decide +kernel
theorem dX3_grow_94 : decode cX3_grow 94 = .ok (.istore 10, 2) := by decide +kernel
theorem dX3_grow_96 : decode cX3_grow 96 = .ok (.iload 10, 2) := by decide +kernel
theorem dX3_grow_98 : decode cX3_grow 98 = .ok (.iconst 4, 1) := by decide +kernel
theorem dX3_grow_99 : decode cX3_grow 99 = .ok (.if_icmp .ge 70, 3) := by decide +kernel
theorem dX3_grow_102 : decode cX3_grow 102 = .ok (.iload 9, 2) := by decide +kernel
theorem dX3_grow_104 : decode cX3_grow 104 = .ok (.iload 10, 2) := by decide +kernel
theorem dX3_grow_106 : decode cX3_grow 106 = .ok (.ishr, 1) := by decide +kernel
theorem dX3_grow_107 : decode cX3_grow 107 = .ok (.iconst 1, 1) := by decide +kernel
theorem dX3_grow_108 : decode cX3_grow 108 = .ok (.iand, 1) := by decide +kernel
theorem dX3_grow_109 : decode cX3_grow 109 = .ok (.ifCond .eq 54, 3) := by decide +kernel
theorem dX3_grow_112 : decode cX3_grow 112 = .ok (.aload_n 0, 1) := by decide +kernel
theorem dX3_grow_113 : decode cX3_grow 113 = .ok (.getfield 15, 3) := by decide +kernel
theorem dX3_grow_116 : decode cX3_grow 116 = .ok (.iload 4, 2) := by decide +kernel
theorem dX3_grow_118 : decode cX3_grow 118 = .ok (.iload 7, 2) := by decide +kernel
theorem dX3_grow_120 : decode cX3_grow 120 = .ok (.aload_n 1, 1) := by decide +kernel
theorem dX3_grow_121 : decode cX3_grow 121 = .ok (.getfield 31, 3) := by decide +kernel
theorem dX3_grow_124 : decode cX3_grow 124 = .ok (.if_icmp .ge 8, 3) := by decide +kernel
theorem dX3_grow_127 : decode cX3_grow 127 = .ok (.iload 7, 2) := by decide +kernel
theorem dX3_grow_129 : decode cX3_grow 129 = .ok (.goto 5, 3) := by decide +kernel
theorem dX3_grow_132 : decode cX3_grow 132 = .ok (.bipush 9, 2) := by decide +kernel
theorem dX3_grow_134 : decode cX3_grow 134 = .ok (.iastore, 1) := by decide +kernel
theorem dX3_grow_135 : decode cX3_grow 135 = .ok (.aload_n 0, 1) := by decide +kernel
theorem dX3_grow_136 : decode cX3_grow 136 = .ok (.getfield 18, 3) := by decide +kernel
theorem dX3_grow_139 : decode cX3_grow 139 = .ok (.iload 4, 2) := by decide +kernel
theorem dX3_grow_141 : decode cX3_grow 141 = .ok (.iload 10, 2) := by decide +kernel
theorem dX3_grow_143 : decode cX3_grow 143 = .ok (.iastore, 1) := by decide +kernel
theorem dX3_grow_144 : decode cX3_grow 144 = .ok (.aload_n 0, 1) := by decide +kernel
theorem dX3_grow_145 : decode cX3_grow 145 = .ok (.aload_n 1, 1) := by decide +kernel
theorem dX3_grow_146 : decode cX3_grow 146 = .ok (.aload_n 1, 1) := by decide +kernel
theorem dX3_grow_147 : decode cX3_grow 147 = .ok (.lload 5, 2) := by decide +kernel
theorem dX3_grow_149 : decode cX3_grow 149 = .ok (.iload 7, 2) := by decide +kernel
theorem dX3_grow_151 : decode cX3_grow 151 = .ok (.iload 10, 2) := by decide +kernel
theorem dX3_grow_153 : decode cX3_grow 153 = .ok (.invokevirtual 46, 3) := by decide +kernel
theorem dX3_grow_156 : decode cX3_grow 156 = .ok (.iload 4, 2) := by decide +kernel
theorem dX3_grow_158 : decode cX3_grow 158 = .ok (.iconst 1, 1) := by decide +kernel
theorem dX3_grow_159 : decode cX3_grow 159 = .ok (.iadd, 1) := by decide +kernel
theorem dX3_grow_160 : decode cX3_grow 160 = .ok (.invokestatic 50, 3) := by decide +kernel
theorem dX3_grow_163 : decode cX3_grow 163 = .ok (.iinc 10 1, 3) := by decide +kernel
theorem dX3_grow_166 : decode cX3_grow 166 = .ok (.goto (-70), 3) := by decide +kernel
theorem dX3_grow_169 : decode cX3_grow 169 = .ok (.return_, 1) := by decide +kernel
set_option maxRecDepth 20000 in
theorem ggX3_addLetter_X3_place : GoodIn wsX3_addLetter wsX3_place := goodIn_r _ [9] (by decide +kernel) (by decide +kernel)
set_option maxRecDepth 20000 in
theorem gX3_addLetter_X3_place : GoodIn wsX3_addLetter (va_wsS RX3 57 yX3_place wsX3_place) := goodIn_app (goodIn_of _ (by decide +kernel)) ggX3_addLetter_X3_place
theorem dX3_addLetter_0 : decode cX3_addLetter 0 = .ok (.aload_n 0, 1) := by decide +kernel
theorem dX3_addLetter_1 : decode cX3_addLetter 1 = .ok (.getfield 54, 3) := by decide +kernel
theorem dX3_addLetter_4 : decode cX3_addLetter 4 = .ok (.bipush 64, 2) := by decide +kernel
theorem dX3_addLetter_6 : decode cX3_addLetter 6 = .ok (.if_icmp .lt 4, 3) := by decide +kernel
theorem dX3_addLetter_9 : decode cX3_addLetter 9 = .ok (.return_, 1) := by decide +kernel
theorem dX3_addLetter_10 : decode cX3_addLetter 10 = .ok (.iconst 0, 1) := by decide +kernel
theorem dX3_addLetter_11 : decode cX3_addLetter 11 = .ok (.istore_n 1, 1) := by decide +kernel
theorem dX3_addLetter_12 : decode cX3_addLetter 12 = .ok (.iload_n 1, 1) := by decide +kernel
theorem dX3_addLetter_13 : decode cX3_addLetter 13 = .ok (.aload_n 0, 1) := by decide +kernel
theorem dX3_addLetter_14 : decode cX3_addLetter 14 = .ok (.getfield 25, 3) := by decide +kernel
theorem dX3_addLetter_17 : decode cX3_addLetter 17 = .ok (.if_icmp .ge 49, 3) := by decide +kernel
theorem dX3_addLetter_20 : decode cX3_addLetter 20 = .ok (.aload_n 0, 1) := by decide +kernel
theorem dX3_addLetter_21 : decode cX3_addLetter 21 = .ok (.getfield 11, 3) := by decide +kernel
theorem dX3_addLetter_24 : decode cX3_addLetter 24 = .ok (.aload_n 0, 1) := by decide +kernel
theorem dX3_addLetter_25 : decode cX3_addLetter 25 = .ok (.getfield 54, 3) := by decide +kernel
theorem dX3_addLetter_28 : decode cX3_addLetter 28 = .ok (.iload_n 1, 1) := by decide +kernel
theorem dX3_addLetter_29 : decode cX3_addLetter 29 = .ok (.invokestatic 57, 3) := by decide +kernel
theorem dX3_addLetter_32 : decode cX3_addLetter 32 = .ok (.aload_n 0, 1) := by decide +kernel
theorem dX3_addLetter_33 : decode cX3_addLetter 33 = .ok (.getfield 15, 3) := by decide +kernel
theorem dX3_addLetter_36 : decode cX3_addLetter 36 = .ok (.iload_n 1, 1) := by decide +kernel
theorem dX3_addLetter_37 : decode cX3_addLetter 37 = .ok (.iaload, 1) := by decide +kernel
theorem dX3_addLetter_38 : decode cX3_addLetter 38 = .ok (.iastore, 1) := by decide +kernel
theorem dX3_addLetter_39 : decode cX3_addLetter 39 = .ok (.aload_n 0, 1) := by decide +kernel
theorem dX3_addLetter_40 : decode cX3_addLetter 40 = .ok (.getfield 11, 3) := by decide +kernel
theorem dX3_addLetter_43 : decode cX3_addLetter 43 = .ok (.aload_n 0, 1) := by decide +kernel
theorem dX3_addLetter_44 : decode cX3_addLetter 44 = .ok (.getfield 54, 3) := by decide +kernel
theorem dX3_addLetter_47 : decode cX3_addLetter 47 = .ok (.iload_n 1, 1) := by decide +kernel
theorem dX3_addLetter_48 : decode cX3_addLetter 48 = .ok (.invokestatic 57, 3) := by decide +kernel
theorem dX3_addLetter_51 : decode cX3_addLetter 51 = .ok (.iconst 1, 1) := by decide +kernel
theorem dX3_addLetter_52 : decode cX3_addLetter 52 = .ok (.iadd, 1) := by decide +kernel
theorem dX3_addLetter_53 : decode cX3_addLetter 53 = .ok (.aload_n 0, 1) := by decide +kernel
theorem dX3_addLetter_54 : decode cX3_addLetter 54 = .ok (.getfield 18, 3) := by decide +kernel
theorem dX3_addLetter_57 : decode cX3_addLetter 57 = .ok (.iload_n 1, 1) := by decide +kernel
theorem dX3_addLetter_58 : decode cX3_addLetter 58 = .ok (.iaload, 1) := by decide +kernel
theorem dX3_addLetter_59 : decode cX3_addLetter 59 = .ok (.iastore, 1) := by decide +kernel
theorem dX3_addLetter_60 : decode cX3_addLetter 60 = .ok (.iinc 1 1, 3) := by decide +kernel
theorem dX3_addLetter_63 : decode cX3_addLetter 63 = .ok (.goto (-51), 3) := by decide +kernel
theorem dX3_addLetter_66 : decode cX3_addLetter 66 = .ok (.aload_n 0, 1) := by decide +kernel
theorem dX3_addLetter_67 : decode cX3_addLetter 67 = .ok (.dup, 1) := by decide +kernel
theorem dX3_addLetter_68 : decode cX3_addLetter 68 = .ok (.getfield 54, 3) := by decide +kernel
theorem dX3_addLetter_71 : decode cX3_addLetter 71 = .ok (.iconst 1, 1) := by decide +kernel
theorem dX3_addLetter_72 : decode cX3_addLetter 72 = .ok (.iadd, 1) := by decide +kernel
theorem dX3_addLetter_73 : decode cX3_addLetter 73 = .ok (.putfield 54, 3) := by decide +kernel
theorem dX3_addLetter_76 : decode cX3_addLetter 76 = .ok (.return_, 1) := by decide +kernel
set_option maxRecDepth 20000 in
theorem ggX3_addSenders_X3_step : GoodIn wsX3_addSenders wsX3_step := goodIn_r _ [10, 5, 11, 12, 13, 14, 15, 16, 17, 18, 19, 20, 21, 22, 23, 24, 25, 26, 27, 28, 29, 30, 31, 9, 32, 33, 34, 35, 36, 37, 38, 43, 44, 45, 46, 47, 48, 49, 50, 51, 52, 53, 54, 55] (by decide +kernel) (by decide +kernel)
set_option maxRecDepth 20000 in
theorem gX3_addSenders_X3_step : GoodIn wsX3_addSenders (wsV RX3 65 RX3 yX3_step wsX3_step) := goodIn_app (goodIn_of _ (by decide +kernel)) ggX3_addSenders_X3_step
set_option maxRecDepth 20000 in
theorem ggX3_addSenders_X3_leads : GoodIn wsX3_addSenders wsX3_leads := goodIn_r _ [42, 3, 4, 5, 11, 12, 13, 14, 15, 16, 17, 18, 19, 20, 21, 22, 23, 24, 25, 26, 27, 28, 29, 30, 31, 9, 32, 33, 34, 35, 36, 37, 38, 43, 44, 45, 46, 47, 48, 49, 50, 51, 52, 53, 54, 55] (by decide +kernel) (by decide +kernel)
set_option maxRecDepth 20000 in
theorem gX3_addSenders_X3_leads : GoodIn wsX3_addSenders (wsV RX3 69 RX3 yX3_leads wsX3_leads) := goodIn_app (goodIn_of _ (by decide +kernel)) ggX3_addSenders_X3_leads
set_option maxRecDepth 20000 in
theorem ggX3_addSenders_X3_place : GoodIn wsX3_addSenders wsX3_place := goodIn_r _ [32] (by decide +kernel) (by decide +kernel)
set_option maxRecDepth 20000 in
theorem gX3_addSenders_X3_place : GoodIn wsX3_addSenders (va_wsS RX3 57 yX3_place wsX3_place) := goodIn_app (goodIn_of _ (by decide +kernel)) ggX3_addSenders_X3_place
theorem dX3_addSenders_0 : decode cX3_addSenders 0 = .ok (.iconst 0, 1) := by decide +kernel
theorem dX3_addSenders_1 : decode cX3_addSenders 1 = .ok (.istore_n 2, 1) := by decide +kernel
theorem dX3_addSenders_2 : decode cX3_addSenders 2 = .ok (.iload_n 2, 1) := by decide +kernel
theorem dX3_addSenders_3 : decode cX3_addSenders 3 = .ok (.aload_n 0, 1) := by decide +kernel
theorem dX3_addSenders_4 : decode cX3_addSenders 4 = .ok (.getfield 54, 3) := by decide +kernel
theorem dX3_addSenders_7 : decode cX3_addSenders 7 = .ok (.if_icmp .ge 115, 3) := by decide +kernel
theorem dX3_addSenders_10 : decode cX3_addSenders 10 = .ok (.aload_n 1, 1) := by decide +kernel
theorem dX3_addSenders_11 : decode cX3_addSenders 11 = .ok (.getfield 61, 3) := by decide +kernel
theorem dX3_addSenders_14 : decode cX3_addSenders 14 = .ok (.lstore_n 3, 1) := by decide +kernel
theorem dX3_addSenders_15 : decode cX3_addSenders 15 = .ok (.iconst 0, 1) := by decide +kernel
theorem dX3_addSenders_16 : decode cX3_addSenders 16 = .ok (.istore 5, 2) := by decide +kernel
theorem dX3_addSenders_18 : decode cX3_addSenders 18 = .ok (.iload 5, 2) := by decide +kernel
theorem dX3_addSenders_20 : decode cX3_addSenders 20 = .ok (.aload_n 0, 1) := by decide +kernel
theorem dX3_addSenders_21 : decode cX3_addSenders 21 = .ok (.getfield 25, 3) := by decide +kernel
theorem dX3_addSenders_24 : decode cX3_addSenders 24 = .ok (.if_icmp .ge 92, 3) := by decide +kernel
theorem dX3_addSenders_27 : decode cX3_addSenders 27 = .ok (.iconst 0, 1) := by decide +kernel
theorem dX3_addSenders_28 : decode cX3_addSenders 28 = .ok (.istore 6, 2) := by decide +kernel
theorem dX3_addSenders_30 : decode cX3_addSenders 30 = .ok (.iload 6, 2) := by decide +kernel
theorem dX3_addSenders_32 : decode cX3_addSenders 32 = .ok (.aload_n 1, 1) := by decide +kernel
theorem dX3_addSenders_33 : decode cX3_addSenders 33 = .ok (.getfield 31, 3) := by decide +kernel
theorem dX3_addSenders_36 : decode cX3_addSenders 36 = .ok (.if_icmp .ge 33, 3) := by decide +kernel
theorem dX3_addSenders_39 : decode cX3_addSenders 39 = .ok (.aload_n 0, 1) := by decide +kernel
theorem dX3_addSenders_40 : decode cX3_addSenders 40 = .ok (.aload_n 1, 1) := by decide +kernel
theorem dX3_addSenders_41 : decode cX3_addSenders 41 = .ok (.aload_n 0, 1) := by decide +kernel
theorem dX3_addSenders_42 : decode cX3_addSenders 42 = .ok (.aload_n 1, 1) := by decide +kernel
theorem dX3_addSenders_43 : decode cX3_addSenders 43 = .ok (.lload_n 3, 1) := by decide +kernel
theorem dX3_addSenders_44 : decode cX3_addSenders 44 = .ok (.iload 6, 2) := by decide +kernel
theorem dX3_addSenders_46 : decode cX3_addSenders 46 = .ok (.iload_n 2, 1) := by decide +kernel
theorem dX3_addSenders_47 : decode cX3_addSenders 47 = .ok (.iload 5, 2) := by decide +kernel
theorem dX3_addSenders_49 : decode cX3_addSenders 49 = .ok (.invokevirtual 65, 3) := by decide +kernel
theorem dX3_addSenders_52 : decode cX3_addSenders 52 = .ok (.iload_n 2, 1) := by decide +kernel
theorem dX3_addSenders_53 : decode cX3_addSenders 53 = .ok (.iload 5, 2) := by decide +kernel
theorem dX3_addSenders_55 : decode cX3_addSenders 55 = .ok (.iconst 1, 1) := by decide +kernel
theorem dX3_addSenders_56 : decode cX3_addSenders 56 = .ok (.iadd, 1) := by decide +kernel
theorem dX3_addSenders_57 : decode cX3_addSenders 57 = .ok (.invokevirtual 69, 3) := by decide +kernel
theorem dX3_addSenders_60 : decode cX3_addSenders 60 = .ok (.ifCond .ne 9, 3) := by decide +kernel
theorem dX3_addSenders_63 : decode cX3_addSenders 63 = .ok (.iinc 6 1, 3) := by decide +kernel
theorem dX3_addSenders_66 : decode cX3_addSenders 66 = .ok (.goto (-36), 3) := by decide +kernel
theorem dX3_addSenders_69 : decode cX3_addSenders 69 = .ok (.aload_n 0, 1) := by decide +kernel
theorem dX3_addSenders_70 : decode cX3_addSenders 70 = .ok (.getfield 11, 3) := by decide +kernel
theorem dX3_addSenders_73 : decode cX3_addSenders 73 = .ok (.iload_n 2, 1) := by decide +kernel
theorem dX3_addSenders_74 : decode cX3_addSenders 74 = .ok (.iload 5, 2) := by decide +kernel
theorem dX3_addSenders_76 : decode cX3_addSenders 76 = .ok (.invokestatic 57, 3) := by decide +kernel
theorem dX3_addSenders_79 : decode cX3_addSenders 79 = .ok (.iconst 2, 1) := by decide +kernel
theorem dX3_addSenders_80 : decode cX3_addSenders 80 = .ok (.iadd, 1) := by decide +kernel
theorem dX3_addSenders_81 : decode cX3_addSenders 81 = .ok (.iload 6, 2) := by decide +kernel
theorem dX3_addSenders_83 : decode cX3_addSenders 83 = .ok (.aload_n 1, 1) := by decide +kernel
theorem dX3_addSenders_84 : decode cX3_addSenders 84 = .ok (.getfield 31, 3) := by decide +kernel
theorem dX3_addSenders_87 : decode cX3_addSenders 87 = .ok (.if_icmp .ge 8, 3) := by decide +kernel
theorem dX3_addSenders_90 : decode cX3_addSenders 90 = .ok (.iload 6, 2) := by decide +kernel
theorem dX3_addSenders_92 : decode cX3_addSenders 92 = .ok (.goto 5, 3) := by decide +kernel
theorem dX3_addSenders_95 : decode cX3_addSenders 95 = .ok (.bipush 9, 2) := by decide +kernel
theorem dX3_addSenders_97 : decode cX3_addSenders 97 = .ok (.iastore, 1) := by decide +kernel
theorem dX3_addSenders_98 : decode cX3_addSenders 98 = .ok (.aload_n 0, 1) := by decide +kernel
theorem dX3_addSenders_99 : decode cX3_addSenders 99 = .ok (.aload_n 1, 1) := by decide +kernel
theorem dX3_addSenders_100 : decode cX3_addSenders 100 = .ok (.lload_n 3, 1) := by decide +kernel
theorem dX3_addSenders_101 : decode cX3_addSenders 101 = .ok (.iload 6, 2) := by decide +kernel
theorem dX3_addSenders_103 : decode cX3_addSenders 103 = .ok (.iload_n 2, 1) := by decide +kernel
theorem dX3_addSenders_104 : decode cX3_addSenders 104 = .ok (.iload 5, 2) := by decide +kernel
theorem dX3_addSenders_106 : decode cX3_addSenders 106 = .ok (.invokevirtual 65, 3) := by decide +kernel
theorem dX3_addSenders_109 : decode cX3_addSenders 109 = .ok (.lstore_n 3, 1) := by decide +kernel
theorem dX3_addSenders_110 : decode cX3_addSenders 110 = .ok (.iinc 5 1, 3) := by decide +kernel
theorem dX3_addSenders_113 : decode cX3_addSenders 113 = .ok (.goto (-95), 3) := by decide +kernel
theorem dX3_addSenders_116 : decode cX3_addSenders 116 = .ok (.iinc 2 1, 3) := by decide +kernel
theorem dX3_addSenders_119 : decode cX3_addSenders 119 = .ok (.goto (-117), 3) := by decide +kernel
theorem dX3_addSenders_122 : decode cX3_addSenders 122 = .ok (.return_, 1) := by decide +kernel
set_option maxRecDepth 20000 in
theorem ggX3_step_X1_sent : GoodIn wsX3_step wsX1_sent := goodIn_r _ [6, 7, 8, 9, 10, 11, 5, 12, 13, 14, 15, 16, 17, 18, 19, 20, 37, 38, 39, 40, 41, 42, 43] (by decide +kernel) (by decide +kernel)
set_option maxRecDepth 20000 in
theorem gX3_step_X1_sent : GoodIn wsX3_step (wsV RX3 35 RX1 yX1_sent wsX1_sent) := goodIn_app (goodIn_of _ (by decide +kernel)) ggX3_step_X1_sent
set_option maxRecDepth 20000 in
theorem ggX3_step_X3_place : GoodIn wsX3_step wsX3_place := goodIn_r _ [24] (by decide +kernel) (by decide +kernel)
set_option maxRecDepth 20000 in
theorem gX3_step_X3_place : GoodIn wsX3_step (va_wsS RX3 57 yX3_place wsX3_place) := goodIn_app (goodIn_of _ (by decide +kernel)) ggX3_step_X3_place
set_option maxRecDepth 20000 in
theorem ggX3_step_X1_heard : GoodIn wsX3_step wsX1_heard := goodIn_r _ [28, 7, 29, 30, 10, 11, 5, 12, 13, 14, 15, 37, 38, 39, 40, 41, 42, 43] (by decide +kernel) (by decide +kernel)
set_option maxRecDepth 20000 in
theorem gX3_step_X1_heard : GoodIn wsX3_step (wsV RX3 46 RX1 yX1_heard wsX1_heard) := goodIn_app (goodIn_of _ (by decide +kernel)) ggX3_step_X1_heard
theorem dX3_step_0 : decode cX3_step 0 = .ok (.aload_n 1, 1) := by decide +kernel
theorem dX3_step_1 : decode cX3_step 1 = .ok (.aload_n 1, 1) := by decide +kernel
theorem dX3_step_2 : decode cX3_step 2 = .ok (.lload_n 2, 1) := by decide +kernel
theorem dX3_step_3 : decode cX3_step 3 = .ok (.iload 4, 2) := by decide +kernel
theorem dX3_step_5 : decode cX3_step 5 = .ok (.iload 4, 2) := by decide +kernel
theorem dX3_step_7 : decode cX3_step 7 = .ok (.iload 6, 2) := by decide +kernel
theorem dX3_step_9 : decode cX3_step 9 = .ok (.invokevirtual 35, 3) := by decide +kernel
theorem dX3_step_12 : decode cX3_step 12 = .ok (.aload_n 0, 1) := by decide +kernel
theorem dX3_step_13 : decode cX3_step 13 = .ok (.getfield 11, 3) := by decide +kernel
theorem dX3_step_16 : decode cX3_step 16 = .ok (.iload 5, 2) := by decide +kernel
theorem dX3_step_18 : decode cX3_step 18 = .ok (.iload 6, 2) := by decide +kernel
theorem dX3_step_20 : decode cX3_step 20 = .ok (.invokestatic 57, 3) := by decide +kernel
theorem dX3_step_23 : decode cX3_step 23 = .ok (.iaload, 1) := by decide +kernel
theorem dX3_step_24 : decode cX3_step 24 = .ok (.aload_n 0, 1) := by decide +kernel
theorem dX3_step_25 : decode cX3_step 25 = .ok (.getfield 11, 3) := by decide +kernel
theorem dX3_step_28 : decode cX3_step 28 = .ok (.iload 5, 2) := by decide +kernel
theorem dX3_step_30 : decode cX3_step 30 = .ok (.iload 6, 2) := by decide +kernel
theorem dX3_step_32 : decode cX3_step 32 = .ok (.invokestatic 57, 3) := by decide +kernel
theorem dX3_step_35 : decode cX3_step 35 = .ok (.iconst 1, 1) := by decide +kernel
theorem dX3_step_36 : decode cX3_step 36 = .ok (.iadd, 1) := by decide +kernel
theorem dX3_step_37 : decode cX3_step 37 = .ok (.iaload, 1) := by decide +kernel
theorem dX3_step_38 : decode cX3_step 38 = .ok (.invokevirtual 46, 3) := by decide +kernel
theorem dX3_step_41 : decode cX3_step 41 = .ok (.lreturn, 1) := by decide +kernel
set_option maxRecDepth 20000 in
theorem ggX3_leads_X1_sent : GoodIn wsX3_leads wsX1_sent := goodIn_r _ [8, 9, 10, 11, 12, 13, 7, 14, 15, 16, 17, 18, 19, 20, 21, 22, 39, 40, 41, 42, 43, 44, 45] (by decide +kernel) (by decide +kernel)
set_option maxRecDepth 20000 in
theorem gX3_leads_X1_sent : GoodIn wsX3_leads (wsV RX3 35 RX1 yX1_sent wsX1_sent) := goodIn_app (goodIn_of _ (by decide +kernel)) ggX3_leads_X1_sent
set_option maxRecDepth 20000 in
theorem ggX3_leads_X3_place : GoodIn wsX3_leads wsX3_place := goodIn_r _ [26] (by decide +kernel) (by decide +kernel)
set_option maxRecDepth 20000 in
theorem gX3_leads_X3_place : GoodIn wsX3_leads (va_wsS RX3 57 yX3_place wsX3_place) := goodIn_app (goodIn_of _ (by decide +kernel)) ggX3_leads_X3_place
set_option maxRecDepth 20000 in
theorem ggX3_leads_X1_heard : GoodIn wsX3_leads wsX1_heard := goodIn_r _ [30, 9, 31, 32, 12, 13, 7, 14, 15, 16, 17, 39, 40, 41, 42, 43, 44, 45] (by decide +kernel) (by decide +kernel)
set_option maxRecDepth 20000 in
theorem gX3_leads_X1_heard : GoodIn wsX3_leads (wsV RX3 46 RX1 yX1_heard wsX1_heard) := goodIn_app (goodIn_of _ (by decide +kernel)) ggX3_leads_X1_heard
theorem dX3_leads_0 : decode cX3_leads 0 = .ok (.lload_n 2, 1) := by decide +kernel
theorem dX3_leads_1 : decode cX3_leads 1 = .ok (.lstore 6, 2) := by decide +kernel
theorem dX3_leads_3 : decode cX3_leads 3 = .ok (.iload 5, 2) := by decide +kernel
theorem dX3_leads_5 : decode cX3_leads 5 = .ok (.istore 8, 2) := by decide +kernel
theorem dX3_leads_7 : decode cX3_leads 7 = .ok (.iload 8, 2) := by decide +kernel
theorem dX3_leads_9 : decode cX3_leads 9 = .ok (.aload_n 0, 1) := by decide +kernel
theorem dX3_leads_10 : decode cX3_leads 10 = .ok (.getfield 25, 3) := by decide +kernel
theorem dX3_leads_13 : decode cX3_leads 13 = .ok (.if_icmp .ge 61, 3) := by decide +kernel
theorem dX3_leads_16 : decode cX3_leads 16 = .ok (.lload 6, 2) := by decide +kernel
theorem dX3_leads_18 : decode cX3_leads 18 = .ok (.lconst 0, 1) := by decide +kernel
theorem dX3_leads_19 : decode cX3_leads 19 = .ok (.lcmp, 1) := by decide +kernel
theorem dX3_leads_20 : decode cX3_leads 20 = .ok (.ifCond .eq 54, 3) := by decide +kernel
theorem dX3_leads_23 : decode cX3_leads 23 = .ok (.aload_n 1, 1) := by decide +kernel
theorem dX3_leads_24 : decode cX3_leads 24 = .ok (.aload_n 1, 1) := by decide +kernel
theorem dX3_leads_25 : decode cX3_leads 25 = .ok (.lload 6, 2) := by decide +kernel
theorem dX3_leads_27 : decode cX3_leads 27 = .ok (.iconst 0, 1) := by decide +kernel
theorem dX3_leads_28 : decode cX3_leads 28 = .ok (.aload_n 1, 1) := by decide +kernel
theorem dX3_leads_29 : decode cX3_leads 29 = .ok (.getfield 31, 3) := by decide +kernel
theorem dX3_leads_32 : decode cX3_leads 32 = .ok (.iload 8, 2) := by decide +kernel
theorem dX3_leads_34 : decode cX3_leads 34 = .ok (.invokevirtual 35, 3) := by decide +kernel
theorem dX3_leads_37 : decode cX3_leads 37 = .ok (.aload_n 0, 1) := by decide +kernel
theorem dX3_leads_38 : decode cX3_leads 38 = .ok (.getfield 11, 3) := by decide +kernel
theorem dX3_leads_41 : decode cX3_leads 41 = .ok (.iload 4, 2) := by decide +kernel
theorem dX3_leads_43 : decode cX3_leads 43 = .ok (.iload 8, 2) := by decide +kernel
theorem dX3_leads_45 : decode cX3_leads 45 = .ok (.invokestatic 57, 3) := by decide +kernel
theorem dX3_leads_48 : decode cX3_leads 48 = .ok (.iaload, 1) := by decide +kernel
theorem dX3_leads_49 : decode cX3_leads 49 = .ok (.aload_n 0, 1) := by decide +kernel
theorem dX3_leads_50 : decode cX3_leads 50 = .ok (.getfield 11, 3) := by decide +kernel
theorem dX3_leads_53 : decode cX3_leads 53 = .ok (.iload 4, 2) := by decide +kernel
theorem dX3_leads_55 : decode cX3_leads 55 = .ok (.iload 8, 2) := by decide +kernel
theorem dX3_leads_57 : decode cX3_leads 57 = .ok (.invokestatic 57, 3) := by decide +kernel
theorem dX3_leads_60 : decode cX3_leads 60 = .ok (.iconst 1, 1) := by decide +kernel
theorem dX3_leads_61 : decode cX3_leads 61 = .ok (.iadd, 1) := by decide +kernel
theorem dX3_leads_62 : decode cX3_leads 62 = .ok (.iaload, 1) := by decide +kernel
theorem dX3_leads_63 : decode cX3_leads 63 = .ok (.invokevirtual 46, 3) := by decide +kernel
theorem dX3_leads_66 : decode cX3_leads 66 = .ok (.lstore 6, 2) := by decide +kernel
theorem dX3_leads_68 : decode cX3_leads 68 = .ok (.iinc 8 1, 3) := by decide +kernel
theorem dX3_leads_71 : decode cX3_leads 71 = .ok (.goto (-64), 3) := by decide +kernel
theorem dX3_leads_74 : decode cX3_leads 74 = .ok (.lload 6, 2) := by decide +kernel
theorem dX3_leads_76 : decode cX3_leads 76 = .ok (.lconst 0, 1) := by decide +kernel
theorem dX3_leads_77 : decode cX3_leads 77 = .ok (.lcmp, 1) := by decide +kernel
theorem dX3_leads_78 : decode cX3_leads 78 = .ok (.ifCond .eq 7, 3) := by decide +kernel
theorem dX3_leads_81 : decode cX3_leads 81 = .ok (.iconst 1, 1) := by decide +kernel
theorem dX3_leads_82 : decode cX3_leads 82 = .ok (.goto 4, 3) := by decide +kernel
theorem dX3_leads_85 : decode cX3_leads 85 = .ok (.iconst 0, 1) := by decide +kernel
theorem dX3_leads_86 : decode cX3_leads 86 = .ok (.ireturn, 1) := by decide +kernel
set_option maxRecDepth 20000 in
theorem ggX4_init_X1_init : GoodIn wsX4_init wsX1_init := goodIn_r _ [21, 22, 2, 3, 23, 24, 25, 26, 27, 28, 58, 59, 60, 61, 62, 63, 64] (by decide +kernel) (by decide +kernel)
set_option maxRecDepth 20000 in
theorem gX4_init_X1_init_n29 : GoodIn wsX4_init (wsX1_init) := ggX4_init_X1_init
set_option maxRecDepth 20000 in
theorem ggX4_init_X2_init : GoodIn wsX4_init wsX2_init := goodIn_r _ [30, 31, 2, 3, 23, 32, 65, 66, 67, 68, 69, 70, 71, 72, 73] (by decide +kernel) (by decide +kernel)
set_option maxRecDepth 20000 in
theorem gX4_init_X2_init_n34 : GoodIn wsX4_init (wsX2_init) := ggX4_init_X2_init
set_option maxRecDepth 20000 in
theorem ggX4_init_X0_init : GoodIn wsX4_init wsX0_init := goodIn_r _ [34, 35, 2, 3, 23, 36, 37, 38, 39, 40, 41, 74, 75, 76, 77, 78, 79, 80, 81] (by decide +kernel) (by decide +kernel)
set_option maxRecDepth 20000 in
theorem gX4_init_X0_init_n35 : GoodIn wsX4_init (wsX0_init) := ggX4_init_X0_init
set_option maxRecDepth 20000 in
theorem ggX4_init_X3_init : GoodIn wsX4_init wsX3_init := goodIn_r _ [44, 45, 2, 3, 23, 46, 47, 48, 49, 50, 82, 83, 84, 85, 86, 87] (by decide +kernel) (by decide +kernel)
set_option maxRecDepth 20000 in
theorem gX4_init_X3_init : GoodIn wsX4_init (wsX3_init) := ggX4_init_X3_init
theorem dX4_init_0 : decode cX4_init 0 = .ok (.aload_n 0, 1) := by decide +kernel
theorem dX4_init_1 : decode cX4_init 1 = .ok (.invokespecial 1, 3) := by decide +kernel
theorem dX4_init_4 : decode cX4_init 4 = .ok (.aload_n 0, 1) := by decide +kernel
theorem dX4_init_5 : decode cX4_init 5 = .ok (.iconst 3, 1) := by decide +kernel
theorem dX4_init_6 : decode cX4_init 6 = .ok (.anewarray 9, 3) := by decide +kernel
theorem dX4_init_9 : decode cX4_init 9 = .ok (.putfield 11, 3) := by decide +kernel
theorem dX4_init_12 : decode cX4_init 12 = .ok (.aload_n 0, 1) := by decide +kernel
theorem dX4_init_13 : decode cX4_init 13 = .ok (.iconst 3, 1) := by decide +kernel
theorem dX4_init_14 : decode cX4_init 14 = .ok (.anewarray 15, 3) := by decide +kernel
theorem dX4_init_17 : decode cX4_init 17 = .ok (.putfield 17, 3) := by decide +kernel
theorem dX4_init_20 : decode cX4_init 20 = .ok (.aload_n 0, 1) := by decide +kernel
theorem dX4_init_21 : decode cX4_init 21 = .ok (.iconst 4, 1) := by decide +kernel
theorem dX4_init_22 : decode cX4_init 22 = .ok (.anewarray 21, 3) := by decide +kernel
theorem dX4_init_25 : decode cX4_init 25 = .ok (.putfield 23, 3) := by decide +kernel
theorem dX4_init_28 : decode cX4_init 28 = .ok (.aload_n 0, 1) := by decide +kernel
theorem dX4_init_29 : decode cX4_init 29 = .ok (.new 27, 3) := by decide +kernel
theorem dX4_init_32 : decode cX4_init 32 = .ok (.dup, 1) := by decide +kernel
theorem dX4_init_33 : decode cX4_init 33 = .ok (.invokespecial 29, 3) := by decide +kernel
theorem dX4_init_36 : decode cX4_init 36 = .ok (.putfield 30, 3) := by decide +kernel
theorem dX4_init_39 : decode cX4_init 39 = .ok (.iconst 0, 1) := by decide +kernel
theorem dX4_init_40 : decode cX4_init 40 = .ok (.istore_n 1, 1) := by decide +kernel
theorem dX4_init_41 : decode cX4_init 41 = .ok (.iload_n 1, 1) := by decide +kernel
theorem dX4_init_42 : decode cX4_init 42 = .ok (.iconst 3, 1) := by decide +kernel
theorem dX4_init_43 : decode cX4_init 43 = .ok (.if_icmp .ge 35, 3) := by decide +kernel
theorem dX4_init_46 : decode cX4_init 46 = .ok (.aload_n 0, 1) := by decide +kernel
theorem dX4_init_47 : decode cX4_init 47 = .ok (.getfield 11, 3) := by decide +kernel
theorem dX4_init_50 : decode cX4_init 50 = .ok (.iload_n 1, 1) := by decide +kernel
theorem dX4_init_51 : decode cX4_init 51 = .ok (.new 9, 3) := by decide +kernel
theorem dX4_init_54 : decode cX4_init 54 = .ok (.dup, 1) := by decide +kernel
theorem dX4_init_55 : decode cX4_init 55 = .ok (.invokespecial 34, 3) := by decide +kernel
theorem dX4_init_58 : decode cX4_init 58 = .ok (.aastore, 1) := by decide +kernel
theorem dX4_init_59 : decode cX4_init 59 = .ok (.aload_n 0, 1) := by decide +kernel
theorem dX4_init_60 : decode cX4_init 60 = .ok (.getfield 17, 3) := by decide +kernel
theorem dX4_init_63 : decode cX4_init 63 = .ok (.iload_n 1, 1) := by decide +kernel
theorem dX4_init_64 : decode cX4_init 64 = .ok (.new 15, 3) := by decide +kernel
theorem dX4_init_67 : decode cX4_init 67 = .ok (.dup, 1) := by decide +kernel
theorem dX4_init_68 : decode cX4_init 68 = .ok (.invokespecial 35, 3) := by decide +kernel
theorem dX4_init_71 : decode cX4_init 71 = .ok (.aastore, 1) := by decide +kernel
theorem dX4_init_72 : decode cX4_init 72 = .ok (.iinc 1 1, 3) := by decide +kernel
theorem dX4_init_75 : decode cX4_init 75 = .ok (.goto (-34), 3) := by decide +kernel
theorem dX4_init_78 : decode cX4_init 78 = .ok (.iconst 0, 1) := by decide +kernel
theorem dX4_init_79 : decode cX4_init 79 = .ok (.istore_n 1, 1) := by decide +kernel
theorem dX4_init_80 : decode cX4_init 80 = .ok (.iload_n 1, 1) := by decide +kernel
theorem dX4_init_81 : decode cX4_init 81 = .ok (.iconst 3, 1) := by decide +kernel
theorem dX4_init_82 : decode cX4_init 82 = .ok (.if_icmp .gt 23, 3) := by decide +kernel
theorem dX4_init_85 : decode cX4_init 85 = .ok (.aload_n 0, 1) := by decide +kernel
theorem dX4_init_86 : decode cX4_init 86 = .ok (.getfield 23, 3) := by decide +kernel
theorem dX4_init_89 : decode cX4_init 89 = .ok (.iload_n 1, 1) := by decide +kernel
theorem dX4_init_90 : decode cX4_init 90 = .ok (.new 21, 3) := by decide +kernel
theorem dX4_init_93 : decode cX4_init 93 = .ok (.dup, 1) := by decide +kernel
theorem dX4_init_94 : decode cX4_init 94 = .ok (.iload_n 1, 1) := by decide +kernel
theorem dX4_init_95 : decode cX4_init 95 = .ok (.invokespecial 36, 3) := by decide +kernel
theorem dX4_init_98 : decode cX4_init 98 = .ok (.aastore, 1) := by decide +kernel
theorem dX4_init_99 : decode cX4_init 99 = .ok (.iinc 1 1, 3) := by decide +kernel
theorem dX4_init_102 : decode cX4_init 102 = .ok (.goto (-22), 3) := by decide +kernel
theorem dX4_init_105 : decode cX4_init 105 = .ok (.return_, 1) := by decide +kernel
theorem dX4_clear_0 : decode cX4_clear 0 = .ok (.aload_n 0, 1) := by decide +kernel
theorem dX4_clear_1 : decode cX4_clear 1 = .ok (.iconst 0, 1) := by decide +kernel
theorem dX4_clear_2 : decode cX4_clear 2 = .ok (.putfield 39, 3) := by decide +kernel
theorem dX4_clear_5 : decode cX4_clear 5 = .ok (.aload_n 0, 1) := by decide +kernel
theorem dX4_clear_6 : decode cX4_clear 6 = .ok (.dup, 1) := by decide +kernel
theorem dX4_clear_7 : decode cX4_clear 7 = .ok (.getfield 43, 3) := by decide +kernel
theorem dX4_clear_10 : decode cX4_clear 10 = .ok (.iconst 1, 1) := by decide +kernel
theorem dX4_clear_11 : decode cX4_clear 11 = .ok (.iadd, 1) := by decide +kernel
theorem dX4_clear_12 : decode cX4_clear 12 = .ok (.putfield 43, 3) := by decide +kernel
theorem dX4_clear_15 : decode cX4_clear 15 = .ok (.return_, 1) := by decide +kernel
set_option maxRecDepth 20000 in
theorem ggX4_thing_X4_come : GoodIn wsX4_thing wsX4_come := goodIn_r _ [5, 6, 7, 8, 9, 10, 4, 11, 12, 13, 14, 15, 16, 17, 18, 19, 20, 21, 22, 23, 24, 25, 26, 27, 28, 29, 30, 31, 32, 33, 34, 35, 36, 37, 38, 39, 40, 41, 42, 43, 44, 45] (by decide +kernel) (by decide +kernel)
set_option maxRecDepth 20000 in
theorem gX4_thing_X4_come : GoodIn wsX4_thing (wsV RX4 46 RX4 yX4_come wsX4_come) := goodIn_app (goodIn_of _ (by decide +kernel)) ggX4_thing_X4_come
theorem dX4_thing_0 : decode cX4_thing 0 = .ok (.iload_n 1, 1) := by decide +kernel
theorem dX4_thing_1 : decode cX4_thing 1 = .ok (.ifCond .lt 8, 3) := by decide +kernel
theorem dX4_thing_4 : decode cX4_thing 4 = .ok (.iload_n 1, 1) := by decide +kernel
theorem dX4_thing_5 : decode cX4_thing 5 = .ok (.iconst 3, 1) := by decide +kernel
theorem dX4_thing_6 : decode cX4_thing 6 = .ok (.if_icmp .le 7, 3) := by decide +kernel
theorem dX4_thing_9 : decode cX4_thing 9 = .ok (.iconst (-1), 1) := by decide +kernel
theorem dX4_thing_10 : decode cX4_thing 10 = .ok (.goto 11, 3) := by decide +kernel
theorem dX4_thing_13 : decode cX4_thing 13 = .ok (.aload_n 0, 1) := by decide +kernel
theorem dX4_thing_14 : decode cX4_thing 14 = .ok (.iload_n 1, 1) := by decide +kernel
theorem dX4_thing_15 : decode cX4_thing 15 = .ok (.iload_n 2, 1) := by decide +kernel
theorem dX4_thing_16 : decode cX4_thing 16 = .ok (.lconst 0, 1) := by decide +kernel
theorem dX4_thing_17 : decode cX4_thing 17 = .ok (.lconst 0, 1) := by decide +kernel
theorem dX4_thing_18 : decode cX4_thing 18 = .ok (.invokevirtual 46, 3) := by decide +kernel
theorem dX4_thing_21 : decode cX4_thing 21 = .ok (.ireturn, 1) := by decide +kernel
set_option maxRecDepth 20000 in
theorem ggX4_table_X4_come : GoodIn wsX4_table wsX4_come := goodIn_r _ [5, 6, 7, 8, 9, 10, 4, 11, 12, 13, 14, 15, 16, 17, 18, 19, 20, 21, 22, 23, 24, 25, 26, 27, 28, 29, 30, 31, 32, 33, 34, 35, 36, 37, 38, 39, 40, 41, 42, 43, 44, 45] (by decide +kernel) (by decide +kernel)
set_option maxRecDepth 20000 in
theorem gX4_table_X4_come : GoodIn wsX4_table (wsV RX4 46 RX4 yX4_come wsX4_come) := goodIn_app (goodIn_of _ (by decide +kernel)) ggX4_table_X4_come
theorem dX4_table_0 : decode cX4_table 0 = .ok (.aload_n 0, 1) := by decide +kernel
theorem dX4_table_1 : decode cX4_table 1 = .ok (.iconst 4, 1) := by decide +kernel
theorem dX4_table_2 : decode cX4_table 2 = .ok (.iload_n 1, 1) := by decide +kernel
theorem dX4_table_3 : decode cX4_table 3 = .ok (.lload_n 2, 1) := by decide +kernel
theorem dX4_table_4 : decode cX4_table 4 = .ok (.lload 4, 2) := by decide +kernel
theorem dX4_table_6 : decode cX4_table 6 = .ok (.invokevirtual 46, 3) := by decide +kernel
theorem dX4_table_9 : decode cX4_table 9 = .ok (.ireturn, 1) := by decide +kernel
set_option maxRecDepth 20000 in
theorem ggX4_wall_X4_isThing : GoodIn wsX4_wall wsX4_isThing := goodIn_r _ [8, 9, 20, 21, 22, 23, 24, 25, 26] (by decide +kernel) (by decide +kernel)
set_option maxRecDepth 20000 in
theorem gX4_wall_X4_isThing : GoodIn wsX4_wall (wsV RX4 50 RX4 yX4_isThing wsX4_isThing) := goodIn_app (goodIn_of _ (by decide +kernel)) ggX4_wall_X4_isThing
set_option maxRecDepth 20000 in
theorem ggX4_wall_X4_canHave : GoodIn wsX4_wall wsX4_canHave := goodIn_r _ [12] (by decide +kernel) (by decide +kernel)
set_option maxRecDepth 20000 in
theorem gX4_wall_X4_canHave : GoodIn wsX4_wall (va_wsS RX4 54 yX4_canHave wsX4_canHave) := goodIn_app (goodIn_of _ (by decide +kernel)) ggX4_wall_X4_canHave
set_option maxRecDepth 20000 in
theorem ggX4_wall_X2_keep : GoodIn wsX4_wall wsX2_keep := goodIn_r _ [17, 18, 19, 27, 28, 29, 30, 31, 32, 33, 34, 35] (by decide +kernel) (by decide +kernel)
set_option maxRecDepth 20000 in
theorem gX4_wall_X2_keep : GoodIn wsX4_wall (wsV RX4 61 RX2 yX2_keep wsX2_keep) := goodIn_app (goodIn_of _ (by decide +kernel)) ggX4_wall_X2_keep
theorem dX4_wall_0 : decode cX4_wall 0 = .ok (.aload_n 0, 1) := by decide +kernel
theorem dX4_wall_1 : decode cX4_wall 1 = .ok (.iload_n 1, 1) := by decide +kernel
theorem dX4_wall_2 : decode cX4_wall 2 = .ok (.invokevirtual 50, 3) := by decide +kernel
theorem dX4_wall_5 : decode cX4_wall 5 = .ok (.ifCond .eq 11, 3) := by decide +kernel
theorem dX4_wall_8 : decode cX4_wall 8 = .ok (.iload_n 2, 1) := by decide +kernel
theorem dX4_wall_9 : decode cX4_wall 9 = .ok (.iload_n 3, 1) := by decide +kernel
theorem dX4_wall_10 : decode cX4_wall 10 = .ok (.invokestatic 54, 3) := by decide +kernel
theorem dX4_wall_13 : decode cX4_wall 13 = .ok (.ifCond .ne 5, 3) := by decide +kernel
theorem dX4_wall_16 : decode cX4_wall 16 = .ok (.iconst 0, 1) := by decide +kernel
theorem dX4_wall_17 : decode cX4_wall 17 = .ok (.ireturn, 1) := by decide +kernel
theorem dX4_wall_18 : decode cX4_wall 18 = .ok (.aload_n 0, 1) := by decide +kernel
theorem dX4_wall_19 : decode cX4_wall 19 = .ok (.getfield 11, 3) := by decide +kernel
theorem dX4_wall_22 : decode cX4_wall 22 = .ok (.iload_n 1, 1) := by decide +kernel
theorem dX4_wall_23 : decode cX4_wall 23 = .ok (.aaload, 1) := by decide +kernel
theorem dX4_wall_24 : decode cX4_wall 24 = .ok (.iload_n 2, 1) := by decide +kernel
theorem dX4_wall_25 : decode cX4_wall 25 = .ok (.putfield 58, 3) := by decide +kernel
theorem dX4_wall_28 : decode cX4_wall 28 = .ok (.aload_n 0, 1) := by decide +kernel
theorem dX4_wall_29 : decode cX4_wall 29 = .ok (.getfield 11, 3) := by decide +kernel
theorem dX4_wall_32 : decode cX4_wall 32 = .ok (.iload_n 1, 1) := by decide +kernel
theorem dX4_wall_33 : decode cX4_wall 33 = .ok (.aaload, 1) := by decide +kernel
theorem dX4_wall_34 : decode cX4_wall 34 = .ok (.iload_n 2, 1) := by decide +kernel
theorem dX4_wall_35 : decode cX4_wall 35 = .ok (.iload_n 3, 1) := by decide +kernel
theorem dX4_wall_36 : decode cX4_wall 36 = .ok (.invokevirtual 61, 3) := by decide +kernel
theorem dX4_wall_39 : decode cX4_wall 39 = .ok (.aload_n 0, 1) := by decide +kernel
theorem dX4_wall_40 : decode cX4_wall 40 = .ok (.dup, 1) := by decide +kernel
theorem dX4_wall_41 : decode cX4_wall 41 = .ok (.getfield 43, 3) := by decide +kernel
theorem dX4_wall_44 : decode cX4_wall 44 = .ok (.iconst 1, 1) := by decide +kernel
theorem dX4_wall_45 : decode cX4_wall 45 = .ok (.iadd, 1) := by decide +kernel
theorem dX4_wall_46 : decode cX4_wall 46 = .ok (.putfield 43, 3) := by decide +kernel
theorem dX4_wall_49 : decode cX4_wall 49 = .ok (.iconst 1, 1) := by decide +kernel
theorem dX4_wall_50 : decode cX4_wall 50 = .ok (.ireturn, 1) := by decide +kernel
set_option maxRecDepth 20000 in
theorem ggX4_set_X4_isThing : GoodIn wsX4_set wsX4_isThing := goodIn_r _ [7, 8, 19, 20, 21, 22, 23, 24, 25] (by decide +kernel) (by decide +kernel)
set_option maxRecDepth 20000 in
theorem gX4_set_X4_isThing : GoodIn wsX4_set (wsV RX4 50 RX4 yX4_isThing wsX4_isThing) := goodIn_app (goodIn_of _ (by decide +kernel)) ggX4_set_X4_isThing
set_option maxRecDepth 20000 in
theorem ggX4_set_X4_canHave : GoodIn wsX4_set wsX4_canHave := goodIn_r _ [11] (by decide +kernel) (by decide +kernel)
set_option maxRecDepth 20000 in
theorem gX4_set_X4_canHave : GoodIn wsX4_set (va_wsS RX4 54 yX4_canHave wsX4_canHave) := goodIn_app (goodIn_of _ (by decide +kernel)) ggX4_set_X4_canHave
set_option maxRecDepth 20000 in
theorem ggX4_set_X2_keep : GoodIn wsX4_set wsX2_keep := goodIn_r _ [16, 17, 18, 26, 27, 28, 29, 30, 31, 32, 33, 34] (by decide +kernel) (by decide +kernel)
set_option maxRecDepth 20000 in
theorem gX4_set_X2_keep : GoodIn wsX4_set (wsV RX4 61 RX2 yX2_keep wsX2_keep) := goodIn_app (goodIn_of _ (by decide +kernel)) ggX4_set_X2_keep
theorem dX4_set_0 : decode cX4_set 0 = .ok (.aload_n 0, 1) := by decide +kernel
theorem dX4_set_1 : decode cX4_set 1 = .ok (.iload_n 1, 1) := by decide +kernel
theorem dX4_set_2 : decode cX4_set 2 = .ok (.invokevirtual 50, 3) := by decide +kernel
theorem dX4_set_5 : decode cX4_set 5 = .ok (.ifCond .eq 21, 3) := by decide +kernel
theorem dX4_set_8 : decode cX4_set 8 = .ok (.iload_n 2, 1) := by decide +kernel
theorem dX4_set_9 : decode cX4_set 9 = .ok (.iconst 1, 1) := by decide +kernel
theorem dX4_set_10 : decode cX4_set 10 = .ok (.if_icmp .eq 8, 3) := by decide +kernel
theorem dX4_set_13 : decode cX4_set 13 = .ok (.iload_n 2, 1) := by decide +kernel
theorem dX4_set_14 : decode cX4_set 14 = .ok (.iconst 3, 1) := by decide +kernel
theorem dX4_set_15 : decode cX4_set 15 = .ok (.if_icmp .ne 11, 3) := by decide +kernel
theorem dX4_set_18 : decode cX4_set 18 = .ok (.iload_n 2, 1) := by decide +kernel
theorem dX4_set_19 : decode cX4_set 19 = .ok (.iload_n 3, 1) := by decide +kernel
theorem dX4_set_20 : decode cX4_set 20 = .ok (.invokestatic 54, 3) := by decide +kernel
theorem dX4_set_23 : decode cX4_set 23 = .ok (.ifCond .ne 5, 3) := by decide +kernel
theorem dX4_set_26 : decode cX4_set 26 = .ok (.iconst 0, 1) := by decide +kernel
theorem dX4_set_27 : decode cX4_set 27 = .ok (.ireturn, 1) := by decide +kernel
theorem dX4_set_28 : decode cX4_set 28 = .ok (.aload_n 0, 1) := by decide +kernel
theorem dX4_set_29 : decode cX4_set 29 = .ok (.getfield 11, 3) := by decide +kernel
theorem dX4_set_32 : decode cX4_set 32 = .ok (.iload_n 1, 1) := by decide +kernel
theorem dX4_set_33 : decode cX4_set 33 = .ok (.aaload, 1) := by decide +kernel
theorem dX4_set_34 : decode cX4_set 34 = .ok (.iload_n 2, 1) := by decide +kernel
theorem dX4_set_35 : decode cX4_set 35 = .ok (.iload_n 3, 1) := by decide +kernel
theorem dX4_set_36 : decode cX4_set 36 = .ok (.invokevirtual 61, 3) := by decide +kernel
theorem dX4_set_39 : decode cX4_set 39 = .ok (.aload_n 0, 1) := by decide +kernel
theorem dX4_set_40 : decode cX4_set 40 = .ok (.dup, 1) := by decide +kernel
theorem dX4_set_41 : decode cX4_set 41 = .ok (.getfield 43, 3) := by decide +kernel
theorem dX4_set_44 : decode cX4_set 44 = .ok (.iconst 1, 1) := by decide +kernel
theorem dX4_set_45 : decode cX4_set 45 = .ok (.iadd, 1) := by decide +kernel
theorem dX4_set_46 : decode cX4_set 46 = .ok (.putfield 43, 3) := by decide +kernel
theorem dX4_set_49 : decode cX4_set 49 = .ok (.iconst 1, 1) := by decide +kernel
theorem dX4_set_50 : decode cX4_set 50 = .ok (.ireturn, 1) := by decide +kernel
set_option maxRecDepth 20000 in
theorem ggX4_price_X4_isThing : GoodIn wsX4_price wsX4_isThing := goodIn_r _ [7, 8, 9, 10, 11, 12, 13, 14, 15] (by decide +kernel) (by decide +kernel)
set_option maxRecDepth 20000 in
theorem gX4_price_X4_isThing : GoodIn wsX4_price (wsV RX4 50 RX4 yX4_isThing wsX4_isThing) := goodIn_app (goodIn_of _ (by decide +kernel)) ggX4_price_X4_isThing
theorem dX4_price_0 : decode cX4_price 0 = .ok (.aload_n 0, 1) := by decide +kernel
theorem dX4_price_1 : decode cX4_price 1 = .ok (.iload_n 1, 1) := by decide +kernel
theorem dX4_price_2 : decode cX4_price 2 = .ok (.invokevirtual 50, 3) := by decide +kernel
theorem dX4_price_5 : decode cX4_price 5 = .ok (.ifCond .eq 23, 3) := by decide +kernel
theorem dX4_price_8 : decode cX4_price 8 = .ok (.iload_n 2, 1) := by decide +kernel
theorem dX4_price_9 : decode cX4_price 9 = .ok (.iconst 1, 1) := by decide +kernel
theorem dX4_price_10 : decode cX4_price 10 = .ok (.if_icmp .lt 18, 3) := by decide +kernel
theorem dX4_price_13 : decode cX4_price 13 = .ok (.iload_n 2, 1) := by decide +kernel
theorem dX4_price_14 : decode cX4_price 14 = .ok (.iconst 3, 1) := by decide +kernel
theorem dX4_price_15 : decode cX4_price 15 = .ok (.if_icmp .gt 13, 3) := by decide +kernel
theorem dX4_price_18 : decode cX4_price 18 = .ok (.iload_n 3, 1) := by decide +kernel
theorem dX4_price_19 : decode cX4_price 19 = .ok (.ifCond .lt 9, 3) := by decide +kernel
theorem dX4_price_22 : decode cX4_price 22 = .ok (.iload_n 3, 1) := by decide +kernel
theorem dX4_price_23 : decode cX4_price 23 = .ok (.bipush 99, 2) := by decide +kernel
theorem dX4_price_25 : decode cX4_price 25 = .ok (.if_icmp .le 5, 3) := by decide +kernel
theorem dX4_price_28 : decode cX4_price 28 = .ok (.iconst 0, 1) := by decide +kernel
theorem dX4_price_29 : decode cX4_price 29 = .ok (.ireturn, 1) := by decide +kernel
theorem dX4_price_30 : decode cX4_price 30 = .ok (.aload_n 0, 1) := by decide +kernel
theorem dX4_price_31 : decode cX4_price 31 = .ok (.getfield 11, 3) := by decide +kernel
theorem dX4_price_34 : decode cX4_price 34 = .ok (.iload_n 1, 1) := by decide +kernel
theorem dX4_price_35 : decode cX4_price 35 = .ok (.aaload, 1) := by decide +kernel
theorem dX4_price_36 : decode cX4_price 36 = .ok (.getfield 65, 3) := by decide +kernel
theorem dX4_price_39 : decode cX4_price 39 = .ok (.iload_n 2, 1) := by decide +kernel
theorem dX4_price_40 : decode cX4_price 40 = .ok (.iload_n 3, 1) := by decide +kernel
theorem dX4_price_41 : decode cX4_price 41 = .ok (.iastore, 1) := by decide +kernel
theorem dX4_price_42 : decode cX4_price 42 = .ok (.iconst 1, 1) := by decide +kernel
theorem dX4_price_43 : decode cX4_price 43 = .ok (.ireturn, 1) := by decide +kernel
set_option maxRecDepth 20000 in
theorem ggX4_look_X4_countSilent : GoodIn wsX4_look wsX4_countSilent := goodIn_r _ [6, 1, 7, 8, 9, 10, 5, 11, 12, 13, 14, 15, 16, 17, 18, 19, 20, 21, 22, 23, 24, 25, 26, 27, 28, 29, 30, 31, 32, 33, 34, 35, 36, 37, 38, 39, 40, 41, 42, 43, 44, 45, 46, 47, 48, 49, 50, 51, 52, 53, 54, 55, 56, 57, 58, 59, 60, 61, 62, 63, 64, 65, 66, 67, 68, 69, 70, 71, 72, 73, 74, 75, 76, 77, 78, 79, 80, 81, 82, 83, 84, 85, 86, 87, 88, 89, 90, 91, 92, 93, 94, 95, 96, 97, 98, 99, 100, 101, 102, 103, 104, 105, 106, 107, 108, 109, 110, 111, 112, 113, 114, 115, 116, 117, 118, 119, 120, 121, 122, 123, 124, 125, 126, 127, 128, 129, 130, 137, 138, 139, 140, 141, 142, 143, 144, 145, 146, 147, 148, 149, 150, 151, 152, 153, 154, 155, 156, 157, 158, 159, 160, 161, 162, 163, 164, 165, 166, 167] (by decide +kernel) (by decide +kernel)
set_option maxRecDepth 20000 in
theorem gX4_look_X4_countSilent : GoodIn wsX4_look (wsV RX4 69 RX4 yX4_countSilent wsX4_countSilent) := goodIn_app (goodIn_of _ (by decide +kernel)) ggX4_look_X4_countSilent
set_option maxRecDepth 20000 in
theorem ggX4_look_X4_wallsNow : GoodIn wsX4_look wsX4_wallsNow := goodIn_r _ [20, 1, 16, 21, 137, 138, 139, 140, 141, 142, 143, 152, 153, 154, 155, 156, 157, 158, 159, 160] (by decide +kernel) (by decide +kernel)
set_option maxRecDepth 20000 in
theorem gX4_look_X4_wallsNow : GoodIn wsX4_look (wsV RX4 73 RX4 yX4_wallsNow wsX4_wallsNow) := goodIn_app (goodIn_of _ (by decide +kernel)) ggX4_look_X4_wallsNow
set_option maxRecDepth 20000 in
theorem ggX4_look_X4_sumOf : GoodIn wsX4_look wsX4_sumOf := goodIn_r _ [134, 1, 16, 135, 136, 33, 5, 34, 137, 138, 139, 140, 141, 142, 143, 152, 153, 154, 155, 156, 157, 158, 159, 160] (by decide +kernel) (by decide +kernel)
set_option maxRecDepth 20000 in
theorem gX4_look_X4_sumOf : GoodIn wsX4_look (wsV RX4 76 RX4 yX4_sumOf wsX4_sumOf) := goodIn_app (goodIn_of _ (by decide +kernel)) ggX4_look_X4_sumOf
theorem dX4_look_0 : decode cX4_look 0 = .ok (.iload_n 1, 1) := by decide +kernel
theorem dX4_look_1 : decode cX4_look 1 = .ok (.tableswitch 55 0 3 #[31, 36, 41, 50], 31) := by decide +kernel
theorem dX4_look_32 : decode cX4_look 32 = .ok (.aload_n 0, 1) := by decide +kernel
theorem dX4_look_33 : decode cX4_look 33 = .ok (.getfield 39, 3) := by decide +kernel
theorem dX4_look_36 : decode cX4_look 36 = .ok (.ireturn, 1) := by decide +kernel
theorem dX4_look_37 : decode cX4_look 37 = .ok (.aload_n 0, 1) := by decide +kernel
theorem dX4_look_38 : decode cX4_look 38 = .ok (.invokevirtual 69, 3) := by decide +kernel
theorem dX4_look_41 : decode cX4_look 41 = .ok (.ireturn, 1) := by decide +kernel
theorem dX4_look_42 : decode cX4_look 42 = .ok (.aload_n 0, 1) := by decide +kernel
theorem dX4_look_43 : decode cX4_look 43 = .ok (.aload_n 0, 1) := by decide +kernel
theorem dX4_look_44 : decode cX4_look 44 = .ok (.invokevirtual 73, 3) := by decide +kernel
theorem dX4_look_47 : decode cX4_look 47 = .ok (.invokevirtual 76, 3) := by decide +kernel
theorem dX4_look_50 : decode cX4_look 50 = .ok (.ireturn, 1) := by decide +kernel
theorem dX4_look_51 : decode cX4_look 51 = .ok (.aload_n 0, 1) := by decide +kernel
theorem dX4_look_52 : decode cX4_look 52 = .ok (.invokevirtual 73, 3) := by decide +kernel
theorem dX4_look_55 : decode cX4_look 55 = .ok (.ireturn, 1) := by decide +kernel
theorem dX4_look_56 : decode cX4_look 56 = .ok (.iconst (-1), 1) := by decide +kernel
theorem dX4_look_57 : decode cX4_look 57 = .ok (.ireturn, 1) := by decide +kernel
set_option maxRecDepth 20000 in
theorem ggX4_of_X4_isThing : GoodIn wsX4_of wsX4_isThing := goodIn_r _ [11, 12, 13, 14, 15, 16, 17, 18, 19] (by decide +kernel) (by decide +kernel)
set_option maxRecDepth 20000 in
theorem gX4_of_X4_isThing : GoodIn wsX4_of (wsV RX4 50 RX4 yX4_isThing wsX4_isThing) := goodIn_app (goodIn_of _ (by decide +kernel)) ggX4_of_X4_isThing
theorem dX4_of_0 : decode cX4_of 0 = .ok (.aload_n 0, 1) := by decide +kernel
theorem dX4_of_1 : decode cX4_of 1 = .ok (.iload_n 1, 1) := by decide +kernel
theorem dX4_of_2 : decode cX4_of 2 = .ok (.invokevirtual 50, 3) := by decide +kernel
theorem dX4_of_5 : decode cX4_of 5 = .ok (.ifCond .ne 5, 3) := by decide +kernel
theorem dX4_of_8 : decode cX4_of 8 = .ok (.iconst (-1), 1) := by decide +kernel
theorem dX4_of_9 : decode cX4_of 9 = .ok (.ireturn, 1) := by decide +kernel
theorem dX4_of_10 : decode cX4_of 10 = .ok (.iload_n 2, 1) := by decide +kernel
theorem dX4_of_11 : decode cX4_of 11 = .ok (.tableswitch 83 0 4 #[33, 43, 53, 63, 73], 33) := by decide +kernel
theorem dX4_of_44 : decode cX4_of 44 = .ok (.aload_n 0, 1) := by decide +kernel
theorem dX4_of_45 : decode cX4_of 45 = .ok (.getfield 11, 3) := by decide +kernel
theorem dX4_of_48 : decode cX4_of 48 = .ok (.iload_n 1, 1) := by decide +kernel
theorem dX4_of_49 : decode cX4_of 49 = .ok (.aaload, 1) := by decide +kernel
theorem dX4_of_50 : decode cX4_of 50 = .ok (.getfield 80, 3) := by decide +kernel
theorem dX4_of_53 : decode cX4_of 53 = .ok (.ireturn, 1) := by decide +kernel
theorem dX4_of_54 : decode cX4_of 54 = .ok (.aload_n 0, 1) := by decide +kernel
theorem dX4_of_55 : decode cX4_of 55 = .ok (.getfield 11, 3) := by decide +kernel
theorem dX4_of_58 : decode cX4_of 58 = .ok (.iload_n 1, 1) := by decide +kernel
theorem dX4_of_59 : decode cX4_of 59 = .ok (.aaload, 1) := by decide +kernel
theorem dX4_of_60 : decode cX4_of 60 = .ok (.getfield 83, 3) := by decide +kernel
theorem dX4_of_63 : decode cX4_of 63 = .ok (.ireturn, 1) := by decide +kernel
theorem dX4_of_64 : decode cX4_of 64 = .ok (.aload_n 0, 1) := by decide +kernel
theorem dX4_of_65 : decode cX4_of 65 = .ok (.getfield 11, 3) := by decide +kernel
theorem dX4_of_68 : decode cX4_of 68 = .ok (.iload_n 1, 1) := by decide +kernel
theorem dX4_of_69 : decode cX4_of 69 = .ok (.aaload, 1) := by decide +kernel
theorem dX4_of_70 : decode cX4_of 70 = .ok (.getfield 58, 3) := by decide +kernel
theorem dX4_of_73 : decode cX4_of 73 = .ok (.ireturn, 1) := by decide +kernel
theorem dX4_of_74 : decode cX4_of 74 = .ok (.aload_n 0, 1) := by decide +kernel
theorem dX4_of_75 : decode cX4_of 75 = .ok (.getfield 11, 3) := by decide +kernel
theorem dX4_of_78 : decode cX4_of 78 = .ok (.iload_n 1, 1) := by decide +kernel
theorem dX4_of_79 : decode cX4_of 79 = .ok (.aaload, 1) := by decide +kernel
theorem dX4_of_80 : decode cX4_of 80 = .ok (.getfield 86, 3) := by decide +kernel
theorem dX4_of_83 : decode cX4_of 83 = .ok (.ireturn, 1) := by decide +kernel
theorem dX4_of_84 : decode cX4_of 84 = .ok (.aload_n 0, 1) := by decide +kernel
theorem dX4_of_85 : decode cX4_of 85 = .ok (.getfield 11, 3) := by decide +kernel
theorem dX4_of_88 : decode cX4_of 88 = .ok (.iload_n 1, 1) := by decide +kernel
theorem dX4_of_89 : decode cX4_of 89 = .ok (.aaload, 1) := by decide +kernel
theorem dX4_of_90 : decode cX4_of 90 = .ok (.getfield 89, 3) := by decide +kernel
theorem dX4_of_93 : decode cX4_of 93 = .ok (.ireturn, 1) := by decide +kernel
theorem dX4_of_94 : decode cX4_of 94 = .ok (.iconst (-1), 1) := by decide +kernel
theorem dX4_of_95 : decode cX4_of 95 = .ok (.ireturn, 1) := by decide +kernel
set_option maxRecDepth 20000 in
theorem ggX4_does_X4_isThing : GoodIn wsX4_does wsX4_isThing := goodIn_r _ [7, 8, 42, 43, 44, 45, 46, 47, 48] (by decide +kernel) (by decide +kernel)
set_option maxRecDepth 20000 in
theorem gX4_does_X4_isThing : GoodIn wsX4_does (wsV RX4 50 RX4 yX4_isThing wsX4_isThing) := goodIn_app (goodIn_of _ (by decide +kernel)) ggX4_does_X4_isThing
set_option maxRecDepth 20000 in
theorem ggX4_does_X4_canBe : GoodIn wsX4_does wsX4_canBe := goodIn_r _ [11] (by decide +kernel) (by decide +kernel)
set_option maxRecDepth 20000 in
theorem gX4_does_X4_canBe : GoodIn wsX4_does (va_wsS RX4 92 yX4_canBe wsX4_canBe) := goodIn_app (goodIn_of _ (by decide +kernel)) ggX4_does_X4_canBe
set_option maxRecDepth 20000 in
theorem ggX4_does_X2_next : GoodIn wsX4_does wsX2_next := goodIn_r _ [16, 17, 18, 19, 20, 15, 21, 22, 23, 24, 25, 26, 27, 28, 29, 30, 31, 32, 49, 50, 51, 52, 53, 54, 55, 56, 57] (by decide +kernel) (by decide +kernel)
set_option maxRecDepth 20000 in
theorem gX4_does_X2_next : GoodIn wsX4_does (wsV RX4 95 RX2 yX2_next wsX2_next) := goodIn_app (goodIn_of _ (by decide +kernel)) ggX4_does_X2_next
set_option maxRecDepth 20000 in
theorem ggX4_does_X2_answer : GoodIn wsX4_does wsX2_answer := goodIn_r _ [36, 17, 37, 19, 20, 15, 21, 38, 39, 40, 41, 49, 50, 51, 52, 53, 54, 55, 56, 57] (by decide +kernel) (by decide +kernel)
set_option maxRecDepth 20000 in
theorem gX4_does_X2_answer : GoodIn wsX4_does (wsV RX4 99 RX2 yX2_answer wsX2_answer) := goodIn_app (goodIn_of _ (by decide +kernel)) ggX4_does_X2_answer
theorem dX4_does_0 : decode cX4_does 0 = .ok (.aload_n 0, 1) := by decide +kernel
theorem dX4_does_1 : decode cX4_does 1 = .ok (.iload_n 1, 1) := by decide +kernel
theorem dX4_does_2 : decode cX4_does 2 = .ok (.invokevirtual 50, 3) := by decide +kernel
theorem dX4_does_5 : decode cX4_does 5 = .ok (.ifCond .eq 23, 3) := by decide +kernel
theorem dX4_does_8 : decode cX4_does 8 = .ok (.iload_n 2, 1) := by decide +kernel
theorem dX4_does_9 : decode cX4_does 9 = .ok (.ifCond .lt 19, 3) := by decide +kernel
theorem dX4_does_12 : decode cX4_does 12 = .ok (.iload_n 2, 1) := by decide +kernel
theorem dX4_does_13 : decode cX4_does 13 = .ok (.iconst 1, 1) := by decide +kernel
theorem dX4_does_14 : decode cX4_does 14 = .ok (.if_icmp .gt 14, 3) := by decide +kernel
theorem dX4_does_17 : decode cX4_does 17 = .ok (.iload 4, 2) := by decide +kernel
theorem dX4_does_19 : decode cX4_does 19 = .ok (.ifCond .lt 9, 3) := by decide +kernel
theorem dX4_does_22 : decode cX4_does 22 = .ok (.iload 4, 2) := by decide +kernel
theorem dX4_does_24 : decode cX4_does 24 = .ok (.iconst 3, 1) := by decide +kernel
theorem dX4_does_25 : decode cX4_does 25 = .ok (.if_icmp .lt 5, 3) := by decide +kernel
theorem dX4_does_28 : decode cX4_does 28 = .ok (.iconst (-1), 1) := by decide +kernel
theorem dX4_does_29 : decode cX4_does 29 = .ok (.ireturn, 1) := by decide +kernel
theorem dX4_does_30 : decode cX4_does 30 = .ok (.aload_n 0, 1) := by decide +kernel
theorem dX4_does_31 : decode cX4_does 31 = .ok (.getfield 11, 3) := by decide +kernel
theorem dX4_does_34 : decode cX4_does 34 = .ok (.iload_n 1, 1) := by decide +kernel
theorem dX4_does_35 : decode cX4_does 35 = .ok (.aaload, 1) := by decide +kernel
theorem dX4_does_36 : decode cX4_does 36 = .ok (.getfield 80, 3) := by decide +kernel
theorem dX4_does_39 : decode cX4_does 39 = .ok (.iload_n 3, 1) := by decide +kernel
theorem dX4_does_40 : decode cX4_does 40 = .ok (.invokestatic 92, 3) := by decide +kernel
theorem dX4_does_43 : decode cX4_does 43 = .ok (.ifCond .eq 14, 3) := by decide +kernel
theorem dX4_does_46 : decode cX4_does 46 = .ok (.iload 5, 2) := by decide +kernel
theorem dX4_does_48 : decode cX4_does 48 = .ok (.ifCond .lt 9, 3) := by decide +kernel
theorem dX4_does_51 : decode cX4_does 51 = .ok (.iload 5, 2) := by decide +kernel
theorem dX4_does_53 : decode cX4_does 53 = .ok (.iconst 1, 1) := by decide +kernel
theorem dX4_does_54 : decode cX4_does 54 = .ok (.if_icmp .le 5, 3) := by decide +kernel
theorem dX4_does_57 : decode cX4_does 57 = .ok (.iconst (-1), 1) := by decide +kernel
theorem dX4_does_58 : decode cX4_does 58 = .ok (.ireturn, 1) := by decide +kernel
theorem dX4_does_59 : decode cX4_does 59 = .ok (.iload 5, 2) := by decide +kernel
theorem dX4_does_61 : decode cX4_does 61 = .ok (.ifCond .ne 19, 3) := by decide +kernel
theorem dX4_does_64 : decode cX4_does 64 = .ok (.aload_n 0, 1) := by decide +kernel
theorem dX4_does_65 : decode cX4_does 65 = .ok (.getfield 11, 3) := by decide +kernel
theorem dX4_does_68 : decode cX4_does 68 = .ok (.iload_n 1, 1) := by decide +kernel
theorem dX4_does_69 : decode cX4_does 69 = .ok (.aaload, 1) := by decide +kernel
theorem dX4_does_70 : decode cX4_does 70 = .ok (.iload_n 2, 1) := by decide +kernel
theorem dX4_does_71 : decode cX4_does 71 = .ok (.iload_n 3, 1) := by decide +kernel
theorem dX4_does_72 : decode cX4_does 72 = .ok (.iload 4, 2) := by decide +kernel
theorem dX4_does_74 : decode cX4_does 74 = .ok (.invokevirtual 95, 3) := by decide +kernel
theorem dX4_does_77 : decode cX4_does 77 = .ok (.goto 16, 3) := by decide +kernel
theorem dX4_does_80 : decode cX4_does 80 = .ok (.aload_n 0, 1) := by decide +kernel
theorem dX4_does_81 : decode cX4_does 81 = .ok (.getfield 11, 3) := by decide +kernel
theorem dX4_does_84 : decode cX4_does 84 = .ok (.iload_n 1, 1) := by decide +kernel
end
section
theorem dX4_does_85 : decode cX4_does 85 = .ok (.aaload, 1) := by decide +kernel
theorem dX4_does_86 : decode cX4_does 86 = .ok (.iload_n 2, 1) := by decide +kernel
theorem dX4_does_87 : decode cX4_does 87 = .ok (.iload_n 3, 1) := by decide +kernel
theorem dX4_does_88 : decode cX4_does 88 = .ok (.iload 4, 2) := by decide +kernel
theorem dX4_does_90 : decode cX4_does 90 = .ok (.invokevirtual 99, 3) := by decide +kernel
theorem dX4_does_93 : decode cX4_does 93 = .ok (.ireturn, 1) := by decide +kernel
set_option maxRecDepth 20000 in
theorem ggX4_silent_X4_isThing : GoodIn wsX4_silent wsX4_isThing := goodIn_r _ [6, 7, 139, 140, 141, 142, 143, 144, 145] (by decide +kernel) (by decide +kernel)
set_option maxRecDepth 20000 in
theorem gX4_silent_X4_isThing : GoodIn wsX4_silent (wsV RX4 50 RX4 yX4_isThing wsX4_isThing) := goodIn_app (goodIn_of _ (by decide +kernel)) ggX4_silent_X4_isThing
set_option maxRecDepth 20000 in
theorem ggX4_silent_X4_pairOf : GoodIn wsX4_silent wsX4_pairOf := goodIn_r _ [11, 12, 13, 14, 15, 16, 7, 17, 18, 19, 5, 20, 21, 22, 23, 24, 25, 26, 27, 28, 29, 30, 31, 32, 33, 34, 35, 36, 37, 38, 39, 40, 41, 42, 43, 44, 45, 46, 47, 48, 49, 50, 51, 52, 53, 54, 55, 56, 57, 58, 59, 60, 61, 62, 63, 64, 65, 66, 67, 68, 69, 70, 71, 72, 73, 74, 75, 76, 77, 78, 79, 80, 81, 82, 83, 84, 85, 86, 87, 88, 89, 90, 91, 92, 93, 94, 95, 96, 97, 98, 99, 100, 101, 102, 103, 104, 105, 106, 107, 108, 109, 110, 111, 112, 113, 114, 115, 116, 117, 118, 119, 120, 121, 122, 123, 124, 125, 126, 127, 128, 129, 130, 139, 140, 141, 142, 143, 144, 145, 131, 132, 133, 134, 135, 136, 137, 138, 146, 147, 148, 149, 150, 151, 152, 153, 154, 155, 156, 157, 158, 159, 160, 161] (by decide +kernel) (by decide +kernel)
set_option maxRecDepth 20000 in
theorem gX4_silent_X4_pairOf : GoodIn wsX4_silent (wsV RX4 102 RX4 yX4_pairOf wsX4_pairOf) := goodIn_app (goodIn_of _ (by decide +kernel)) ggX4_silent_X4_pairOf
theorem dX4_silent_0 : decode cX4_silent 0 = .ok (.aload_n 0, 1) := by decide +kernel
theorem dX4_silent_1 : decode cX4_silent 1 = .ok (.iload_n 1, 1) := by decide +kernel
theorem dX4_silent_2 : decode cX4_silent 2 = .ok (.invokevirtual 50, 3) := by decide +kernel
theorem dX4_silent_5 : decode cX4_silent 5 = .ok (.ifCond .ne 5, 3) := by decide +kernel
theorem dX4_silent_8 : decode cX4_silent 8 = .ok (.iconst (-1), 1) := by decide +kernel
theorem dX4_silent_9 : decode cX4_silent 9 = .ok (.ireturn, 1) := by decide +kernel
theorem dX4_silent_10 : decode cX4_silent 10 = .ok (.aload_n 0, 1) := by decide +kernel
theorem dX4_silent_11 : decode cX4_silent 11 = .ok (.iload_n 1, 1) := by decide +kernel
theorem dX4_silent_12 : decode cX4_silent 12 = .ok (.invokevirtual 102, 3) := by decide +kernel
theorem dX4_silent_15 : decode cX4_silent 15 = .ok (.getfield 106, 3) := by decide +kernel
theorem dX4_silent_18 : decode cX4_silent 18 = .ok (.ifCond .ne 7, 3) := by decide +kernel
theorem dX4_silent_21 : decode cX4_silent 21 = .ok (.iconst 1, 1) := by decide +kernel
theorem dX4_silent_22 : decode cX4_silent 22 = .ok (.goto 4, 3) := by decide +kernel
theorem dX4_silent_25 : decode cX4_silent 25 = .ok (.iconst 0, 1) := by decide +kernel
theorem dX4_silent_26 : decode cX4_silent 26 = .ok (.ireturn, 1) := by decide +kernel
set_option maxRecDepth 20000 in
theorem ggX4_shown_X4_isThing : GoodIn wsX4_shown wsX4_isThing := goodIn_r _ [6, 7, 139, 140, 141, 142, 143, 144, 145] (by decide +kernel) (by decide +kernel)
set_option maxRecDepth 20000 in
theorem gX4_shown_X4_isThing : GoodIn wsX4_shown (wsV RX4 50 RX4 yX4_isThing wsX4_isThing) := goodIn_app (goodIn_of _ (by decide +kernel)) ggX4_shown_X4_isThing
set_option maxRecDepth 20000 in
theorem ggX4_shown_X4_pairOf : GoodIn wsX4_shown wsX4_pairOf := goodIn_r _ [11, 12, 13, 14, 15, 16, 7, 17, 18, 19, 5, 20, 21, 22, 23, 24, 25, 26, 27, 28, 29, 30, 31, 32, 33, 34, 35, 36, 37, 38, 39, 40, 41, 42, 43, 44, 45, 46, 47, 48, 49, 50, 51, 52, 53, 54, 55, 56, 57, 58, 59, 60, 61, 62, 63, 64, 65, 66, 67, 68, 69, 70, 71, 72, 73, 74, 75, 76, 77, 78, 79, 80, 81, 82, 83, 84, 85, 86, 87, 88, 89, 90, 91, 92, 93, 94, 95, 96, 97, 98, 99, 100, 101, 102, 103, 104, 105, 106, 107, 108, 109, 110, 111, 112, 113, 114, 115, 116, 117, 118, 119, 120, 121, 122, 123, 124, 125, 126, 127, 128, 129, 130, 139, 140, 141, 142, 143, 144, 145, 131, 132, 133, 134, 135, 136, 137, 138, 146, 147, 148, 149, 150, 151, 152, 153, 154, 155, 156, 157, 158, 159, 160, 161] (by decide +kernel) (by decide +kernel)
set_option maxRecDepth 20000 in
theorem gX4_shown_X4_pairOf : GoodIn wsX4_shown (wsV RX4 102 RX4 yX4_pairOf wsX4_pairOf) := goodIn_app (goodIn_of _ (by decide +kernel)) ggX4_shown_X4_pairOf
theorem dX4_shown_0 : decode cX4_shown 0 = .ok (.aload_n 0, 1) := by decide +kernel
theorem dX4_shown_1 : decode cX4_shown 1 = .ok (.iload_n 1, 1) := by decide +kernel
theorem dX4_shown_2 : decode cX4_shown 2 = .ok (.invokevirtual 50, 3) := by decide +kernel
theorem dX4_shown_5 : decode cX4_shown 5 = .ok (.ifCond .eq 14, 3) := by decide +kernel
theorem dX4_shown_8 : decode cX4_shown 8 = .ok (.aload_n 0, 1) := by decide +kernel
theorem dX4_shown_9 : decode cX4_shown 9 = .ok (.iload_n 1, 1) := by decide +kernel
theorem dX4_shown_10 : decode cX4_shown 10 = .ok (.invokevirtual 102, 3) := by decide +kernel
theorem dX4_shown_13 : decode cX4_shown 13 = .ok (.getfield 106, 3) := by decide +kernel
theorem dX4_shown_16 : decode cX4_shown 16 = .ok (.ifCond .ne 5, 3) := by decide +kernel
theorem dX4_shown_19 : decode cX4_shown 19 = .ok (.iconst (-1), 1) := by decide +kernel
theorem dX4_shown_20 : decode cX4_shown 20 = .ok (.ireturn, 1) := by decide +kernel
theorem dX4_shown_21 : decode cX4_shown 21 = .ok (.aload_n 0, 1) := by decide +kernel
theorem dX4_shown_22 : decode cX4_shown 22 = .ok (.iload_n 1, 1) := by decide +kernel
theorem dX4_shown_23 : decode cX4_shown 23 = .ok (.invokevirtual 102, 3) := by decide +kernel
theorem dX4_shown_26 : decode cX4_shown 26 = .ok (.getfield 106, 3) := by decide +kernel
theorem dX4_shown_29 : decode cX4_shown 29 = .ok (.ireturn, 1) := by decide +kernel
set_option maxRecDepth 20000 in
theorem ggX4_show_X4_isThing : GoodIn wsX4_show wsX4_isThing := goodIn_r _ [7, 8, 140, 141, 142, 143, 144, 145, 146] (by decide +kernel) (by decide +kernel)
set_option maxRecDepth 20000 in
theorem gX4_show_X4_isThing : GoodIn wsX4_show (wsV RX4 50 RX4 yX4_isThing wsX4_isThing) := goodIn_app (goodIn_of _ (by decide +kernel)) ggX4_show_X4_isThing
set_option maxRecDepth 20000 in
theorem ggX4_show_X4_pairOf : GoodIn wsX4_show wsX4_pairOf := goodIn_r _ [12, 13, 14, 15, 16, 17, 8, 18, 19, 20, 6, 21, 22, 23, 24, 25, 26, 27, 28, 29, 30, 31, 32, 33, 34, 35, 36, 37, 38, 39, 40, 41, 42, 43, 44, 45, 46, 47, 48, 49, 50, 51, 52, 53, 54, 55, 56, 57, 58, 59, 60, 61, 62, 63, 64, 65, 66, 67, 68, 69, 70, 71, 72, 73, 74, 75, 76, 77, 78, 79, 80, 81, 82, 83, 84, 85, 86, 87, 88, 89, 90, 91, 92, 93, 94, 95, 96, 97, 98, 99, 100, 101, 102, 103, 104, 105, 106, 107, 108, 109, 110, 111, 112, 113, 114, 115, 116, 117, 118, 119, 120, 121, 122, 123, 124, 125, 126, 127, 128, 129, 130, 131, 140, 141, 142, 143, 144, 145, 146, 132, 133, 134, 135, 136, 137, 138, 139, 147, 148, 149, 150, 151, 152, 153, 154, 155, 156, 157, 158, 159, 160, 161, 162] (by decide +kernel) (by decide +kernel)
set_option maxRecDepth 20000 in
theorem gX4_show_X4_pairOf : GoodIn wsX4_show (wsV RX4 102 RX4 yX4_pairOf wsX4_pairOf) := goodIn_app (goodIn_of _ (by decide +kernel)) ggX4_show_X4_pairOf
theorem dX4_show_0 : decode cX4_show 0 = .ok (.aload_n 0, 1) := by decide +kernel
theorem dX4_show_1 : decode cX4_show 1 = .ok (.iload_n 1, 1) := by decide +kernel
theorem dX4_show_2 : decode cX4_show 2 = .ok (.invokevirtual 50, 3) := by decide +kernel
theorem dX4_show_5 : decode cX4_show 5 = .ok (.ifCond .eq 28, 3) := by decide +kernel
theorem dX4_show_8 : decode cX4_show 8 = .ok (.iload_n 2, 1) := by decide +kernel
theorem dX4_show_9 : decode cX4_show 9 = .ok (.ifCond .lt 24, 3) := by decide +kernel
theorem dX4_show_12 : decode cX4_show 12 = .ok (.iload_n 2, 1) := by decide +kernel
theorem dX4_show_13 : decode cX4_show 13 = .ok (.aload_n 0, 1) := by decide +kernel
theorem dX4_show_14 : decode cX4_show 14 = .ok (.iload_n 1, 1) := by decide +kernel
theorem dX4_show_15 : decode cX4_show 15 = .ok (.invokevirtual 102, 3) := by decide +kernel
theorem dX4_show_18 : decode cX4_show 18 = .ok (.getfield 106, 3) := by decide +kernel
theorem dX4_show_21 : decode cX4_show 21 = .ok (.if_icmp .ge 12, 3) := by decide +kernel
theorem dX4_show_24 : decode cX4_show 24 = .ok (.iload_n 3, 1) := by decide +kernel
theorem dX4_show_25 : decode cX4_show 25 = .ok (.ifCond .lt 8, 3) := by decide +kernel
theorem dX4_show_28 : decode cX4_show 28 = .ok (.iload_n 3, 1) := by decide +kernel
theorem dX4_show_29 : decode cX4_show 29 = .ok (.iconst 5, 1) := by decide +kernel
theorem dX4_show_30 : decode cX4_show 30 = .ok (.if_icmp .lt 5, 3) := by decide +kernel
theorem dX4_show_33 : decode cX4_show 33 = .ok (.iconst (-1), 1) := by decide +kernel
theorem dX4_show_34 : decode cX4_show 34 = .ok (.ireturn, 1) := by decide +kernel
theorem dX4_show_35 : decode cX4_show 35 = .ok (.aload_n 0, 1) := by decide +kernel
theorem dX4_show_36 : decode cX4_show 36 = .ok (.iload_n 1, 1) := by decide +kernel
theorem dX4_show_37 : decode cX4_show 37 = .ok (.invokevirtual 102, 3) := by decide +kernel
theorem dX4_show_40 : decode cX4_show 40 = .ok (.getfield 109, 3) := by decide +kernel
theorem dX4_show_43 : decode cX4_show 43 = .ok (.iconst 5, 1) := by decide +kernel
theorem dX4_show_44 : decode cX4_show 44 = .ok (.iload_n 2, 1) := by decide +kernel
theorem dX4_show_45 : decode cX4_show 45 = .ok (.imul, 1) := by decide +kernel
theorem dX4_show_46 : decode cX4_show 46 = .ok (.iload_n 3, 1) := by decide +kernel
theorem dX4_show_47 : decode cX4_show 47 = .ok (.iadd, 1) := by decide +kernel
theorem dX4_show_48 : decode cX4_show 48 = .ok (.iaload, 1) := by decide +kernel
theorem dX4_show_49 : decode cX4_show 49 = .ok (.ireturn, 1) := by decide +kernel
set_option maxRecDepth 20000 in
theorem ggX4_letters_X4_whisperOf : GoodIn wsX4_letters wsX4_whisperOf := goodIn_r _ [6, 7, 8, 9, 10, 11, 12, 1, 13, 14, 15, 16, 5, 17, 18, 19, 20, 21, 22, 23, 24, 25, 26, 27, 28, 29, 30, 31, 32, 33, 34, 35, 36, 37, 38, 39, 40, 41, 42, 43, 44, 45, 46, 47, 48, 49, 50, 51, 52, 53, 54, 55, 56, 57, 58, 59, 60, 61, 62, 63, 64, 65, 66, 67, 68, 69, 70, 71, 72, 73, 74, 75, 76, 77, 78, 79, 80, 81, 82, 83, 84, 85, 86, 87, 88, 89, 90, 91, 92, 93, 94, 95, 96, 97, 98, 99, 100, 101, 102, 103, 104, 105, 106, 107, 108, 109, 110, 111, 112, 113, 114, 115, 116, 117, 118, 119, 120, 121, 122, 123, 124, 125, 126, 127, 128, 129, 130, 131, 132, 133, 134, 135, 136, 137, 138, 139, 140, 141, 142, 143, 150, 151, 152, 153, 154, 155, 156, 144, 145, 146, 147, 148, 149, 157, 158, 159, 160, 161, 162, 163, 164, 165, 166, 167, 168, 169, 170, 171, 172] (by decide +kernel) (by decide +kernel)
set_option maxRecDepth 20000 in
theorem gX4_letters_X4_whisperOf : GoodIn wsX4_letters (wsV RX4 112 RX4 yX4_whisperOf wsX4_whisperOf) := goodIn_app (goodIn_of _ (by decide +kernel)) ggX4_letters_X4_whisperOf
theorem dX4_letters_0 : decode cX4_letters 0 = .ok (.iload_n 1, 1) := by decide +kernel
theorem dX4_letters_1 : decode cX4_letters 1 = .ok (.ifCond .lt 8, 3) := by decide +kernel
theorem dX4_letters_4 : decode cX4_letters 4 = .ok (.iload_n 1, 1) := by decide +kernel
theorem dX4_letters_5 : decode cX4_letters 5 = .ok (.iconst 3, 1) := by decide +kernel
theorem dX4_letters_6 : decode cX4_letters 6 = .ok (.if_icmp .le 7, 3) := by decide +kernel
theorem dX4_letters_9 : decode cX4_letters 9 = .ok (.iconst (-1), 1) := by decide +kernel
theorem dX4_letters_10 : decode cX4_letters 10 = .ok (.goto 11, 3) := by decide +kernel
theorem dX4_letters_13 : decode cX4_letters 13 = .ok (.aload_n 0, 1) := by decide +kernel
theorem dX4_letters_14 : decode cX4_letters 14 = .ok (.iload_n 1, 1) := by decide +kernel
theorem dX4_letters_15 : decode cX4_letters 15 = .ok (.invokevirtual 112, 3) := by decide +kernel
theorem dX4_letters_18 : decode cX4_letters 18 = .ok (.getfield 116, 3) := by decide +kernel
theorem dX4_letters_21 : decode cX4_letters 21 = .ok (.ireturn, 1) := by decide +kernel
set_option maxRecDepth 20000 in
theorem ggX4_letter_X4_whisperOf : GoodIn wsX4_letter wsX4_whisperOf := goodIn_r _ [7, 8, 9, 10, 11, 12, 13, 1, 14, 15, 16, 17, 6, 18, 19, 20, 21, 22, 23, 24, 25, 26, 27, 28, 29, 30, 31, 32, 33, 34, 35, 36, 37, 38, 39, 40, 41, 42, 43, 44, 45, 46, 47, 48, 49, 50, 51, 52, 53, 54, 55, 56, 57, 58, 59, 60, 61, 62, 63, 64, 65, 66, 67, 68, 69, 70, 71, 72, 73, 74, 75, 76, 77, 78, 79, 80, 81, 82, 83, 84, 85, 86, 87, 88, 89, 90, 91, 92, 93, 94, 95, 96, 97, 98, 99, 100, 101, 102, 103, 104, 105, 106, 107, 108, 109, 110, 111, 112, 113, 114, 115, 116, 117, 118, 119, 120, 121, 122, 123, 124, 125, 126, 127, 128, 129, 130, 131, 132, 133, 134, 135, 136, 137, 138, 139, 140, 141, 142, 143, 144, 152, 153, 154, 155, 156, 157, 158, 146, 147, 148, 149, 150, 151, 159, 160, 161, 162, 163, 164, 165, 166, 167, 168, 169, 170, 171, 172, 173, 174] (by decide +kernel) (by decide +kernel)
set_option maxRecDepth 20000 in
theorem gX4_letter_X4_whisperOf : GoodIn wsX4_letter (wsV RX4 112 RX4 yX4_whisperOf wsX4_whisperOf) := goodIn_app (goodIn_of _ (by decide +kernel)) ggX4_letter_X4_whisperOf
set_option maxRecDepth 20000 in
theorem ggX4_letter_X3_place : GoodIn wsX4_letter wsX3_place := goodIn_r _ [90] (by decide +kernel) (by decide +kernel)
set_option maxRecDepth 20000 in
theorem gX4_letter_X3_place : GoodIn wsX4_letter (va_wsS RX4 120 yX3_place wsX3_place) := goodIn_app (goodIn_of _ (by decide +kernel)) ggX4_letter_X3_place
theorem dX4_letter_0 : decode cX4_letter 0 = .ok (.iload_n 1, 1) := by decide +kernel
theorem dX4_letter_1 : decode cX4_letter 1 = .ok (.ifCond .lt 24, 3) := by decide +kernel
theorem dX4_letter_4 : decode cX4_letter 4 = .ok (.iload_n 1, 1) := by decide +kernel
theorem dX4_letter_5 : decode cX4_letter 5 = .ok (.iconst 3, 1) := by decide +kernel
theorem dX4_letter_6 : decode cX4_letter 6 = .ok (.if_icmp .gt 19, 3) := by decide +kernel
theorem dX4_letter_9 : decode cX4_letter 9 = .ok (.iload_n 2, 1) := by decide +kernel
theorem dX4_letter_10 : decode cX4_letter 10 = .ok (.ifCond .lt 15, 3) := by decide +kernel
theorem dX4_letter_13 : decode cX4_letter 13 = .ok (.iload_n 2, 1) := by decide +kernel
theorem dX4_letter_14 : decode cX4_letter 14 = .ok (.aload_n 0, 1) := by decide +kernel
theorem dX4_letter_15 : decode cX4_letter 15 = .ok (.iload_n 1, 1) := by decide +kernel
theorem dX4_letter_16 : decode cX4_letter 16 = .ok (.invokevirtual 112, 3) := by decide +kernel
theorem dX4_letter_19 : decode cX4_letter 19 = .ok (.getfield 116, 3) := by decide +kernel
theorem dX4_letter_22 : decode cX4_letter 22 = .ok (.if_icmp .lt 5, 3) := by decide +kernel
theorem dX4_letter_25 : decode cX4_letter 25 = .ok (.iconst (-1), 1) := by decide +kernel
theorem dX4_letter_26 : decode cX4_letter 26 = .ok (.ireturn, 1) := by decide +kernel
theorem dX4_letter_27 : decode cX4_letter 27 = .ok (.iload_n 3, 1) := by decide +kernel
theorem dX4_letter_28 : decode cX4_letter 28 = .ok (.ifCond .lt 19, 3) := by decide +kernel
theorem dX4_letter_31 : decode cX4_letter 31 = .ok (.iload_n 3, 1) := by decide +kernel
theorem dX4_letter_32 : decode cX4_letter 32 = .ok (.iload_n 1, 1) := by decide +kernel
theorem dX4_letter_33 : decode cX4_letter 33 = .ok (.if_icmp .ge 14, 3) := by decide +kernel
theorem dX4_letter_36 : decode cX4_letter 36 = .ok (.iload 4, 2) := by decide +kernel
theorem dX4_letter_38 : decode cX4_letter 38 = .ok (.ifCond .lt 9, 3) := by decide +kernel
theorem dX4_letter_41 : decode cX4_letter 41 = .ok (.iload 4, 2) := by decide +kernel
theorem dX4_letter_43 : decode cX4_letter 43 = .ok (.iconst 3, 1) := by decide +kernel
theorem dX4_letter_44 : decode cX4_letter 44 = .ok (.if_icmp .lt 5, 3) := by decide +kernel
theorem dX4_letter_47 : decode cX4_letter 47 = .ok (.iconst (-1), 1) := by decide +kernel
theorem dX4_letter_48 : decode cX4_letter 48 = .ok (.ireturn, 1) := by decide +kernel
theorem dX4_letter_49 : decode cX4_letter 49 = .ok (.aload_n 0, 1) := by decide +kernel
theorem dX4_letter_50 : decode cX4_letter 50 = .ok (.iload_n 1, 1) := by decide +kernel
theorem dX4_letter_51 : decode cX4_letter 51 = .ok (.invokevirtual 112, 3) := by decide +kernel
theorem dX4_letter_54 : decode cX4_letter 54 = .ok (.getfield 119, 3) := by decide +kernel
theorem dX4_letter_57 : decode cX4_letter 57 = .ok (.iload_n 2, 1) := by decide +kernel
theorem dX4_letter_58 : decode cX4_letter 58 = .ok (.iload_n 3, 1) := by decide +kernel
theorem dX4_letter_59 : decode cX4_letter 59 = .ok (.invokestatic 120, 3) := by decide +kernel
theorem dX4_letter_62 : decode cX4_letter 62 = .ok (.iload 4, 2) := by decide +kernel
theorem dX4_letter_64 : decode cX4_letter 64 = .ok (.iadd, 1) := by decide +kernel
theorem dX4_letter_65 : decode cX4_letter 65 = .ok (.iaload, 1) := by decide +kernel
theorem dX4_letter_66 : decode cX4_letter 66 = .ok (.ireturn, 1) := by decide +kernel
theorem dX4_begin_0 : decode cX4_begin 0 = .ok (.iconst 0, 1) := by decide +kernel
theorem dX4_begin_1 : decode cX4_begin 1 = .ok (.istore_n 1, 1) := by decide +kernel
theorem dX4_begin_2 : decode cX4_begin 2 = .ok (.iload_n 1, 1) := by decide +kernel
theorem dX4_begin_3 : decode cX4_begin 3 = .ok (.aload_n 0, 1) := by decide +kernel
theorem dX4_begin_4 : decode cX4_begin 4 = .ok (.getfield 39, 3) := by decide +kernel
theorem dX4_begin_7 : decode cX4_begin 7 = .ok (.if_icmp .ge 27, 3) := by decide +kernel
theorem dX4_begin_10 : decode cX4_begin 10 = .ok (.aload_n 0, 1) := by decide +kernel
theorem dX4_begin_11 : decode cX4_begin 11 = .ok (.getfield 11, 3) := by decide +kernel
theorem dX4_begin_14 : decode cX4_begin 14 = .ok (.iload_n 1, 1) := by decide +kernel
theorem dX4_begin_15 : decode cX4_begin 15 = .ok (.aaload, 1) := by decide +kernel
theorem dX4_begin_16 : decode cX4_begin 16 = .ok (.aload_n 0, 1) := by decide +kernel
theorem dX4_begin_17 : decode cX4_begin 17 = .ok (.getfield 11, 3) := by decide +kernel
theorem dX4_begin_20 : decode cX4_begin 20 = .ok (.iload_n 1, 1) := by decide +kernel
theorem dX4_begin_21 : decode cX4_begin 21 = .ok (.aaload, 1) := by decide +kernel
theorem dX4_begin_22 : decode cX4_begin 22 = .ok (.getfield 83, 3) := by decide +kernel
theorem dX4_begin_25 : decode cX4_begin 25 = .ok (.putfield 124, 3) := by decide +kernel
theorem dX4_begin_28 : decode cX4_begin 28 = .ok (.iinc 1 1, 3) := by decide +kernel
theorem dX4_begin_31 : decode cX4_begin 31 = .ok (.goto (-29), 3) := by decide +kernel
theorem dX4_begin_34 : decode cX4_begin 34 = .ok (.aload_n 0, 1) := by decide +kernel
theorem dX4_begin_35 : decode cX4_begin 35 = .ok (.iconst 0, 1) := by decide +kernel
theorem dX4_begin_36 : decode cX4_begin 36 = .ok (.putfield 127, 3) := by decide +kernel
theorem dX4_begin_39 : decode cX4_begin 39 = .ok (.return_, 1) := by decide +kernel
set_option maxRecDepth 20000 in
theorem ggX4_run_X4_isAct : GoodIn wsX4_run wsX4_isAct := goodIn_r _ [10, 3, 87, 88, 89, 90, 91, 92, 93] (by decide +kernel) (by decide +kernel)
set_option maxRecDepth 20000 in
theorem gX4_run_X4_isAct : GoodIn wsX4_run (wsV RX4 130 RX4 yX4_isAct wsX4_isAct) := goodIn_app (goodIn_of _ (by decide +kernel)) ggX4_run_X4_isAct
set_option maxRecDepth 20000 in
theorem ggX4_run_X4_wallsNow : GoodIn wsX4_run wsX4_wallsNow := goodIn_r _ [14, 3, 2, 15, 87, 88, 89, 90, 91, 92, 93, 94, 95, 96, 97, 98, 99, 100, 101, 102] (by decide +kernel) (by decide +kernel)
set_option maxRecDepth 20000 in
theorem gX4_run_X4_wallsNow : GoodIn wsX4_run (wsV RX4 73 RX4 yX4_wallsNow wsX4_wallsNow) := goodIn_app (goodIn_of _ (by decide +kernel)) ggX4_run_X4_wallsNow
set_option maxRecDepth 20000 in
theorem ggX4_run_X1_build : GoodIn wsX4_run wsX1_build := goodIn_r _ [20, 21, 22, 23, 24, 25, 26, 27, 9, 28, 29, 30, 31, 19, 32, 33, 34, 35, 36, 37, 38, 39, 40, 41, 42, 43, 44, 45, 46, 47, 48, 49, 50, 51, 52, 53, 54, 55, 56, 57, 58, 59, 60, 61, 62, 63, 64, 65, 66, 67, 68, 69, 70, 103, 104, 105, 106, 107, 108, 109, 94, 95, 96, 97, 98, 99, 100, 101, 102] (by decide +kernel) (by decide +kernel)
set_option maxRecDepth 20000 in
theorem gX4_run_X1_build : GoodIn wsX4_run (wsV RX4 133 RX1 yX1_build wsX1_build) := goodIn_app (goodIn_of _ (by decide +kernel)) ggX4_run_X1_build
set_option maxRecDepth 20000 in
theorem ggX4_run_X1_met : GoodIn wsX4_run wsX1_met := goodIn_r _ [74, 24, 33, 75, 76, 77, 19, 78, 25, 55, 56, 57, 103, 104, 105, 106, 107, 108, 109] (by decide +kernel) (by decide +kernel)
set_option maxRecDepth 20000 in
theorem gX4_run_X1_met : GoodIn wsX4_run (wsV RX4 137 RX1 yX1_met wsX1_met) := goodIn_app (goodIn_of _ (by decide +kernel)) ggX4_run_X1_met
set_option maxRecDepth 20000 in
theorem ggX4_run_X1_answer : GoodIn wsX4_run wsX1_answer := goodIn_r _ [82, 35, 55, 56, 19, 57, 103, 104, 105, 106, 107, 108, 109] (by decide +kernel) (by decide +kernel)
set_option maxRecDepth 20000 in
theorem gX4_run_X1_answer : GoodIn wsX4_run (wsV RX4 141 RX1 yX1_answer wsX1_answer) := goodIn_app (goodIn_of _ (by decide +kernel)) ggX4_run_X1_answer
set_option maxRecDepth 20000 in
theorem ggX4_run_X1_left : GoodIn wsX4_run wsX1_left := goodIn_r _ [86, 34, 55, 56, 19, 57, 103, 104, 105, 106, 107, 108, 109] (by decide +kernel) (by decide +kernel)
set_option maxRecDepth 20000 in
theorem gX4_run_X1_left : GoodIn wsX4_run (wsV RX4 142 RX1 yX1_left wsX1_left) := goodIn_app (goodIn_of _ (by decide +kernel)) ggX4_run_X1_left
theorem dX4_run_0 : decode cX4_run 0 = .ok (.aload_n 0, 1) := by decide +kernel
theorem dX4_run_1 : decode cX4_run 1 = .ok (.iload_n 1, 1) := by decide +kernel
theorem dX4_run_2 : decode cX4_run 2 = .ok (.invokevirtual 130, 3) := by decide +kernel
theorem dX4_run_5 : decode cX4_run 5 = .ok (.ifCond .eq 11, 3) := by decide +kernel
theorem dX4_run_8 : decode cX4_run 8 = .ok (.aload_n 0, 1) := by decide +kernel
theorem dX4_run_9 : decode cX4_run 9 = .ok (.iload_n 2, 1) := by decide +kernel
theorem dX4_run_10 : decode cX4_run 10 = .ok (.invokevirtual 130, 3) := by decide +kernel
theorem dX4_run_13 : decode cX4_run 13 = .ok (.ifCond .ne 5, 3) := by decide +kernel
theorem dX4_run_16 : decode cX4_run 16 = .ok (.iconst (-1), 1) := by decide +kernel
theorem dX4_run_17 : decode cX4_run 17 = .ok (.ireturn, 1) := by decide +kernel
theorem dX4_run_18 : decode cX4_run 18 = .ok (.aload_n 0, 1) := by decide +kernel
theorem dX4_run_19 : decode cX4_run 19 = .ok (.getfield 30, 3) := by decide +kernel
theorem dX4_run_22 : decode cX4_run 22 = .ok (.aload_n 0, 1) := by decide +kernel
theorem dX4_run_23 : decode cX4_run 23 = .ok (.getfield 11, 3) := by decide +kernel
theorem dX4_run_26 : decode cX4_run 26 = .ok (.aload_n 0, 1) := by decide +kernel
theorem dX4_run_27 : decode cX4_run 27 = .ok (.getfield 39, 3) := by decide +kernel
theorem dX4_run_30 : decode cX4_run 30 = .ok (.aload_n 0, 1) := by decide +kernel
theorem dX4_run_31 : decode cX4_run 31 = .ok (.invokevirtual 73, 3) := by decide +kernel
theorem dX4_run_34 : decode cX4_run 34 = .ok (.invokevirtual 133, 3) := by decide +kernel
theorem dX4_run_37 : decode cX4_run 37 = .ok (.iconst 0, 1) := by decide +kernel
theorem dX4_run_38 : decode cX4_run 38 = .ok (.istore_n 3, 1) := by decide +kernel
theorem dX4_run_39 : decode cX4_run 39 = .ok (.iload_n 3, 1) := by decide +kernel
theorem dX4_run_40 : decode cX4_run 40 = .ok (.aload_n 0, 1) := by decide +kernel
theorem dX4_run_41 : decode cX4_run 41 = .ok (.getfield 39, 3) := by decide +kernel
theorem dX4_run_44 : decode cX4_run 44 = .ok (.if_icmp .ge 57, 3) := by decide +kernel
theorem dX4_run_47 : decode cX4_run 47 = .ok (.iload_n 1, 1) := by decide +kernel
theorem dX4_run_48 : decode cX4_run 48 = .ok (.iconst 3, 1) := by decide +kernel
theorem dX4_run_49 : decode cX4_run 49 = .ok (.idiv, 1) := by decide +kernel
theorem dX4_run_50 : decode cX4_run 50 = .ok (.iload_n 3, 1) := by decide +kernel
theorem dX4_run_51 : decode cX4_run 51 = .ok (.if_icmp .ne 9, 3) := by decide +kernel
theorem dX4_run_54 : decode cX4_run 54 = .ok (.iload_n 1, 1) := by decide +kernel
theorem dX4_run_55 : decode cX4_run 55 = .ok (.iconst 3, 1) := by decide +kernel
theorem dX4_run_56 : decode cX4_run 56 = .ok (.irem, 1) := by decide +kernel
theorem dX4_run_57 : decode cX4_run 57 = .ok (.goto 4, 3) := by decide +kernel
theorem dX4_run_60 : decode cX4_run 60 = .ok (.iconst 3, 1) := by decide +kernel
theorem dX4_run_61 : decode cX4_run 61 = .ok (.istore 4, 2) := by decide +kernel
theorem dX4_run_63 : decode cX4_run 63 = .ok (.aload_n 0, 1) := by decide +kernel
theorem dX4_run_64 : decode cX4_run 64 = .ok (.getfield 11, 3) := by decide +kernel
theorem dX4_run_67 : decode cX4_run 67 = .ok (.iload_n 3, 1) := by decide +kernel
theorem dX4_run_68 : decode cX4_run 68 = .ok (.aaload, 1) := by decide +kernel
theorem dX4_run_69 : decode cX4_run 69 = .ok (.aload_n 0, 1) := by decide +kernel
theorem dX4_run_70 : decode cX4_run 70 = .ok (.getfield 30, 3) := by decide +kernel
theorem dX4_run_73 : decode cX4_run 73 = .ok (.iload_n 3, 1) := by decide +kernel
theorem dX4_run_74 : decode cX4_run 74 = .ok (.aload_n 0, 1) := by decide +kernel
theorem dX4_run_75 : decode cX4_run 75 = .ok (.getfield 11, 3) := by decide +kernel
theorem dX4_run_78 : decode cX4_run 78 = .ok (.iload_n 3, 1) := by decide +kernel
theorem dX4_run_79 : decode cX4_run 79 = .ok (.aaload, 1) := by decide +kernel
theorem dX4_run_80 : decode cX4_run 80 = .ok (.getfield 124, 3) := by decide +kernel
theorem dX4_run_83 : decode cX4_run 83 = .ok (.iload 4, 2) := by decide +kernel
theorem dX4_run_85 : decode cX4_run 85 = .ok (.aload_n 0, 1) := by decide +kernel
theorem dX4_run_86 : decode cX4_run 86 = .ok (.getfield 127, 3) := by decide +kernel
theorem dX4_run_89 : decode cX4_run 89 = .ok (.invokevirtual 137, 3) := by decide +kernel
theorem dX4_run_92 : decode cX4_run 92 = .ok (.putfield 124, 3) := by decide +kernel
theorem dX4_run_95 : decode cX4_run 95 = .ok (.iinc 3 1, 3) := by decide +kernel
theorem dX4_run_98 : decode cX4_run 98 = .ok (.goto (-59), 3) := by decide +kernel
theorem dX4_run_101 : decode cX4_run 101 = .ok (.aload_n 0, 1) := by decide +kernel
theorem dX4_run_102 : decode cX4_run 102 = .ok (.dup, 1) := by decide +kernel
theorem dX4_run_103 : decode cX4_run 103 = .ok (.getfield 127, 3) := by decide +kernel
theorem dX4_run_106 : decode cX4_run 106 = .ok (.iconst 1, 1) := by decide +kernel
theorem dX4_run_107 : decode cX4_run 107 = .ok (.iadd, 1) := by decide +kernel
theorem dX4_run_108 : decode cX4_run 108 = .ok (.putfield 127, 3) := by decide +kernel
theorem dX4_run_111 : decode cX4_run 111 = .ok (.iload_n 2, 1) := by decide +kernel
theorem dX4_run_112 : decode cX4_run 112 = .ok (.bipush 9, 2) := by decide +kernel
theorem dX4_run_114 : decode cX4_run 114 = .ok (.if_icmp .ne 5, 3) := by decide +kernel
theorem dX4_run_117 : decode cX4_run 117 = .ok (.iconst 0, 1) := by decide +kernel
theorem dX4_run_118 : decode cX4_run 118 = .ok (.ireturn, 1) := by decide +kernel
theorem dX4_run_119 : decode cX4_run 119 = .ok (.aload_n 0, 1) := by decide +kernel
theorem dX4_run_120 : decode cX4_run 120 = .ok (.getfield 11, 3) := by decide +kernel
theorem dX4_run_123 : decode cX4_run 123 = .ok (.iload_n 2, 1) := by decide +kernel
theorem dX4_run_124 : decode cX4_run 124 = .ok (.iconst 3, 1) := by decide +kernel
theorem dX4_run_125 : decode cX4_run 125 = .ok (.idiv, 1) := by decide +kernel
theorem dX4_run_126 : decode cX4_run 126 = .ok (.aaload, 1) := by decide +kernel
theorem dX4_run_127 : decode cX4_run 127 = .ok (.astore_n 3, 1) := by decide +kernel
theorem dX4_run_128 : decode cX4_run 128 = .ok (.aload_n 0, 1) := by decide +kernel
theorem dX4_run_129 : decode cX4_run 129 = .ok (.getfield 30, 3) := by decide +kernel
theorem dX4_run_132 : decode cX4_run 132 = .ok (.iload_n 2, 1) := by decide +kernel
theorem dX4_run_133 : decode cX4_run 133 = .ok (.iconst 3, 1) := by decide +kernel
theorem dX4_run_134 : decode cX4_run 134 = .ok (.idiv, 1) := by decide +kernel
theorem dX4_run_135 : decode cX4_run 135 = .ok (.aload_n 3, 1) := by decide +kernel
theorem dX4_run_136 : decode cX4_run 136 = .ok (.getfield 124, 3) := by decide +kernel
theorem dX4_run_139 : decode cX4_run 139 = .ok (.iload_n 2, 1) := by decide +kernel
theorem dX4_run_140 : decode cX4_run 140 = .ok (.iconst 3, 1) := by decide +kernel
theorem dX4_run_141 : decode cX4_run 141 = .ok (.irem, 1) := by decide +kernel
theorem dX4_run_142 : decode cX4_run 142 = .ok (.invokevirtual 141, 3) := by decide +kernel
theorem dX4_run_145 : decode cX4_run 145 = .ok (.istore 4, 2) := by decide +kernel
theorem dX4_run_147 : decode cX4_run 147 = .ok (.aload_n 3, 1) := by decide +kernel
theorem dX4_run_148 : decode cX4_run 148 = .ok (.aload_n 0, 1) := by decide +kernel
theorem dX4_run_149 : decode cX4_run 149 = .ok (.getfield 30, 3) := by decide +kernel
theorem dX4_run_152 : decode cX4_run 152 = .ok (.iload_n 2, 1) := by decide +kernel
theorem dX4_run_153 : decode cX4_run 153 = .ok (.iconst 3, 1) := by decide +kernel
theorem dX4_run_154 : decode cX4_run 154 = .ok (.idiv, 1) := by decide +kernel
theorem dX4_run_155 : decode cX4_run 155 = .ok (.aload_n 3, 1) := by decide +kernel
theorem dX4_run_156 : decode cX4_run 156 = .ok (.getfield 124, 3) := by decide +kernel
theorem dX4_run_159 : decode cX4_run 159 = .ok (.iload_n 2, 1) := by decide +kernel
theorem dX4_run_160 : decode cX4_run 160 = .ok (.iconst 3, 1) := by decide +kernel
theorem dX4_run_161 : decode cX4_run 161 = .ok (.irem, 1) := by decide +kernel
theorem dX4_run_162 : decode cX4_run 162 = .ok (.invokevirtual 142, 3) := by decide +kernel
theorem dX4_run_165 : decode cX4_run 165 = .ok (.putfield 124, 3) := by decide +kernel
theorem dX4_run_168 : decode cX4_run 168 = .ok (.iload 4, 2) := by decide +kernel
theorem dX4_run_170 : decode cX4_run 170 = .ok (.ireturn, 1) := by decide +kernel
set_option maxRecDepth 20000 in
theorem ggX4_state_X4_isThing : GoodIn wsX4_state wsX4_isThing := goodIn_r _ [7, 8, 9, 10, 11, 12, 13, 14, 15] (by decide +kernel) (by decide +kernel)
set_option maxRecDepth 20000 in
theorem gX4_state_X4_isThing : GoodIn wsX4_state (wsV RX4 50 RX4 yX4_isThing wsX4_isThing) := goodIn_app (goodIn_of _ (by decide +kernel)) ggX4_state_X4_isThing
theorem dX4_state_0 : decode cX4_state 0 = .ok (.aload_n 0, 1) := by decide +kernel
theorem dX4_state_1 : decode cX4_state 1 = .ok (.iload_n 1, 1) := by decide +kernel
theorem dX4_state_2 : decode cX4_state 2 = .ok (.invokevirtual 50, 3) := by decide +kernel
theorem dX4_state_5 : decode cX4_state 5 = .ok (.ifCond .eq 15, 3) := by decide +kernel
theorem dX4_state_8 : decode cX4_state 8 = .ok (.aload_n 0, 1) := by decide +kernel
theorem dX4_state_9 : decode cX4_state 9 = .ok (.getfield 11, 3) := by decide +kernel
theorem dX4_state_12 : decode cX4_state 12 = .ok (.iload_n 1, 1) := by decide +kernel
theorem dX4_state_13 : decode cX4_state 13 = .ok (.aaload, 1) := by decide +kernel
theorem dX4_state_14 : decode cX4_state 14 = .ok (.getfield 124, 3) := by decide +kernel
theorem dX4_state_17 : decode cX4_state 17 = .ok (.goto 4, 3) := by decide +kernel
theorem dX4_state_20 : decode cX4_state 20 = .ok (.iconst (-1), 1) := by decide +kernel
theorem dX4_state_21 : decode cX4_state 21 = .ok (.ireturn, 1) := by decide +kernel
theorem dX4_ticks_0 : decode cX4_ticks 0 = .ok (.aload_n 0, 1) := by decide +kernel
theorem dX4_ticks_1 : decode cX4_ticks 1 = .ok (.getfield 127, 3) := by decide +kernel
theorem dX4_ticks_4 : decode cX4_ticks 4 = .ok (.ireturn, 1) := by decide +kernel
set_option maxRecDepth 20000 in
theorem ggX4_walls_X4_sumOf : GoodIn wsX4_walls wsX4_sumOf := goodIn_r _ [6, 1, 7, 8, 9, 10, 5, 11, 108, 109, 110, 111, 112, 113, 114, 115, 116, 117, 118, 119, 120, 121, 122, 123] (by decide +kernel) (by decide +kernel)
set_option maxRecDepth 20000 in
theorem gX4_walls_X4_sumOf : GoodIn wsX4_walls (wsV RX4 76 RX4 yX4_sumOf wsX4_sumOf) := goodIn_app (goodIn_of _ (by decide +kernel)) ggX4_walls_X4_sumOf
set_option maxRecDepth 20000 in
theorem ggX4_walls_X4_lettersBehind : GoodIn wsX4_walls wsX4_lettersBehind := goodIn_r _ [15, 16, 7, 1, 17, 18, 19, 20, 21, 22, 23, 24, 25, 26, 27, 28, 10, 5, 11, 29, 30, 31, 32, 33, 34, 35, 36, 37, 38, 39, 40, 41, 42, 43, 44, 45, 46, 47, 48, 49, 50, 51, 52, 53, 54, 55, 56, 57, 58, 59, 60, 61, 62, 63, 64, 65, 66, 67, 68, 69, 70, 71, 72, 73, 74, 75, 76, 77, 78, 79, 80, 81, 82, 83, 84, 85, 86, 87, 88, 89, 90, 91, 92, 93, 94, 95, 96, 97, 98, 99, 100, 101, 102, 103, 104, 105, 106, 107, 108, 109, 110, 111, 112, 113, 114, 124, 125, 126, 127, 128, 129, 130, 115, 116, 117, 118, 119, 120, 121, 122, 123] (by decide +kernel) (by decide +kernel)
set_option maxRecDepth 20000 in
theorem gX4_walls_X4_lettersBehind : GoodIn wsX4_walls (wsV RX4 145 RX4 yX4_lettersBehind wsX4_lettersBehind) := goodIn_app (goodIn_of _ (by decide +kernel)) ggX4_walls_X4_lettersBehind
theorem dX4_walls_0 : decode cX4_walls 0 = .ok (.iload_n 1, 1) := by decide +kernel
theorem dX4_walls_1 : decode cX4_walls 1 = .ok (.iconst 1, 1) := by decide +kernel
theorem dX4_walls_2 : decode cX4_walls 2 = .ok (.if_icmp .lt 28, 3) := by decide +kernel
theorem dX4_walls_5 : decode cX4_walls 5 = .ok (.iload_n 1, 1) := by decide +kernel
theorem dX4_walls_6 : decode cX4_walls 6 = .ok (.sipush 4096, 3) := by decide +kernel
theorem dX4_walls_9 : decode cX4_walls 9 = .ok (.if_icmp .gt 21, 3) := by decide +kernel
theorem dX4_walls_12 : decode cX4_walls 12 = .ok (.iload_n 2, 1) := by decide +kernel
theorem dX4_walls_13 : decode cX4_walls 13 = .ok (.ifCond .lt 17, 3) := by decide +kernel
theorem dX4_walls_16 : decode cX4_walls 16 = .ok (.iload_n 2, 1) := by decide +kernel
theorem dX4_walls_17 : decode cX4_walls 17 = .ok (.iconst 2, 1) := by decide +kernel
theorem dX4_walls_18 : decode cX4_walls 18 = .ok (.if_icmp .gt 12, 3) := by decide +kernel
theorem dX4_walls_21 : decode cX4_walls 21 = .ok (.iload_n 3, 1) := by decide +kernel
theorem dX4_walls_22 : decode cX4_walls 22 = .ok (.ifCond .lt 8, 3) := by decide +kernel
theorem dX4_walls_25 : decode cX4_walls 25 = .ok (.iload_n 3, 1) := by decide +kernel
theorem dX4_walls_26 : decode cX4_walls 26 = .ok (.iconst 1, 1) := by decide +kernel
theorem dX4_walls_27 : decode cX4_walls 27 = .ok (.if_icmp .le 5, 3) := by decide +kernel
theorem dX4_walls_30 : decode cX4_walls 30 = .ok (.iconst (-1), 1) := by decide +kernel
theorem dX4_walls_31 : decode cX4_walls 31 = .ok (.ireturn, 1) := by decide +kernel
theorem dX4_walls_32 : decode cX4_walls 32 = .ok (.iconst (-1), 1) := by decide +kernel
theorem dX4_walls_33 : decode cX4_walls 33 = .ok (.istore 4, 2) := by decide +kernel
theorem dX4_walls_35 : decode cX4_walls 35 = .ok (.iconst 0, 1) := by decide +kernel
theorem dX4_walls_36 : decode cX4_walls 36 = .ok (.istore 5, 2) := by decide +kernel
theorem dX4_walls_38 : decode cX4_walls 38 = .ok (.iload 5, 2) := by decide +kernel
theorem dX4_walls_40 : decode cX4_walls 40 = .ok (.iconst 1, 1) := by decide +kernel
theorem dX4_walls_41 : decode cX4_walls 41 = .ok (.iconst 2, 1) := by decide +kernel
theorem dX4_walls_42 : decode cX4_walls 42 = .ok (.aload_n 0, 1) := by decide +kernel
theorem dX4_walls_43 : decode cX4_walls 43 = .ok (.getfield 39, 3) := by decide +kernel
theorem dX4_walls_46 : decode cX4_walls 46 = .ok (.imul, 1) := by decide +kernel
theorem dX4_walls_47 : decode cX4_walls 47 = .ok (.ishl, 1) := by decide +kernel
theorem dX4_walls_48 : decode cX4_walls 48 = .ok (.if_icmp .ge 57, 3) := by decide +kernel
theorem dX4_walls_51 : decode cX4_walls 51 = .ok (.iload 4, 2) := by decide +kernel
theorem dX4_walls_53 : decode cX4_walls 53 = .ok (.iconst (-1), 1) := by decide +kernel
theorem dX4_walls_54 : decode cX4_walls 54 = .ok (.if_icmp .eq 18, 3) := by decide +kernel
theorem dX4_walls_57 : decode cX4_walls 57 = .ok (.aload_n 0, 1) := by decide +kernel
theorem dX4_walls_58 : decode cX4_walls 58 = .ok (.iload 5, 2) := by decide +kernel
theorem dX4_walls_60 : decode cX4_walls 60 = .ok (.invokevirtual 76, 3) := by decide +kernel
theorem dX4_walls_63 : decode cX4_walls 63 = .ok (.aload_n 0, 1) := by decide +kernel
theorem dX4_walls_64 : decode cX4_walls 64 = .ok (.iload 4, 2) := by decide +kernel
theorem dX4_walls_66 : decode cX4_walls 66 = .ok (.invokevirtual 76, 3) := by decide +kernel
theorem dX4_walls_69 : decode cX4_walls 69 = .ok (.if_icmp .ge 7, 3) := by decide +kernel
theorem dX4_walls_72 : decode cX4_walls 72 = .ok (.iconst 1, 1) := by decide +kernel
theorem dX4_walls_73 : decode cX4_walls 73 = .ok (.goto 4, 3) := by decide +kernel
theorem dX4_walls_76 : decode cX4_walls 76 = .ok (.iconst 0, 1) := by decide +kernel
theorem dX4_walls_77 : decode cX4_walls 77 = .ok (.istore 6, 2) := by decide +kernel
theorem dX4_walls_79 : decode cX4_walls 79 = .ok (.iload 6, 2) := by decide +kernel
theorem dX4_walls_81 : decode cX4_walls 81 = .ok (.ifCond .eq 18, 3) := by decide +kernel
theorem dX4_walls_84 : decode cX4_walls 84 = .ok (.aload_n 0, 1) := by decide +kernel
theorem dX4_walls_85 : decode cX4_walls 85 = .ok (.iload 5, 2) := by decide +kernel
theorem dX4_walls_87 : decode cX4_walls 87 = .ok (.iload_n 2, 1) := by decide +kernel
theorem dX4_walls_88 : decode cX4_walls 88 = .ok (.invokevirtual 145, 3) := by decide +kernel
theorem dX4_walls_91 : decode cX4_walls 91 = .ok (.iload_n 1, 1) := by decide +kernel
theorem dX4_walls_92 : decode cX4_walls 92 = .ok (.if_icmp .gt 7, 3) := by decide +kernel
theorem dX4_walls_95 : decode cX4_walls 95 = .ok (.iload 5, 2) := by decide +kernel
theorem dX4_walls_97 : decode cX4_walls 97 = .ok (.istore 4, 2) := by decide +kernel
theorem dX4_walls_99 : decode cX4_walls 99 = .ok (.iinc 5 1, 3) := by decide +kernel
theorem dX4_walls_102 : decode cX4_walls 102 = .ok (.goto (-64), 3) := by decide +kernel
theorem dX4_walls_105 : decode cX4_walls 105 = .ok (.iload_n 3, 1) := by decide +kernel
theorem dX4_walls_106 : decode cX4_walls 106 = .ok (.ifCond .ne 18, 3) := by decide +kernel
theorem dX4_walls_109 : decode cX4_walls 109 = .ok (.iload 4, 2) := by decide +kernel
theorem dX4_walls_111 : decode cX4_walls 111 = .ok (.iconst (-1), 1) := by decide +kernel
theorem dX4_walls_112 : decode cX4_walls 112 = .ok (.if_icmp .eq 12, 3) := by decide +kernel
theorem dX4_walls_115 : decode cX4_walls 115 = .ok (.aload_n 0, 1) := by decide +kernel
theorem dX4_walls_116 : decode cX4_walls 116 = .ok (.iload 4, 2) := by decide +kernel
theorem dX4_walls_118 : decode cX4_walls 118 = .ok (.invokevirtual 76, 3) := by decide +kernel
theorem dX4_walls_121 : decode cX4_walls 121 = .ok (.goto 5, 3) := by decide +kernel
theorem dX4_walls_124 : decode cX4_walls 124 = .ok (.iload 4, 2) := by decide +kernel
theorem dX4_walls_126 : decode cX4_walls 126 = .ok (.ireturn, 1) := by decide +kernel
set_option maxRecDepth 20000 in
theorem ggX4_give_X4_wallIn : GoodIn wsX4_give wsX4_wallIn := goodIn_r _ [8] (by decide +kernel) (by decide +kernel)
set_option maxRecDepth 20000 in
theorem gX4_give_X4_wallIn : GoodIn wsX4_give (va_wsS RX4 148 yX4_wallIn wsX4_wallIn) := goodIn_app (goodIn_of _ (by decide +kernel)) ggX4_give_X4_wallIn
theorem dX4_give_0 : decode cX4_give 0 = .ok (.iload_n 1, 1) := by decide +kernel
theorem dX4_give_1 : decode cX4_give 1 = .ok (.ifCond .lt 9, 3) := by decide +kernel
theorem dX4_give_4 : decode cX4_give 4 = .ok (.iload_n 1, 1) := by decide +kernel
theorem dX4_give_5 : decode cX4_give 5 = .ok (.bipush 64, 2) := by decide +kernel
theorem dX4_give_7 : decode cX4_give 7 = .ok (.if_icmp .lt 5, 3) := by decide +kernel
theorem dX4_give_10 : decode cX4_give 10 = .ok (.iconst 0, 1) := by decide +kernel
theorem dX4_give_11 : decode cX4_give 11 = .ok (.ireturn, 1) := by decide +kernel
theorem dX4_give_12 : decode cX4_give 12 = .ok (.iconst 0, 1) := by decide +kernel
theorem dX4_give_13 : decode cX4_give 13 = .ok (.istore_n 2, 1) := by decide +kernel
theorem dX4_give_14 : decode cX4_give 14 = .ok (.iload_n 2, 1) := by decide +kernel
theorem dX4_give_15 : decode cX4_give 15 = .ok (.aload_n 0, 1) := by decide +kernel
theorem dX4_give_16 : decode cX4_give 16 = .ok (.getfield 39, 3) := by decide +kernel
theorem dX4_give_19 : decode cX4_give 19 = .ok (.if_icmp .ge 23, 3) := by decide +kernel
theorem dX4_give_22 : decode cX4_give 22 = .ok (.aload_n 0, 1) := by decide +kernel
theorem dX4_give_23 : decode cX4_give 23 = .ok (.getfield 11, 3) := by decide +kernel
theorem dX4_give_26 : decode cX4_give 26 = .ok (.iload_n 2, 1) := by decide +kernel
theorem dX4_give_27 : decode cX4_give 27 = .ok (.aaload, 1) := by decide +kernel
theorem dX4_give_28 : decode cX4_give 28 = .ok (.iload_n 1, 1) := by decide +kernel
theorem dX4_give_29 : decode cX4_give 29 = .ok (.iload_n 2, 1) := by decide +kernel
theorem dX4_give_30 : decode cX4_give 30 = .ok (.invokestatic 148, 3) := by decide +kernel
theorem dX4_give_33 : decode cX4_give 33 = .ok (.putfield 58, 3) := by decide +kernel
theorem dX4_give_36 : decode cX4_give 36 = .ok (.iinc 2 1, 3) := by decide +kernel
theorem dX4_give_39 : decode cX4_give 39 = .ok (.goto (-25), 3) := by decide +kernel
theorem dX4_give_42 : decode cX4_give 42 = .ok (.aload_n 0, 1) := by decide +kernel
theorem dX4_give_43 : decode cX4_give 43 = .ok (.dup, 1) := by decide +kernel
theorem dX4_give_44 : decode cX4_give 44 = .ok (.getfield 43, 3) := by decide +kernel
theorem dX4_give_47 : decode cX4_give 47 = .ok (.iconst 1, 1) := by decide +kernel
theorem dX4_give_48 : decode cX4_give 48 = .ok (.iadd, 1) := by decide +kernel
theorem dX4_give_49 : decode cX4_give 49 = .ok (.putfield 43, 3) := by decide +kernel
theorem dX4_give_52 : decode cX4_give 52 = .ok (.iconst 1, 1) := by decide +kernel
theorem dX4_give_53 : decode cX4_give 53 = .ok (.ireturn, 1) := by decide +kernel
theorem dX4_isThing_0 : decode cX4_isThing 0 = .ok (.iload_n 1, 1) := by decide +kernel
theorem dX4_isThing_1 : decode cX4_isThing 1 = .ok (.ifCond .lt 15, 3) := by decide +kernel
theorem dX4_isThing_4 : decode cX4_isThing 4 = .ok (.iload_n 1, 1) := by decide +kernel
theorem dX4_isThing_5 : decode cX4_isThing 5 = .ok (.aload_n 0, 1) := by decide +kernel
theorem dX4_isThing_6 : decode cX4_isThing 6 = .ok (.getfield 39, 3) := by decide +kernel
theorem dX4_isThing_9 : decode cX4_isThing 9 = .ok (.if_icmp .ge 7, 3) := by decide +kernel
theorem dX4_isThing_12 : decode cX4_isThing 12 = .ok (.iconst 1, 1) := by decide +kernel
theorem dX4_isThing_13 : decode cX4_isThing 13 = .ok (.goto 4, 3) := by decide +kernel
theorem dX4_isThing_16 : decode cX4_isThing 16 = .ok (.iconst 0, 1) := by decide +kernel
theorem dX4_isThing_17 : decode cX4_isThing 17 = .ok (.ireturn, 1) := by decide +kernel
theorem dX4_isAct_0 : decode cX4_isAct 0 = .ok (.iload_n 1, 1) := by decide +kernel
theorem dX4_isAct_1 : decode cX4_isAct 1 = .ok (.bipush 9, 2) := by decide +kernel
theorem dX4_isAct_3 : decode cX4_isAct 3 = .ok (.if_icmp .eq 17, 3) := by decide +kernel
theorem dX4_isAct_6 : decode cX4_isAct 6 = .ok (.iload_n 1, 1) := by decide +kernel
theorem dX4_isAct_7 : decode cX4_isAct 7 = .ok (.ifCond .lt 17, 3) := by decide +kernel
theorem dX4_isAct_10 : decode cX4_isAct 10 = .ok (.iload_n 1, 1) := by decide +kernel
theorem dX4_isAct_11 : decode cX4_isAct 11 = .ok (.iconst 3, 1) := by decide +kernel
theorem dX4_isAct_12 : decode cX4_isAct 12 = .ok (.aload_n 0, 1) := by decide +kernel
theorem dX4_isAct_13 : decode cX4_isAct 13 = .ok (.getfield 39, 3) := by decide +kernel
theorem dX4_isAct_16 : decode cX4_isAct 16 = .ok (.imul, 1) := by decide +kernel
theorem dX4_isAct_17 : decode cX4_isAct 17 = .ok (.if_icmp .ge 7, 3) := by decide +kernel
theorem dX4_isAct_20 : decode cX4_isAct 20 = .ok (.iconst 1, 1) := by decide +kernel
theorem dX4_isAct_21 : decode cX4_isAct 21 = .ok (.goto 4, 3) := by decide +kernel
theorem dX4_isAct_24 : decode cX4_isAct 24 = .ok (.iconst 0, 1) := by decide +kernel
theorem dX4_isAct_25 : decode cX4_isAct 25 = .ok (.ireturn, 1) := by decide +kernel
theorem dX4_canBe_0 : decode cX4_canBe 0 = .ok (.iload_n 1, 1) := by decide +kernel
theorem dX4_canBe_1 : decode cX4_canBe 1 = .ok (.ifCond .lt 25, 3) := by decide +kernel
theorem dX4_canBe_4 : decode cX4_canBe 4 = .ok (.iload_n 1, 1) := by decide +kernel
theorem dX4_canBe_5 : decode cX4_canBe 5 = .ok (.iload_n 0, 1) := by decide +kernel
theorem dX4_canBe_6 : decode cX4_canBe 6 = .ok (.ifCond .eq 8, 3) := by decide +kernel
theorem dX4_canBe_9 : decode cX4_canBe 9 = .ok (.iload_n 0, 1) := by decide +kernel
theorem dX4_canBe_10 : decode cX4_canBe 10 = .ok (.iconst 2, 1) := by decide +kernel
theorem dX4_canBe_11 : decode cX4_canBe 11 = .ok (.if_icmp .ne 7, 3) := by decide +kernel
theorem dX4_canBe_14 : decode cX4_canBe 14 = .ok (.iconst 3, 1) := by decide +kernel
theorem dX4_canBe_15 : decode cX4_canBe 15 = .ok (.goto 4, 3) := by decide +kernel
theorem dX4_canBe_18 : decode cX4_canBe 18 = .ok (.iconst 4, 1) := by decide +kernel
theorem dX4_canBe_19 : decode cX4_canBe 19 = .ok (.if_icmp .ge 7, 3) := by decide +kernel
theorem dX4_canBe_22 : decode cX4_canBe 22 = .ok (.iconst 1, 1) := by decide +kernel
theorem dX4_canBe_23 : decode cX4_canBe 23 = .ok (.goto 4, 3) := by decide +kernel
theorem dX4_canBe_26 : decode cX4_canBe 26 = .ok (.iconst 0, 1) := by decide +kernel
theorem dX4_canBe_27 : decode cX4_canBe 27 = .ok (.ireturn, 1) := by decide +kernel
theorem dX4_canHave_0 : decode cX4_canHave 0 = .ok (.iload_n 0, 1) := by decide +kernel
theorem dX4_canHave_1 : decode cX4_canHave 1 = .ok (.tableswitch 64 0 3 #[31, 33, 31, 49], 31) := by decide +kernel
theorem dX4_canHave_32 : decode cX4_canHave 32 = .ok (.iconst 1, 1) := by decide +kernel
theorem dX4_canHave_33 : decode cX4_canHave 33 = .ok (.ireturn, 1) := by decide +kernel
theorem dX4_canHave_34 : decode cX4_canHave 34 = .ok (.iload_n 1, 1) := by decide +kernel
theorem dX4_canHave_35 : decode cX4_canHave 35 = .ok (.iconst 1, 1) := by decide +kernel
theorem dX4_canHave_36 : decode cX4_canHave 36 = .ok (.if_icmp .lt 12, 3) := by decide +kernel
theorem dX4_canHave_39 : decode cX4_canHave 39 = .ok (.iload_n 1, 1) := by decide +kernel
theorem dX4_canHave_40 : decode cX4_canHave 40 = .ok (.iconst 4, 1) := by decide +kernel
theorem dX4_canHave_41 : decode cX4_canHave 41 = .ok (.if_icmp .gt 7, 3) := by decide +kernel
theorem dX4_canHave_44 : decode cX4_canHave 44 = .ok (.iconst 1, 1) := by decide +kernel
theorem dX4_canHave_45 : decode cX4_canHave 45 = .ok (.goto 4, 3) := by decide +kernel
theorem dX4_canHave_48 : decode cX4_canHave 48 = .ok (.iconst 0, 1) := by decide +kernel
theorem dX4_canHave_49 : decode cX4_canHave 49 = .ok (.ireturn, 1) := by decide +kernel
theorem dX4_canHave_50 : decode cX4_canHave 50 = .ok (.iload_n 1, 1) := by decide +kernel
theorem dX4_canHave_51 : decode cX4_canHave 51 = .ok (.ifCond .lt 12, 3) := by decide +kernel
theorem dX4_canHave_54 : decode cX4_canHave 54 = .ok (.iload_n 1, 1) := by decide +kernel
theorem dX4_canHave_55 : decode cX4_canHave 55 = .ok (.iconst 3, 1) := by decide +kernel
theorem dX4_canHave_56 : decode cX4_canHave 56 = .ok (.if_icmp .gt 7, 3) := by decide +kernel
theorem dX4_canHave_59 : decode cX4_canHave 59 = .ok (.iconst 1, 1) := by decide +kernel
theorem dX4_canHave_60 : decode cX4_canHave 60 = .ok (.goto 4, 3) := by decide +kernel
theorem dX4_canHave_63 : decode cX4_canHave 63 = .ok (.iconst 0, 1) := by decide +kernel
theorem dX4_canHave_64 : decode cX4_canHave 64 = .ok (.ireturn, 1) := by decide +kernel
theorem dX4_canHave_65 : decode cX4_canHave 65 = .ok (.iconst 0, 1) := by decide +kernel
theorem dX4_canHave_66 : decode cX4_canHave 66 = .ok (.ireturn, 1) := by decide +kernel
set_option maxRecDepth 20000 in
theorem ggX4_come_X4_canBe : GoodIn wsX4_come wsX4_canBe := goodIn_r _ [7] (by decide +kernel) (by decide +kernel)
set_option maxRecDepth 20000 in
theorem gX4_come_X4_canBe : GoodIn wsX4_come (va_wsS RX4 92 yX4_canBe wsX4_canBe) := goodIn_app (goodIn_of _ (by decide +kernel)) ggX4_come_X4_canBe
set_option maxRecDepth 20000 in
theorem ggX4_come_X2_come : GoodIn wsX4_come wsX2_come := goodIn_r _ [12, 13, 14, 15, 16, 17, 18, 19, 20, 21, 22, 23, 24, 25, 33, 34, 35, 36, 37, 38, 39, 40, 41] (by decide +kernel) (by decide +kernel)
set_option maxRecDepth 20000 in
theorem gX4_come_X2_come : GoodIn wsX4_come (wsV RX4 151 RX2 yX2_come wsX2_come) := goodIn_app (goodIn_of _ (by decide +kernel)) ggX4_come_X2_come
theorem dX4_come_0 : decode cX4_come 0 = .ok (.aload_n 0, 1) := by decide +kernel
theorem dX4_come_1 : decode cX4_come 1 = .ok (.getfield 39, 3) := by decide +kernel
theorem dX4_come_4 : decode cX4_come 4 = .ok (.iconst 3, 1) := by decide +kernel
theorem dX4_come_5 : decode cX4_come 5 = .ok (.if_icmp .ge 11, 3) := by decide +kernel
theorem dX4_come_8 : decode cX4_come 8 = .ok (.iload_n 1, 1) := by decide +kernel
theorem dX4_come_9 : decode cX4_come 9 = .ok (.iload_n 2, 1) := by decide +kernel
theorem dX4_come_10 : decode cX4_come 10 = .ok (.invokestatic 92, 3) := by decide +kernel
theorem dX4_come_13 : decode cX4_come 13 = .ok (.ifCond .ne 5, 3) := by decide +kernel
theorem dX4_come_16 : decode cX4_come 16 = .ok (.iconst (-1), 1) := by decide +kernel
theorem dX4_come_17 : decode cX4_come 17 = .ok (.ireturn, 1) := by decide +kernel
theorem dX4_come_18 : decode cX4_come 18 = .ok (.aload_n 0, 1) := by decide +kernel
theorem dX4_come_19 : decode cX4_come 19 = .ok (.getfield 11, 3) := by decide +kernel
theorem dX4_come_22 : decode cX4_come 22 = .ok (.aload_n 0, 1) := by decide +kernel
theorem dX4_come_23 : decode cX4_come 23 = .ok (.getfield 39, 3) := by decide +kernel
theorem dX4_come_26 : decode cX4_come 26 = .ok (.aaload, 1) := by decide +kernel
theorem dX4_come_27 : decode cX4_come 27 = .ok (.iload_n 1, 1) := by decide +kernel
theorem dX4_come_28 : decode cX4_come 28 = .ok (.iload_n 2, 1) := by decide +kernel
theorem dX4_come_29 : decode cX4_come 29 = .ok (.lload_n 3, 1) := by decide +kernel
theorem dX4_come_30 : decode cX4_come 30 = .ok (.lload 5, 2) := by decide +kernel
theorem dX4_come_32 : decode cX4_come 32 = .ok (.invokevirtual 151, 3) := by decide +kernel
theorem dX4_come_35 : decode cX4_come 35 = .ok (.aload_n 0, 1) := by decide +kernel
theorem dX4_come_36 : decode cX4_come 36 = .ok (.dup, 1) := by decide +kernel
theorem dX4_come_37 : decode cX4_come 37 = .ok (.getfield 39, 3) := by decide +kernel
theorem dX4_come_40 : decode cX4_come 40 = .ok (.iconst 1, 1) := by decide +kernel
theorem dX4_come_41 : decode cX4_come 41 = .ok (.iadd, 1) := by decide +kernel
theorem dX4_come_42 : decode cX4_come 42 = .ok (.putfield 39, 3) := by decide +kernel
theorem dX4_come_45 : decode cX4_come 45 = .ok (.aload_n 0, 1) := by decide +kernel
theorem dX4_come_46 : decode cX4_come 46 = .ok (.dup, 1) := by decide +kernel
theorem dX4_come_47 : decode cX4_come 47 = .ok (.getfield 43, 3) := by decide +kernel
theorem dX4_come_50 : decode cX4_come 50 = .ok (.iconst 1, 1) := by decide +kernel
theorem dX4_come_51 : decode cX4_come 51 = .ok (.iadd, 1) := by decide +kernel
theorem dX4_come_52 : decode cX4_come 52 = .ok (.putfield 43, 3) := by decide +kernel
theorem dX4_come_55 : decode cX4_come 55 = .ok (.aload_n 0, 1) := by decide +kernel
theorem dX4_come_56 : decode cX4_come 56 = .ok (.getfield 39, 3) := by decide +kernel
theorem dX4_come_59 : decode cX4_come 59 = .ok (.iconst 1, 1) := by decide +kernel
theorem dX4_come_60 : decode cX4_come 60 = .ok (.isub, 1) := by decide +kernel
theorem dX4_come_61 : decode cX4_come 61 = .ok (.ireturn, 1) := by decide +kernel
theorem dX4_wallIn_0 : decode cX4_wallIn 0 = .ok (.iload_n 0, 1) := by decide +kernel
theorem dX4_wallIn_1 : decode cX4_wallIn 1 = .ok (.iconst 2, 1) := by decide +kernel
theorem dX4_wallIn_2 : decode cX4_wallIn 2 = .ok (.iload_n 1, 1) := by decide +kernel
theorem dX4_wallIn_3 : decode cX4_wallIn 3 = .ok (.imul, 1) := by decide +kernel
theorem dX4_wallIn_4 : decode cX4_wallIn 4 = .ok (.ishr, 1) := by decide +kernel
theorem dX4_wallIn_5 : decode cX4_wallIn 5 = .ok (.iconst 3, 1) := by decide +kernel
theorem dX4_wallIn_6 : decode cX4_wallIn 6 = .ok (.iand, 1) := by decide +kernel
theorem dX4_wallIn_7 : decode cX4_wallIn 7 = .ok (.ireturn, 1) := by decide +kernel
theorem dX4_wallsNow_0 : decode cX4_wallsNow 0 = .ok (.iconst 0, 1) := by decide +kernel
theorem dX4_wallsNow_1 : decode cX4_wallsNow 1 = .ok (.istore_n 1, 1) := by decide +kernel
theorem dX4_wallsNow_2 : decode cX4_wallsNow 2 = .ok (.iconst 0, 1) := by decide +kernel
theorem dX4_wallsNow_3 : decode cX4_wallsNow 3 = .ok (.istore_n 2, 1) := by decide +kernel
theorem dX4_wallsNow_4 : decode cX4_wallsNow 4 = .ok (.iload_n 2, 1) := by decide +kernel
theorem dX4_wallsNow_5 : decode cX4_wallsNow 5 = .ok (.aload_n 0, 1) := by decide +kernel
theorem dX4_wallsNow_6 : decode cX4_wallsNow 6 = .ok (.getfield 39, 3) := by decide +kernel
theorem dX4_wallsNow_9 : decode cX4_wallsNow 9 = .ok (.if_icmp .ge 25, 3) := by decide +kernel
theorem dX4_wallsNow_12 : decode cX4_wallsNow 12 = .ok (.iload_n 1, 1) := by decide +kernel
theorem dX4_wallsNow_13 : decode cX4_wallsNow 13 = .ok (.aload_n 0, 1) := by decide +kernel
theorem dX4_wallsNow_14 : decode cX4_wallsNow 14 = .ok (.getfield 11, 3) := by decide +kernel
theorem dX4_wallsNow_17 : decode cX4_wallsNow 17 = .ok (.iload_n 2, 1) := by decide +kernel
theorem dX4_wallsNow_18 : decode cX4_wallsNow 18 = .ok (.aaload, 1) := by decide +kernel
theorem dX4_wallsNow_19 : decode cX4_wallsNow 19 = .ok (.getfield 58, 3) := by decide +kernel
theorem dX4_wallsNow_22 : decode cX4_wallsNow 22 = .ok (.iconst 2, 1) := by decide +kernel
theorem dX4_wallsNow_23 : decode cX4_wallsNow 23 = .ok (.iload_n 2, 1) := by decide +kernel
theorem dX4_wallsNow_24 : decode cX4_wallsNow 24 = .ok (.imul, 1) := by decide +kernel
theorem dX4_wallsNow_25 : decode cX4_wallsNow 25 = .ok (.ishl, 1) := by decide +kernel
theorem dX4_wallsNow_26 : decode cX4_wallsNow 26 = .ok (.ior, 1) := by decide +kernel
theorem dX4_wallsNow_27 : decode cX4_wallsNow 27 = .ok (.istore_n 1, 1) := by decide +kernel
theorem dX4_wallsNow_28 : decode cX4_wallsNow 28 = .ok (.iinc 2 1, 3) := by decide +kernel
theorem dX4_wallsNow_31 : decode cX4_wallsNow 31 = .ok (.goto (-27), 3) := by decide +kernel
theorem dX4_wallsNow_34 : decode cX4_wallsNow 34 = .ok (.iload_n 1, 1) := by decide +kernel
theorem dX4_wallsNow_35 : decode cX4_wallsNow 35 = .ok (.ireturn, 1) := by decide +kernel
set_option maxRecDepth 20000 in
theorem ggX4_sumOf_X4_wallIn : GoodIn wsX4_sumOf wsX4_wallIn := goodIn_r _ [7] (by decide +kernel) (by decide +kernel)
set_option maxRecDepth 20000 in
theorem gX4_sumOf_X4_wallIn : GoodIn wsX4_sumOf (va_wsS RX4 148 yX4_wallIn wsX4_wallIn) := goodIn_app (goodIn_of _ (by decide +kernel)) ggX4_sumOf_X4_wallIn
theorem dX4_sumOf_0 : decode cX4_sumOf 0 = .ok (.iconst 0, 1) := by decide +kernel
theorem dX4_sumOf_1 : decode cX4_sumOf 1 = .ok (.istore_n 2, 1) := by decide +kernel
theorem dX4_sumOf_2 : decode cX4_sumOf 2 = .ok (.iconst 0, 1) := by decide +kernel
theorem dX4_sumOf_3 : decode cX4_sumOf 3 = .ok (.istore_n 3, 1) := by decide +kernel
theorem dX4_sumOf_4 : decode cX4_sumOf 4 = .ok (.iload_n 3, 1) := by decide +kernel
theorem dX4_sumOf_5 : decode cX4_sumOf 5 = .ok (.aload_n 0, 1) := by decide +kernel
theorem dX4_sumOf_6 : decode cX4_sumOf 6 = .ok (.getfield 39, 3) := by decide +kernel
theorem dX4_sumOf_9 : decode cX4_sumOf 9 = .ok (.if_icmp .ge 27, 3) := by decide +kernel
theorem dX4_sumOf_12 : decode cX4_sumOf 12 = .ok (.iload_n 2, 1) := by decide +kernel
theorem dX4_sumOf_13 : decode cX4_sumOf 13 = .ok (.aload_n 0, 1) := by decide +kernel
theorem dX4_sumOf_14 : decode cX4_sumOf 14 = .ok (.getfield 11, 3) := by decide +kernel
theorem dX4_sumOf_17 : decode cX4_sumOf 17 = .ok (.iload_n 3, 1) := by decide +kernel
theorem dX4_sumOf_18 : decode cX4_sumOf 18 = .ok (.aaload, 1) := by decide +kernel
theorem dX4_sumOf_19 : decode cX4_sumOf 19 = .ok (.getfield 65, 3) := by decide +kernel
theorem dX4_sumOf_22 : decode cX4_sumOf 22 = .ok (.iload_n 1, 1) := by decide +kernel
theorem dX4_sumOf_23 : decode cX4_sumOf 23 = .ok (.iload_n 3, 1) := by decide +kernel
theorem dX4_sumOf_24 : decode cX4_sumOf 24 = .ok (.invokestatic 148, 3) := by decide +kernel
theorem dX4_sumOf_27 : decode cX4_sumOf 27 = .ok (.iaload, 1) := by decide +kernel
theorem dX4_sumOf_28 : decode cX4_sumOf 28 = .ok (.iadd, 1) := by decide +kernel
theorem dX4_sumOf_29 : decode cX4_sumOf 29 = .ok (.istore_n 2, 1) := by decide +kernel
theorem dX4_sumOf_30 : decode cX4_sumOf 30 = .ok (.iinc 3 1, 3) := by decide +kernel
theorem dX4_sumOf_33 : decode cX4_sumOf 33 = .ok (.goto (-29), 3) := by decide +kernel
theorem dX4_sumOf_36 : decode cX4_sumOf 36 = .ok (.iload_n 2, 1) := by decide +kernel
theorem dX4_sumOf_37 : decode cX4_sumOf 37 = .ok (.ireturn, 1) := by decide +kernel
set_option maxRecDepth 20000 in
theorem ggX4_countSilent_X4_pairOf : GoodIn wsX4_countSilent wsX4_pairOf := goodIn_r _ [7, 8, 9, 10, 11, 12, 1, 13, 14, 15, 6, 16, 17, 18, 19, 20, 21, 22, 23, 24, 25, 26, 27, 28, 29, 30, 31, 32, 33, 34, 35, 36, 37, 38, 39, 40, 41, 42, 43, 44, 45, 46, 47, 48, 49, 50, 51, 52, 53, 54, 55, 56, 57, 58, 59, 60, 61, 62, 63, 64, 65, 66, 67, 68, 69, 70, 71, 72, 73, 74, 75, 76, 77, 78, 79, 80, 81, 82, 83, 84, 85, 86, 87, 88, 89, 90, 91, 92, 93, 94, 95, 96, 97, 98, 99, 100, 101, 102, 103, 104, 105, 106, 107, 108, 109, 110, 111, 112, 113, 114, 115, 116, 117, 118, 119, 120, 121, 122, 123, 124, 125, 126, 127, 128, 129, 130, 131, 132, 133, 134, 135, 136, 137, 138, 139, 140, 141, 142, 143, 144, 145, 146, 147, 148, 149, 150, 151, 152, 153, 154, 155, 156, 157] (by decide +kernel) (by decide +kernel)
set_option maxRecDepth 20000 in
theorem gX4_countSilent_X4_pairOf : GoodIn wsX4_countSilent (wsV RX4 102 RX4 yX4_pairOf wsX4_pairOf) := goodIn_app (goodIn_of _ (by decide +kernel)) ggX4_countSilent_X4_pairOf
theorem dX4_countSilent_0 : decode cX4_countSilent 0 = .ok (.iconst 0, 1) := by decide +kernel
theorem dX4_countSilent_1 : decode cX4_countSilent 1 = .ok (.istore_n 1, 1) := by decide +kernel
theorem dX4_countSilent_2 : decode cX4_countSilent 2 = .ok (.iconst 0, 1) := by decide +kernel
theorem dX4_countSilent_3 : decode cX4_countSilent 3 = .ok (.istore_n 2, 1) := by decide +kernel
theorem dX4_countSilent_4 : decode cX4_countSilent 4 = .ok (.iload_n 2, 1) := by decide +kernel
theorem dX4_countSilent_5 : decode cX4_countSilent 5 = .ok (.aload_n 0, 1) := by decide +kernel
theorem dX4_countSilent_6 : decode cX4_countSilent 6 = .ok (.getfield 39, 3) := by decide +kernel
theorem dX4_countSilent_9 : decode cX4_countSilent 9 = .ok (.if_icmp .ge 28, 3) := by decide +kernel
theorem dX4_countSilent_12 : decode cX4_countSilent 12 = .ok (.iload_n 1, 1) := by decide +kernel
theorem dX4_countSilent_13 : decode cX4_countSilent 13 = .ok (.aload_n 0, 1) := by decide +kernel
theorem dX4_countSilent_14 : decode cX4_countSilent 14 = .ok (.iload_n 2, 1) := by decide +kernel
theorem dX4_countSilent_15 : decode cX4_countSilent 15 = .ok (.invokevirtual 102, 3) := by decide +kernel
theorem dX4_countSilent_18 : decode cX4_countSilent 18 = .ok (.getfield 106, 3) := by decide +kernel
theorem dX4_countSilent_21 : decode cX4_countSilent 21 = .ok (.ifCond .ne 7, 3) := by decide +kernel
theorem dX4_countSilent_24 : decode cX4_countSilent 24 = .ok (.iconst 1, 1) := by decide +kernel
theorem dX4_countSilent_25 : decode cX4_countSilent 25 = .ok (.goto 4, 3) := by decide +kernel
theorem dX4_countSilent_28 : decode cX4_countSilent 28 = .ok (.iconst 0, 1) := by decide +kernel
theorem dX4_countSilent_29 : decode cX4_countSilent 29 = .ok (.iadd, 1) := by decide +kernel
theorem dX4_countSilent_30 : decode cX4_countSilent 30 = .ok (.istore_n 1, 1) := by decide +kernel
theorem dX4_countSilent_31 : decode cX4_countSilent 31 = .ok (.iinc 2 1, 3) := by decide +kernel
theorem dX4_countSilent_34 : decode cX4_countSilent 34 = .ok (.goto (-30), 3) := by decide +kernel
theorem dX4_countSilent_37 : decode cX4_countSilent 37 = .ok (.iload_n 1, 1) := by decide +kernel
theorem dX4_countSilent_38 : decode cX4_countSilent 38 = .ok (.ireturn, 1) := by decide +kernel
set_option maxRecDepth 20000 in
theorem ggX4_pairOf_X4_wallsNow : GoodIn wsX4_pairOf wsX4_wallsNow := goodIn_r _ [11, 6, 5, 12, 122, 123, 124, 125, 126, 127, 128, 137, 138, 139, 140, 141, 142, 143, 144, 145] (by decide +kernel) (by decide +kernel)
set_option maxRecDepth 20000 in
theorem gX4_pairOf_X4_wallsNow : GoodIn wsX4_pairOf (wsV RX4 73 RX4 yX4_wallsNow wsX4_wallsNow) := goodIn_app (goodIn_of _ (by decide +kernel)) ggX4_pairOf_X4_wallsNow
set_option maxRecDepth 20000 in
theorem ggX4_pairOf_X1_build : GoodIn wsX4_pairOf wsX1_build := goodIn_r _ [17, 18, 19, 20, 21, 22, 23, 24, 10, 25, 26, 27, 28, 16, 29, 30, 31, 32, 33, 34, 35, 36, 37, 38, 39, 40, 41, 42, 43, 44, 45, 46, 47, 48, 49, 50, 51, 52, 53, 54, 55, 56, 57, 58, 59, 60, 61, 62, 63, 64, 65, 66, 67, 146, 147, 148, 149, 150, 151, 152, 137, 138, 139, 140, 141, 142, 143, 144, 145] (by decide +kernel) (by decide +kernel)
set_option maxRecDepth 20000 in
theorem gX4_pairOf_X1_build : GoodIn wsX4_pairOf (wsV RX4 133 RX1 yX1_build wsX1_build) := goodIn_app (goodIn_of _ (by decide +kernel)) ggX4_pairOf_X1_build
set_option maxRecDepth 20000 in
theorem ggX4_pairOf_X0_find : GoodIn wsX4_pairOf wsX0_find := goodIn_r _ [72, 73, 74, 75, 76, 77, 78, 79, 80, 81, 82, 71, 83, 84, 85, 86, 87, 88, 89, 90, 91, 92, 93, 94, 95, 96, 16, 97, 21, 30, 98, 99, 100, 101, 22, 52, 53, 54, 102, 103, 104, 105, 32, 106, 107, 108, 109, 110, 111, 112, 113, 114, 115, 116, 117, 31, 118, 119, 120, 121, 129, 130, 131, 132, 133, 134, 135, 136, 146, 147, 148, 149, 150, 151, 152] (by decide +kernel) (by decide +kernel)
set_option maxRecDepth 20000 in
theorem gX4_pairOf_X0_find : GoodIn wsX4_pairOf (wsV RX4 157 RX0 yX0_find wsX0_find) := goodIn_app (goodIn_of _ (by decide +kernel)) ggX4_pairOf_X0_find
theorem dX4_pairOf_0 : decode cX4_pairOf 0 = .ok (.aload_n 0, 1) := by decide +kernel
theorem dX4_pairOf_1 : decode cX4_pairOf 1 = .ok (.getfield 17, 3) := by decide +kernel
theorem dX4_pairOf_4 : decode cX4_pairOf 4 = .ok (.iload_n 1, 1) := by decide +kernel
theorem dX4_pairOf_5 : decode cX4_pairOf 5 = .ok (.aaload, 1) := by decide +kernel
theorem dX4_pairOf_6 : decode cX4_pairOf 6 = .ok (.astore_n 2, 1) := by decide +kernel
theorem dX4_pairOf_7 : decode cX4_pairOf 7 = .ok (.aload_n 2, 1) := by decide +kernel
theorem dX4_pairOf_8 : decode cX4_pairOf 8 = .ok (.getfield 154, 3) := by decide +kernel
theorem dX4_pairOf_11 : decode cX4_pairOf 11 = .ok (.aload_n 0, 1) := by decide +kernel
theorem dX4_pairOf_12 : decode cX4_pairOf 12 = .ok (.getfield 43, 3) := by decide +kernel
theorem dX4_pairOf_15 : decode cX4_pairOf 15 = .ok (.if_icmp .eq 39, 3) := by decide +kernel
theorem dX4_pairOf_18 : decode cX4_pairOf 18 = .ok (.aload_n 0, 1) := by decide +kernel
theorem dX4_pairOf_19 : decode cX4_pairOf 19 = .ok (.getfield 30, 3) := by decide +kernel
theorem dX4_pairOf_22 : decode cX4_pairOf 22 = .ok (.aload_n 0, 1) := by decide +kernel
theorem dX4_pairOf_23 : decode cX4_pairOf 23 = .ok (.getfield 11, 3) := by decide +kernel
theorem dX4_pairOf_26 : decode cX4_pairOf 26 = .ok (.aload_n 0, 1) := by decide +kernel
theorem dX4_pairOf_27 : decode cX4_pairOf 27 = .ok (.getfield 39, 3) := by decide +kernel
theorem dX4_pairOf_30 : decode cX4_pairOf 30 = .ok (.aload_n 0, 1) := by decide +kernel
theorem dX4_pairOf_31 : decode cX4_pairOf 31 = .ok (.invokevirtual 73, 3) := by decide +kernel
theorem dX4_pairOf_34 : decode cX4_pairOf 34 = .ok (.invokevirtual 133, 3) := by decide +kernel
theorem dX4_pairOf_37 : decode cX4_pairOf 37 = .ok (.aload_n 2, 1) := by decide +kernel
theorem dX4_pairOf_38 : decode cX4_pairOf 38 = .ok (.aload_n 0, 1) := by decide +kernel
theorem dX4_pairOf_39 : decode cX4_pairOf 39 = .ok (.getfield 30, 3) := by decide +kernel
theorem dX4_pairOf_42 : decode cX4_pairOf 42 = .ok (.iload_n 1, 1) := by decide +kernel
theorem dX4_pairOf_43 : decode cX4_pairOf 43 = .ok (.invokevirtual 157, 3) := by decide +kernel
theorem dX4_pairOf_46 : decode cX4_pairOf 46 = .ok (.aload_n 2, 1) := by decide +kernel
theorem dX4_pairOf_47 : decode cX4_pairOf 47 = .ok (.aload_n 0, 1) := by decide +kernel
theorem dX4_pairOf_48 : decode cX4_pairOf 48 = .ok (.getfield 43, 3) := by decide +kernel
theorem dX4_pairOf_51 : decode cX4_pairOf 51 = .ok (.putfield 154, 3) := by decide +kernel
theorem dX4_pairOf_54 : decode cX4_pairOf 54 = .ok (.aload_n 2, 1) := by decide +kernel
theorem dX4_pairOf_55 : decode cX4_pairOf 55 = .ok (.areturn, 1) := by decide +kernel
set_option maxRecDepth 20000 in
theorem ggX4_whisperOf_X4_wallsNow : GoodIn wsX4_whisperOf wsX4_wallsNow := goodIn_r _ [13, 6, 5, 14, 140, 141, 142, 143, 144, 145, 146, 160, 161, 162, 163, 164, 165, 166, 167, 168] (by decide +kernel) (by decide +kernel)
set_option maxRecDepth 20000 in
theorem gX4_whisperOf_X4_wallsNow : GoodIn wsX4_whisperOf (wsV RX4 73 RX4 yX4_wallsNow wsX4_wallsNow) := goodIn_app (goodIn_of _ (by decide +kernel)) ggX4_whisperOf_X4_wallsNow
set_option maxRecDepth 20000 in
theorem ggX4_whisperOf_X1_build : GoodIn wsX4_whisperOf wsX1_build := goodIn_r _ [19, 20, 21, 22, 23, 24, 25, 26, 12, 27, 28, 29, 30, 18, 31, 32, 33, 34, 35, 36, 37, 38, 39, 40, 41, 42, 43, 44, 45, 46, 47, 48, 49, 50, 51, 52, 53, 54, 55, 56, 57, 58, 59, 60, 61, 62, 63, 64, 65, 66, 67, 68, 69, 153, 154, 155, 156, 157, 158, 159, 160, 161, 162, 163, 164, 165, 166, 167, 168] (by decide +kernel) (by decide +kernel)
set_option maxRecDepth 20000 in
theorem gX4_whisperOf_X1_build : GoodIn wsX4_whisperOf (wsV RX4 133 RX1 yX1_build wsX1_build) := goodIn_app (goodIn_of _ (by decide +kernel)) ggX4_whisperOf_X1_build
set_option maxRecDepth 20000 in
theorem ggX4_whisperOf_X3_grow : GoodIn wsX4_whisperOf wsX3_grow := goodIn_r _ [72, 73, 74, 75, 76, 77, 78, 79, 71, 80, 81, 82, 83, 84, 85, 86, 87, 88, 18, 89, 20, 32, 23, 90, 91, 92, 93, 94, 95, 96, 97, 98, 99, 24, 100, 12, 101, 102, 103, 104, 105, 34, 106, 107, 108, 109, 110, 111, 112, 113, 114, 115, 116, 33, 117, 118, 119, 120, 121, 68, 38, 69, 122, 123, 124, 125, 126, 70, 147, 148, 149, 150, 151, 152, 153, 154, 155, 156, 157, 158, 159] (by decide +kernel) (by decide +kernel)
set_option maxRecDepth 20000 in
theorem gX4_whisperOf_X3_grow_n166 : GoodIn wsX4_whisperOf (wsX3_grow) := ggX4_whisperOf_X3_grow
set_option maxRecDepth 20000 in
theorem ggX4_whisperOf_X3_addSenders : GoodIn wsX4_whisperOf wsX3_addSenders := goodIn_r _ [130, 81, 131, 73, 74, 82, 132, 133, 134, 71, 135, 86, 87, 88, 18, 89, 20, 32, 23, 90, 91, 92, 93, 94, 95, 96, 97, 98, 99, 24, 83, 84, 85, 125, 114, 115, 116, 34, 33, 136, 137, 138, 139, 147, 148, 149, 150, 151, 152, 153, 154, 155, 156, 157, 158, 159] (by decide +kernel) (by decide +kernel)
set_option maxRecDepth 20000 in
theorem gX4_whisperOf_X3_addSenders : GoodIn wsX4_whisperOf (wsV RX4 170 RX3 yX3_addSenders wsX3_addSenders) := goodIn_app (goodIn_of _ (by decide +kernel)) ggX4_whisperOf_X3_addSenders
theorem dX4_whisperOf_0 : decode cX4_whisperOf 0 = .ok (.aload_n 0, 1) := by decide +kernel
theorem dX4_whisperOf_1 : decode cX4_whisperOf 1 = .ok (.getfield 23, 3) := by decide +kernel
theorem dX4_whisperOf_4 : decode cX4_whisperOf 4 = .ok (.iload_n 1, 1) := by decide +kernel
theorem dX4_whisperOf_5 : decode cX4_whisperOf 5 = .ok (.aaload, 1) := by decide +kernel
theorem dX4_whisperOf_6 : decode cX4_whisperOf 6 = .ok (.astore_n 2, 1) := by decide +kernel
theorem dX4_whisperOf_7 : decode cX4_whisperOf 7 = .ok (.aload_n 2, 1) := by decide +kernel
theorem dX4_whisperOf_8 : decode cX4_whisperOf 8 = .ok (.getfield 161, 3) := by decide +kernel
theorem dX4_whisperOf_11 : decode cX4_whisperOf 11 = .ok (.aload_n 0, 1) := by decide +kernel
theorem dX4_whisperOf_12 : decode cX4_whisperOf 12 = .ok (.getfield 43, 3) := by decide +kernel
theorem dX4_whisperOf_15 : decode cX4_whisperOf 15 = .ok (.if_icmp .eq 59, 3) := by decide +kernel
theorem dX4_whisperOf_18 : decode cX4_whisperOf 18 = .ok (.aload_n 0, 1) := by decide +kernel
theorem dX4_whisperOf_19 : decode cX4_whisperOf 19 = .ok (.getfield 30, 3) := by decide +kernel
theorem dX4_whisperOf_22 : decode cX4_whisperOf 22 = .ok (.aload_n 0, 1) := by decide +kernel
theorem dX4_whisperOf_23 : decode cX4_whisperOf 23 = .ok (.getfield 11, 3) := by decide +kernel
theorem dX4_whisperOf_26 : decode cX4_whisperOf 26 = .ok (.aload_n 0, 1) := by decide +kernel
theorem dX4_whisperOf_27 : decode cX4_whisperOf 27 = .ok (.getfield 39, 3) := by decide +kernel
theorem dX4_whisperOf_30 : decode cX4_whisperOf 30 = .ok (.aload_n 0, 1) := by decide +kernel
theorem dX4_whisperOf_31 : decode cX4_whisperOf 31 = .ok (.invokevirtual 73, 3) := by decide +kernel
theorem dX4_whisperOf_34 : decode cX4_whisperOf 34 = .ok (.invokevirtual 133, 3) := by decide +kernel
theorem dX4_whisperOf_37 : decode cX4_whisperOf 37 = .ok (.aload_n 2, 1) := by decide +kernel
theorem dX4_whisperOf_38 : decode cX4_whisperOf 38 = .ok (.iconst 0, 1) := by decide +kernel
theorem dX4_whisperOf_39 : decode cX4_whisperOf 39 = .ok (.putfield 116, 3) := by decide +kernel
theorem dX4_whisperOf_42 : decode cX4_whisperOf 42 = .ok (.aload_n 2, 1) := by decide +kernel
theorem dX4_whisperOf_43 : decode cX4_whisperOf 43 = .ok (.aload_n 0, 1) := by decide +kernel
theorem dX4_whisperOf_44 : decode cX4_whisperOf 44 = .ok (.getfield 30, 3) := by decide +kernel
theorem dX4_whisperOf_47 : decode cX4_whisperOf 47 = .ok (.aload_n 0, 1) := by decide +kernel
theorem dX4_whisperOf_48 : decode cX4_whisperOf 48 = .ok (.getfield 30, 3) := by decide +kernel
theorem dX4_whisperOf_51 : decode cX4_whisperOf 51 = .ok (.getfield 162, 3) := by decide +kernel
theorem dX4_whisperOf_54 : decode cX4_whisperOf 54 = .ok (.iconst 0, 1) := by decide +kernel
theorem dX4_whisperOf_55 : decode cX4_whisperOf 55 = .ok (.invokestatic 166, 3) := by decide +kernel
theorem dX4_whisperOf_58 : decode cX4_whisperOf 58 = .ok (.aload_n 2, 1) := by decide +kernel
theorem dX4_whisperOf_59 : decode cX4_whisperOf 59 = .ok (.aload_n 0, 1) := by decide +kernel
theorem dX4_whisperOf_60 : decode cX4_whisperOf 60 = .ok (.getfield 30, 3) := by decide +kernel
theorem dX4_whisperOf_63 : decode cX4_whisperOf 63 = .ok (.invokevirtual 170, 3) := by decide +kernel
theorem dX4_whisperOf_66 : decode cX4_whisperOf 66 = .ok (.aload_n 2, 1) := by decide +kernel
theorem dX4_whisperOf_67 : decode cX4_whisperOf 67 = .ok (.aload_n 0, 1) := by decide +kernel
theorem dX4_whisperOf_68 : decode cX4_whisperOf 68 = .ok (.getfield 43, 3) := by decide +kernel
theorem dX4_whisperOf_71 : decode cX4_whisperOf 71 = .ok (.putfield 161, 3) := by decide +kernel
theorem dX4_whisperOf_74 : decode cX4_whisperOf 74 = .ok (.aload_n 2, 1) := by decide +kernel
theorem dX4_whisperOf_75 : decode cX4_whisperOf 75 = .ok (.areturn, 1) := by decide +kernel
set_option maxRecDepth 20000 in
theorem ggX4_lettersBehind_X1_build : GoodIn wsX4_lettersBehind wsX1_build := goodIn_r _ [9, 10, 11, 12, 13, 14, 15, 16, 17, 18, 19, 20, 21, 8, 22, 23, 24, 25, 26, 27, 28, 29, 30, 31, 32, 33, 34, 35, 36, 37, 38, 39, 40, 41, 42, 43, 44, 45, 46, 47, 48, 49, 50, 51, 52, 53, 54, 55, 56, 57, 58, 59, 60, 105, 106, 107, 108, 109, 110, 111, 112, 113, 114, 115, 116, 117, 118, 119, 120] (by decide +kernel) (by decide +kernel)
set_option maxRecDepth 20000 in
theorem gX4_lettersBehind_X1_build : GoodIn wsX4_lettersBehind (wsV RX4 133 RX1 yX1_build wsX1_build) := goodIn_app (goodIn_of _ (by decide +kernel)) ggX4_lettersBehind_X1_build
set_option maxRecDepth 20000 in
theorem ggX4_lettersBehind_X4_most : GoodIn wsX4_lettersBehind wsX4_most := goodIn_r _ [63, 64, 65, 59, 29, 60, 66, 67, 68, 8, 69, 10, 23, 13, 70, 71, 72, 73, 74, 75, 76, 77, 78, 79, 14, 80, 81, 17, 82, 83, 84, 85, 86, 25, 87, 88, 89, 90, 91, 92, 93, 94, 95, 96, 97, 24, 61, 62, 105, 106, 107, 108, 109, 110, 111] (by decide +kernel) (by decide +kernel)
set_option maxRecDepth 20000 in
theorem gX4_lettersBehind_X4_most : GoodIn wsX4_lettersBehind (va_wsS RX4 174 yX4_most wsX4_most) := goodIn_app (goodIn_of _ (by decide +kernel)) ggX4_lettersBehind_X4_most
theorem dX4_lettersBehind_0 : decode cX4_lettersBehind 0 = .ok (.aload_n 0, 1) := by decide +kernel
theorem dX4_lettersBehind_1 : decode cX4_lettersBehind 1 = .ok (.getfield 30, 3) := by decide +kernel
theorem dX4_lettersBehind_4 : decode cX4_lettersBehind 4 = .ok (.aload_n 0, 1) := by decide +kernel
theorem dX4_lettersBehind_5 : decode cX4_lettersBehind 5 = .ok (.getfield 11, 3) := by decide +kernel
theorem dX4_lettersBehind_8 : decode cX4_lettersBehind 8 = .ok (.aload_n 0, 1) := by decide +kernel
theorem dX4_lettersBehind_9 : decode cX4_lettersBehind 9 = .ok (.getfield 39, 3) := by decide +kernel
theorem dX4_lettersBehind_12 : decode cX4_lettersBehind 12 = .ok (.iload_n 1, 1) := by decide +kernel
theorem dX4_lettersBehind_13 : decode cX4_lettersBehind 13 = .ok (.invokevirtual 133, 3) := by decide +kernel
theorem dX4_lettersBehind_16 : decode cX4_lettersBehind 16 = .ok (.aload_n 0, 1) := by decide +kernel
theorem dX4_lettersBehind_17 : decode cX4_lettersBehind 17 = .ok (.getfield 30, 3) := by decide +kernel
theorem dX4_lettersBehind_20 : decode cX4_lettersBehind 20 = .ok (.aload_n 0, 1) := by decide +kernel
theorem dX4_lettersBehind_21 : decode cX4_lettersBehind 21 = .ok (.getfield 30, 3) := by decide +kernel
theorem dX4_lettersBehind_24 : decode cX4_lettersBehind 24 = .ok (.getfield 162, 3) := by decide +kernel
theorem dX4_lettersBehind_27 : decode cX4_lettersBehind 27 = .ok (.iconst 0, 1) := by decide +kernel
theorem dX4_lettersBehind_28 : decode cX4_lettersBehind 28 = .ok (.iload_n 2, 1) := by decide +kernel
theorem dX4_lettersBehind_29 : decode cX4_lettersBehind 29 = .ok (.invokestatic 174, 3) := by decide +kernel
theorem dX4_lettersBehind_32 : decode cX4_lettersBehind 32 = .ok (.ireturn, 1) := by decide +kernel
set_option maxRecDepth 20000 in
theorem ggX4_most_X1_sent : GoodIn wsX4_most wsX1_sent := goodIn_r _ [10, 11, 12, 13, 14, 15, 9, 16, 17, 18, 19, 20, 21, 22, 23, 24, 48, 49, 50, 51, 52, 53, 54] (by decide +kernel) (by decide +kernel)
set_option maxRecDepth 20000 in
theorem gX4_most_X1_sent : GoodIn wsX4_most (wsV RX4 181 RX1 yX1_sent wsX1_sent) := goodIn_app (goodIn_of _ (by decide +kernel)) ggX4_most_X1_sent
set_option maxRecDepth 20000 in
theorem ggX4_most_X4_mostBy : GoodIn wsX4_most wsX4_mostBy := goodIn_r _ [28, 29, 30, 31, 9, 32, 11, 33, 14, 15, 16, 17, 18, 19, 34, 35, 36, 37, 38, 39, 40, 41, 42, 43, 44, 45, 46, 47, 27, 0, 1, 2, 3, 4, 5, 6, 7, 8, 10, 12, 13, 20, 21, 22, 23, 24, 25, 26, 48, 49, 50, 51, 52, 53, 54] (by decide +kernel) (by decide +kernel)
set_option maxRecDepth 20000 in
theorem gX4_most_X4_mostBy : GoodIn wsX4_most (va_wsS RX4 185 yX4_mostBy wsX4_mostBy) := goodIn_app (goodIn_of _ (by decide +kernel)) ggX4_most_X4_mostBy
theorem dX4_most_0 : decode cX4_most 0 = .ok (.iload_n 3, 1) := by decide +kernel
theorem dX4_most_1 : decode cX4_most 1 = .ok (.iload 4, 2) := by decide +kernel
theorem dX4_most_3 : decode cX4_most 3 = .ok (.if_icmp .lt 5, 3) := by decide +kernel
theorem dX4_most_6 : decode cX4_most 6 = .ok (.iconst 1, 1) := by decide +kernel
theorem dX4_most_7 : decode cX4_most 7 = .ok (.ireturn, 1) := by decide +kernel
theorem dX4_most_8 : decode cX4_most 8 = .ok (.aload_n 0, 1) := by decide +kernel
theorem dX4_most_9 : decode cX4_most 9 = .ok (.lload_n 1, 1) := by decide +kernel
theorem dX4_most_10 : decode cX4_most 10 = .ok (.iconst 0, 1) := by decide +kernel
theorem dX4_most_11 : decode cX4_most 11 = .ok (.aload_n 0, 1) := by decide +kernel
theorem dX4_most_12 : decode cX4_most 12 = .ok (.getfield 178, 3) := by decide +kernel
theorem dX4_most_15 : decode cX4_most 15 = .ok (.iload_n 3, 1) := by decide +kernel
theorem dX4_most_16 : decode cX4_most 16 = .ok (.invokevirtual 181, 3) := by decide +kernel
theorem dX4_most_19 : decode cX4_most 19 = .ok (.lstore 5, 2) := by decide +kernel
theorem dX4_most_21 : decode cX4_most 21 = .ok (.iconst 0, 1) := by decide +kernel
theorem dX4_most_22 : decode cX4_most 22 = .ok (.istore 7, 2) := by decide +kernel
theorem dX4_most_24 : decode cX4_most 24 = .ok (.iconst 0, 1) := by decide +kernel
theorem dX4_most_25 : decode cX4_most 25 = .ok (.istore 8, 2) := by decide +kernel
theorem dX4_most_27 : decode cX4_most 27 = .ok (.iload 8, 2) := by decide +kernel
theorem dX4_most_29 : decode cX4_most 29 = .ok (.aload_n 0, 1) := by decide +kernel
theorem dX4_most_30 : decode cX4_most 30 = .ok (.getfield 178, 3) := by decide +kernel
theorem dX4_most_33 : decode cX4_most 33 = .ok (.if_icmp .gt 27, 3) := by decide +kernel
theorem dX4_most_36 : decode cX4_most 36 = .ok (.iload 7, 2) := by decide +kernel
theorem dX4_most_38 : decode cX4_most 38 = .ok (.aload_n 0, 1) := by decide +kernel
theorem dX4_most_39 : decode cX4_most 39 = .ok (.lload 5, 2) := by decide +kernel
theorem dX4_most_41 : decode cX4_most 41 = .ok (.iload 8, 2) := by decide +kernel
theorem dX4_most_43 : decode cX4_most 43 = .ok (.iload_n 3, 1) := by decide +kernel
theorem dX4_most_44 : decode cX4_most 44 = .ok (.iload 4, 2) := by decide +kernel
theorem dX4_most_46 : decode cX4_most 46 = .ok (.invokestatic 185, 3) := by decide +kernel
theorem dX4_most_49 : decode cX4_most 49 = .ok (.invokestatic 189, 3) := by decide +kernel
theorem dX4_most_52 : decode cX4_most 52 = .ok (.istore 7, 2) := by decide +kernel
theorem dX4_most_54 : decode cX4_most 54 = .ok (.iinc 8 1, 3) := by decide +kernel
theorem dX4_most_57 : decode cX4_most 57 = .ok (.goto (-30), 3) := by decide +kernel
theorem dX4_most_60 : decode cX4_most 60 = .ok (.iload 7, 2) := by decide +kernel
theorem dX4_most_62 : decode cX4_most 62 = .ok (.ireturn, 1) := by decide +kernel
set_option maxRecDepth 20000 in
theorem ggX4_mostBy_X1_answers : GoodIn wsX4_mostBy wsX1_answers := goodIn_r _ [5, 6, 7, 8, 9, 4, 10, 11, 12, 13, 48, 49, 50, 51, 52, 53, 54] (by decide +kernel) (by decide +kernel)
set_option maxRecDepth 20000 in
theorem gX4_mostBy_X1_answers : GoodIn wsX4_mostBy (wsV RX4 194 RX1 yX1_answers wsX1_answers) := goodIn_app (goodIn_of _ (by decide +kernel)) ggX4_mostBy_X1_answers
set_option maxRecDepth 20000 in
theorem ggX4_mostBy_J6_bitCount_0f7a4 : GoodIn wsX4_mostBy wsJ6_bitCount_0f7a4 := goodIn_r _ [17, 18, 19, 20] (by decide +kernel) (by decide +kernel)
set_option maxRecDepth 20000 in
theorem gX4_mostBy_J6_bitCount_0f7a4 : GoodIn wsX4_mostBy (va_wsS RX4 198 yJ6_bitCount_0f7a4 wsJ6_bitCount_0f7a4) := goodIn_app (goodIn_of _ (by decide +kernel)) ggX4_mostBy_J6_bitCount_0f7a4
set_option maxRecDepth 20000 in
theorem ggX4_mostBy_X1_heard : GoodIn wsX4_mostBy wsX1_heard := goodIn_r _ [24, 6, 7, 25, 8, 9, 4, 10, 11, 12, 13, 48, 49, 50, 51, 52, 53, 54] (by decide +kernel) (by decide +kernel)
set_option maxRecDepth 20000 in
theorem gX4_mostBy_X1_heard : GoodIn wsX4_mostBy (wsV RX4 203 RX1 yX1_heard wsX1_heard) := goodIn_app (goodIn_of _ (by decide +kernel)) ggX4_mostBy_X1_heard
set_option maxRecDepth 20000 in
theorem ggX4_mostBy_X4_most : GoodIn wsX4_mostBy wsX4_most := goodIn_r _ [29, 30, 31, 32, 33, 34, 35, 36, 37, 4, 38, 6, 39, 40, 8, 9, 10, 11, 12, 13, 41, 42, 43, 44, 45, 46, 47, 28, 0, 1, 2, 3, 5, 7, 14, 15, 16, 17, 18, 19, 20, 21, 22, 23, 24, 25, 26, 27, 48, 49, 50, 51, 52, 53, 54] (by decide +kernel) (by decide +kernel)
set_option maxRecDepth 20000 in
theorem gX4_mostBy_X4_most : GoodIn wsX4_mostBy (va_wsS RX4 174 yX4_most wsX4_most) := goodIn_app (goodIn_of _ (by decide +kernel)) ggX4_mostBy_X4_most
theorem dX4_mostBy_0 : decode cX4_mostBy 0 = .ok (.aload_n 0, 1) := by decide +kernel
theorem dX4_mostBy_1 : decode cX4_mostBy 1 = .ok (.lload_n 1, 1) := by decide +kernel
theorem dX4_mostBy_2 : decode cX4_mostBy 2 = .ok (.iload_n 3, 1) := by decide +kernel
theorem dX4_mostBy_3 : decode cX4_mostBy 3 = .ok (.invokevirtual 194, 3) := by decide +kernel
theorem dX4_mostBy_6 : decode cX4_mostBy 6 = .ok (.istore 6, 2) := by decide +kernel
theorem dX4_mostBy_8 : decode cX4_mostBy 8 = .ok (.iload 4, 2) := by decide +kernel
theorem dX4_mostBy_10 : decode cX4_mostBy 10 = .ok (.iconst 1, 1) := by decide +kernel
theorem dX4_mostBy_11 : decode cX4_mostBy 11 = .ok (.iadd, 1) := by decide +kernel
theorem dX4_mostBy_12 : decode cX4_mostBy 12 = .ok (.iload 5, 2) := by decide +kernel
theorem dX4_mostBy_14 : decode cX4_mostBy 14 = .ok (.if_icmp .lt 9, 3) := by decide +kernel
theorem dX4_mostBy_17 : decode cX4_mostBy 17 = .ok (.iload 6, 2) := by decide +kernel
theorem dX4_mostBy_19 : decode cX4_mostBy 19 = .ok (.invokestatic 198, 3) := by decide +kernel
theorem dX4_mostBy_22 : decode cX4_mostBy 22 = .ok (.ireturn, 1) := by decide +kernel
theorem dX4_mostBy_23 : decode cX4_mostBy 23 = .ok (.iconst 0, 1) := by decide +kernel
theorem dX4_mostBy_24 : decode cX4_mostBy 24 = .ok (.istore 7, 2) := by decide +kernel
theorem dX4_mostBy_26 : decode cX4_mostBy 26 = .ok (.iconst 0, 1) := by decide +kernel
theorem dX4_mostBy_27 : decode cX4_mostBy 27 = .ok (.istore 8, 2) := by decide +kernel
theorem dX4_mostBy_29 : decode cX4_mostBy 29 = .ok (.iload 8, 2) := by decide +kernel
theorem dX4_mostBy_31 : decode cX4_mostBy 31 = .ok (.iconst 4, 1) := by decide +kernel
theorem dX4_mostBy_32 : decode cX4_mostBy 32 = .ok (.if_icmp .ge 42, 3) := by decide +kernel
theorem dX4_mostBy_35 : decode cX4_mostBy 35 = .ok (.iload 6, 2) := by decide +kernel
theorem dX4_mostBy_37 : decode cX4_mostBy 37 = .ok (.iload 8, 2) := by decide +kernel
theorem dX4_mostBy_39 : decode cX4_mostBy 39 = .ok (.ishr, 1) := by decide +kernel
theorem dX4_mostBy_40 : decode cX4_mostBy 40 = .ok (.iconst 1, 1) := by decide +kernel
theorem dX4_mostBy_41 : decode cX4_mostBy 41 = .ok (.iand, 1) := by decide +kernel
theorem dX4_mostBy_42 : decode cX4_mostBy 42 = .ok (.ifCond .eq 26, 3) := by decide +kernel
theorem dX4_mostBy_45 : decode cX4_mostBy 45 = .ok (.iload 7, 2) := by decide +kernel
theorem dX4_mostBy_47 : decode cX4_mostBy 47 = .ok (.aload_n 0, 1) := by decide +kernel
theorem dX4_mostBy_48 : decode cX4_mostBy 48 = .ok (.aload_n 0, 1) := by decide +kernel
theorem dX4_mostBy_49 : decode cX4_mostBy 49 = .ok (.lload_n 1, 1) := by decide +kernel
theorem dX4_mostBy_50 : decode cX4_mostBy 50 = .ok (.iload_n 3, 1) := by decide +kernel
theorem dX4_mostBy_51 : decode cX4_mostBy 51 = .ok (.iload 8, 2) := by decide +kernel
theorem dX4_mostBy_53 : decode cX4_mostBy 53 = .ok (.invokevirtual 203, 3) := by decide +kernel
theorem dX4_mostBy_56 : decode cX4_mostBy 56 = .ok (.iload 4, 2) := by decide +kernel
theorem dX4_mostBy_58 : decode cX4_mostBy 58 = .ok (.iconst 1, 1) := by decide +kernel
theorem dX4_mostBy_59 : decode cX4_mostBy 59 = .ok (.iadd, 1) := by decide +kernel
theorem dX4_mostBy_60 : decode cX4_mostBy 60 = .ok (.iload 5, 2) := by decide +kernel
theorem dX4_mostBy_62 : decode cX4_mostBy 62 = .ok (.invokestatic 174, 3) := by decide +kernel
theorem dX4_mostBy_65 : decode cX4_mostBy 65 = .ok (.iadd, 1) := by decide +kernel
theorem dX4_mostBy_66 : decode cX4_mostBy 66 = .ok (.istore 7, 2) := by decide +kernel
theorem dX4_mostBy_68 : decode cX4_mostBy 68 = .ok (.iinc 8 1, 3) := by decide +kernel
theorem dX4_mostBy_71 : decode cX4_mostBy 71 = .ok (.goto (-42), 3) := by decide +kernel
theorem dX4_mostBy_74 : decode cX4_mostBy 74 = .ok (.iload 7, 2) := by decide +kernel
theorem dX4_mostBy_76 : decode cX4_mostBy 76 = .ok (.ireturn, 1) := by decide +kernel
theorem dX5_init_0 : decode cX5_init 0 = .ok (.aload_n 0, 1) := by decide +kernel
theorem dX5_init_1 : decode cX5_init 1 = .ok (.invokespecial 1, 3) := by decide +kernel
theorem dX5_init_4 : decode cX5_init 4 = .ok (.aload_n 0, 1) := by decide +kernel
theorem dX5_init_5 : decode cX5_init 5 = .ok (.iconst 3, 1) := by decide +kernel
theorem dX5_init_6 : decode cX5_init 6 = .ok (.newarray .int, 2) := by decide +kernel
theorem dX5_init_8 : decode cX5_init 8 = .ok (.putfield 7, 3) := by decide +kernel
theorem dX5_init_11 : decode cX5_init 11 = .ok (.aload_n 0, 1) := by decide +kernel
theorem dX5_init_12 : decode cX5_init 12 = .ok (.iconst 3, 1) := by decide +kernel
theorem dX5_init_13 : decode cX5_init 13 = .ok (.newarray .int, 2) := by decide +kernel
theorem dX5_init_15 : decode cX5_init 15 = .ok (.putfield 13, 3) := by decide +kernel
theorem dX5_init_18 : decode cX5_init 18 = .ok (.aload_n 0, 1) := by decide +kernel
theorem dX5_init_19 : decode cX5_init 19 = .ok (.iconst 3, 1) := by decide +kernel
theorem dX5_init_20 : decode cX5_init 20 = .ok (.newarray .int, 2) := by decide +kernel
theorem dX5_init_22 : decode cX5_init 22 = .ok (.putfield 16, 3) := by decide +kernel
theorem dX5_init_25 : decode cX5_init 25 = .ok (.aload_n 0, 1) := by decide +kernel
theorem dX5_init_26 : decode cX5_init 26 = .ok (.iconst 3, 1) := by decide +kernel
theorem dX5_init_27 : decode cX5_init 27 = .ok (.newarray .int, 2) := by decide +kernel
theorem dX5_init_29 : decode cX5_init 29 = .ok (.putfield 19, 3) := by decide +kernel
theorem dX5_init_32 : decode cX5_init 32 = .ok (.aload_n 0, 1) := by decide +kernel
theorem dX5_init_33 : decode cX5_init 33 = .ok (.iconst 3, 1) := by decide +kernel
theorem dX5_init_34 : decode cX5_init 34 = .ok (.newarray .int, 2) := by decide +kernel
theorem dX5_init_36 : decode cX5_init 36 = .ok (.putfield 22, 3) := by decide +kernel
theorem dX5_init_39 : decode cX5_init 39 = .ok (.aload_n 0, 1) := by decide +kernel
theorem dX5_init_40 : decode cX5_init 40 = .ok (.bipush 12, 2) := by decide +kernel
theorem dX5_init_42 : decode cX5_init 42 = .ok (.newarray .int, 2) := by decide +kernel
theorem dX5_init_44 : decode cX5_init 44 = .ok (.putfield 25, 3) := by decide +kernel
theorem dX5_init_47 : decode cX5_init 47 = .ok (.aload_n 0, 1) := by decide +kernel
theorem dX5_init_48 : decode cX5_init 48 = .ok (.iconst 3, 1) := by decide +kernel
theorem dX5_init_49 : decode cX5_init 49 = .ok (.newarray .int, 2) := by decide +kernel
theorem dX5_init_51 : decode cX5_init 51 = .ok (.putfield 28, 3) := by decide +kernel
theorem dX5_init_54 : decode cX5_init 54 = .ok (.aload_n 0, 1) := by decide +kernel
theorem dX5_init_55 : decode cX5_init 55 = .ok (.iconst 3, 1) := by decide +kernel
theorem dX5_init_56 : decode cX5_init 56 = .ok (.newarray .long, 2) := by decide +kernel
theorem dX5_init_58 : decode cX5_init 58 = .ok (.putfield 31, 3) := by decide +kernel
theorem dX5_init_61 : decode cX5_init 61 = .ok (.aload_n 0, 1) := by decide +kernel
theorem dX5_init_62 : decode cX5_init 62 = .ok (.iconst 3, 1) := by decide +kernel
theorem dX5_init_63 : decode cX5_init 63 = .ok (.newarray .long, 2) := by decide +kernel
theorem dX5_init_65 : decode cX5_init 65 = .ok (.putfield 35, 3) := by decide +kernel
theorem dX5_init_68 : decode cX5_init 68 = .ok (.aload_n 0, 1) := by decide +kernel
theorem dX5_init_69 : decode cX5_init 69 = .ok (.bipush 64, 2) := by decide +kernel
theorem dX5_init_71 : decode cX5_init 71 = .ok (.newarray .int, 2) := by decide +kernel
theorem dX5_init_73 : decode cX5_init 73 = .ok (.putfield 38, 3) := by decide +kernel
theorem dX5_init_76 : decode cX5_init 76 = .ok (.aload_n 0, 1) := by decide +kernel
theorem dX5_init_77 : decode cX5_init 77 = .ok (.sipush 4096, 3) := by decide +kernel
theorem dX5_init_80 : decode cX5_init 80 = .ok (.newarray .long, 2) := by decide +kernel
theorem dX5_init_82 : decode cX5_init 82 = .ok (.putfield 41, 3) := by decide +kernel
theorem dX5_init_85 : decode cX5_init 85 = .ok (.aload_n 0, 1) := by decide +kernel
theorem dX5_init_86 : decode cX5_init 86 = .ok (.sipush 4096, 3) := by decide +kernel
theorem dX5_init_89 : decode cX5_init 89 = .ok (.newarray .int, 2) := by decide +kernel
theorem dX5_init_91 : decode cX5_init 91 = .ok (.putfield 44, 3) := by decide +kernel
theorem dX5_init_94 : decode cX5_init 94 = .ok (.aload_n 0, 1) := by decide +kernel
theorem dX5_init_95 : decode cX5_init 95 = .ok (.sipush 4096, 3) := by decide +kernel
theorem dX5_init_98 : decode cX5_init 98 = .ok (.newarray .int, 2) := by decide +kernel
theorem dX5_init_100 : decode cX5_init 100 = .ok (.putfield 47, 3) := by decide +kernel
theorem dX5_init_103 : decode cX5_init 103 = .ok (.aload_n 0, 1) := by decide +kernel
theorem dX5_init_104 : decode cX5_init 104 = .ok (.sipush 4096, 3) := by decide +kernel
theorem dX5_init_107 : decode cX5_init 107 = .ok (.newarray .int, 2) := by decide +kernel
theorem dX5_init_109 : decode cX5_init 109 = .ok (.putfield 50, 3) := by decide +kernel
theorem dX5_init_112 : decode cX5_init 112 = .ok (.aload_n 0, 1) := by decide +kernel
theorem dX5_init_113 : decode cX5_init 113 = .ok (.iconst 3, 1) := by decide +kernel
theorem dX5_init_114 : decode cX5_init 114 = .ok (.newarray .int, 2) := by decide +kernel
theorem dX5_init_116 : decode cX5_init 116 = .ok (.putfield 53, 3) := by decide +kernel
theorem dX5_init_119 : decode cX5_init 119 = .ok (.aload_n 0, 1) := by decide +kernel
theorem dX5_init_120 : decode cX5_init 120 = .ok (.iconst 3, 1) := by decide +kernel
theorem dX5_init_121 : decode cX5_init 121 = .ok (.newarray .int, 2) := by decide +kernel
theorem dX5_init_123 : decode cX5_init 123 = .ok (.putfield 56, 3) := by decide +kernel
theorem dX5_init_126 : decode cX5_init 126 = .ok (.aload_n 0, 1) := by decide +kernel
theorem dX5_init_127 : decode cX5_init 127 = .ok (.iconst 3, 1) := by decide +kernel
theorem dX5_init_128 : decode cX5_init 128 = .ok (.newarray .int, 2) := by decide +kernel
theorem dX5_init_130 : decode cX5_init 130 = .ok (.putfield 59, 3) := by decide +kernel
theorem dX5_init_133 : decode cX5_init 133 = .ok (.return_, 1) := by decide +kernel
theorem dX5_isIn_0 : decode cX5_isIn 0 = .ok (.iload_n 0, 1) := by decide +kernel
theorem dX5_isIn_1 : decode cX5_isIn 1 = .ok (.iload_n 1, 1) := by decide +kernel
theorem dX5_isIn_2 : decode cX5_isIn 2 = .ok (.if_icmp .lt 12, 3) := by decide +kernel
theorem dX5_isIn_5 : decode cX5_isIn 5 = .ok (.iload_n 0, 1) := by decide +kernel
end
section
theorem dX5_isIn_6 : decode cX5_isIn 6 = .ok (.iload_n 2, 1) := by decide +kernel
theorem dX5_isIn_7 : decode cX5_isIn 7 = .ok (.if_icmp .gt 7, 3) := by decide +kernel
theorem dX5_isIn_10 : decode cX5_isIn 10 = .ok (.iconst 1, 1) := by decide +kernel
theorem dX5_isIn_11 : decode cX5_isIn 11 = .ok (.goto 4, 3) := by decide +kernel
theorem dX5_isIn_14 : decode cX5_isIn 14 = .ok (.iconst 0, 1) := by decide +kernel
theorem dX5_isIn_15 : decode cX5_isIn 15 = .ok (.ireturn, 1) := by decide +kernel
set_option maxRecDepth 20000 in
theorem ggX5_isThing_X5_isIn : GoodIn wsX5_isThing wsX5_isIn := goodIn_r _ [5] (by decide +kernel) (by decide +kernel)
set_option maxRecDepth 20000 in
theorem gX5_isThing_X5_isIn : GoodIn wsX5_isThing (va_wsS RX5 66 yX5_isIn wsX5_isIn) := goodIn_app (goodIn_of _ (by decide +kernel)) ggX5_isThing_X5_isIn
theorem dX5_isThing_0 : decode cX5_isThing 0 = .ok (.iload_n 1, 1) := by decide +kernel
theorem dX5_isThing_1 : decode cX5_isThing 1 = .ok (.iconst 0, 1) := by decide +kernel
theorem dX5_isThing_2 : decode cX5_isThing 2 = .ok (.aload_n 0, 1) := by decide +kernel
theorem dX5_isThing_3 : decode cX5_isThing 3 = .ok (.getfield 62, 3) := by decide +kernel
theorem dX5_isThing_6 : decode cX5_isThing 6 = .ok (.iconst 1, 1) := by decide +kernel
theorem dX5_isThing_7 : decode cX5_isThing 7 = .ok (.isub, 1) := by decide +kernel
theorem dX5_isThing_8 : decode cX5_isThing 8 = .ok (.invokestatic 66, 3) := by decide +kernel
theorem dX5_isThing_11 : decode cX5_isThing 11 = .ok (.ireturn, 1) := by decide +kernel
theorem dX5_clear_0 : decode cX5_clear 0 = .ok (.aload_n 0, 1) := by decide +kernel
theorem dX5_clear_1 : decode cX5_clear 1 = .ok (.iconst 0, 1) := by decide +kernel
theorem dX5_clear_2 : decode cX5_clear 2 = .ok (.putfield 62, 3) := by decide +kernel
theorem dX5_clear_5 : decode cX5_clear 5 = .ok (.return_, 1) := by decide +kernel
theorem dX5_comes_0 : decode cX5_comes 0 = .ok (.aload_n 0, 1) := by decide +kernel
theorem dX5_comes_1 : decode cX5_comes 1 = .ok (.getfield 62, 3) := by decide +kernel
theorem dX5_comes_4 : decode cX5_comes 4 = .ok (.istore_n 3, 1) := by decide +kernel
theorem dX5_comes_5 : decode cX5_comes 5 = .ok (.aload_n 0, 1) := by decide +kernel
theorem dX5_comes_6 : decode cX5_comes 6 = .ok (.dup, 1) := by decide +kernel
theorem dX5_comes_7 : decode cX5_comes 7 = .ok (.getfield 62, 3) := by decide +kernel
theorem dX5_comes_10 : decode cX5_comes 10 = .ok (.iconst 1, 1) := by decide +kernel
theorem dX5_comes_11 : decode cX5_comes 11 = .ok (.iadd, 1) := by decide +kernel
theorem dX5_comes_12 : decode cX5_comes 12 = .ok (.putfield 62, 3) := by decide +kernel
theorem dX5_comes_15 : decode cX5_comes 15 = .ok (.aload_n 0, 1) := by decide +kernel
theorem dX5_comes_16 : decode cX5_comes 16 = .ok (.getfield 7, 3) := by decide +kernel
theorem dX5_comes_19 : decode cX5_comes 19 = .ok (.iload_n 3, 1) := by decide +kernel
theorem dX5_comes_20 : decode cX5_comes 20 = .ok (.iload_n 1, 1) := by decide +kernel
theorem dX5_comes_21 : decode cX5_comes 21 = .ok (.iastore, 1) := by decide +kernel
theorem dX5_comes_22 : decode cX5_comes 22 = .ok (.aload_n 0, 1) := by decide +kernel
theorem dX5_comes_23 : decode cX5_comes 23 = .ok (.getfield 13, 3) := by decide +kernel
theorem dX5_comes_26 : decode cX5_comes 26 = .ok (.iload_n 3, 1) := by decide +kernel
theorem dX5_comes_27 : decode cX5_comes 27 = .ok (.iload_n 2, 1) := by decide +kernel
theorem dX5_comes_28 : decode cX5_comes 28 = .ok (.iastore, 1) := by decide +kernel
theorem dX5_comes_29 : decode cX5_comes 29 = .ok (.aload_n 0, 1) := by decide +kernel
theorem dX5_comes_30 : decode cX5_comes 30 = .ok (.getfield 16, 3) := by decide +kernel
theorem dX5_comes_33 : decode cX5_comes 33 = .ok (.iload_n 3, 1) := by decide +kernel
theorem dX5_comes_34 : decode cX5_comes 34 = .ok (.iconst 0, 1) := by decide +kernel
theorem dX5_comes_35 : decode cX5_comes 35 = .ok (.iastore, 1) := by decide +kernel
theorem dX5_comes_36 : decode cX5_comes 36 = .ok (.aload_n 0, 1) := by decide +kernel
theorem dX5_comes_37 : decode cX5_comes 37 = .ok (.getfield 19, 3) := by decide +kernel
theorem dX5_comes_40 : decode cX5_comes 40 = .ok (.iload_n 3, 1) := by decide +kernel
theorem dX5_comes_41 : decode cX5_comes 41 = .ok (.iconst 1, 1) := by decide +kernel
theorem dX5_comes_42 : decode cX5_comes 42 = .ok (.iastore, 1) := by decide +kernel
theorem dX5_comes_43 : decode cX5_comes 43 = .ok (.aload_n 0, 1) := by decide +kernel
theorem dX5_comes_44 : decode cX5_comes 44 = .ok (.getfield 22, 3) := by decide +kernel
theorem dX5_comes_47 : decode cX5_comes 47 = .ok (.iload_n 3, 1) := by decide +kernel
theorem dX5_comes_48 : decode cX5_comes 48 = .ok (.iconst 0, 1) := by decide +kernel
theorem dX5_comes_49 : decode cX5_comes 49 = .ok (.iastore, 1) := by decide +kernel
theorem dX5_comes_50 : decode cX5_comes 50 = .ok (.iconst 0, 1) := by decide +kernel
theorem dX5_comes_51 : decode cX5_comes 51 = .ok (.istore 4, 2) := by decide +kernel
theorem dX5_comes_53 : decode cX5_comes 53 = .ok (.iload 4, 2) := by decide +kernel
theorem dX5_comes_55 : decode cX5_comes 55 = .ok (.iconst 4, 1) := by decide +kernel
theorem dX5_comes_56 : decode cX5_comes 56 = .ok (.if_icmp .ge 30, 3) := by decide +kernel
theorem dX5_comes_59 : decode cX5_comes 59 = .ok (.aload_n 0, 1) := by decide +kernel
theorem dX5_comes_60 : decode cX5_comes 60 = .ok (.getfield 25, 3) := by decide +kernel
theorem dX5_comes_63 : decode cX5_comes 63 = .ok (.iconst 4, 1) := by decide +kernel
theorem dX5_comes_64 : decode cX5_comes 64 = .ok (.iload_n 3, 1) := by decide +kernel
theorem dX5_comes_65 : decode cX5_comes 65 = .ok (.imul, 1) := by decide +kernel
theorem dX5_comes_66 : decode cX5_comes 66 = .ok (.iload 4, 2) := by decide +kernel
theorem dX5_comes_68 : decode cX5_comes 68 = .ok (.iadd, 1) := by decide +kernel
theorem dX5_comes_69 : decode cX5_comes 69 = .ok (.iload 4, 2) := by decide +kernel
theorem dX5_comes_71 : decode cX5_comes 71 = .ok (.ifCond .ne 7, 3) := by decide +kernel
theorem dX5_comes_74 : decode cX5_comes 74 = .ok (.iconst 0, 1) := by decide +kernel
theorem dX5_comes_75 : decode cX5_comes 75 = .ok (.goto 4, 3) := by decide +kernel
theorem dX5_comes_78 : decode cX5_comes 78 = .ok (.iconst 1, 1) := by decide +kernel
theorem dX5_comes_79 : decode cX5_comes 79 = .ok (.iastore, 1) := by decide +kernel
theorem dX5_comes_80 : decode cX5_comes 80 = .ok (.iinc 4 1, 3) := by decide +kernel
theorem dX5_comes_83 : decode cX5_comes 83 = .ok (.goto (-30), 3) := by decide +kernel
theorem dX5_comes_86 : decode cX5_comes 86 = .ok (.aload_n 0, 1) := by decide +kernel
theorem dX5_comes_87 : decode cX5_comes 87 = .ok (.getfield 28, 3) := by decide +kernel
theorem dX5_comes_90 : decode cX5_comes 90 = .ok (.iload_n 3, 1) := by decide +kernel
theorem dX5_comes_91 : decode cX5_comes 91 = .ok (.iload_n 2, 1) := by decide +kernel
theorem dX5_comes_92 : decode cX5_comes 92 = .ok (.iastore, 1) := by decide +kernel
theorem dX5_comes_93 : decode cX5_comes 93 = .ok (.iload_n 3, 1) := by decide +kernel
theorem dX5_comes_94 : decode cX5_comes 94 = .ok (.ireturn, 1) := by decide +kernel
set_option maxRecDepth 20000 in
theorem ggX5_thing_X5_isIn : GoodIn wsX5_thing wsX5_isIn := goodIn_r _ [5] (by decide +kernel) (by decide +kernel)
set_option maxRecDepth 20000 in
theorem gX5_thing_X5_isIn : GoodIn wsX5_thing (va_wsS RX5 66 yX5_isIn wsX5_isIn) := goodIn_app (goodIn_of _ (by decide +kernel)) ggX5_thing_X5_isIn
set_option maxRecDepth 20000 in
theorem ggX5_thing_X5_comes : GoodIn wsX5_thing wsX5_comes := goodIn_r _ [9, 1, 10, 11, 12, 13, 14, 15, 16, 17, 18, 19, 20, 21, 22, 23, 24, 25, 26, 27, 28, 29, 30, 31, 32, 33, 34, 35, 36] (by decide +kernel) (by decide +kernel)
set_option maxRecDepth 20000 in
theorem gX5_thing_X5_comes : GoodIn wsX5_thing (wsV RX5 70 RX5 yX5_comes wsX5_comes) := goodIn_app (goodIn_of _ (by decide +kernel)) ggX5_thing_X5_comes
theorem dX5_thing_0 : decode cX5_thing 0 = .ok (.iload_n 1, 1) := by decide +kernel
theorem dX5_thing_1 : decode cX5_thing 1 = .ok (.ifCond .eq 8, 3) := by decide +kernel
theorem dX5_thing_4 : decode cX5_thing 4 = .ok (.iload_n 1, 1) := by decide +kernel
theorem dX5_thing_5 : decode cX5_thing 5 = .ok (.iconst 2, 1) := by decide +kernel
theorem dX5_thing_6 : decode cX5_thing 6 = .ok (.if_icmp .ne 7, 3) := by decide +kernel
theorem dX5_thing_9 : decode cX5_thing 9 = .ok (.iconst 1, 1) := by decide +kernel
theorem dX5_thing_10 : decode cX5_thing 10 = .ok (.goto 4, 3) := by decide +kernel
theorem dX5_thing_13 : decode cX5_thing 13 = .ok (.iconst 0, 1) := by decide +kernel
theorem dX5_thing_14 : decode cX5_thing 14 = .ok (.istore_n 3, 1) := by decide +kernel
theorem dX5_thing_15 : decode cX5_thing 15 = .ok (.iload_n 1, 1) := by decide +kernel
theorem dX5_thing_16 : decode cX5_thing 16 = .ok (.iconst 0, 1) := by decide +kernel
theorem dX5_thing_17 : decode cX5_thing 17 = .ok (.iconst 3, 1) := by decide +kernel
theorem dX5_thing_18 : decode cX5_thing 18 = .ok (.invokestatic 66, 3) := by decide +kernel
theorem dX5_thing_21 : decode cX5_thing 21 = .ok (.ifCond .eq 28, 3) := by decide +kernel
theorem dX5_thing_24 : decode cX5_thing 24 = .ok (.iload_n 2, 1) := by decide +kernel
theorem dX5_thing_25 : decode cX5_thing 25 = .ok (.iconst 0, 1) := by decide +kernel
theorem dX5_thing_26 : decode cX5_thing 26 = .ok (.iload_n 3, 1) := by decide +kernel
theorem dX5_thing_27 : decode cX5_thing 27 = .ok (.ifCond .eq 7, 3) := by decide +kernel
theorem dX5_thing_30 : decode cX5_thing 30 = .ok (.iconst 2, 1) := by decide +kernel
theorem dX5_thing_31 : decode cX5_thing 31 = .ok (.goto 4, 3) := by decide +kernel
theorem dX5_thing_34 : decode cX5_thing 34 = .ok (.iconst 3, 1) := by decide +kernel
theorem dX5_thing_35 : decode cX5_thing 35 = .ok (.invokestatic 66, 3) := by decide +kernel
theorem dX5_thing_38 : decode cX5_thing 38 = .ok (.ifCond .eq 11, 3) := by decide +kernel
theorem dX5_thing_41 : decode cX5_thing 41 = .ok (.aload_n 0, 1) := by decide +kernel
theorem dX5_thing_42 : decode cX5_thing 42 = .ok (.getfield 62, 3) := by decide +kernel
theorem dX5_thing_45 : decode cX5_thing 45 = .ok (.iconst 3, 1) := by decide +kernel
theorem dX5_thing_46 : decode cX5_thing 46 = .ok (.if_icmp .ne 5, 3) := by decide +kernel
theorem dX5_thing_49 : decode cX5_thing 49 = .ok (.iconst (-1), 1) := by decide +kernel
theorem dX5_thing_50 : decode cX5_thing 50 = .ok (.ireturn, 1) := by decide +kernel
theorem dX5_thing_51 : decode cX5_thing 51 = .ok (.aload_n 0, 1) := by decide +kernel
theorem dX5_thing_52 : decode cX5_thing 52 = .ok (.iload_n 1, 1) := by decide +kernel
theorem dX5_thing_53 : decode cX5_thing 53 = .ok (.iload_n 2, 1) := by decide +kernel
theorem dX5_thing_54 : decode cX5_thing 54 = .ok (.invokevirtual 70, 3) := by decide +kernel
theorem dX5_thing_57 : decode cX5_thing 57 = .ok (.ireturn, 1) := by decide +kernel
set_option maxRecDepth 20000 in
theorem ggX5_table_X5_isIn : GoodIn wsX5_table wsX5_isIn := goodIn_r _ [7] (by decide +kernel) (by decide +kernel)
set_option maxRecDepth 20000 in
theorem gX5_table_X5_isIn : GoodIn wsX5_table (va_wsS RX5 66 yX5_isIn wsX5_isIn) := goodIn_app (goodIn_of _ (by decide +kernel)) ggX5_table_X5_isIn
set_option maxRecDepth 20000 in
theorem ggX5_table_X5_comes : GoodIn wsX5_table wsX5_comes := goodIn_r _ [11, 1, 12, 13, 14, 15, 16, 17, 18, 19, 20, 21, 22, 23, 24, 25, 26, 27, 28, 29, 30, 31, 32, 33, 34, 35, 36, 37, 38] (by decide +kernel) (by decide +kernel)
set_option maxRecDepth 20000 in
theorem gX5_table_X5_comes : GoodIn wsX5_table (wsV RX5 70 RX5 yX5_comes wsX5_comes) := goodIn_app (goodIn_of _ (by decide +kernel)) ggX5_table_X5_comes
theorem dX5_table_0 : decode cX5_table 0 = .ok (.iload_n 1, 1) := by decide +kernel
theorem dX5_table_1 : decode cX5_table 1 = .ok (.iconst 0, 1) := by decide +kernel
theorem dX5_table_2 : decode cX5_table 2 = .ok (.iconst 3, 1) := by decide +kernel
theorem dX5_table_3 : decode cX5_table 3 = .ok (.invokestatic 66, 3) := by decide +kernel
theorem dX5_table_6 : decode cX5_table 6 = .ok (.ifCond .eq 11, 3) := by decide +kernel
theorem dX5_table_9 : decode cX5_table 9 = .ok (.aload_n 0, 1) := by decide +kernel
theorem dX5_table_10 : decode cX5_table 10 = .ok (.getfield 62, 3) := by decide +kernel
theorem dX5_table_13 : decode cX5_table 13 = .ok (.iconst 3, 1) := by decide +kernel
theorem dX5_table_14 : decode cX5_table 14 = .ok (.if_icmp .ne 5, 3) := by decide +kernel
theorem dX5_table_17 : decode cX5_table 17 = .ok (.iconst (-1), 1) := by decide +kernel
theorem dX5_table_18 : decode cX5_table 18 = .ok (.ireturn, 1) := by decide +kernel
theorem dX5_table_19 : decode cX5_table 19 = .ok (.aload_n 0, 1) := by decide +kernel
theorem dX5_table_20 : decode cX5_table 20 = .ok (.iconst 4, 1) := by decide +kernel
theorem dX5_table_21 : decode cX5_table 21 = .ok (.iload_n 1, 1) := by decide +kernel
theorem dX5_table_22 : decode cX5_table 22 = .ok (.invokevirtual 70, 3) := by decide +kernel
theorem dX5_table_25 : decode cX5_table 25 = .ok (.istore 6, 2) := by decide +kernel
theorem dX5_table_27 : decode cX5_table 27 = .ok (.aload_n 0, 1) := by decide +kernel
theorem dX5_table_28 : decode cX5_table 28 = .ok (.getfield 31, 3) := by decide +kernel
theorem dX5_table_31 : decode cX5_table 31 = .ok (.iload 6, 2) := by decide +kernel
theorem dX5_table_33 : decode cX5_table 33 = .ok (.lload_n 2, 1) := by decide +kernel
theorem dX5_table_34 : decode cX5_table 34 = .ok (.lastore, 1) := by decide +kernel
theorem dX5_table_35 : decode cX5_table 35 = .ok (.aload_n 0, 1) := by decide +kernel
theorem dX5_table_36 : decode cX5_table 36 = .ok (.getfield 35, 3) := by decide +kernel
theorem dX5_table_39 : decode cX5_table 39 = .ok (.iload 6, 2) := by decide +kernel
theorem dX5_table_41 : decode cX5_table 41 = .ok (.lload 4, 2) := by decide +kernel
theorem dX5_table_43 : decode cX5_table 43 = .ok (.lastore, 1) := by decide +kernel
theorem dX5_table_44 : decode cX5_table 44 = .ok (.iload 6, 2) := by decide +kernel
theorem dX5_table_46 : decode cX5_table 46 = .ok (.ireturn, 1) := by decide +kernel
set_option maxRecDepth 20000 in
theorem ggX5_isBy_X5_isIn : GoodIn wsX5_isBy wsX5_isIn := goodIn_r _ [4] (by decide +kernel) (by decide +kernel)
set_option maxRecDepth 20000 in
theorem gX5_isBy_X5_isIn : GoodIn wsX5_isBy (va_wsS RX5 66 yX5_isIn wsX5_isIn) := goodIn_app (goodIn_of _ (by decide +kernel)) ggX5_isBy_X5_isIn
theorem dX5_isBy_0 : decode cX5_isBy 0 = .ok (.iload_n 0, 1) := by decide +kernel
theorem dX5_isBy_1 : decode cX5_isBy 1 = .ok (.iconst 1, 1) := by decide +kernel
theorem dX5_isBy_2 : decode cX5_isBy 2 = .ok (.if_icmp .ne 12, 3) := by decide +kernel
theorem dX5_isBy_5 : decode cX5_isBy 5 = .ok (.iload_n 1, 1) := by decide +kernel
theorem dX5_isBy_6 : decode cX5_isBy 6 = .ok (.iconst 1, 1) := by decide +kernel
theorem dX5_isBy_7 : decode cX5_isBy 7 = .ok (.iconst 4, 1) := by decide +kernel
theorem dX5_isBy_8 : decode cX5_isBy 8 = .ok (.invokestatic 66, 3) := by decide +kernel
theorem dX5_isBy_11 : decode cX5_isBy 11 = .ok (.goto 9, 3) := by decide +kernel
theorem dX5_isBy_14 : decode cX5_isBy 14 = .ok (.iload_n 1, 1) := by decide +kernel
theorem dX5_isBy_15 : decode cX5_isBy 15 = .ok (.iconst 0, 1) := by decide +kernel
theorem dX5_isBy_16 : decode cX5_isBy 16 = .ok (.iconst 3, 1) := by decide +kernel
theorem dX5_isBy_17 : decode cX5_isBy 17 = .ok (.invokestatic 66, 3) := by decide +kernel
theorem dX5_isBy_20 : decode cX5_isBy 20 = .ok (.ireturn, 1) := by decide +kernel
set_option maxRecDepth 20000 in
theorem ggX5_wall_X5_isThing : GoodIn wsX5_wall wsX5_isThing := goodIn_r _ [8, 9, 10, 11, 7, 12, 16, 17, 18, 19, 20, 21, 22, 23, 24, 25, 26, 27, 28, 29, 30, 31, 32, 33, 34, 35] (by decide +kernel) (by decide +kernel)
set_option maxRecDepth 20000 in
theorem gX5_wall_X5_isThing : GoodIn wsX5_wall (wsV RX5 74 RX5 yX5_isThing wsX5_isThing) := goodIn_app (goodIn_of _ (by decide +kernel)) ggX5_wall_X5_isThing
set_option maxRecDepth 20000 in
theorem ggX5_wall_X5_isIn : GoodIn wsX5_wall wsX5_isIn := goodIn_r _ [12] (by decide +kernel) (by decide +kernel)
set_option maxRecDepth 20000 in
theorem gX5_wall_X5_isIn : GoodIn wsX5_wall (va_wsS RX5 66 yX5_isIn wsX5_isIn) := goodIn_app (goodIn_of _ (by decide +kernel)) ggX5_wall_X5_isIn
set_option maxRecDepth 20000 in
theorem ggX5_wall_X5_isBy : GoodIn wsX5_wall wsX5_isBy := goodIn_r _ [15, 10, 11, 7, 12] (by decide +kernel) (by decide +kernel)
set_option maxRecDepth 20000 in
theorem gX5_wall_X5_isBy : GoodIn wsX5_wall (va_wsS RX5 78 yX5_isBy wsX5_isBy) := goodIn_app (goodIn_of _ (by decide +kernel)) ggX5_wall_X5_isBy
theorem dX5_wall_0 : decode cX5_wall 0 = .ok (.aload_n 0, 1) := by decide +kernel
theorem dX5_wall_1 : decode cX5_wall 1 = .ok (.iload_n 1, 1) := by decide +kernel
theorem dX5_wall_2 : decode cX5_wall 2 = .ok (.invokevirtual 74, 3) := by decide +kernel
theorem dX5_wall_5 : decode cX5_wall 5 = .ok (.ifCond .eq 30, 3) := by decide +kernel
theorem dX5_wall_8 : decode cX5_wall 8 = .ok (.iload_n 2, 1) := by decide +kernel
theorem dX5_wall_9 : decode cX5_wall 9 = .ok (.iconst 0, 1) := by decide +kernel
theorem dX5_wall_10 : decode cX5_wall 10 = .ok (.iconst 3, 1) := by decide +kernel
theorem dX5_wall_11 : decode cX5_wall 11 = .ok (.invokestatic 66, 3) := by decide +kernel
theorem dX5_wall_14 : decode cX5_wall 14 = .ok (.ifCond .eq 21, 3) := by decide +kernel
theorem dX5_wall_17 : decode cX5_wall 17 = .ok (.iload_n 2, 1) := by decide +kernel
theorem dX5_wall_18 : decode cX5_wall 18 = .ok (.iconst 1, 1) := by decide +kernel
theorem dX5_wall_19 : decode cX5_wall 19 = .ok (.if_icmp .eq 8, 3) := by decide +kernel
theorem dX5_wall_22 : decode cX5_wall 22 = .ok (.iload_n 2, 1) := by decide +kernel
theorem dX5_wall_23 : decode cX5_wall 23 = .ok (.iconst 3, 1) := by decide +kernel
theorem dX5_wall_24 : decode cX5_wall 24 = .ok (.if_icmp .ne 13, 3) := by decide +kernel
theorem dX5_wall_27 : decode cX5_wall 27 = .ok (.iload_n 2, 1) := by decide +kernel
theorem dX5_wall_28 : decode cX5_wall 28 = .ok (.iload_n 3, 1) := by decide +kernel
theorem dX5_wall_29 : decode cX5_wall 29 = .ok (.invokestatic 78, 3) := by decide +kernel
theorem dX5_wall_32 : decode cX5_wall 32 = .ok (.ifCond .ne 5, 3) := by decide +kernel
theorem dX5_wall_35 : decode cX5_wall 35 = .ok (.iconst 0, 1) := by decide +kernel
theorem dX5_wall_36 : decode cX5_wall 36 = .ok (.ireturn, 1) := by decide +kernel
theorem dX5_wall_37 : decode cX5_wall 37 = .ok (.aload_n 0, 1) := by decide +kernel
theorem dX5_wall_38 : decode cX5_wall 38 = .ok (.getfield 16, 3) := by decide +kernel
theorem dX5_wall_41 : decode cX5_wall 41 = .ok (.iload_n 1, 1) := by decide +kernel
theorem dX5_wall_42 : decode cX5_wall 42 = .ok (.iload_n 2, 1) := by decide +kernel
theorem dX5_wall_43 : decode cX5_wall 43 = .ok (.iastore, 1) := by decide +kernel
theorem dX5_wall_44 : decode cX5_wall 44 = .ok (.iload_n 2, 1) := by decide +kernel
theorem dX5_wall_45 : decode cX5_wall 45 = .ok (.iconst 1, 1) := by decide +kernel
theorem dX5_wall_46 : decode cX5_wall 46 = .ok (.if_icmp .ne 10, 3) := by decide +kernel
theorem dX5_wall_49 : decode cX5_wall 49 = .ok (.aload_n 0, 1) := by decide +kernel
theorem dX5_wall_50 : decode cX5_wall 50 = .ok (.getfield 19, 3) := by decide +kernel
theorem dX5_wall_53 : decode cX5_wall 53 = .ok (.iload_n 1, 1) := by decide +kernel
theorem dX5_wall_54 : decode cX5_wall 54 = .ok (.iload_n 3, 1) := by decide +kernel
theorem dX5_wall_55 : decode cX5_wall 55 = .ok (.iastore, 1) := by decide +kernel
theorem dX5_wall_56 : decode cX5_wall 56 = .ok (.iload_n 2, 1) := by decide +kernel
theorem dX5_wall_57 : decode cX5_wall 57 = .ok (.iconst 3, 1) := by decide +kernel
theorem dX5_wall_58 : decode cX5_wall 58 = .ok (.if_icmp .ne 10, 3) := by decide +kernel
theorem dX5_wall_61 : decode cX5_wall 61 = .ok (.aload_n 0, 1) := by decide +kernel
theorem dX5_wall_62 : decode cX5_wall 62 = .ok (.getfield 22, 3) := by decide +kernel
theorem dX5_wall_65 : decode cX5_wall 65 = .ok (.iload_n 1, 1) := by decide +kernel
theorem dX5_wall_66 : decode cX5_wall 66 = .ok (.iload_n 3, 1) := by decide +kernel
theorem dX5_wall_67 : decode cX5_wall 67 = .ok (.iastore, 1) := by decide +kernel
theorem dX5_wall_68 : decode cX5_wall 68 = .ok (.iconst 1, 1) := by decide +kernel
theorem dX5_wall_69 : decode cX5_wall 69 = .ok (.ireturn, 1) := by decide +kernel
set_option maxRecDepth 20000 in
theorem ggX5_set_X5_isThing : GoodIn wsX5_set wsX5_isThing := goodIn_r _ [7, 8, 9, 10, 6, 11, 15, 16, 17, 18, 19, 20, 21, 22, 23, 24, 25, 26, 27, 28, 29, 30, 31, 32, 33, 34] (by decide +kernel) (by decide +kernel)
set_option maxRecDepth 20000 in
theorem gX5_set_X5_isThing : GoodIn wsX5_set (wsV RX5 74 RX5 yX5_isThing wsX5_isThing) := goodIn_app (goodIn_of _ (by decide +kernel)) ggX5_set_X5_isThing
set_option maxRecDepth 20000 in
theorem ggX5_set_X5_isBy : GoodIn wsX5_set wsX5_isBy := goodIn_r _ [14, 9, 10, 6, 11] (by decide +kernel) (by decide +kernel)
set_option maxRecDepth 20000 in
theorem gX5_set_X5_isBy : GoodIn wsX5_set (va_wsS RX5 78 yX5_isBy wsX5_isBy) := goodIn_app (goodIn_of _ (by decide +kernel)) ggX5_set_X5_isBy
theorem dX5_set_0 : decode cX5_set 0 = .ok (.aload_n 0, 1) := by decide +kernel
theorem dX5_set_1 : decode cX5_set 1 = .ok (.iload_n 1, 1) := by decide +kernel
theorem dX5_set_2 : decode cX5_set 2 = .ok (.invokevirtual 74, 3) := by decide +kernel
theorem dX5_set_5 : decode cX5_set 5 = .ok (.ifCond .eq 21, 3) := by decide +kernel
theorem dX5_set_8 : decode cX5_set 8 = .ok (.iload_n 2, 1) := by decide +kernel
theorem dX5_set_9 : decode cX5_set 9 = .ok (.iconst 1, 1) := by decide +kernel
theorem dX5_set_10 : decode cX5_set 10 = .ok (.if_icmp .eq 8, 3) := by decide +kernel
theorem dX5_set_13 : decode cX5_set 13 = .ok (.iload_n 2, 1) := by decide +kernel
theorem dX5_set_14 : decode cX5_set 14 = .ok (.iconst 3, 1) := by decide +kernel
theorem dX5_set_15 : decode cX5_set 15 = .ok (.if_icmp .ne 11, 3) := by decide +kernel
theorem dX5_set_18 : decode cX5_set 18 = .ok (.iload_n 2, 1) := by decide +kernel
theorem dX5_set_19 : decode cX5_set 19 = .ok (.iload_n 3, 1) := by decide +kernel
theorem dX5_set_20 : decode cX5_set 20 = .ok (.invokestatic 78, 3) := by decide +kernel
theorem dX5_set_23 : decode cX5_set 23 = .ok (.ifCond .ne 5, 3) := by decide +kernel
theorem dX5_set_26 : decode cX5_set 26 = .ok (.iconst 0, 1) := by decide +kernel
theorem dX5_set_27 : decode cX5_set 27 = .ok (.ireturn, 1) := by decide +kernel
theorem dX5_set_28 : decode cX5_set 28 = .ok (.iload_n 2, 1) := by decide +kernel
theorem dX5_set_29 : decode cX5_set 29 = .ok (.iconst 1, 1) := by decide +kernel
theorem dX5_set_30 : decode cX5_set 30 = .ok (.if_icmp .ne 13, 3) := by decide +kernel
theorem dX5_set_33 : decode cX5_set 33 = .ok (.aload_n 0, 1) := by decide +kernel
theorem dX5_set_34 : decode cX5_set 34 = .ok (.getfield 19, 3) := by decide +kernel
theorem dX5_set_37 : decode cX5_set 37 = .ok (.iload_n 1, 1) := by decide +kernel
theorem dX5_set_38 : decode cX5_set 38 = .ok (.iload_n 3, 1) := by decide +kernel
theorem dX5_set_39 : decode cX5_set 39 = .ok (.iastore, 1) := by decide +kernel
theorem dX5_set_40 : decode cX5_set 40 = .ok (.goto 10, 3) := by decide +kernel
theorem dX5_set_43 : decode cX5_set 43 = .ok (.aload_n 0, 1) := by decide +kernel
theorem dX5_set_44 : decode cX5_set 44 = .ok (.getfield 22, 3) := by decide +kernel
theorem dX5_set_47 : decode cX5_set 47 = .ok (.iload_n 1, 1) := by decide +kernel
theorem dX5_set_48 : decode cX5_set 48 = .ok (.iload_n 3, 1) := by decide +kernel
theorem dX5_set_49 : decode cX5_set 49 = .ok (.iastore, 1) := by decide +kernel
theorem dX5_set_50 : decode cX5_set 50 = .ok (.iconst 1, 1) := by decide +kernel
theorem dX5_set_51 : decode cX5_set 51 = .ok (.ireturn, 1) := by decide +kernel
set_option maxRecDepth 20000 in
theorem ggX5_price_X5_isThing : GoodIn wsX5_price wsX5_isThing := goodIn_r _ [6, 7, 8, 9, 5, 10, 11, 12, 13, 14, 15, 16, 17, 18, 19, 20, 21, 22, 23, 24, 25, 26, 27, 28, 29, 30] (by decide +kernel) (by decide +kernel)
set_option maxRecDepth 20000 in
theorem gX5_price_X5_isThing : GoodIn wsX5_price (wsV RX5 74 RX5 yX5_isThing wsX5_isThing) := goodIn_app (goodIn_of _ (by decide +kernel)) ggX5_price_X5_isThing
set_option maxRecDepth 20000 in
theorem ggX5_price_X5_isIn : GoodIn wsX5_price wsX5_isIn := goodIn_r _ [10] (by decide +kernel) (by decide +kernel)
set_option maxRecDepth 20000 in
theorem gX5_price_X5_isIn : GoodIn wsX5_price (va_wsS RX5 66 yX5_isIn wsX5_isIn) := goodIn_app (goodIn_of _ (by decide +kernel)) ggX5_price_X5_isIn
theorem dX5_price_0 : decode cX5_price 0 = .ok (.aload_n 0, 1) := by decide +kernel
theorem dX5_price_1 : decode cX5_price 1 = .ok (.iload_n 1, 1) := by decide +kernel
theorem dX5_price_2 : decode cX5_price 2 = .ok (.invokevirtual 74, 3) := by decide +kernel
theorem dX5_price_5 : decode cX5_price 5 = .ok (.ifCond .eq 22, 3) := by decide +kernel
theorem dX5_price_8 : decode cX5_price 8 = .ok (.iload_n 2, 1) := by decide +kernel
theorem dX5_price_9 : decode cX5_price 9 = .ok (.iconst 1, 1) := by decide +kernel
theorem dX5_price_10 : decode cX5_price 10 = .ok (.iconst 3, 1) := by decide +kernel
theorem dX5_price_11 : decode cX5_price 11 = .ok (.invokestatic 66, 3) := by decide +kernel
theorem dX5_price_14 : decode cX5_price 14 = .ok (.ifCond .eq 13, 3) := by decide +kernel
theorem dX5_price_17 : decode cX5_price 17 = .ok (.iload_n 3, 1) := by decide +kernel
theorem dX5_price_18 : decode cX5_price 18 = .ok (.iconst 0, 1) := by decide +kernel
theorem dX5_price_19 : decode cX5_price 19 = .ok (.bipush 99, 2) := by decide +kernel
theorem dX5_price_21 : decode cX5_price 21 = .ok (.invokestatic 66, 3) := by decide +kernel
theorem dX5_price_24 : decode cX5_price 24 = .ok (.ifCond .ne 5, 3) := by decide +kernel
theorem dX5_price_27 : decode cX5_price 27 = .ok (.iconst 0, 1) := by decide +kernel
theorem dX5_price_28 : decode cX5_price 28 = .ok (.ireturn, 1) := by decide +kernel
theorem dX5_price_29 : decode cX5_price 29 = .ok (.aload_n 0, 1) := by decide +kernel
theorem dX5_price_30 : decode cX5_price 30 = .ok (.getfield 25, 3) := by decide +kernel
theorem dX5_price_33 : decode cX5_price 33 = .ok (.iconst 4, 1) := by decide +kernel
theorem dX5_price_34 : decode cX5_price 34 = .ok (.iload_n 1, 1) := by decide +kernel
theorem dX5_price_35 : decode cX5_price 35 = .ok (.imul, 1) := by decide +kernel
theorem dX5_price_36 : decode cX5_price 36 = .ok (.iload_n 2, 1) := by decide +kernel
theorem dX5_price_37 : decode cX5_price 37 = .ok (.iadd, 1) := by decide +kernel
theorem dX5_price_38 : decode cX5_price 38 = .ok (.iload_n 3, 1) := by decide +kernel
theorem dX5_price_39 : decode cX5_price 39 = .ok (.iastore, 1) := by decide +kernel
theorem dX5_price_40 : decode cX5_price 40 = .ok (.iconst 1, 1) := by decide +kernel
theorem dX5_price_41 : decode cX5_price 41 = .ok (.ireturn, 1) := by decide +kernel
theorem dX5_wallsNow_0 : decode cX5_wallsNow 0 = .ok (.iconst 0, 1) := by decide +kernel
theorem dX5_wallsNow_1 : decode cX5_wallsNow 1 = .ok (.istore_n 1, 1) := by decide +kernel
theorem dX5_wallsNow_2 : decode cX5_wallsNow 2 = .ok (.iconst 0, 1) := by decide +kernel
theorem dX5_wallsNow_3 : decode cX5_wallsNow 3 = .ok (.istore_n 2, 1) := by decide +kernel
theorem dX5_wallsNow_4 : decode cX5_wallsNow 4 = .ok (.iload_n 2, 1) := by decide +kernel
theorem dX5_wallsNow_5 : decode cX5_wallsNow 5 = .ok (.aload_n 0, 1) := by decide +kernel
theorem dX5_wallsNow_6 : decode cX5_wallsNow 6 = .ok (.getfield 62, 3) := by decide +kernel
theorem dX5_wallsNow_9 : decode cX5_wallsNow 9 = .ok (.if_icmp .ge 22, 3) := by decide +kernel
theorem dX5_wallsNow_12 : decode cX5_wallsNow 12 = .ok (.iload_n 1, 1) := by decide +kernel
theorem dX5_wallsNow_13 : decode cX5_wallsNow 13 = .ok (.aload_n 0, 1) := by decide +kernel
theorem dX5_wallsNow_14 : decode cX5_wallsNow 14 = .ok (.getfield 16, 3) := by decide +kernel
theorem dX5_wallsNow_17 : decode cX5_wallsNow 17 = .ok (.iload_n 2, 1) := by decide +kernel
theorem dX5_wallsNow_18 : decode cX5_wallsNow 18 = .ok (.iaload, 1) := by decide +kernel
theorem dX5_wallsNow_19 : decode cX5_wallsNow 19 = .ok (.iconst 2, 1) := by decide +kernel
theorem dX5_wallsNow_20 : decode cX5_wallsNow 20 = .ok (.iload_n 2, 1) := by decide +kernel
theorem dX5_wallsNow_21 : decode cX5_wallsNow 21 = .ok (.imul, 1) := by decide +kernel
theorem dX5_wallsNow_22 : decode cX5_wallsNow 22 = .ok (.ishl, 1) := by decide +kernel
theorem dX5_wallsNow_23 : decode cX5_wallsNow 23 = .ok (.ior, 1) := by decide +kernel
theorem dX5_wallsNow_24 : decode cX5_wallsNow 24 = .ok (.istore_n 1, 1) := by decide +kernel
theorem dX5_wallsNow_25 : decode cX5_wallsNow 25 = .ok (.iinc 2 1, 3) := by decide +kernel
theorem dX5_wallsNow_28 : decode cX5_wallsNow 28 = .ok (.goto (-24), 3) := by decide +kernel
theorem dX5_wallsNow_31 : decode cX5_wallsNow 31 = .ok (.iload_n 1, 1) := by decide +kernel
theorem dX5_wallsNow_32 : decode cX5_wallsNow 32 = .ok (.ireturn, 1) := by decide +kernel
theorem dX5_costs_0 : decode cX5_costs 0 = .ok (.iconst 0, 1) := by decide +kernel
theorem dX5_costs_1 : decode cX5_costs 1 = .ok (.istore_n 2, 1) := by decide +kernel
theorem dX5_costs_2 : decode cX5_costs 2 = .ok (.iconst 0, 1) := by decide +kernel
theorem dX5_costs_3 : decode cX5_costs 3 = .ok (.istore_n 3, 1) := by decide +kernel
theorem dX5_costs_4 : decode cX5_costs 4 = .ok (.iload_n 3, 1) := by decide +kernel
theorem dX5_costs_5 : decode cX5_costs 5 = .ok (.aload_n 0, 1) := by decide +kernel
theorem dX5_costs_6 : decode cX5_costs 6 = .ok (.getfield 62, 3) := by decide +kernel
theorem dX5_costs_9 : decode cX5_costs 9 = .ok (.if_icmp .ge 28, 3) := by decide +kernel
theorem dX5_costs_12 : decode cX5_costs 12 = .ok (.iload_n 2, 1) := by decide +kernel
theorem dX5_costs_13 : decode cX5_costs 13 = .ok (.aload_n 0, 1) := by decide +kernel
theorem dX5_costs_14 : decode cX5_costs 14 = .ok (.getfield 25, 3) := by decide +kernel
theorem dX5_costs_17 : decode cX5_costs 17 = .ok (.iconst 4, 1) := by decide +kernel
theorem dX5_costs_18 : decode cX5_costs 18 = .ok (.iload_n 3, 1) := by decide +kernel
theorem dX5_costs_19 : decode cX5_costs 19 = .ok (.imul, 1) := by decide +kernel
theorem dX5_costs_20 : decode cX5_costs 20 = .ok (.iload_n 1, 1) := by decide +kernel
theorem dX5_costs_21 : decode cX5_costs 21 = .ok (.iconst 2, 1) := by decide +kernel
theorem dX5_costs_22 : decode cX5_costs 22 = .ok (.iload_n 3, 1) := by decide +kernel
theorem dX5_costs_23 : decode cX5_costs 23 = .ok (.imul, 1) := by decide +kernel
theorem dX5_costs_24 : decode cX5_costs 24 = .ok (.ishr, 1) := by decide +kernel
theorem dX5_costs_25 : decode cX5_costs 25 = .ok (.iconst 3, 1) := by decide +kernel
theorem dX5_costs_26 : decode cX5_costs 26 = .ok (.iand, 1) := by decide +kernel
theorem dX5_costs_27 : decode cX5_costs 27 = .ok (.iadd, 1) := by decide +kernel
theorem dX5_costs_28 : decode cX5_costs 28 = .ok (.iaload, 1) := by decide +kernel
theorem dX5_costs_29 : decode cX5_costs 29 = .ok (.iadd, 1) := by decide +kernel
theorem dX5_costs_30 : decode cX5_costs 30 = .ok (.istore_n 2, 1) := by decide +kernel
theorem dX5_costs_31 : decode cX5_costs 31 = .ok (.iinc 3 1, 3) := by decide +kernel
theorem dX5_costs_34 : decode cX5_costs 34 = .ok (.goto (-30), 3) := by decide +kernel
theorem dX5_costs_37 : decode cX5_costs 37 = .ok (.iload_n 2, 1) := by decide +kernel
theorem dX5_costs_38 : decode cX5_costs 38 = .ok (.ireturn, 1) := by decide +kernel
set_option maxRecDepth 20000 in
theorem ggX5_look_X5_silent : GoodIn wsX5_look wsX5_silent := goodIn_r _ [6, 7, 8, 9, 5, 10, 1, 11, 12, 13, 14, 15, 16, 17, 18, 19, 20, 21, 22, 23, 24, 25, 26, 27, 28, 29, 30, 31, 32, 33, 34, 35, 36, 37, 38, 39, 40, 41, 42, 43, 44, 45, 46, 47, 48, 49, 50, 51, 52, 53, 54, 55, 56, 57, 58, 59, 60, 61, 62, 72, 73, 74, 75, 76, 77, 78, 79, 80, 81, 82, 83, 84, 85, 86, 87, 88, 89, 90, 91] (by decide +kernel) (by decide +kernel)
set_option maxRecDepth 20000 in
theorem gX5_look_X5_silent : GoodIn wsX5_look (wsV RX5 82 RX5 yX5_silent wsX5_silent) := goodIn_app (goodIn_of _ (by decide +kernel)) ggX5_look_X5_silent
set_option maxRecDepth 20000 in
theorem ggX5_look_X5_wallsNow : GoodIn wsX5_look wsX5_wallsNow := goodIn_r _ [66, 1, 28, 72, 73, 74, 75, 76, 77, 78, 79, 80, 81, 82, 83, 84, 85, 86, 87, 88, 89, 90, 91] (by decide +kernel) (by decide +kernel)
set_option maxRecDepth 20000 in
theorem gX5_look_X5_wallsNow : GoodIn wsX5_look (wsV RX5 86 RX5 yX5_wallsNow wsX5_wallsNow) := goodIn_app (goodIn_of _ (by decide +kernel)) ggX5_look_X5_wallsNow
set_option maxRecDepth 20000 in
theorem ggX5_look_X5_costs : GoodIn wsX5_look wsX5_costs := goodIn_r _ [70, 1, 71, 72, 73, 74, 75, 76, 77, 78, 79, 80, 81, 82, 83, 84, 85, 86, 87, 88, 89, 90, 91] (by decide +kernel) (by decide +kernel)
set_option maxRecDepth 20000 in
theorem gX5_look_X5_costs : GoodIn wsX5_look (wsV RX5 90 RX5 yX5_costs wsX5_costs) := goodIn_app (goodIn_of _ (by decide +kernel)) ggX5_look_X5_costs
theorem dX5_look_0 : decode cX5_look 0 = .ok (.iconst 0, 1) := by decide +kernel
theorem dX5_look_1 : decode cX5_look 1 = .ok (.istore_n 2, 1) := by decide +kernel
theorem dX5_look_2 : decode cX5_look 2 = .ok (.iload_n 1, 1) := by decide +kernel
theorem dX5_look_3 : decode cX5_look 3 = .ok (.tableswitch 74 0 3 #[29, 34, 60, 69], 29) := by decide +kernel
theorem dX5_look_32 : decode cX5_look 32 = .ok (.aload_n 0, 1) := by decide +kernel
theorem dX5_look_33 : decode cX5_look 33 = .ok (.getfield 62, 3) := by decide +kernel
theorem dX5_look_36 : decode cX5_look 36 = .ok (.ireturn, 1) := by decide +kernel
theorem dX5_look_37 : decode cX5_look 37 = .ok (.iconst 0, 1) := by decide +kernel
theorem dX5_look_38 : decode cX5_look 38 = .ok (.istore_n 3, 1) := by decide +kernel
theorem dX5_look_39 : decode cX5_look 39 = .ok (.iload_n 3, 1) := by decide +kernel
theorem dX5_look_40 : decode cX5_look 40 = .ok (.aload_n 0, 1) := by decide +kernel
theorem dX5_look_41 : decode cX5_look 41 = .ok (.getfield 62, 3) := by decide +kernel
theorem dX5_look_44 : decode cX5_look 44 = .ok (.if_icmp .ge 17, 3) := by decide +kernel
theorem dX5_look_47 : decode cX5_look 47 = .ok (.iload_n 2, 1) := by decide +kernel
theorem dX5_look_48 : decode cX5_look 48 = .ok (.aload_n 0, 1) := by decide +kernel
theorem dX5_look_49 : decode cX5_look 49 = .ok (.iload_n 3, 1) := by decide +kernel
theorem dX5_look_50 : decode cX5_look 50 = .ok (.invokevirtual 82, 3) := by decide +kernel
theorem dX5_look_53 : decode cX5_look 53 = .ok (.iadd, 1) := by decide +kernel
theorem dX5_look_54 : decode cX5_look 54 = .ok (.istore_n 2, 1) := by decide +kernel
theorem dX5_look_55 : decode cX5_look 55 = .ok (.iinc 3 1, 3) := by decide +kernel
theorem dX5_look_58 : decode cX5_look 58 = .ok (.goto (-19), 3) := by decide +kernel
theorem dX5_look_61 : decode cX5_look 61 = .ok (.iload_n 2, 1) := by decide +kernel
theorem dX5_look_62 : decode cX5_look 62 = .ok (.ireturn, 1) := by decide +kernel
theorem dX5_look_63 : decode cX5_look 63 = .ok (.aload_n 0, 1) := by decide +kernel
theorem dX5_look_64 : decode cX5_look 64 = .ok (.aload_n 0, 1) := by decide +kernel
theorem dX5_look_65 : decode cX5_look 65 = .ok (.invokevirtual 86, 3) := by decide +kernel
theorem dX5_look_68 : decode cX5_look 68 = .ok (.invokevirtual 90, 3) := by decide +kernel
theorem dX5_look_71 : decode cX5_look 71 = .ok (.ireturn, 1) := by decide +kernel
theorem dX5_look_72 : decode cX5_look 72 = .ok (.aload_n 0, 1) := by decide +kernel
theorem dX5_look_73 : decode cX5_look 73 = .ok (.invokevirtual 86, 3) := by decide +kernel
theorem dX5_look_76 : decode cX5_look 76 = .ok (.ireturn, 1) := by decide +kernel
theorem dX5_look_77 : decode cX5_look 77 = .ok (.iconst (-1), 1) := by decide +kernel
theorem dX5_look_78 : decode cX5_look 78 = .ok (.ireturn, 1) := by decide +kernel
set_option maxRecDepth 20000 in
theorem ggX5_of_X5_isThing : GoodIn wsX5_of wsX5_isThing := goodIn_r _ [10, 11, 12, 13, 9, 14, 15, 16, 17, 18, 19, 20, 21, 22, 23, 24, 25, 26, 27, 28, 29, 30, 31, 32, 33, 34] (by decide +kernel) (by decide +kernel)
set_option maxRecDepth 20000 in
theorem gX5_of_X5_isThing : GoodIn wsX5_of (wsV RX5 74 RX5 yX5_isThing wsX5_isThing) := goodIn_app (goodIn_of _ (by decide +kernel)) ggX5_of_X5_isThing
theorem dX5_of_0 : decode cX5_of 0 = .ok (.aload_n 0, 1) := by decide +kernel
theorem dX5_of_1 : decode cX5_of 1 = .ok (.iload_n 1, 1) := by decide +kernel
theorem dX5_of_2 : decode cX5_of 2 = .ok (.invokevirtual 74, 3) := by decide +kernel
theorem dX5_of_5 : decode cX5_of 5 = .ok (.ifCond .ne 5, 3) := by decide +kernel
theorem dX5_of_8 : decode cX5_of 8 = .ok (.iconst (-1), 1) := by decide +kernel
theorem dX5_of_9 : decode cX5_of 9 = .ok (.ireturn, 1) := by decide +kernel
theorem dX5_of_10 : decode cX5_of 10 = .ok (.iload_n 2, 1) := by decide +kernel
theorem dX5_of_11 : decode cX5_of 11 = .ok (.tableswitch 68 0 4 #[33, 40, 47, 54, 61], 33) := by decide +kernel
theorem dX5_of_44 : decode cX5_of 44 = .ok (.aload_n 0, 1) := by decide +kernel
theorem dX5_of_45 : decode cX5_of 45 = .ok (.getfield 7, 3) := by decide +kernel
theorem dX5_of_48 : decode cX5_of 48 = .ok (.iload_n 1, 1) := by decide +kernel
theorem dX5_of_49 : decode cX5_of 49 = .ok (.iaload, 1) := by decide +kernel
theorem dX5_of_50 : decode cX5_of 50 = .ok (.ireturn, 1) := by decide +kernel
theorem dX5_of_51 : decode cX5_of 51 = .ok (.aload_n 0, 1) := by decide +kernel
theorem dX5_of_52 : decode cX5_of 52 = .ok (.getfield 13, 3) := by decide +kernel
theorem dX5_of_55 : decode cX5_of 55 = .ok (.iload_n 1, 1) := by decide +kernel
theorem dX5_of_56 : decode cX5_of 56 = .ok (.iaload, 1) := by decide +kernel
theorem dX5_of_57 : decode cX5_of 57 = .ok (.ireturn, 1) := by decide +kernel
theorem dX5_of_58 : decode cX5_of 58 = .ok (.aload_n 0, 1) := by decide +kernel
theorem dX5_of_59 : decode cX5_of 59 = .ok (.getfield 16, 3) := by decide +kernel
theorem dX5_of_62 : decode cX5_of 62 = .ok (.iload_n 1, 1) := by decide +kernel
theorem dX5_of_63 : decode cX5_of 63 = .ok (.iaload, 1) := by decide +kernel
theorem dX5_of_64 : decode cX5_of 64 = .ok (.ireturn, 1) := by decide +kernel
theorem dX5_of_65 : decode cX5_of 65 = .ok (.aload_n 0, 1) := by decide +kernel
theorem dX5_of_66 : decode cX5_of 66 = .ok (.getfield 19, 3) := by decide +kernel
theorem dX5_of_69 : decode cX5_of 69 = .ok (.iload_n 1, 1) := by decide +kernel
theorem dX5_of_70 : decode cX5_of 70 = .ok (.iaload, 1) := by decide +kernel
theorem dX5_of_71 : decode cX5_of 71 = .ok (.ireturn, 1) := by decide +kernel
theorem dX5_of_72 : decode cX5_of 72 = .ok (.aload_n 0, 1) := by decide +kernel
theorem dX5_of_73 : decode cX5_of 73 = .ok (.getfield 22, 3) := by decide +kernel
theorem dX5_of_76 : decode cX5_of 76 = .ok (.iload_n 1, 1) := by decide +kernel
theorem dX5_of_77 : decode cX5_of 77 = .ok (.iaload, 1) := by decide +kernel
theorem dX5_of_78 : decode cX5_of 78 = .ok (.ireturn, 1) := by decide +kernel
theorem dX5_of_79 : decode cX5_of 79 = .ok (.iconst (-1), 1) := by decide +kernel
theorem dX5_of_80 : decode cX5_of 80 = .ok (.ireturn, 1) := by decide +kernel
theorem dX5_act_0 : decode cX5_act 0 = .ok (.aload_n 0, 1) := by decide +kernel
theorem dX5_act_1 : decode cX5_act 1 = .ok (.getfield 7, 3) := by decide +kernel
theorem dX5_act_4 : decode cX5_act 4 = .ok (.iload_n 1, 1) := by decide +kernel
theorem dX5_act_5 : decode cX5_act 5 = .ok (.iaload, 1) := by decide +kernel
theorem dX5_act_6 : decode cX5_act 6 = .ok (.iconst 4, 1) := by decide +kernel
theorem dX5_act_7 : decode cX5_act 7 = .ok (.if_icmp .ne 50, 3) := by decide +kernel
theorem dX5_act_10 : decode cX5_act 10 = .ok (.iconst 2, 1) := by decide +kernel
theorem dX5_act_11 : decode cX5_act 11 = .ok (.bipush 12, 2) := by decide +kernel
theorem dX5_act_13 : decode cX5_act 13 = .ok (.iload_n 2, 1) := by decide +kernel
theorem dX5_act_14 : decode cX5_act 14 = .ok (.imul, 1) := by decide +kernel
theorem dX5_act_15 : decode cX5_act 15 = .ok (.iconst 3, 1) := by decide +kernel
theorem dX5_act_16 : decode cX5_act 16 = .ok (.iload_n 3, 1) := by decide +kernel
theorem dX5_act_17 : decode cX5_act 17 = .ok (.imul, 1) := by decide +kernel
theorem dX5_act_18 : decode cX5_act 18 = .ok (.iadd, 1) := by decide +kernel
theorem dX5_act_19 : decode cX5_act 19 = .ok (.iload 4, 2) := by decide +kernel
theorem dX5_act_21 : decode cX5_act 21 = .ok (.iadd, 1) := by decide +kernel
theorem dX5_act_22 : decode cX5_act 22 = .ok (.imul, 1) := by decide +kernel
theorem dX5_act_23 : decode cX5_act 23 = .ok (.istore 5, 2) := by decide +kernel
theorem dX5_act_25 : decode cX5_act 25 = .ok (.aload_n 0, 1) := by decide +kernel
theorem dX5_act_26 : decode cX5_act 26 = .ok (.getfield 31, 3) := by decide +kernel
theorem dX5_act_29 : decode cX5_act 29 = .ok (.iload_n 1, 1) := by decide +kernel
theorem dX5_act_30 : decode cX5_act 30 = .ok (.laload, 1) := by decide +kernel
theorem dX5_act_31 : decode cX5_act 31 = .ok (.iload 5, 2) := by decide +kernel
theorem dX5_act_33 : decode cX5_act 33 = .ok (.lshr, 1) := by decide +kernel
theorem dX5_act_34 : decode cX5_act 34 = .ok (.ldc2_w 93, 3) := by decide +kernel
theorem dX5_act_37 : decode cX5_act 37 = .ok (.land, 1) := by decide +kernel
theorem dX5_act_38 : decode cX5_act 38 = .ok (.l2i, 1) := by decide +kernel
theorem dX5_act_39 : decode cX5_act 39 = .ok (.iconst 4, 1) := by decide +kernel
theorem dX5_act_40 : decode cX5_act 40 = .ok (.aload_n 0, 1) := by decide +kernel
theorem dX5_act_41 : decode cX5_act 41 = .ok (.getfield 35, 3) := by decide +kernel
theorem dX5_act_44 : decode cX5_act 44 = .ok (.iload_n 1, 1) := by decide +kernel
theorem dX5_act_45 : decode cX5_act 45 = .ok (.laload, 1) := by decide +kernel
theorem dX5_act_46 : decode cX5_act 46 = .ok (.iload 5, 2) := by decide +kernel
theorem dX5_act_48 : decode cX5_act 48 = .ok (.lshr, 1) := by decide +kernel
theorem dX5_act_49 : decode cX5_act 49 = .ok (.ldc2_w 93, 3) := by decide +kernel
theorem dX5_act_52 : decode cX5_act 52 = .ok (.land, 1) := by decide +kernel
theorem dX5_act_53 : decode cX5_act 53 = .ok (.l2i, 1) := by decide +kernel
theorem dX5_act_54 : decode cX5_act 54 = .ok (.imul, 1) := by decide +kernel
theorem dX5_act_55 : decode cX5_act 55 = .ok (.iadd, 1) := by decide +kernel
theorem dX5_act_56 : decode cX5_act 56 = .ok (.ireturn, 1) := by decide +kernel
theorem dX5_act_57 : decode cX5_act 57 = .ok (.iload 4, 2) := by decide +kernel
theorem dX5_act_59 : decode cX5_act 59 = .ok (.iconst 2, 1) := by decide +kernel
theorem dX5_act_60 : decode cX5_act 60 = .ok (.if_icmp .ne 5, 3) := by decide +kernel
theorem dX5_act_63 : decode cX5_act 63 = .ok (.iload_n 3, 1) := by decide +kernel
theorem dX5_act_64 : decode cX5_act 64 = .ok (.ireturn, 1) := by decide +kernel
theorem dX5_act_65 : decode cX5_act 65 = .ok (.aload_n 0, 1) := by decide +kernel
theorem dX5_act_66 : decode cX5_act 66 = .ok (.getfield 7, 3) := by decide +kernel
theorem dX5_act_69 : decode cX5_act 69 = .ok (.iload_n 1, 1) := by decide +kernel
theorem dX5_act_70 : decode cX5_act 70 = .ok (.iaload, 1) := by decide +kernel
theorem dX5_act_71 : decode cX5_act 71 = .ok (.tableswitch 129 0 2 #[25, 52, 88], 25) := by decide +kernel
theorem dX5_act_96 : decode cX5_act 96 = .ok (.iload 4, 2) := by decide +kernel
theorem dX5_act_98 : decode cX5_act 98 = .ok (.iconst 1, 1) := by decide +kernel
theorem dX5_act_99 : decode cX5_act 99 = .ok (.if_icmp .ne 7, 3) := by decide +kernel
theorem dX5_act_102 : decode cX5_act 102 = .ok (.iconst 0, 1) := by decide +kernel
theorem dX5_act_103 : decode cX5_act 103 = .ok (.goto 19, 3) := by decide +kernel
theorem dX5_act_106 : decode cX5_act 106 = .ok (.iload_n 3, 1) := by decide +kernel
theorem dX5_act_107 : decode cX5_act 107 = .ok (.iload_n 2, 1) := by decide +kernel
theorem dX5_act_108 : decode cX5_act 108 = .ok (.iconst 1, 1) := by decide +kernel
theorem dX5_act_109 : decode cX5_act 109 = .ok (.iadd, 1) := by decide +kernel
theorem dX5_act_110 : decode cX5_act 110 = .ok (.if_icmp .ne 7, 3) := by decide +kernel
theorem dX5_act_113 : decode cX5_act 113 = .ok (.iload_n 3, 1) := by decide +kernel
theorem dX5_act_114 : decode cX5_act 114 = .ok (.goto 8, 3) := by decide +kernel
theorem dX5_act_117 : decode cX5_act 117 = .ok (.iload_n 2, 1) := by decide +kernel
theorem dX5_act_118 : decode cX5_act 118 = .ok (.iconst 1, 1) := by decide +kernel
theorem dX5_act_119 : decode cX5_act 119 = .ok (.iadd, 1) := by decide +kernel
theorem dX5_act_120 : decode cX5_act 120 = .ok (.iconst 4, 1) := by decide +kernel
theorem dX5_act_121 : decode cX5_act 121 = .ok (.iadd, 1) := by decide +kernel
theorem dX5_act_122 : decode cX5_act 122 = .ok (.ireturn, 1) := by decide +kernel
theorem dX5_act_123 : decode cX5_act 123 = .ok (.iload 4, 2) := by decide +kernel
theorem dX5_act_125 : decode cX5_act 125 = .ok (.ifCond .ne 20, 3) := by decide +kernel
theorem dX5_act_128 : decode cX5_act 128 = .ok (.iload_n 3, 1) := by decide +kernel
theorem dX5_act_129 : decode cX5_act 129 = .ok (.iconst 3, 1) := by decide +kernel
theorem dX5_act_130 : decode cX5_act 130 = .ok (.if_icmp .ne 9, 3) := by decide +kernel
theorem dX5_act_133 : decode cX5_act 133 = .ok (.iload_n 3, 1) := by decide +kernel
theorem dX5_act_134 : decode cX5_act 134 = .ok (.iconst 4, 1) := by decide +kernel
theorem dX5_act_135 : decode cX5_act 135 = .ok (.iadd, 1) := by decide +kernel
theorem dX5_act_136 : decode cX5_act 136 = .ok (.goto 22, 3) := by decide +kernel
theorem dX5_act_139 : decode cX5_act 139 = .ok (.iload_n 3, 1) := by decide +kernel
theorem dX5_act_140 : decode cX5_act 140 = .ok (.iconst 1, 1) := by decide +kernel
theorem dX5_act_141 : decode cX5_act 141 = .ok (.iadd, 1) := by decide +kernel
theorem dX5_act_142 : decode cX5_act 142 = .ok (.goto 16, 3) := by decide +kernel
theorem dX5_act_145 : decode cX5_act 145 = .ok (.iload_n 3, 1) := by decide +kernel
theorem dX5_act_146 : decode cX5_act 146 = .ok (.ifCond .ne 9, 3) := by decide +kernel
theorem dX5_act_149 : decode cX5_act 149 = .ok (.iload_n 3, 1) := by decide +kernel
theorem dX5_act_150 : decode cX5_act 150 = .ok (.iconst 4, 1) := by decide +kernel
theorem dX5_act_151 : decode cX5_act 151 = .ok (.iadd, 1) := by decide +kernel
theorem dX5_act_152 : decode cX5_act 152 = .ok (.goto 6, 3) := by decide +kernel
theorem dX5_act_155 : decode cX5_act 155 = .ok (.iload_n 3, 1) := by decide +kernel
theorem dX5_act_156 : decode cX5_act 156 = .ok (.iconst 1, 1) := by decide +kernel
theorem dX5_act_157 : decode cX5_act 157 = .ok (.isub, 1) := by decide +kernel
theorem dX5_act_158 : decode cX5_act 158 = .ok (.ireturn, 1) := by decide +kernel
theorem dX5_act_159 : decode cX5_act 159 = .ok (.iload 4, 2) := by decide +kernel
theorem dX5_act_161 : decode cX5_act 161 = .ok (.ifCond .ne 24, 3) := by decide +kernel
theorem dX5_act_164 : decode cX5_act 164 = .ok (.iload_n 3, 1) := by decide +kernel
theorem dX5_act_165 : decode cX5_act 165 = .ok (.ifCond .eq 10, 3) := by decide +kernel
theorem dX5_act_168 : decode cX5_act 168 = .ok (.iload_n 3, 1) := by decide +kernel
theorem dX5_act_169 : decode cX5_act 169 = .ok (.iload_n 2, 1) := by decide +kernel
theorem dX5_act_170 : decode cX5_act 170 = .ok (.iconst 1, 1) := by decide +kernel
theorem dX5_act_171 : decode cX5_act 171 = .ok (.iadd, 1) := by decide +kernel
theorem dX5_act_172 : decode cX5_act 172 = .ok (.if_icmp .ne 9, 3) := by decide +kernel
theorem dX5_act_175 : decode cX5_act 175 = .ok (.iload_n 2, 1) := by decide +kernel
theorem dX5_act_176 : decode cX5_act 176 = .ok (.iconst 1, 1) := by decide +kernel
theorem dX5_act_177 : decode cX5_act 177 = .ok (.iadd, 1) := by decide +kernel
theorem dX5_act_178 : decode cX5_act 178 = .ok (.goto 6, 3) := by decide +kernel
theorem dX5_act_181 : decode cX5_act 181 = .ok (.iload_n 3, 1) := by decide +kernel
theorem dX5_act_182 : decode cX5_act 182 = .ok (.iconst 4, 1) := by decide +kernel
theorem dX5_act_183 : decode cX5_act 183 = .ok (.iadd, 1) := by decide +kernel
theorem dX5_act_184 : decode cX5_act 184 = .ok (.ireturn, 1) := by decide +kernel
theorem dX5_act_185 : decode cX5_act 185 = .ok (.iload_n 3, 1) := by decide +kernel
theorem dX5_act_186 : decode cX5_act 186 = .ok (.iload_n 2, 1) := by decide +kernel
theorem dX5_act_187 : decode cX5_act 187 = .ok (.iconst 1, 1) := by decide +kernel
theorem dX5_act_188 : decode cX5_act 188 = .ok (.iadd, 1) := by decide +kernel
theorem dX5_act_189 : decode cX5_act 189 = .ok (.if_icmp .ne 7, 3) := by decide +kernel
theorem dX5_act_192 : decode cX5_act 192 = .ok (.iconst 0, 1) := by decide +kernel
theorem dX5_act_193 : decode cX5_act 193 = .ok (.goto 6, 3) := by decide +kernel
theorem dX5_act_196 : decode cX5_act 196 = .ok (.iload_n 3, 1) := by decide +kernel
theorem dX5_act_197 : decode cX5_act 197 = .ok (.iconst 4, 1) := by decide +kernel
theorem dX5_act_198 : decode cX5_act 198 = .ok (.iadd, 1) := by decide +kernel
theorem dX5_act_199 : decode cX5_act 199 = .ok (.ireturn, 1) := by decide +kernel
theorem dX5_act_200 : decode cX5_act 200 = .ok (.iload 4, 2) := by decide +kernel
theorem dX5_act_202 : decode cX5_act 202 = .ok (.ifCond .ne 11, 3) := by decide +kernel
theorem dX5_act_205 : decode cX5_act 205 = .ok (.iload_n 3, 1) := by decide +kernel
theorem dX5_act_206 : decode cX5_act 206 = .ok (.iconst 4, 1) := by decide +kernel
theorem dX5_act_207 : decode cX5_act 207 = .ok (.iload_n 3, 1) := by decide +kernel
theorem dX5_act_208 : decode cX5_act 208 = .ok (.imul, 1) := by decide +kernel
theorem dX5_act_209 : decode cX5_act 209 = .ok (.iadd, 1) := by decide +kernel
theorem dX5_act_210 : decode cX5_act 210 = .ok (.goto 8, 3) := by decide +kernel
theorem dX5_act_213 : decode cX5_act 213 = .ok (.iload_n 3, 1) := by decide +kernel
theorem dX5_act_214 : decode cX5_act 214 = .ok (.iconst 1, 1) := by decide +kernel
theorem dX5_act_215 : decode cX5_act 215 = .ok (.iadd, 1) := by decide +kernel
theorem dX5_act_216 : decode cX5_act 216 = .ok (.iconst 4, 1) := by decide +kernel
theorem dX5_act_217 : decode cX5_act 217 = .ok (.irem, 1) := by decide +kernel
theorem dX5_act_218 : decode cX5_act 218 = .ok (.ireturn, 1) := by decide +kernel
set_option maxRecDepth 20000 in
theorem ggX5_does_X5_isThing : GoodIn wsX5_does wsX5_isThing := goodIn_r _ [6, 7, 8, 9, 5, 10, 18, 19, 20, 21, 22, 23, 24, 25, 26, 27, 28, 29, 30, 31, 32, 33, 34, 35, 36, 37] (by decide +kernel) (by decide +kernel)
set_option maxRecDepth 20000 in
theorem gX5_does_X5_isThing : GoodIn wsX5_does (wsV RX5 74 RX5 yX5_isThing wsX5_isThing) := goodIn_app (goodIn_of _ (by decide +kernel)) ggX5_does_X5_isThing
set_option maxRecDepth 20000 in
theorem ggX5_does_X5_isIn : GoodIn wsX5_does wsX5_isIn := goodIn_r _ [10] (by decide +kernel) (by decide +kernel)
set_option maxRecDepth 20000 in
theorem gX5_does_X5_isIn : GoodIn wsX5_does (va_wsS RX5 66 yX5_isIn wsX5_isIn) := goodIn_app (goodIn_of _ (by decide +kernel)) ggX5_does_X5_isIn
set_option maxRecDepth 20000 in
theorem ggX5_does_X5_act : GoodIn wsX5_does wsX5_act := goodIn_r _ [14, 1, 15, 16, 17, 18, 19, 20, 21, 22, 23, 24, 25, 26, 27, 28, 29, 30, 31, 32, 33, 34, 35, 36, 37] (by decide +kernel) (by decide +kernel)
set_option maxRecDepth 20000 in
theorem gX5_does_X5_act : GoodIn wsX5_does (wsV RX5 95 RX5 yX5_act wsX5_act) := goodIn_app (goodIn_of _ (by decide +kernel)) ggX5_does_X5_act
theorem dX5_does_0 : decode cX5_does 0 = .ok (.aload_n 0, 1) := by decide +kernel
theorem dX5_does_1 : decode cX5_does 1 = .ok (.iload_n 1, 1) := by decide +kernel
theorem dX5_does_2 : decode cX5_does 2 = .ok (.invokevirtual 74, 3) := by decide +kernel
theorem dX5_does_5 : decode cX5_does 5 = .ok (.ifCond .eq 64, 3) := by decide +kernel
theorem dX5_does_8 : decode cX5_does 8 = .ok (.iload_n 2, 1) := by decide +kernel
theorem dX5_does_9 : decode cX5_does 9 = .ok (.iconst 0, 1) := by decide +kernel
theorem dX5_does_10 : decode cX5_does 10 = .ok (.iconst 1, 1) := by decide +kernel
theorem dX5_does_11 : decode cX5_does 11 = .ok (.invokestatic 66, 3) := by decide +kernel
theorem dX5_does_14 : decode cX5_does 14 = .ok (.ifCond .eq 55, 3) := by decide +kernel
theorem dX5_does_17 : decode cX5_does 17 = .ok (.iload_n 3, 1) := by decide +kernel
theorem dX5_does_18 : decode cX5_does 18 = .ok (.iconst 0, 1) := by decide +kernel
theorem dX5_does_19 : decode cX5_does 19 = .ok (.aload_n 0, 1) := by decide +kernel
theorem dX5_does_20 : decode cX5_does 20 = .ok (.getfield 7, 3) := by decide +kernel
theorem dX5_does_23 : decode cX5_does 23 = .ok (.iload_n 1, 1) := by decide +kernel
theorem dX5_does_24 : decode cX5_does 24 = .ok (.iaload, 1) := by decide +kernel
theorem dX5_does_25 : decode cX5_does 25 = .ok (.ifCond .eq 13, 3) := by decide +kernel
theorem dX5_does_28 : decode cX5_does 28 = .ok (.aload_n 0, 1) := by decide +kernel
theorem dX5_does_29 : decode cX5_does 29 = .ok (.getfield 7, 3) := by decide +kernel
theorem dX5_does_32 : decode cX5_does 32 = .ok (.iload_n 1, 1) := by decide +kernel
theorem dX5_does_33 : decode cX5_does 33 = .ok (.iaload, 1) := by decide +kernel
theorem dX5_does_34 : decode cX5_does 34 = .ok (.iconst 2, 1) := by decide +kernel
theorem dX5_does_35 : decode cX5_does 35 = .ok (.if_icmp .ne 7, 3) := by decide +kernel
theorem dX5_does_38 : decode cX5_does 38 = .ok (.iconst 2, 1) := by decide +kernel
theorem dX5_does_39 : decode cX5_does 39 = .ok (.goto 4, 3) := by decide +kernel
theorem dX5_does_42 : decode cX5_does 42 = .ok (.iconst 3, 1) := by decide +kernel
theorem dX5_does_43 : decode cX5_does 43 = .ok (.invokestatic 66, 3) := by decide +kernel
theorem dX5_does_46 : decode cX5_does 46 = .ok (.ifCond .eq 23, 3) := by decide +kernel
theorem dX5_does_49 : decode cX5_does 49 = .ok (.iload 4, 2) := by decide +kernel
theorem dX5_does_51 : decode cX5_does 51 = .ok (.iconst 0, 1) := by decide +kernel
theorem dX5_does_52 : decode cX5_does 52 = .ok (.iconst 2, 1) := by decide +kernel
theorem dX5_does_53 : decode cX5_does 53 = .ok (.invokestatic 66, 3) := by decide +kernel
theorem dX5_does_56 : decode cX5_does 56 = .ok (.ifCond .eq 13, 3) := by decide +kernel
theorem dX5_does_59 : decode cX5_does 59 = .ok (.iload 5, 2) := by decide +kernel
theorem dX5_does_61 : decode cX5_does 61 = .ok (.iconst 0, 1) := by decide +kernel
theorem dX5_does_62 : decode cX5_does 62 = .ok (.iconst 1, 1) := by decide +kernel
theorem dX5_does_63 : decode cX5_does 63 = .ok (.invokestatic 66, 3) := by decide +kernel
theorem dX5_does_66 : decode cX5_does 66 = .ok (.ifCond .ne 5, 3) := by decide +kernel
theorem dX5_does_69 : decode cX5_does 69 = .ok (.iconst (-1), 1) := by decide +kernel
theorem dX5_does_70 : decode cX5_does 70 = .ok (.ireturn, 1) := by decide +kernel
theorem dX5_does_71 : decode cX5_does 71 = .ok (.aload_n 0, 1) := by decide +kernel
theorem dX5_does_72 : decode cX5_does 72 = .ok (.iload_n 1, 1) := by decide +kernel
theorem dX5_does_73 : decode cX5_does 73 = .ok (.iload_n 2, 1) := by decide +kernel
theorem dX5_does_74 : decode cX5_does 74 = .ok (.iload_n 3, 1) := by decide +kernel
theorem dX5_does_75 : decode cX5_does 75 = .ok (.iload 4, 2) := by decide +kernel
theorem dX5_does_77 : decode cX5_does 77 = .ok (.invokevirtual 95, 3) := by decide +kernel
theorem dX5_does_80 : decode cX5_does 80 = .ok (.istore 6, 2) := by decide +kernel
theorem dX5_does_82 : decode cX5_does 82 = .ok (.iload 5, 2) := by decide +kernel
theorem dX5_does_84 : decode cX5_does 84 = .ok (.ifCond .ne 10, 3) := by decide +kernel
theorem dX5_does_87 : decode cX5_does 87 = .ok (.iload 6, 2) := by decide +kernel
theorem dX5_does_89 : decode cX5_does 89 = .ok (.iconst 4, 1) := by decide +kernel
theorem dX5_does_90 : decode cX5_does 90 = .ok (.irem, 1) := by decide +kernel
theorem dX5_does_91 : decode cX5_does 91 = .ok (.goto 7, 3) := by decide +kernel
theorem dX5_does_94 : decode cX5_does 94 = .ok (.iload 6, 2) := by decide +kernel
theorem dX5_does_96 : decode cX5_does 96 = .ok (.iconst 4, 1) := by decide +kernel
theorem dX5_does_97 : decode cX5_does 97 = .ok (.idiv, 1) := by decide +kernel
theorem dX5_does_98 : decode cX5_does 98 = .ok (.ireturn, 1) := by decide +kernel
set_option maxRecDepth 20000 in
theorem ggX5_sends_X5_act : GoodIn wsX5_sends wsX5_act := goodIn_r _ [6, 7, 8, 9, 10, 11, 12, 13, 14, 15, 16, 17, 18, 19, 20, 21, 22, 23, 24, 25, 26, 27, 28, 29, 30] (by decide +kernel) (by decide +kernel)
set_option maxRecDepth 20000 in
theorem gX5_sends_X5_act : GoodIn wsX5_sends (wsV RX5 95 RX5 yX5_act wsX5_act) := goodIn_app (goodIn_of _ (by decide +kernel)) ggX5_sends_X5_act
theorem dX5_sends_0 : decode cX5_sends 0 = .ok (.iload_n 3, 1) := by decide +kernel
theorem dX5_sends_1 : decode cX5_sends 1 = .ok (.iconst 3, 1) := by decide +kernel
theorem dX5_sends_2 : decode cX5_sends 2 = .ok (.if_icmp .eq 13, 3) := by decide +kernel
theorem dX5_sends_5 : decode cX5_sends 5 = .ok (.aload_n 0, 1) := by decide +kernel
theorem dX5_sends_6 : decode cX5_sends 6 = .ok (.getfield 16, 3) := by decide +kernel
theorem dX5_sends_9 : decode cX5_sends 9 = .ok (.iload_n 1, 1) := by decide +kernel
theorem dX5_sends_10 : decode cX5_sends 10 = .ok (.iaload, 1) := by decide +kernel
theorem dX5_sends_11 : decode cX5_sends 11 = .ok (.iconst 2, 1) := by decide +kernel
theorem dX5_sends_12 : decode cX5_sends 12 = .ok (.if_icmp .ne 7, 3) := by decide +kernel
theorem dX5_sends_15 : decode cX5_sends 15 = .ok (.iload_n 2, 1) := by decide +kernel
theorem dX5_sends_16 : decode cX5_sends 16 = .ok (.goto 13, 3) := by decide +kernel
theorem dX5_sends_19 : decode cX5_sends 19 = .ok (.aload_n 0, 1) := by decide +kernel
theorem dX5_sends_20 : decode cX5_sends 20 = .ok (.iload_n 1, 1) := by decide +kernel
theorem dX5_sends_21 : decode cX5_sends 21 = .ok (.iconst 0, 1) := by decide +kernel
theorem dX5_sends_22 : decode cX5_sends 22 = .ok (.iload_n 2, 1) := by decide +kernel
theorem dX5_sends_23 : decode cX5_sends 23 = .ok (.iload_n 3, 1) := by decide +kernel
theorem dX5_sends_24 : decode cX5_sends 24 = .ok (.invokevirtual 95, 3) := by decide +kernel
theorem dX5_sends_27 : decode cX5_sends 27 = .ok (.iconst 4, 1) := by decide +kernel
theorem dX5_sends_28 : decode cX5_sends 28 = .ok (.irem, 1) := by decide +kernel
theorem dX5_sends_29 : decode cX5_sends 29 = .ok (.ireturn, 1) := by decide +kernel
theorem dX5_cleans_0 : decode cX5_cleans 0 = .ok (.aload_n 0, 1) := by decide +kernel
theorem dX5_cleans_1 : decode cX5_cleans 1 = .ok (.getfield 16, 3) := by decide +kernel
theorem dX5_cleans_4 : decode cX5_cleans 4 = .ok (.iload_n 1, 1) := by decide +kernel
theorem dX5_cleans_5 : decode cX5_cleans 5 = .ok (.iaload, 1) := by decide +kernel
theorem dX5_cleans_6 : decode cX5_cleans 6 = .ok (.iconst 1, 1) := by decide +kernel
theorem dX5_cleans_7 : decode cX5_cleans 7 = .ok (.if_icmp .ne 25, 3) := by decide +kernel
theorem dX5_cleans_10 : decode cX5_cleans 10 = .ok (.iload_n 3, 1) := by decide +kernel
theorem dX5_cleans_11 : decode cX5_cleans 11 = .ok (.iconst 1, 1) := by decide +kernel
theorem dX5_cleans_12 : decode cX5_cleans 12 = .ok (.iadd, 1) := by decide +kernel
theorem dX5_cleans_13 : decode cX5_cleans 13 = .ok (.aload_n 0, 1) := by decide +kernel
theorem dX5_cleans_14 : decode cX5_cleans 14 = .ok (.getfield 19, 3) := by decide +kernel
theorem dX5_cleans_17 : decode cX5_cleans 17 = .ok (.iload_n 1, 1) := by decide +kernel
theorem dX5_cleans_18 : decode cX5_cleans 18 = .ok (.iaload, 1) := by decide +kernel
theorem dX5_cleans_19 : decode cX5_cleans 19 = .ok (.irem, 1) := by decide +kernel
theorem dX5_cleans_20 : decode cX5_cleans 20 = .ok (.ifCond .ne 12, 3) := by decide +kernel
theorem dX5_cleans_23 : decode cX5_cleans 23 = .ok (.aload_n 0, 1) := by decide +kernel
theorem dX5_cleans_24 : decode cX5_cleans 24 = .ok (.getfield 13, 3) := by decide +kernel
theorem dX5_cleans_27 : decode cX5_cleans 27 = .ok (.iload_n 1, 1) := by decide +kernel
theorem dX5_cleans_28 : decode cX5_cleans 28 = .ok (.iaload, 1) := by decide +kernel
theorem dX5_cleans_29 : decode cX5_cleans 29 = .ok (.goto 4, 3) := by decide +kernel
theorem dX5_cleans_32 : decode cX5_cleans 32 = .ok (.iload_n 2, 1) := by decide +kernel
theorem dX5_cleans_33 : decode cX5_cleans 33 = .ok (.ireturn, 1) := by decide +kernel
set_option maxRecDepth 20000 in
theorem ggX5_hears_X5_act : GoodIn wsX5_hears wsX5_act := goodIn_r _ [5, 6, 7, 8, 9, 10, 11, 12, 13, 14, 15, 16, 17, 18, 19, 20, 21, 22, 23, 24, 25, 26, 27, 28, 29] (by decide +kernel) (by decide +kernel)
set_option maxRecDepth 20000 in
theorem gX5_hears_X5_act : GoodIn wsX5_hears (wsV RX5 95 RX5 yX5_act wsX5_act) := goodIn_app (goodIn_of _ (by decide +kernel)) ggX5_hears_X5_act
theorem dX5_hears_0 : decode cX5_hears 0 = .ok (.iload_n 3, 1) := by decide +kernel
theorem dX5_hears_1 : decode cX5_hears 1 = .ok (.iconst 3, 1) := by decide +kernel
theorem dX5_hears_2 : decode cX5_hears 2 = .ok (.if_icmp .ne 7, 3) := by decide +kernel
theorem dX5_hears_5 : decode cX5_hears 5 = .ok (.iload_n 2, 1) := by decide +kernel
theorem dX5_hears_6 : decode cX5_hears 6 = .ok (.goto 13, 3) := by decide +kernel
theorem dX5_hears_9 : decode cX5_hears 9 = .ok (.aload_n 0, 1) := by decide +kernel
theorem dX5_hears_10 : decode cX5_hears 10 = .ok (.iload_n 1, 1) := by decide +kernel
theorem dX5_hears_11 : decode cX5_hears 11 = .ok (.iconst 1, 1) := by decide +kernel
theorem dX5_hears_12 : decode cX5_hears 12 = .ok (.iload_n 2, 1) := by decide +kernel
theorem dX5_hears_13 : decode cX5_hears 13 = .ok (.iload_n 3, 1) := by decide +kernel
theorem dX5_hears_14 : decode cX5_hears 14 = .ok (.invokevirtual 95, 3) := by decide +kernel
theorem dX5_hears_17 : decode cX5_hears 17 = .ok (.iconst 4, 1) := by decide +kernel
theorem dX5_hears_18 : decode cX5_hears 18 = .ok (.irem, 1) := by decide +kernel
theorem dX5_hears_19 : decode cX5_hears 19 = .ok (.ireturn, 1) := by decide +kernel
set_option maxRecDepth 20000 in
theorem ggX5_answers_X5_act : GoodIn wsX5_answers wsX5_act := goodIn_r _ [7, 8, 9, 10, 11, 12, 13, 14, 15, 16, 17, 18, 19, 20, 21, 22, 23, 24, 25, 26, 27, 28, 29, 30, 31] (by decide +kernel) (by decide +kernel)
set_option maxRecDepth 20000 in
theorem gX5_answers_X5_act : GoodIn wsX5_answers (wsV RX5 95 RX5 yX5_act wsX5_act) := goodIn_app (goodIn_of _ (by decide +kernel)) ggX5_answers_X5_act
theorem dX5_answers_0 : decode cX5_answers 0 = .ok (.iload_n 3, 1) := by decide +kernel
theorem dX5_answers_1 : decode cX5_answers 1 = .ok (.iconst 3, 1) := by decide +kernel
theorem dX5_answers_2 : decode cX5_answers 2 = .ok (.if_icmp .ne 7, 3) := by decide +kernel
theorem dX5_answers_5 : decode cX5_answers 5 = .ok (.iconst 0, 1) := by decide +kernel
theorem dX5_answers_6 : decode cX5_answers 6 = .ok (.goto 13, 3) := by decide +kernel
theorem dX5_answers_9 : decode cX5_answers 9 = .ok (.aload_n 0, 1) := by decide +kernel
theorem dX5_answers_10 : decode cX5_answers 10 = .ok (.iload_n 1, 1) := by decide +kernel
theorem dX5_answers_11 : decode cX5_answers 11 = .ok (.iconst 1, 1) := by decide +kernel
theorem dX5_answers_12 : decode cX5_answers 12 = .ok (.iload_n 2, 1) := by decide +kernel
theorem dX5_answers_13 : decode cX5_answers 13 = .ok (.iload_n 3, 1) := by decide +kernel
theorem dX5_answers_14 : decode cX5_answers 14 = .ok (.invokevirtual 95, 3) := by decide +kernel
theorem dX5_answers_17 : decode cX5_answers 17 = .ok (.iconst 4, 1) := by decide +kernel
theorem dX5_answers_18 : decode cX5_answers 18 = .ok (.idiv, 1) := by decide +kernel
theorem dX5_answers_19 : decode cX5_answers 19 = .ok (.istore 4, 2) := by decide +kernel
theorem dX5_answers_21 : decode cX5_answers 21 = .ok (.aload_n 0, 1) := by decide +kernel
theorem dX5_answers_22 : decode cX5_answers 22 = .ok (.getfield 16, 3) := by decide +kernel
theorem dX5_answers_25 : decode cX5_answers 25 = .ok (.iload_n 1, 1) := by decide +kernel
theorem dX5_answers_26 : decode cX5_answers 26 = .ok (.iaload, 1) := by decide +kernel
theorem dX5_answers_27 : decode cX5_answers 27 = .ok (.iconst 3, 1) := by decide +kernel
theorem dX5_answers_28 : decode cX5_answers 28 = .ok (.if_icmp .ne 23, 3) := by decide +kernel
theorem dX5_answers_31 : decode cX5_answers 31 = .ok (.iload 4, 2) := by decide +kernel
theorem dX5_answers_33 : decode cX5_answers 33 = .ok (.aload_n 0, 1) := by decide +kernel
theorem dX5_answers_34 : decode cX5_answers 34 = .ok (.getfield 22, 3) := by decide +kernel
theorem dX5_answers_37 : decode cX5_answers 37 = .ok (.iload_n 1, 1) := by decide +kernel
theorem dX5_answers_38 : decode cX5_answers 38 = .ok (.iaload, 1) := by decide +kernel
theorem dX5_answers_39 : decode cX5_answers 39 = .ok (.if_icmp .le 12, 3) := by decide +kernel
theorem dX5_answers_42 : decode cX5_answers 42 = .ok (.aload_n 0, 1) := by decide +kernel
theorem dX5_answers_43 : decode cX5_answers 43 = .ok (.getfield 22, 3) := by decide +kernel
theorem dX5_answers_46 : decode cX5_answers 46 = .ok (.iload_n 1, 1) := by decide +kernel
theorem dX5_answers_47 : decode cX5_answers 47 = .ok (.iaload, 1) := by decide +kernel
theorem dX5_answers_48 : decode cX5_answers 48 = .ok (.goto 5, 3) := by decide +kernel
theorem dX5_answers_51 : decode cX5_answers 51 = .ok (.iload 4, 2) := by decide +kernel
theorem dX5_answers_53 : decode cX5_answers 53 = .ok (.ireturn, 1) := by decide +kernel
theorem dX5_at_0 : decode cX5_at 0 = .ok (.bipush 16, 2) := by decide +kernel
theorem dX5_at_2 : decode cX5_at 2 = .ok (.iload_n 3, 1) := by decide +kernel
theorem dX5_at_3 : decode cX5_at 3 = .ok (.imul, 1) := by decide +kernel
theorem dX5_at_4 : decode cX5_at 4 = .ok (.iconst 4, 1) := by decide +kernel
theorem dX5_at_5 : decode cX5_at 5 = .ok (.iload_n 1, 1) := by decide +kernel
theorem dX5_at_6 : decode cX5_at 6 = .ok (.imul, 1) := by decide +kernel
theorem dX5_at_7 : decode cX5_at 7 = .ok (.iadd, 1) := by decide +kernel
theorem dX5_at_8 : decode cX5_at 8 = .ok (.iload_n 2, 1) := by decide +kernel
theorem dX5_at_9 : decode cX5_at 9 = .ok (.iadd, 1) := by decide +kernel
theorem dX5_at_10 : decode cX5_at 10 = .ok (.ireturn, 1) := by decide +kernel
theorem dX5_phases_0 : decode cX5_phases 0 = .ok (.aload_n 0, 1) := by decide +kernel
theorem dX5_phases_1 : decode cX5_phases 1 = .ok (.getfield 16, 3) := by decide +kernel
theorem dX5_phases_4 : decode cX5_phases 4 = .ok (.iload_n 1, 1) := by decide +kernel
theorem dX5_phases_5 : decode cX5_phases 5 = .ok (.iaload, 1) := by decide +kernel
theorem dX5_phases_6 : decode cX5_phases 6 = .ok (.iconst 1, 1) := by decide +kernel
theorem dX5_phases_7 : decode cX5_phases 7 = .ok (.if_icmp .ne 12, 3) := by decide +kernel
theorem dX5_phases_10 : decode cX5_phases 10 = .ok (.aload_n 0, 1) := by decide +kernel
theorem dX5_phases_11 : decode cX5_phases 11 = .ok (.getfield 19, 3) := by decide +kernel
theorem dX5_phases_14 : decode cX5_phases 14 = .ok (.iload_n 1, 1) := by decide +kernel
theorem dX5_phases_15 : decode cX5_phases 15 = .ok (.iaload, 1) := by decide +kernel
theorem dX5_phases_16 : decode cX5_phases 16 = .ok (.goto 4, 3) := by decide +kernel
theorem dX5_phases_19 : decode cX5_phases 19 = .ok (.iconst 1, 1) := by decide +kernel
theorem dX5_phases_20 : decode cX5_phases 20 = .ok (.ireturn, 1) := by decide +kernel
set_option maxRecDepth 20000 in
theorem ggX5_after_X5_sends : GoodIn wsX5_after wsX5_sends := goodIn_r _ [6, 7, 8, 9, 10, 5, 11, 12, 13, 14, 15, 39, 40, 41, 42, 43, 44, 45, 46, 47, 48, 49, 50, 51, 52, 53, 54, 55, 56, 57, 58] (by decide +kernel) (by decide +kernel)
set_option maxRecDepth 20000 in
theorem gX5_after_X5_sends : GoodIn wsX5_after (wsV RX5 99 RX5 yX5_sends wsX5_sends) := goodIn_app (goodIn_of _ (by decide +kernel)) ggX5_after_X5_sends
set_option maxRecDepth 20000 in
theorem ggX5_after_X5_cleans : GoodIn wsX5_after wsX5_cleans := goodIn_r _ [19, 7, 20, 21, 39, 40, 41, 42, 43, 44, 45, 46, 47, 48, 49, 50, 51, 52, 53, 54, 55, 56, 57, 58] (by decide +kernel) (by decide +kernel)
set_option maxRecDepth 20000 in
theorem gX5_after_X5_cleans : GoodIn wsX5_after (wsV RX5 103 RX5 yX5_cleans wsX5_cleans) := goodIn_app (goodIn_of _ (by decide +kernel)) ggX5_after_X5_cleans
set_option maxRecDepth 20000 in
theorem ggX5_after_X5_answers : GoodIn wsX5_after wsX5_answers := goodIn_r _ [25, 7, 26, 8, 9, 10, 5, 11, 12, 13, 14, 15, 39, 40, 41, 42, 43, 44, 45, 46, 47, 48, 49, 50, 51, 52, 53, 54, 55, 56, 57, 58] (by decide +kernel) (by decide +kernel)
set_option maxRecDepth 20000 in
theorem gX5_after_X5_answers : GoodIn wsX5_after (wsV RX5 106 RX5 yX5_answers wsX5_answers) := goodIn_app (goodIn_of _ (by decide +kernel)) ggX5_after_X5_answers
set_option maxRecDepth 20000 in
theorem ggX5_after_X5_hears : GoodIn wsX5_after wsX5_hears := goodIn_r _ [30, 8, 9, 10, 5, 11, 12, 13, 14, 15, 39, 40, 41, 42, 43, 44, 45, 46, 47, 48, 49, 50, 51, 52, 53, 54, 55, 56, 57, 58] (by decide +kernel) (by decide +kernel)
set_option maxRecDepth 20000 in
theorem gX5_after_X5_hears : GoodIn wsX5_after (wsV RX5 109 RX5 yX5_hears wsX5_hears) := goodIn_app (goodIn_of _ (by decide +kernel)) ggX5_after_X5_hears
set_option maxRecDepth 20000 in
theorem ggX5_after_X5_phases : GoodIn wsX5_after wsX5_phases := goodIn_r _ [34, 7, 20, 39, 40, 41, 42, 43, 44, 45, 46, 47, 48, 49, 50, 51, 52, 53, 54, 55, 56, 57, 58] (by decide +kernel) (by decide +kernel)
set_option maxRecDepth 20000 in
theorem gX5_after_X5_phases : GoodIn wsX5_after (wsV RX5 112 RX5 yX5_phases wsX5_phases) := goodIn_app (goodIn_of _ (by decide +kernel)) ggX5_after_X5_phases
set_option maxRecDepth 20000 in
theorem ggX5_after_X5_at : GoodIn wsX5_after wsX5_at := goodIn_r _ [38] (by decide +kernel) (by decide +kernel)
set_option maxRecDepth 20000 in
theorem gX5_after_X5_at : GoodIn wsX5_after (wsV RX5 115 RX5 yX5_at wsX5_at) := goodIn_app (goodIn_of _ (by decide +kernel)) ggX5_after_X5_at
theorem dX5_after_0 : decode cX5_after 0 = .ok (.aload_n 0, 1) := by decide +kernel
theorem dX5_after_1 : decode cX5_after 1 = .ok (.iload_n 1, 1) := by decide +kernel
theorem dX5_after_2 : decode cX5_after 2 = .ok (.aload_n 0, 1) := by decide +kernel
theorem dX5_after_3 : decode cX5_after 3 = .ok (.iload_n 1, 1) := by decide +kernel
theorem dX5_after_4 : decode cX5_after 4 = .ok (.iload_n 2, 1) := by decide +kernel
theorem dX5_after_5 : decode cX5_after 5 = .ok (.iload 5, 2) := by decide +kernel
theorem dX5_after_7 : decode cX5_after 7 = .ok (.invokevirtual 99, 3) := by decide +kernel
theorem dX5_after_10 : decode cX5_after 10 = .ok (.iload 4, 2) := by decide +kernel
theorem dX5_after_12 : decode cX5_after 12 = .ok (.invokevirtual 103, 3) := by decide +kernel
theorem dX5_after_15 : decode cX5_after 15 = .ok (.istore 8, 2) := by decide +kernel
theorem dX5_after_17 : decode cX5_after 17 = .ok (.aload_n 0, 1) := by decide +kernel
theorem dX5_after_18 : decode cX5_after 18 = .ok (.iload_n 1, 1) := by decide +kernel
theorem dX5_after_19 : decode cX5_after 19 = .ok (.aload_n 0, 1) := by decide +kernel
theorem dX5_after_20 : decode cX5_after 20 = .ok (.iload_n 1, 1) := by decide +kernel
theorem dX5_after_21 : decode cX5_after 21 = .ok (.iload_n 3, 1) := by decide +kernel
theorem dX5_after_22 : decode cX5_after 22 = .ok (.iload 6, 2) := by decide +kernel
theorem dX5_after_24 : decode cX5_after 24 = .ok (.invokevirtual 99, 3) := by decide +kernel
theorem dX5_after_27 : decode cX5_after 27 = .ok (.iload 4, 2) := by decide +kernel
theorem dX5_after_29 : decode cX5_after 29 = .ok (.invokevirtual 103, 3) := by decide +kernel
theorem dX5_after_32 : decode cX5_after 32 = .ok (.istore 9, 2) := by decide +kernel
theorem dX5_after_34 : decode cX5_after 34 = .ok (.aload_n 0, 1) := by decide +kernel
theorem dX5_after_35 : decode cX5_after 35 = .ok (.iload_n 1, 1) := by decide +kernel
theorem dX5_after_36 : decode cX5_after 36 = .ok (.iload 8, 2) := by decide +kernel
theorem dX5_after_38 : decode cX5_after 38 = .ok (.iload 7, 2) := by decide +kernel
theorem dX5_after_40 : decode cX5_after 40 = .ok (.invokevirtual 106, 3) := by decide +kernel
theorem dX5_after_43 : decode cX5_after 43 = .ok (.aload_n 0, 1) := by decide +kernel
theorem dX5_after_44 : decode cX5_after 44 = .ok (.iload_n 1, 1) := by decide +kernel
theorem dX5_after_45 : decode cX5_after 45 = .ok (.iload 9, 2) := by decide +kernel
theorem dX5_after_47 : decode cX5_after 47 = .ok (.iload 7, 2) := by decide +kernel
theorem dX5_after_49 : decode cX5_after 49 = .ok (.invokevirtual 106, 3) := by decide +kernel
theorem dX5_after_52 : decode cX5_after 52 = .ok (.if_icmp .eq 5, 3) := by decide +kernel
theorem dX5_after_55 : decode cX5_after 55 = .ok (.iconst 1, 1) := by decide +kernel
theorem dX5_after_56 : decode cX5_after 56 = .ok (.ireturn, 1) := by decide +kernel
theorem dX5_after_57 : decode cX5_after 57 = .ok (.iconst 1, 1) := by decide +kernel
theorem dX5_after_58 : decode cX5_after 58 = .ok (.aload_n 0, 1) := by decide +kernel
theorem dX5_after_59 : decode cX5_after 59 = .ok (.getfield 38, 3) := by decide +kernel
theorem dX5_after_62 : decode cX5_after 62 = .ok (.aload_n 0, 1) := by decide +kernel
theorem dX5_after_63 : decode cX5_after 63 = .ok (.aload_n 0, 1) := by decide +kernel
theorem dX5_after_64 : decode cX5_after 64 = .ok (.iload_n 1, 1) := by decide +kernel
theorem dX5_after_65 : decode cX5_after 65 = .ok (.iload 8, 2) := by decide +kernel
theorem dX5_after_67 : decode cX5_after 67 = .ok (.iload 7, 2) := by decide +kernel
theorem dX5_after_69 : decode cX5_after 69 = .ok (.invokevirtual 109, 3) := by decide +kernel
theorem dX5_after_72 : decode cX5_after 72 = .ok (.aload_n 0, 1) := by decide +kernel
theorem dX5_after_73 : decode cX5_after 73 = .ok (.iload_n 1, 1) := by decide +kernel
theorem dX5_after_74 : decode cX5_after 74 = .ok (.iload 9, 2) := by decide +kernel
theorem dX5_after_76 : decode cX5_after 76 = .ok (.iload 7, 2) := by decide +kernel
theorem dX5_after_78 : decode cX5_after 78 = .ok (.invokevirtual 109, 3) := by decide +kernel
theorem dX5_after_81 : decode cX5_after 81 = .ok (.iload 4, 2) := by decide +kernel
theorem dX5_after_83 : decode cX5_after 83 = .ok (.iconst 1, 1) := by decide +kernel
theorem dX5_after_84 : decode cX5_after 84 = .ok (.iadd, 1) := by decide +kernel
theorem dX5_after_85 : decode cX5_after 85 = .ok (.aload_n 0, 1) := by decide +kernel
theorem dX5_after_86 : decode cX5_after 86 = .ok (.iload_n 1, 1) := by decide +kernel
theorem dX5_after_87 : decode cX5_after 87 = .ok (.invokevirtual 112, 3) := by decide +kernel
theorem dX5_after_90 : decode cX5_after 90 = .ok (.irem, 1) := by decide +kernel
theorem dX5_after_91 : decode cX5_after 91 = .ok (.invokevirtual 115, 3) := by decide +kernel
theorem dX5_after_94 : decode cX5_after 94 = .ok (.iaload, 1) := by decide +kernel
theorem dX5_after_95 : decode cX5_after 95 = .ok (.iadd, 1) := by decide +kernel
theorem dX5_after_96 : decode cX5_after 96 = .ok (.ireturn, 1) := by decide +kernel
set_option maxRecDepth 20000 in
theorem ggX5_looksAhead_X5_phases : GoodIn wsX5_looksAhead wsX5_phases := goodIn_r _ [6, 7, 8, 43, 44, 45, 46, 47, 48, 49, 50, 51, 52, 53, 54, 55, 56, 57, 58, 59, 60, 61, 62] (by decide +kernel) (by decide +kernel)
set_option maxRecDepth 20000 in
theorem gX5_looksAhead_X5_phases : GoodIn wsX5_looksAhead (wsV RX5 112 RX5 yX5_phases wsX5_phases) := goodIn_app (goodIn_of _ (by decide +kernel)) ggX5_looksAhead_X5_phases
set_option maxRecDepth 20000 in
theorem ggX5_looksAhead_X5_after : GoodIn wsX5_looksAhead wsX5_after := goodIn_r _ [12, 1, 13, 14, 15, 5, 16, 7, 17, 18, 19, 20, 21, 22, 23, 24, 25, 26, 27, 28, 8, 29, 30, 31, 32, 33, 34, 35, 36, 37, 38, 2, 3, 4, 6, 39, 40, 41, 42, 43, 44, 45, 46, 47, 48, 49, 50, 51, 52, 53, 54, 55, 56, 57, 58, 59, 60, 61, 62] (by decide +kernel) (by decide +kernel)
set_option maxRecDepth 20000 in
theorem gX5_looksAhead_X5_after : GoodIn wsX5_looksAhead (wsV RX5 118 RX5 yX5_after wsX5_after) := goodIn_app (goodIn_of _ (by decide +kernel)) ggX5_looksAhead_X5_after
theorem dX5_looksAhead_0 : decode cX5_looksAhead 0 = .ok (.iconst 0, 1) := by decide +kernel
theorem dX5_looksAhead_1 : decode cX5_looksAhead 1 = .ok (.istore_n 2, 1) := by decide +kernel
theorem dX5_looksAhead_2 : decode cX5_looksAhead 2 = .ok (.iload_n 2, 1) := by decide +kernel
theorem dX5_looksAhead_3 : decode cX5_looksAhead 3 = .ok (.bipush 64, 2) := by decide +kernel
theorem dX5_looksAhead_5 : decode cX5_looksAhead 5 = .ok (.if_icmp .ge 18, 3) := by decide +kernel
theorem dX5_looksAhead_8 : decode cX5_looksAhead 8 = .ok (.aload_n 0, 1) := by decide +kernel
theorem dX5_looksAhead_9 : decode cX5_looksAhead 9 = .ok (.getfield 38, 3) := by decide +kernel
theorem dX5_looksAhead_12 : decode cX5_looksAhead 12 = .ok (.iload_n 2, 1) := by decide +kernel
theorem dX5_looksAhead_13 : decode cX5_looksAhead 13 = .ok (.sipush 1000, 3) := by decide +kernel
theorem dX5_looksAhead_16 : decode cX5_looksAhead 16 = .ok (.iastore, 1) := by decide +kernel
theorem dX5_looksAhead_17 : decode cX5_looksAhead 17 = .ok (.iinc 2 1, 3) := by decide +kernel
theorem dX5_looksAhead_20 : decode cX5_looksAhead 20 = .ok (.goto (-18), 3) := by decide +kernel
theorem dX5_looksAhead_23 : decode cX5_looksAhead 23 = .ok (.iconst 0, 1) := by decide +kernel
theorem dX5_looksAhead_24 : decode cX5_looksAhead 24 = .ok (.istore_n 2, 1) := by decide +kernel
theorem dX5_looksAhead_25 : decode cX5_looksAhead 25 = .ok (.iload_n 2, 1) := by decide +kernel
theorem dX5_looksAhead_26 : decode cX5_looksAhead 26 = .ok (.bipush 70, 2) := by decide +kernel
theorem dX5_looksAhead_28 : decode cX5_looksAhead 28 = .ok (.if_icmp .ge 107, 3) := by decide +kernel
theorem dX5_looksAhead_31 : decode cX5_looksAhead 31 = .ok (.iconst 0, 1) := by decide +kernel
theorem dX5_looksAhead_32 : decode cX5_looksAhead 32 = .ok (.istore_n 3, 1) := by decide +kernel
theorem dX5_looksAhead_33 : decode cX5_looksAhead 33 = .ok (.iload_n 3, 1) := by decide +kernel
theorem dX5_looksAhead_34 : decode cX5_looksAhead 34 = .ok (.bipush 16, 2) := by decide +kernel
theorem dX5_looksAhead_36 : decode cX5_looksAhead 36 = .ok (.aload_n 0, 1) := by decide +kernel
theorem dX5_looksAhead_37 : decode cX5_looksAhead 37 = .ok (.iload_n 1, 1) := by decide +kernel
theorem dX5_looksAhead_38 : decode cX5_looksAhead 38 = .ok (.invokevirtual 112, 3) := by decide +kernel
theorem dX5_looksAhead_41 : decode cX5_looksAhead 41 = .ok (.imul, 1) := by decide +kernel
theorem dX5_looksAhead_42 : decode cX5_looksAhead 42 = .ok (.if_icmp .ge 87, 3) := by decide +kernel
theorem dX5_looksAhead_45 : decode cX5_looksAhead 45 = .ok (.iconst 0, 1) := by decide +kernel
theorem dX5_looksAhead_46 : decode cX5_looksAhead 46 = .ok (.istore 4, 2) := by decide +kernel
theorem dX5_looksAhead_48 : decode cX5_looksAhead 48 = .ok (.iload 4, 2) := by decide +kernel
theorem dX5_looksAhead_50 : decode cX5_looksAhead 50 = .ok (.bipush 64, 2) := by decide +kernel
theorem dX5_looksAhead_52 : decode cX5_looksAhead 52 = .ok (.if_icmp .ge 71, 3) := by decide +kernel
theorem dX5_looksAhead_55 : decode cX5_looksAhead 55 = .ok (.aload_n 0, 1) := by decide +kernel
theorem dX5_looksAhead_56 : decode cX5_looksAhead 56 = .ok (.iload_n 1, 1) := by decide +kernel
theorem dX5_looksAhead_57 : decode cX5_looksAhead 57 = .ok (.iload_n 3, 1) := by decide +kernel
theorem dX5_looksAhead_58 : decode cX5_looksAhead 58 = .ok (.iconst 4, 1) := by decide +kernel
theorem dX5_looksAhead_59 : decode cX5_looksAhead 59 = .ok (.idiv, 1) := by decide +kernel
theorem dX5_looksAhead_60 : decode cX5_looksAhead 60 = .ok (.iconst 4, 1) := by decide +kernel
theorem dX5_looksAhead_61 : decode cX5_looksAhead 61 = .ok (.irem, 1) := by decide +kernel
theorem dX5_looksAhead_62 : decode cX5_looksAhead 62 = .ok (.iload_n 3, 1) := by decide +kernel
theorem dX5_looksAhead_63 : decode cX5_looksAhead 63 = .ok (.iconst 4, 1) := by decide +kernel
theorem dX5_looksAhead_64 : decode cX5_looksAhead 64 = .ok (.irem, 1) := by decide +kernel
theorem dX5_looksAhead_65 : decode cX5_looksAhead 65 = .ok (.iload_n 3, 1) := by decide +kernel
theorem dX5_looksAhead_66 : decode cX5_looksAhead 66 = .ok (.bipush 16, 2) := by decide +kernel
theorem dX5_looksAhead_68 : decode cX5_looksAhead 68 = .ok (.idiv, 1) := by decide +kernel
theorem dX5_looksAhead_69 : decode cX5_looksAhead 69 = .ok (.iload 4, 2) := by decide +kernel
theorem dX5_looksAhead_71 : decode cX5_looksAhead 71 = .ok (.bipush 16, 2) := by decide +kernel
theorem dX5_looksAhead_73 : decode cX5_looksAhead 73 = .ok (.idiv, 1) := by decide +kernel
theorem dX5_looksAhead_74 : decode cX5_looksAhead 74 = .ok (.iload 4, 2) := by decide +kernel
theorem dX5_looksAhead_76 : decode cX5_looksAhead 76 = .ok (.iconst 4, 1) := by decide +kernel
theorem dX5_looksAhead_77 : decode cX5_looksAhead 77 = .ok (.idiv, 1) := by decide +kernel
theorem dX5_looksAhead_78 : decode cX5_looksAhead 78 = .ok (.iconst 4, 1) := by decide +kernel
theorem dX5_looksAhead_79 : decode cX5_looksAhead 79 = .ok (.irem, 1) := by decide +kernel
end
section
theorem dX5_looksAhead_80 : decode cX5_looksAhead 80 = .ok (.iload 4, 2) := by decide +kernel
theorem dX5_looksAhead_82 : decode cX5_looksAhead 82 = .ok (.iconst 4, 1) := by decide +kernel
theorem dX5_looksAhead_83 : decode cX5_looksAhead 83 = .ok (.irem, 1) := by decide +kernel
theorem dX5_looksAhead_84 : decode cX5_looksAhead 84 = .ok (.invokevirtual 118, 3) := by decide +kernel
theorem dX5_looksAhead_87 : decode cX5_looksAhead 87 = .ok (.istore 5, 2) := by decide +kernel
theorem dX5_looksAhead_89 : decode cX5_looksAhead 89 = .ok (.aload_n 0, 1) := by decide +kernel
theorem dX5_looksAhead_90 : decode cX5_looksAhead 90 = .ok (.getfield 38, 3) := by decide +kernel
theorem dX5_looksAhead_93 : decode cX5_looksAhead 93 = .ok (.iload_n 3, 1) := by decide +kernel
theorem dX5_looksAhead_94 : decode cX5_looksAhead 94 = .ok (.iload 5, 2) := by decide +kernel
theorem dX5_looksAhead_96 : decode cX5_looksAhead 96 = .ok (.aload_n 0, 1) := by decide +kernel
theorem dX5_looksAhead_97 : decode cX5_looksAhead 97 = .ok (.getfield 38, 3) := by decide +kernel
theorem dX5_looksAhead_100 : decode cX5_looksAhead 100 = .ok (.iload_n 3, 1) := by decide +kernel
theorem dX5_looksAhead_101 : decode cX5_looksAhead 101 = .ok (.iaload, 1) := by decide +kernel
theorem dX5_looksAhead_102 : decode cX5_looksAhead 102 = .ok (.if_icmp .ge 8, 3) := by decide +kernel
theorem dX5_looksAhead_105 : decode cX5_looksAhead 105 = .ok (.iload 5, 2) := by decide +kernel
theorem dX5_looksAhead_107 : decode cX5_looksAhead 107 = .ok (.goto 9, 3) := by decide +kernel
theorem dX5_looksAhead_110 : decode cX5_looksAhead 110 = .ok (.aload_n 0, 1) := by decide +kernel
theorem dX5_looksAhead_111 : decode cX5_looksAhead 111 = .ok (.getfield 38, 3) := by decide +kernel
theorem dX5_looksAhead_114 : decode cX5_looksAhead 114 = .ok (.iload_n 3, 1) := by decide +kernel
theorem dX5_looksAhead_115 : decode cX5_looksAhead 115 = .ok (.iaload, 1) := by decide +kernel
theorem dX5_looksAhead_116 : decode cX5_looksAhead 116 = .ok (.iastore, 1) := by decide +kernel
theorem dX5_looksAhead_117 : decode cX5_looksAhead 117 = .ok (.iinc 4 1, 3) := by decide +kernel
theorem dX5_looksAhead_120 : decode cX5_looksAhead 120 = .ok (.goto (-72), 3) := by decide +kernel
theorem dX5_looksAhead_123 : decode cX5_looksAhead 123 = .ok (.iinc 3 1, 3) := by decide +kernel
theorem dX5_looksAhead_126 : decode cX5_looksAhead 126 = .ok (.goto (-93), 3) := by decide +kernel
theorem dX5_looksAhead_129 : decode cX5_looksAhead 129 = .ok (.iinc 2 1, 3) := by decide +kernel
theorem dX5_looksAhead_132 : decode cX5_looksAhead 132 = .ok (.goto (-107), 3) := by decide +kernel
theorem dX5_looksAhead_135 : decode cX5_looksAhead 135 = .ok (.return_, 1) := by decide +kernel
set_option maxRecDepth 20000 in
theorem ggX5_shortest_X5_looksAhead : GoodIn wsX5_shortest wsX5_looksAhead := goodIn_r _ [7, 1, 8, 9, 10, 6, 11, 12, 13, 14, 15, 16, 17, 18, 19, 20, 21, 22, 23, 24, 25, 26, 27, 28, 29, 30, 31, 32, 33, 2, 34, 35, 36, 37, 38, 39, 40, 41, 42, 43, 44, 45, 46, 47, 48, 49, 50, 51, 52, 53, 54, 55, 56, 57, 58, 59, 60, 61, 62, 63, 64, 65, 66] (by decide +kernel) (by decide +kernel)
set_option maxRecDepth 20000 in
theorem gX5_shortest_X5_looksAhead : GoodIn wsX5_shortest (wsV RX5 122 RX5 yX5_looksAhead wsX5_looksAhead) := goodIn_app (goodIn_of _ (by decide +kernel)) ggX5_shortest_X5_looksAhead
set_option maxRecDepth 20000 in
theorem ggX5_shortest_X5_at : GoodIn wsX5_shortest wsX5_at := goodIn_r _ [46] (by decide +kernel) (by decide +kernel)
set_option maxRecDepth 20000 in
theorem gX5_shortest_X5_at : GoodIn wsX5_shortest (wsV RX5 115 RX5 yX5_at wsX5_at) := goodIn_app (goodIn_of _ (by decide +kernel)) ggX5_shortest_X5_at
theorem dX5_shortest_0 : decode cX5_shortest 0 = .ok (.aload_n 0, 1) := by decide +kernel
theorem dX5_shortest_1 : decode cX5_shortest 1 = .ok (.iload_n 1, 1) := by decide +kernel
theorem dX5_shortest_2 : decode cX5_shortest 2 = .ok (.invokevirtual 122, 3) := by decide +kernel
theorem dX5_shortest_5 : decode cX5_shortest 5 = .ok (.aload_n 0, 1) := by decide +kernel
theorem dX5_shortest_6 : decode cX5_shortest 6 = .ok (.getfield 38, 3) := by decide +kernel
theorem dX5_shortest_9 : decode cX5_shortest 9 = .ok (.aload_n 0, 1) := by decide +kernel
theorem dX5_shortest_10 : decode cX5_shortest 10 = .ok (.aload_n 0, 1) := by decide +kernel
theorem dX5_shortest_11 : decode cX5_shortest 11 = .ok (.getfield 13, 3) := by decide +kernel
theorem dX5_shortest_14 : decode cX5_shortest 14 = .ok (.iload_n 1, 1) := by decide +kernel
theorem dX5_shortest_15 : decode cX5_shortest 15 = .ok (.iaload, 1) := by decide +kernel
theorem dX5_shortest_16 : decode cX5_shortest 16 = .ok (.aload_n 0, 1) := by decide +kernel
theorem dX5_shortest_17 : decode cX5_shortest 17 = .ok (.getfield 13, 3) := by decide +kernel
theorem dX5_shortest_20 : decode cX5_shortest 20 = .ok (.iload_n 1, 1) := by decide +kernel
theorem dX5_shortest_21 : decode cX5_shortest 21 = .ok (.iaload, 1) := by decide +kernel
theorem dX5_shortest_22 : decode cX5_shortest 22 = .ok (.iconst 0, 1) := by decide +kernel
theorem dX5_shortest_23 : decode cX5_shortest 23 = .ok (.invokevirtual 115, 3) := by decide +kernel
theorem dX5_shortest_26 : decode cX5_shortest 26 = .ok (.iaload, 1) := by decide +kernel
theorem dX5_shortest_27 : decode cX5_shortest 27 = .ok (.istore_n 2, 1) := by decide +kernel
theorem dX5_shortest_28 : decode cX5_shortest 28 = .ok (.iload_n 2, 1) := by decide +kernel
theorem dX5_shortest_29 : decode cX5_shortest 29 = .ok (.sipush 1000, 3) := by decide +kernel
theorem dX5_shortest_32 : decode cX5_shortest 32 = .ok (.if_icmp .ge 7, 3) := by decide +kernel
theorem dX5_shortest_35 : decode cX5_shortest 35 = .ok (.iload_n 2, 1) := by decide +kernel
theorem dX5_shortest_36 : decode cX5_shortest 36 = .ok (.goto 4, 3) := by decide +kernel
theorem dX5_shortest_39 : decode cX5_shortest 39 = .ok (.iconst (-1), 1) := by decide +kernel
theorem dX5_shortest_40 : decode cX5_shortest 40 = .ok (.ireturn, 1) := by decide +kernel
set_option maxRecDepth 20000 in
theorem ggX5_silent_X5_isThing : GoodIn wsX5_silent wsX5_isThing := goodIn_r _ [5, 6, 7, 8, 4, 9, 59, 60, 61, 62, 63, 64, 65, 66, 67, 68, 69, 70, 71, 72, 73, 74, 75, 76, 77, 78] (by decide +kernel) (by decide +kernel)
set_option maxRecDepth 20000 in
theorem gX5_silent_X5_isThing : GoodIn wsX5_silent (wsV RX5 74 RX5 yX5_isThing wsX5_isThing) := goodIn_app (goodIn_of _ (by decide +kernel)) ggX5_silent_X5_isThing
set_option maxRecDepth 20000 in
theorem ggX5_silent_X5_shortest : GoodIn wsX5_silent wsX5_shortest := goodIn_r _ [13, 14, 15, 16, 17, 18, 4, 19, 20, 21, 22, 23, 24, 25, 26, 27, 28, 29, 30, 31, 32, 33, 34, 35, 36, 37, 38, 39, 40, 41, 42, 43, 44, 45, 46, 47, 48, 49, 50, 51, 52, 53, 54, 55, 56, 57, 58, 59, 60, 61, 62, 63, 64, 65, 66, 67, 68, 69, 70, 71, 72, 73, 74, 75, 76, 77, 78] (by decide +kernel) (by decide +kernel)
set_option maxRecDepth 20000 in
theorem gX5_silent_X5_shortest : GoodIn wsX5_silent (wsV RX5 126 RX5 yX5_shortest wsX5_shortest) := goodIn_app (goodIn_of _ (by decide +kernel)) ggX5_silent_X5_shortest
theorem dX5_silent_0 : decode cX5_silent 0 = .ok (.aload_n 0, 1) := by decide +kernel
theorem dX5_silent_1 : decode cX5_silent 1 = .ok (.iload_n 1, 1) := by decide +kernel
theorem dX5_silent_2 : decode cX5_silent 2 = .ok (.invokevirtual 74, 3) := by decide +kernel
theorem dX5_silent_5 : decode cX5_silent 5 = .ok (.ifCond .ne 7, 3) := by decide +kernel
theorem dX5_silent_8 : decode cX5_silent 8 = .ok (.iconst (-1), 1) := by decide +kernel
theorem dX5_silent_9 : decode cX5_silent 9 = .ok (.goto 17, 3) := by decide +kernel
theorem dX5_silent_12 : decode cX5_silent 12 = .ok (.aload_n 0, 1) := by decide +kernel
theorem dX5_silent_13 : decode cX5_silent 13 = .ok (.iload_n 1, 1) := by decide +kernel
theorem dX5_silent_14 : decode cX5_silent 14 = .ok (.invokevirtual 126, 3) := by decide +kernel
theorem dX5_silent_17 : decode cX5_silent 17 = .ok (.iconst (-1), 1) := by decide +kernel
theorem dX5_silent_18 : decode cX5_silent 18 = .ok (.if_icmp .ne 7, 3) := by decide +kernel
theorem dX5_silent_21 : decode cX5_silent 21 = .ok (.iconst 1, 1) := by decide +kernel
theorem dX5_silent_22 : decode cX5_silent 22 = .ok (.goto 4, 3) := by decide +kernel
theorem dX5_silent_25 : decode cX5_silent 25 = .ok (.iconst 0, 1) := by decide +kernel
theorem dX5_silent_26 : decode cX5_silent 26 = .ok (.ireturn, 1) := by decide +kernel
set_option maxRecDepth 20000 in
theorem ggX5_shown_X5_isThing : GoodIn wsX5_shown wsX5_isThing := goodIn_r _ [5, 6, 7, 8, 4, 9, 59, 60, 61, 62, 63, 64, 65, 66, 67, 68, 69, 70, 71, 72, 73, 74, 75, 76, 77, 78] (by decide +kernel) (by decide +kernel)
set_option maxRecDepth 20000 in
theorem gX5_shown_X5_isThing : GoodIn wsX5_shown (wsV RX5 74 RX5 yX5_isThing wsX5_isThing) := goodIn_app (goodIn_of _ (by decide +kernel)) ggX5_shown_X5_isThing
set_option maxRecDepth 20000 in
theorem ggX5_shown_X5_shortest : GoodIn wsX5_shown wsX5_shortest := goodIn_r _ [13, 14, 15, 16, 17, 18, 4, 19, 20, 21, 22, 23, 24, 25, 26, 27, 28, 29, 30, 31, 32, 33, 34, 35, 36, 37, 38, 39, 40, 41, 42, 43, 44, 45, 46, 47, 48, 49, 50, 51, 52, 53, 54, 55, 56, 57, 58, 59, 60, 61, 62, 63, 64, 65, 66, 67, 68, 69, 70, 71, 72, 73, 74, 75, 76, 77, 78] (by decide +kernel) (by decide +kernel)
set_option maxRecDepth 20000 in
theorem gX5_shown_X5_shortest : GoodIn wsX5_shown (wsV RX5 126 RX5 yX5_shortest wsX5_shortest) := goodIn_app (goodIn_of _ (by decide +kernel)) ggX5_shown_X5_shortest
theorem dX5_shown_0 : decode cX5_shown 0 = .ok (.aload_n 0, 1) := by decide +kernel
theorem dX5_shown_1 : decode cX5_shown 1 = .ok (.iload_n 1, 1) := by decide +kernel
theorem dX5_shown_2 : decode cX5_shown 2 = .ok (.invokevirtual 74, 3) := by decide +kernel
theorem dX5_shown_5 : decode cX5_shown 5 = .ok (.ifCond .eq 11, 3) := by decide +kernel
theorem dX5_shown_8 : decode cX5_shown 8 = .ok (.aload_n 0, 1) := by decide +kernel
theorem dX5_shown_9 : decode cX5_shown 9 = .ok (.iload_n 1, 1) := by decide +kernel
theorem dX5_shown_10 : decode cX5_shown 10 = .ok (.invokevirtual 126, 3) := by decide +kernel
theorem dX5_shown_13 : decode cX5_shown 13 = .ok (.goto 4, 3) := by decide +kernel
theorem dX5_shown_16 : decode cX5_shown 16 = .ok (.iconst (-1), 1) := by decide +kernel
theorem dX5_shown_17 : decode cX5_shown 17 = .ok (.ireturn, 1) := by decide +kernel
theorem dX5_named_0 : decode cX5_named 0 = .ok (.iload_n 1, 1) := by decide +kernel
theorem dX5_named_1 : decode cX5_named 1 = .ok (.iconst 3, 1) := by decide +kernel
theorem dX5_named_2 : decode cX5_named 2 = .ok (.if_icmp .ne 8, 3) := by decide +kernel
theorem dX5_named_5 : decode cX5_named 5 = .ok (.bipush 9, 2) := by decide +kernel
theorem dX5_named_7 : decode cX5_named 7 = .ok (.goto 8, 3) := by decide +kernel
theorem dX5_named_10 : decode cX5_named 10 = .ok (.iconst 3, 1) := by decide +kernel
theorem dX5_named_11 : decode cX5_named 11 = .ok (.iload_n 0, 1) := by decide +kernel
theorem dX5_named_12 : decode cX5_named 12 = .ok (.imul, 1) := by decide +kernel
theorem dX5_named_13 : decode cX5_named 13 = .ok (.iload_n 1, 1) := by decide +kernel
theorem dX5_named_14 : decode cX5_named 14 = .ok (.iadd, 1) := by decide +kernel
theorem dX5_named_15 : decode cX5_named 15 = .ok (.ireturn, 1) := by decide +kernel
set_option maxRecDepth 20000 in
theorem ggX5_show_X5_isThing : GoodIn wsX5_show wsX5_isThing := goodIn_r _ [6, 7, 8, 9, 5, 10, 62, 63, 64, 65, 66, 67, 68, 69, 70, 71, 72, 73, 74, 75, 76, 77, 78, 79, 80, 81] (by decide +kernel) (by decide +kernel)
set_option maxRecDepth 20000 in
theorem gX5_show_X5_isThing : GoodIn wsX5_show (wsV RX5 74 RX5 yX5_isThing wsX5_isThing) := goodIn_app (goodIn_of _ (by decide +kernel)) ggX5_show_X5_isThing
set_option maxRecDepth 20000 in
theorem ggX5_show_X5_isIn : GoodIn wsX5_show wsX5_isIn := goodIn_r _ [10] (by decide +kernel) (by decide +kernel)
set_option maxRecDepth 20000 in
theorem gX5_show_X5_isIn : GoodIn wsX5_show (va_wsS RX5 66 yX5_isIn wsX5_isIn) := goodIn_app (goodIn_of _ (by decide +kernel)) ggX5_show_X5_isIn
set_option maxRecDepth 20000 in
theorem ggX5_show_X5_shortest : GoodIn wsX5_show wsX5_shortest := goodIn_r _ [14, 15, 1, 16, 17, 18, 5, 19, 20, 21, 22, 23, 24, 25, 26, 27, 28, 29, 30, 31, 32, 33, 34, 35, 36, 37, 38, 39, 40, 41, 42, 43, 44, 45, 46, 47, 48, 49, 50, 51, 52, 53, 54, 55, 56, 57, 58, 62, 63, 64, 65, 66, 67, 68, 69, 70, 71, 72, 73, 74, 75, 76, 77, 78, 79, 80, 81] (by decide +kernel) (by decide +kernel)
set_option maxRecDepth 20000 in
theorem gX5_show_X5_shortest : GoodIn wsX5_show (wsV RX5 126 RX5 yX5_shortest wsX5_shortest) := goodIn_app (goodIn_of _ (by decide +kernel)) ggX5_show_X5_shortest
set_option maxRecDepth 20000 in
theorem ggX5_show_X5_phases : GoodIn wsX5_show wsX5_phases := goodIn_r _ [23, 24, 25, 62, 63, 64, 65, 66, 67, 68, 69, 70, 71, 72, 73, 74, 75, 76, 77, 78, 79, 80, 81] (by decide +kernel) (by decide +kernel)
set_option maxRecDepth 20000 in
theorem gX5_show_X5_phases : GoodIn wsX5_show (wsV RX5 112 RX5 yX5_phases wsX5_phases) := goodIn_app (goodIn_of _ (by decide +kernel)) ggX5_show_X5_phases
set_option maxRecDepth 20000 in
theorem ggX5_show_X5_after : GoodIn wsX5_show wsX5_after := goodIn_r _ [29, 15, 30, 31, 32, 5, 33, 24, 34, 35, 36, 37, 38, 39, 40, 41, 42, 43, 44, 45, 25, 1, 46, 47, 48, 49, 50, 51, 52, 53, 54, 20, 21, 22, 23, 55, 56, 57, 58, 62, 63, 64, 65, 66, 67, 68, 69, 70, 71, 72, 73, 74, 75, 76, 77, 78, 79, 80, 81] (by decide +kernel) (by decide +kernel)
set_option maxRecDepth 20000 in
theorem gX5_show_X5_after : GoodIn wsX5_show (wsV RX5 118 RX5 yX5_after wsX5_after) := goodIn_app (goodIn_of _ (by decide +kernel)) ggX5_show_X5_after
set_option maxRecDepth 20000 in
theorem ggX5_show_X5_sends : GoodIn wsX5_show wsX5_sends := goodIn_r _ [33, 24, 34, 35, 36, 5, 37, 38, 39, 40, 41, 62, 63, 64, 65, 66, 67, 68, 69, 70, 71, 72, 73, 74, 75, 76, 77, 78, 79, 80, 81] (by decide +kernel) (by decide +kernel)
set_option maxRecDepth 20000 in
theorem gX5_show_X5_sends : GoodIn wsX5_show (wsV RX5 99 RX5 yX5_sends wsX5_sends) := goodIn_app (goodIn_of _ (by decide +kernel)) ggX5_show_X5_sends
set_option maxRecDepth 20000 in
theorem ggX5_show_X5_cleans : GoodIn wsX5_show wsX5_cleans := goodIn_r _ [45, 24, 25, 1, 62, 63, 64, 65, 66, 67, 68, 69, 70, 71, 72, 73, 74, 75, 76, 77, 78, 79, 80, 81] (by decide +kernel) (by decide +kernel)
set_option maxRecDepth 20000 in
theorem gX5_show_X5_cleans : GoodIn wsX5_show (wsV RX5 103 RX5 yX5_cleans wsX5_cleans) := goodIn_app (goodIn_of _ (by decide +kernel)) ggX5_show_X5_cleans
set_option maxRecDepth 20000 in
theorem ggX5_show_X5_named : GoodIn wsX5_show wsX5_named := goodIn_r _ [61] (by decide +kernel) (by decide +kernel)
set_option maxRecDepth 20000 in
theorem gX5_show_X5_named : GoodIn wsX5_show (va_wsS RX5 129 yX5_named wsX5_named) := goodIn_app (goodIn_of _ (by decide +kernel)) ggX5_show_X5_named
set_option maxRecDepth 20000 in
theorem ggX5_show_X5_answers : GoodIn wsX5_show wsX5_answers := goodIn_r _ [49, 24, 50, 34, 35, 36, 5, 37, 38, 39, 40, 41, 62, 63, 64, 65, 66, 67, 68, 69, 70, 71, 72, 73, 74, 75, 76, 77, 78, 79, 80, 81] (by decide +kernel) (by decide +kernel)
set_option maxRecDepth 20000 in
theorem gX5_show_X5_answers : GoodIn wsX5_show (wsV RX5 106 RX5 yX5_answers wsX5_answers) := goodIn_app (goodIn_of _ (by decide +kernel)) ggX5_show_X5_answers
set_option maxRecDepth 20000 in
theorem ggX5_show_X5_hears : GoodIn wsX5_show wsX5_hears := goodIn_r _ [54, 34, 35, 36, 5, 37, 38, 39, 40, 41, 62, 63, 64, 65, 66, 67, 68, 69, 70, 71, 72, 73, 74, 75, 76, 77, 78, 79, 80, 81] (by decide +kernel) (by decide +kernel)
set_option maxRecDepth 20000 in
theorem gX5_show_X5_hears : GoodIn wsX5_show (wsV RX5 109 RX5 yX5_hears wsX5_hears) := goodIn_app (goodIn_of _ (by decide +kernel)) ggX5_show_X5_hears
theorem dX5_show_0 : decode cX5_show 0 = .ok (.aload_n 0, 1) := by decide +kernel
theorem dX5_show_1 : decode cX5_show 1 = .ok (.iload_n 1, 1) := by decide +kernel
theorem dX5_show_2 : decode cX5_show 2 = .ok (.invokevirtual 74, 3) := by decide +kernel
theorem dX5_show_5 : decode cX5_show 5 = .ok (.ifCond .eq 12, 3) := by decide +kernel
theorem dX5_show_8 : decode cX5_show 8 = .ok (.iload_n 3, 1) := by decide +kernel
theorem dX5_show_9 : decode cX5_show 9 = .ok (.iconst 0, 1) := by decide +kernel
theorem dX5_show_10 : decode cX5_show 10 = .ok (.iconst 4, 1) := by decide +kernel
theorem dX5_show_11 : decode cX5_show 11 = .ok (.invokestatic 66, 3) := by decide +kernel
theorem dX5_show_14 : decode cX5_show 14 = .ok (.ifCond .ne 5, 3) := by decide +kernel
theorem dX5_show_17 : decode cX5_show 17 = .ok (.iconst (-1), 1) := by decide +kernel
theorem dX5_show_18 : decode cX5_show 18 = .ok (.ireturn, 1) := by decide +kernel
theorem dX5_show_19 : decode cX5_show 19 = .ok (.aload_n 0, 1) := by decide +kernel
theorem dX5_show_20 : decode cX5_show 20 = .ok (.iload_n 1, 1) := by decide +kernel
theorem dX5_show_21 : decode cX5_show 21 = .ok (.invokevirtual 126, 3) := by decide +kernel
theorem dX5_show_24 : decode cX5_show 24 = .ok (.istore 4, 2) := by decide +kernel
theorem dX5_show_26 : decode cX5_show 26 = .ok (.iload_n 2, 1) := by decide +kernel
theorem dX5_show_27 : decode cX5_show 27 = .ok (.iconst 0, 1) := by decide +kernel
theorem dX5_show_28 : decode cX5_show 28 = .ok (.iload 4, 2) := by decide +kernel
theorem dX5_show_30 : decode cX5_show 30 = .ok (.iconst 1, 1) := by decide +kernel
theorem dX5_show_31 : decode cX5_show 31 = .ok (.isub, 1) := by decide +kernel
theorem dX5_show_32 : decode cX5_show 32 = .ok (.invokestatic 66, 3) := by decide +kernel
theorem dX5_show_35 : decode cX5_show 35 = .ok (.ifCond .ne 5, 3) := by decide +kernel
theorem dX5_show_38 : decode cX5_show 38 = .ok (.iconst (-1), 1) := by decide +kernel
theorem dX5_show_39 : decode cX5_show 39 = .ok (.ireturn, 1) := by decide +kernel
theorem dX5_show_40 : decode cX5_show 40 = .ok (.aload_n 0, 1) := by decide +kernel
theorem dX5_show_41 : decode cX5_show 41 = .ok (.getfield 13, 3) := by decide +kernel
theorem dX5_show_44 : decode cX5_show 44 = .ok (.iload_n 1, 1) := by decide +kernel
theorem dX5_show_45 : decode cX5_show 45 = .ok (.iaload, 1) := by decide +kernel
theorem dX5_show_46 : decode cX5_show 46 = .ok (.istore 5, 2) := by decide +kernel
theorem dX5_show_48 : decode cX5_show 48 = .ok (.aload_n 0, 1) := by decide +kernel
theorem dX5_show_49 : decode cX5_show 49 = .ok (.getfield 13, 3) := by decide +kernel
theorem dX5_show_52 : decode cX5_show 52 = .ok (.iload_n 1, 1) := by decide +kernel
theorem dX5_show_53 : decode cX5_show 53 = .ok (.iaload, 1) := by decide +kernel
theorem dX5_show_54 : decode cX5_show 54 = .ok (.istore 6, 2) := by decide +kernel
theorem dX5_show_56 : decode cX5_show 56 = .ok (.iconst 0, 1) := by decide +kernel
theorem dX5_show_57 : decode cX5_show 57 = .ok (.istore 7, 2) := by decide +kernel
theorem dX5_show_59 : decode cX5_show 59 = .ok (.iload 7, 2) := by decide +kernel
theorem dX5_show_61 : decode cX5_show 61 = .ok (.iload 4, 2) := by decide +kernel
theorem dX5_show_63 : decode cX5_show 63 = .ok (.if_icmp .ge 207, 3) := by decide +kernel
theorem dX5_show_66 : decode cX5_show 66 = .ok (.iload 7, 2) := by decide +kernel
theorem dX5_show_68 : decode cX5_show 68 = .ok (.aload_n 0, 1) := by decide +kernel
theorem dX5_show_69 : decode cX5_show 69 = .ok (.iload_n 1, 1) := by decide +kernel
theorem dX5_show_70 : decode cX5_show 70 = .ok (.invokevirtual 112, 3) := by decide +kernel
theorem dX5_show_73 : decode cX5_show 73 = .ok (.irem, 1) := by decide +kernel
theorem dX5_show_74 : decode cX5_show 74 = .ok (.istore 8, 2) := by decide +kernel
theorem dX5_show_76 : decode cX5_show 76 = .ok (.iconst 0, 1) := by decide +kernel
theorem dX5_show_77 : decode cX5_show 77 = .ok (.istore 9, 2) := by decide +kernel
theorem dX5_show_79 : decode cX5_show 79 = .ok (.aload_n 0, 1) := by decide +kernel
theorem dX5_show_80 : decode cX5_show 80 = .ok (.iload_n 1, 1) := by decide +kernel
theorem dX5_show_81 : decode cX5_show 81 = .ok (.iload 5, 2) := by decide +kernel
theorem dX5_show_83 : decode cX5_show 83 = .ok (.iload 6, 2) := by decide +kernel
theorem dX5_show_85 : decode cX5_show 85 = .ok (.iload 8, 2) := by decide +kernel
theorem dX5_show_87 : decode cX5_show 87 = .ok (.iload 9, 2) := by decide +kernel
theorem dX5_show_89 : decode cX5_show 89 = .ok (.bipush 16, 2) := by decide +kernel
theorem dX5_show_91 : decode cX5_show 91 = .ok (.idiv, 1) := by decide +kernel
theorem dX5_show_92 : decode cX5_show 92 = .ok (.iload 9, 2) := by decide +kernel
theorem dX5_show_94 : decode cX5_show 94 = .ok (.iconst 4, 1) := by decide +kernel
theorem dX5_show_95 : decode cX5_show 95 = .ok (.idiv, 1) := by decide +kernel
theorem dX5_show_96 : decode cX5_show 96 = .ok (.iconst 4, 1) := by decide +kernel
theorem dX5_show_97 : decode cX5_show 97 = .ok (.irem, 1) := by decide +kernel
theorem dX5_show_98 : decode cX5_show 98 = .ok (.iload 9, 2) := by decide +kernel
theorem dX5_show_100 : decode cX5_show 100 = .ok (.iconst 4, 1) := by decide +kernel
theorem dX5_show_101 : decode cX5_show 101 = .ok (.irem, 1) := by decide +kernel
theorem dX5_show_102 : decode cX5_show 102 = .ok (.invokevirtual 118, 3) := by decide +kernel
theorem dX5_show_105 : decode cX5_show 105 = .ok (.iload 4, 2) := by decide +kernel
theorem dX5_show_107 : decode cX5_show 107 = .ok (.iload 7, 2) := by decide +kernel
theorem dX5_show_109 : decode cX5_show 109 = .ok (.isub, 1) := by decide +kernel
theorem dX5_show_110 : decode cX5_show 110 = .ok (.if_icmp .eq 9, 3) := by decide +kernel
theorem dX5_show_113 : decode cX5_show 113 = .ok (.iinc 9 1, 3) := by decide +kernel
theorem dX5_show_116 : decode cX5_show 116 = .ok (.goto (-37), 3) := by decide +kernel
theorem dX5_show_119 : decode cX5_show 119 = .ok (.aload_n 0, 1) := by decide +kernel
theorem dX5_show_120 : decode cX5_show 120 = .ok (.iload_n 1, 1) := by decide +kernel
theorem dX5_show_121 : decode cX5_show 121 = .ok (.aload_n 0, 1) := by decide +kernel
theorem dX5_show_122 : decode cX5_show 122 = .ok (.iload_n 1, 1) := by decide +kernel
theorem dX5_show_123 : decode cX5_show 123 = .ok (.iload 5, 2) := by decide +kernel
theorem dX5_show_125 : decode cX5_show 125 = .ok (.iload 9, 2) := by decide +kernel
theorem dX5_show_127 : decode cX5_show 127 = .ok (.bipush 16, 2) := by decide +kernel
theorem dX5_show_129 : decode cX5_show 129 = .ok (.idiv, 1) := by decide +kernel
theorem dX5_show_130 : decode cX5_show 130 = .ok (.invokevirtual 99, 3) := by decide +kernel
theorem dX5_show_133 : decode cX5_show 133 = .ok (.iload 8, 2) := by decide +kernel
theorem dX5_show_135 : decode cX5_show 135 = .ok (.invokevirtual 103, 3) := by decide +kernel
theorem dX5_show_138 : decode cX5_show 138 = .ok (.istore 10, 2) := by decide +kernel
theorem dX5_show_140 : decode cX5_show 140 = .ok (.aload_n 0, 1) := by decide +kernel
theorem dX5_show_141 : decode cX5_show 141 = .ok (.iload_n 1, 1) := by decide +kernel
theorem dX5_show_142 : decode cX5_show 142 = .ok (.aload_n 0, 1) := by decide +kernel
theorem dX5_show_143 : decode cX5_show 143 = .ok (.iload_n 1, 1) := by decide +kernel
theorem dX5_show_144 : decode cX5_show 144 = .ok (.iload 6, 2) := by decide +kernel
theorem dX5_show_146 : decode cX5_show 146 = .ok (.iload 9, 2) := by decide +kernel
theorem dX5_show_148 : decode cX5_show 148 = .ok (.iconst 4, 1) := by decide +kernel
theorem dX5_show_149 : decode cX5_show 149 = .ok (.idiv, 1) := by decide +kernel
theorem dX5_show_150 : decode cX5_show 150 = .ok (.iconst 4, 1) := by decide +kernel
theorem dX5_show_151 : decode cX5_show 151 = .ok (.irem, 1) := by decide +kernel
theorem dX5_show_152 : decode cX5_show 152 = .ok (.invokevirtual 99, 3) := by decide +kernel
theorem dX5_show_155 : decode cX5_show 155 = .ok (.iload 8, 2) := by decide +kernel
theorem dX5_show_157 : decode cX5_show 157 = .ok (.invokevirtual 103, 3) := by decide +kernel
theorem dX5_show_160 : decode cX5_show 160 = .ok (.istore 11, 2) := by decide +kernel
theorem dX5_show_162 : decode cX5_show 162 = .ok (.iload 9, 2) := by decide +kernel
theorem dX5_show_164 : decode cX5_show 164 = .ok (.iconst 4, 1) := by decide +kernel
theorem dX5_show_165 : decode cX5_show 165 = .ok (.irem, 1) := by decide +kernel
theorem dX5_show_166 : decode cX5_show 166 = .ok (.istore 12, 2) := by decide +kernel
theorem dX5_show_168 : decode cX5_show 168 = .ok (.iload 7, 2) := by decide +kernel
theorem dX5_show_170 : decode cX5_show 170 = .ok (.iload_n 2, 1) := by decide +kernel
theorem dX5_show_171 : decode cX5_show 171 = .ok (.if_icmp .ne 71, 3) := by decide +kernel
theorem dX5_show_174 : decode cX5_show 174 = .ok (.iload_n 3, 1) := by decide +kernel
theorem dX5_show_175 : decode cX5_show 175 = .ok (.ifCond .ne 15, 3) := by decide +kernel
theorem dX5_show_178 : decode cX5_show 178 = .ok (.iload_n 1, 1) := by decide +kernel
theorem dX5_show_179 : decode cX5_show 179 = .ok (.iload 9, 2) := by decide +kernel
theorem dX5_show_181 : decode cX5_show 181 = .ok (.bipush 16, 2) := by decide +kernel
theorem dX5_show_183 : decode cX5_show 183 = .ok (.idiv, 1) := by decide +kernel
theorem dX5_show_184 : decode cX5_show 184 = .ok (.invokestatic 129, 3) := by decide +kernel
theorem dX5_show_187 : decode cX5_show 187 = .ok (.goto 54, 3) := by decide +kernel
theorem dX5_show_190 : decode cX5_show 190 = .ok (.iload_n 3, 1) := by decide +kernel
theorem dX5_show_191 : decode cX5_show 191 = .ok (.iconst 1, 1) := by decide +kernel
theorem dX5_show_192 : decode cX5_show 192 = .ok (.if_icmp .ne 16, 3) := by decide +kernel
theorem dX5_show_195 : decode cX5_show 195 = .ok (.iload_n 1, 1) := by decide +kernel
theorem dX5_show_196 : decode cX5_show 196 = .ok (.iload 9, 2) := by decide +kernel
theorem dX5_show_198 : decode cX5_show 198 = .ok (.iconst 4, 1) := by decide +kernel
theorem dX5_show_199 : decode cX5_show 199 = .ok (.idiv, 1) := by decide +kernel
theorem dX5_show_200 : decode cX5_show 200 = .ok (.iconst 4, 1) := by decide +kernel
theorem dX5_show_201 : decode cX5_show 201 = .ok (.irem, 1) := by decide +kernel
theorem dX5_show_202 : decode cX5_show 202 = .ok (.invokestatic 129, 3) := by decide +kernel
theorem dX5_show_205 : decode cX5_show 205 = .ok (.goto 36, 3) := by decide +kernel
theorem dX5_show_208 : decode cX5_show 208 = .ok (.iload_n 3, 1) := by decide +kernel
theorem dX5_show_209 : decode cX5_show 209 = .ok (.iconst 2, 1) := by decide +kernel
theorem dX5_show_210 : decode cX5_show 210 = .ok (.if_icmp .ne 12, 3) := by decide +kernel
theorem dX5_show_213 : decode cX5_show 213 = .ok (.iload_n 1, 1) := by decide +kernel
theorem dX5_show_214 : decode cX5_show 214 = .ok (.iload 12, 2) := by decide +kernel
theorem dX5_show_216 : decode cX5_show 216 = .ok (.invokestatic 129, 3) := by decide +kernel
theorem dX5_show_219 : decode cX5_show 219 = .ok (.goto 22, 3) := by decide +kernel
theorem dX5_show_222 : decode cX5_show 222 = .ok (.aload_n 0, 1) := by decide +kernel
theorem dX5_show_223 : decode cX5_show 223 = .ok (.iload_n 1, 1) := by decide +kernel
theorem dX5_show_224 : decode cX5_show 224 = .ok (.iload_n 3, 1) := by decide +kernel
theorem dX5_show_225 : decode cX5_show 225 = .ok (.iconst 3, 1) := by decide +kernel
theorem dX5_show_226 : decode cX5_show 226 = .ok (.if_icmp .ne 8, 3) := by decide +kernel
theorem dX5_show_229 : decode cX5_show 229 = .ok (.iload 10, 2) := by decide +kernel
theorem dX5_show_231 : decode cX5_show 231 = .ok (.goto 5, 3) := by decide +kernel
theorem dX5_show_234 : decode cX5_show 234 = .ok (.iload 11, 2) := by decide +kernel
theorem dX5_show_236 : decode cX5_show 236 = .ok (.iload 12, 2) := by decide +kernel
theorem dX5_show_238 : decode cX5_show 238 = .ok (.invokevirtual 106, 3) := by decide +kernel
theorem dX5_show_241 : decode cX5_show 241 = .ok (.ireturn, 1) := by decide +kernel
theorem dX5_show_242 : decode cX5_show 242 = .ok (.aload_n 0, 1) := by decide +kernel
theorem dX5_show_243 : decode cX5_show 243 = .ok (.iload_n 1, 1) := by decide +kernel
theorem dX5_show_244 : decode cX5_show 244 = .ok (.iload 10, 2) := by decide +kernel
theorem dX5_show_246 : decode cX5_show 246 = .ok (.iload 12, 2) := by decide +kernel
theorem dX5_show_248 : decode cX5_show 248 = .ok (.invokevirtual 109, 3) := by decide +kernel
theorem dX5_show_251 : decode cX5_show 251 = .ok (.istore 5, 2) := by decide +kernel
theorem dX5_show_253 : decode cX5_show 253 = .ok (.aload_n 0, 1) := by decide +kernel
theorem dX5_show_254 : decode cX5_show 254 = .ok (.iload_n 1, 1) := by decide +kernel
theorem dX5_show_255 : decode cX5_show 255 = .ok (.iload 11, 2) := by decide +kernel
theorem dX5_show_257 : decode cX5_show 257 = .ok (.iload 12, 2) := by decide +kernel
theorem dX5_show_259 : decode cX5_show 259 = .ok (.invokevirtual 109, 3) := by decide +kernel
theorem dX5_show_262 : decode cX5_show 262 = .ok (.istore 6, 2) := by decide +kernel
theorem dX5_show_264 : decode cX5_show 264 = .ok (.iinc 7 1, 3) := by decide +kernel
theorem dX5_show_267 : decode cX5_show 267 = .ok (.goto (-208), 3) := by decide +kernel
theorem dX5_show_270 : decode cX5_show 270 = .ok (.iconst (-1), 1) := by decide +kernel
theorem dX5_show_271 : decode cX5_show 271 = .ok (.ireturn, 1) := by decide +kernel
set_option maxRecDepth 20000 in
theorem ggX5_isAct_X5_isIn : GoodIn wsX5_isAct wsX5_isIn := goodIn_r _ [5] (by decide +kernel) (by decide +kernel)
set_option maxRecDepth 20000 in
theorem gX5_isAct_X5_isIn : GoodIn wsX5_isAct (va_wsS RX5 66 yX5_isIn wsX5_isIn) := goodIn_app (goodIn_of _ (by decide +kernel)) ggX5_isAct_X5_isIn
theorem dX5_isAct_0 : decode cX5_isAct 0 = .ok (.iload_n 1, 1) := by decide +kernel
theorem dX5_isAct_1 : decode cX5_isAct 1 = .ok (.bipush 9, 2) := by decide +kernel
theorem dX5_isAct_3 : decode cX5_isAct 3 = .ok (.if_icmp .eq 19, 3) := by decide +kernel
theorem dX5_isAct_6 : decode cX5_isAct 6 = .ok (.iload_n 1, 1) := by decide +kernel
theorem dX5_isAct_7 : decode cX5_isAct 7 = .ok (.iconst 0, 1) := by decide +kernel
theorem dX5_isAct_8 : decode cX5_isAct 8 = .ok (.iconst 3, 1) := by decide +kernel
theorem dX5_isAct_9 : decode cX5_isAct 9 = .ok (.aload_n 0, 1) := by decide +kernel
theorem dX5_isAct_10 : decode cX5_isAct 10 = .ok (.getfield 62, 3) := by decide +kernel
theorem dX5_isAct_13 : decode cX5_isAct 13 = .ok (.imul, 1) := by decide +kernel
theorem dX5_isAct_14 : decode cX5_isAct 14 = .ok (.iconst 1, 1) := by decide +kernel
theorem dX5_isAct_15 : decode cX5_isAct 15 = .ok (.isub, 1) := by decide +kernel
theorem dX5_isAct_16 : decode cX5_isAct 16 = .ok (.invokestatic 66, 3) := by decide +kernel
theorem dX5_isAct_19 : decode cX5_isAct 19 = .ok (.ifCond .eq 7, 3) := by decide +kernel
theorem dX5_isAct_22 : decode cX5_isAct 22 = .ok (.iconst 1, 1) := by decide +kernel
theorem dX5_isAct_23 : decode cX5_isAct 23 = .ok (.goto 4, 3) := by decide +kernel
theorem dX5_isAct_26 : decode cX5_isAct 26 = .ok (.iconst 0, 1) := by decide +kernel
theorem dX5_isAct_27 : decode cX5_isAct 27 = .ok (.ireturn, 1) := by decide +kernel
theorem dX5_startOf_0 : decode cX5_startOf 0 = .ok (.iconst 0, 1) := by decide +kernel
theorem dX5_startOf_1 : decode cX5_startOf 1 = .ok (.istore_n 1, 1) := by decide +kernel
theorem dX5_startOf_2 : decode cX5_startOf 2 = .ok (.iconst 0, 1) := by decide +kernel
theorem dX5_startOf_3 : decode cX5_startOf 3 = .ok (.istore_n 2, 1) := by decide +kernel
theorem dX5_startOf_4 : decode cX5_startOf 4 = .ok (.iload_n 2, 1) := by decide +kernel
theorem dX5_startOf_5 : decode cX5_startOf 5 = .ok (.aload_n 0, 1) := by decide +kernel
theorem dX5_startOf_6 : decode cX5_startOf 6 = .ok (.getfield 62, 3) := by decide +kernel
theorem dX5_startOf_9 : decode cX5_startOf 9 = .ok (.if_icmp .ge 22, 3) := by decide +kernel
theorem dX5_startOf_12 : decode cX5_startOf 12 = .ok (.iload_n 1, 1) := by decide +kernel
theorem dX5_startOf_13 : decode cX5_startOf 13 = .ok (.aload_n 0, 1) := by decide +kernel
theorem dX5_startOf_14 : decode cX5_startOf 14 = .ok (.getfield 13, 3) := by decide +kernel
theorem dX5_startOf_17 : decode cX5_startOf 17 = .ok (.iload_n 2, 1) := by decide +kernel
theorem dX5_startOf_18 : decode cX5_startOf 18 = .ok (.iaload, 1) := by decide +kernel
theorem dX5_startOf_19 : decode cX5_startOf 19 = .ok (.iconst 2, 1) := by decide +kernel
theorem dX5_startOf_20 : decode cX5_startOf 20 = .ok (.iload_n 2, 1) := by decide +kernel
theorem dX5_startOf_21 : decode cX5_startOf 21 = .ok (.imul, 1) := by decide +kernel
theorem dX5_startOf_22 : decode cX5_startOf 22 = .ok (.ishl, 1) := by decide +kernel
theorem dX5_startOf_23 : decode cX5_startOf 23 = .ok (.ior, 1) := by decide +kernel
theorem dX5_startOf_24 : decode cX5_startOf 24 = .ok (.istore_n 1, 1) := by decide +kernel
theorem dX5_startOf_25 : decode cX5_startOf 25 = .ok (.iinc 2 1, 3) := by decide +kernel
theorem dX5_startOf_28 : decode cX5_startOf 28 = .ok (.goto (-24), 3) := by decide +kernel
theorem dX5_startOf_31 : decode cX5_startOf 31 = .ok (.iload_n 1, 1) := by decide +kernel
theorem dX5_startOf_32 : decode cX5_startOf 32 = .ok (.ireturn, 1) := by decide +kernel
theorem dX5_part_0 : decode cX5_part 0 = .ok (.iload_n 0, 1) := by decide +kernel
theorem dX5_part_1 : decode cX5_part 1 = .ok (.iconst 2, 1) := by decide +kernel
theorem dX5_part_2 : decode cX5_part 2 = .ok (.iload_n 1, 1) := by decide +kernel
theorem dX5_part_3 : decode cX5_part 3 = .ok (.imul, 1) := by decide +kernel
theorem dX5_part_4 : decode cX5_part 4 = .ok (.ishr, 1) := by decide +kernel
theorem dX5_part_5 : decode cX5_part 5 = .ok (.iconst 3, 1) := by decide +kernel
theorem dX5_part_6 : decode cX5_part 6 = .ok (.iand, 1) := by decide +kernel
theorem dX5_part_7 : decode cX5_part 7 = .ok (.ireturn, 1) := by decide +kernel
theorem dX5_with_0 : decode cX5_with 0 = .ok (.iload_n 0, 1) := by decide +kernel
theorem dX5_with_1 : decode cX5_with 1 = .ok (.iconst 3, 1) := by decide +kernel
theorem dX5_with_2 : decode cX5_with 2 = .ok (.iconst 2, 1) := by decide +kernel
theorem dX5_with_3 : decode cX5_with 3 = .ok (.iload_n 1, 1) := by decide +kernel
theorem dX5_with_4 : decode cX5_with 4 = .ok (.imul, 1) := by decide +kernel
theorem dX5_with_5 : decode cX5_with 5 = .ok (.ishl, 1) := by decide +kernel
theorem dX5_with_6 : decode cX5_with 6 = .ok (.iconst (-1), 1) := by decide +kernel
theorem dX5_with_7 : decode cX5_with 7 = .ok (.ixor, 1) := by decide +kernel
theorem dX5_with_8 : decode cX5_with 8 = .ok (.iand, 1) := by decide +kernel
theorem dX5_with_9 : decode cX5_with 9 = .ok (.iload_n 2, 1) := by decide +kernel
theorem dX5_with_10 : decode cX5_with 10 = .ok (.iconst 2, 1) := by decide +kernel
theorem dX5_with_11 : decode cX5_with 11 = .ok (.iload_n 1, 1) := by decide +kernel
theorem dX5_with_12 : decode cX5_with 12 = .ok (.imul, 1) := by decide +kernel
theorem dX5_with_13 : decode cX5_with 13 = .ok (.ishl, 1) := by decide +kernel
theorem dX5_with_14 : decode cX5_with 14 = .ok (.ior, 1) := by decide +kernel
theorem dX5_with_15 : decode cX5_with 15 = .ok (.ireturn, 1) := by decide +kernel
set_option maxRecDepth 20000 in
theorem ggX5_sent_X5_part : GoodIn wsX5_sent wsX5_part := goodIn_r _ [8] (by decide +kernel) (by decide +kernel)
set_option maxRecDepth 20000 in
theorem gX5_sent_X5_part : GoodIn wsX5_sent (va_wsS RX5 132 yX5_part wsX5_part) := goodIn_app (goodIn_of _ (by decide +kernel)) ggX5_sent_X5_part
set_option maxRecDepth 20000 in
theorem ggX5_sent_X5_sends : GoodIn wsX5_sent wsX5_sends := goodIn_r _ [12, 2, 13, 14, 15, 7, 16, 17, 18, 19, 20, 24, 25, 26, 27, 28, 29, 30, 31, 32, 33, 34, 35, 36, 37, 38, 39, 40, 41, 42, 43] (by decide +kernel) (by decide +kernel)
set_option maxRecDepth 20000 in
theorem gX5_sent_X5_sends : GoodIn wsX5_sent (wsV RX5 99 RX5 yX5_sends wsX5_sends) := goodIn_app (goodIn_of _ (by decide +kernel)) ggX5_sent_X5_sends
set_option maxRecDepth 20000 in
theorem ggX5_sent_X5_with : GoodIn wsX5_sent wsX5_with := goodIn_r _ [23] (by decide +kernel) (by decide +kernel)
set_option maxRecDepth 20000 in
theorem gX5_sent_X5_with : GoodIn wsX5_sent (va_wsS RX5 135 yX5_with wsX5_with) := goodIn_app (goodIn_of _ (by decide +kernel)) ggX5_sent_X5_with
theorem dX5_sent_0 : decode cX5_sent 0 = .ok (.iload_n 1, 1) := by decide +kernel
theorem dX5_sent_1 : decode cX5_sent 1 = .ok (.istore 4, 2) := by decide +kernel
theorem dX5_sent_3 : decode cX5_sent 3 = .ok (.iload_n 2, 1) := by decide +kernel
theorem dX5_sent_4 : decode cX5_sent 4 = .ok (.bipush 9, 2) := by decide +kernel
theorem dX5_sent_6 : decode cX5_sent 6 = .ok (.if_icmp .eq 31, 3) := by decide +kernel
theorem dX5_sent_9 : decode cX5_sent 9 = .ok (.iload 4, 2) := by decide +kernel
theorem dX5_sent_11 : decode cX5_sent 11 = .ok (.iload_n 2, 1) := by decide +kernel
theorem dX5_sent_12 : decode cX5_sent 12 = .ok (.iconst 3, 1) := by decide +kernel
theorem dX5_sent_13 : decode cX5_sent 13 = .ok (.idiv, 1) := by decide +kernel
theorem dX5_sent_14 : decode cX5_sent 14 = .ok (.aload_n 0, 1) := by decide +kernel
theorem dX5_sent_15 : decode cX5_sent 15 = .ok (.iload_n 2, 1) := by decide +kernel
theorem dX5_sent_16 : decode cX5_sent 16 = .ok (.iconst 3, 1) := by decide +kernel
theorem dX5_sent_17 : decode cX5_sent 17 = .ok (.idiv, 1) := by decide +kernel
theorem dX5_sent_18 : decode cX5_sent 18 = .ok (.iload 4, 2) := by decide +kernel
theorem dX5_sent_20 : decode cX5_sent 20 = .ok (.iload_n 2, 1) := by decide +kernel
theorem dX5_sent_21 : decode cX5_sent 21 = .ok (.iconst 3, 1) := by decide +kernel
theorem dX5_sent_22 : decode cX5_sent 22 = .ok (.idiv, 1) := by decide +kernel
theorem dX5_sent_23 : decode cX5_sent 23 = .ok (.invokestatic 132, 3) := by decide +kernel
theorem dX5_sent_26 : decode cX5_sent 26 = .ok (.iload_n 2, 1) := by decide +kernel
theorem dX5_sent_27 : decode cX5_sent 27 = .ok (.iconst 3, 1) := by decide +kernel
theorem dX5_sent_28 : decode cX5_sent 28 = .ok (.irem, 1) := by decide +kernel
theorem dX5_sent_29 : decode cX5_sent 29 = .ok (.invokevirtual 99, 3) := by decide +kernel
theorem dX5_sent_32 : decode cX5_sent 32 = .ok (.invokestatic 135, 3) := by decide +kernel
theorem dX5_sent_35 : decode cX5_sent 35 = .ok (.istore 4, 2) := by decide +kernel
theorem dX5_sent_37 : decode cX5_sent 37 = .ok (.iconst 0, 1) := by decide +kernel
theorem dX5_sent_38 : decode cX5_sent 38 = .ok (.istore 5, 2) := by decide +kernel
theorem dX5_sent_40 : decode cX5_sent 40 = .ok (.iload 5, 2) := by decide +kernel
theorem dX5_sent_42 : decode cX5_sent 42 = .ok (.aload_n 0, 1) := by decide +kernel
theorem dX5_sent_43 : decode cX5_sent 43 = .ok (.getfield 62, 3) := by decide +kernel
theorem dX5_sent_46 : decode cX5_sent 46 = .ok (.if_icmp .ge 50, 3) := by decide +kernel
theorem dX5_sent_49 : decode cX5_sent 49 = .ok (.aload_n 0, 1) := by decide +kernel
theorem dX5_sent_50 : decode cX5_sent 50 = .ok (.getfield 16, 3) := by decide +kernel
theorem dX5_sent_53 : decode cX5_sent 53 = .ok (.iload 5, 2) := by decide +kernel
theorem dX5_sent_55 : decode cX5_sent 55 = .ok (.iaload, 1) := by decide +kernel
theorem dX5_sent_56 : decode cX5_sent 56 = .ok (.iconst 1, 1) := by decide +kernel
theorem dX5_sent_57 : decode cX5_sent 57 = .ok (.if_icmp .ne 33, 3) := by decide +kernel
theorem dX5_sent_60 : decode cX5_sent 60 = .ok (.iload_n 3, 1) := by decide +kernel
theorem dX5_sent_61 : decode cX5_sent 61 = .ok (.iconst 1, 1) := by decide +kernel
theorem dX5_sent_62 : decode cX5_sent 62 = .ok (.iadd, 1) := by decide +kernel
theorem dX5_sent_63 : decode cX5_sent 63 = .ok (.aload_n 0, 1) := by decide +kernel
theorem dX5_sent_64 : decode cX5_sent 64 = .ok (.getfield 19, 3) := by decide +kernel
theorem dX5_sent_67 : decode cX5_sent 67 = .ok (.iload 5, 2) := by decide +kernel
theorem dX5_sent_69 : decode cX5_sent 69 = .ok (.iaload, 1) := by decide +kernel
theorem dX5_sent_70 : decode cX5_sent 70 = .ok (.irem, 1) := by decide +kernel
theorem dX5_sent_71 : decode cX5_sent 71 = .ok (.ifCond .ne 19, 3) := by decide +kernel
theorem dX5_sent_74 : decode cX5_sent 74 = .ok (.iload 4, 2) := by decide +kernel
theorem dX5_sent_76 : decode cX5_sent 76 = .ok (.iload 5, 2) := by decide +kernel
theorem dX5_sent_78 : decode cX5_sent 78 = .ok (.aload_n 0, 1) := by decide +kernel
theorem dX5_sent_79 : decode cX5_sent 79 = .ok (.getfield 13, 3) := by decide +kernel
theorem dX5_sent_82 : decode cX5_sent 82 = .ok (.iload 5, 2) := by decide +kernel
theorem dX5_sent_84 : decode cX5_sent 84 = .ok (.iaload, 1) := by decide +kernel
theorem dX5_sent_85 : decode cX5_sent 85 = .ok (.invokestatic 135, 3) := by decide +kernel
theorem dX5_sent_88 : decode cX5_sent 88 = .ok (.istore 4, 2) := by decide +kernel
theorem dX5_sent_90 : decode cX5_sent 90 = .ok (.iinc 5 1, 3) := by decide +kernel
theorem dX5_sent_93 : decode cX5_sent 93 = .ok (.goto (-53), 3) := by decide +kernel
theorem dX5_sent_96 : decode cX5_sent 96 = .ok (.iload 4, 2) := by decide +kernel
theorem dX5_sent_98 : decode cX5_sent 98 = .ok (.ireturn, 1) := by decide +kernel
set_option maxRecDepth 20000 in
theorem ggX5_heard_X5_part : GoodIn wsX5_heard wsX5_part := goodIn_r _ [4] (by decide +kernel) (by decide +kernel)
set_option maxRecDepth 20000 in
theorem gX5_heard_X5_part : GoodIn wsX5_heard (va_wsS RX5 132 yX5_part wsX5_part) := goodIn_app (goodIn_of _ (by decide +kernel)) ggX5_heard_X5_part
set_option maxRecDepth 20000 in
theorem ggX5_heard_X5_hears : GoodIn wsX5_heard wsX5_hears := goodIn_r _ [8, 9, 10, 11, 3, 12, 13, 14, 15, 16, 20, 21, 22, 23, 24, 25, 26, 27, 28, 29, 30, 31, 32, 33, 34, 35, 36, 37, 38, 39] (by decide +kernel) (by decide +kernel)
set_option maxRecDepth 20000 in
theorem gX5_heard_X5_hears : GoodIn wsX5_heard (wsV RX5 109 RX5 yX5_hears wsX5_hears) := goodIn_app (goodIn_of _ (by decide +kernel)) ggX5_heard_X5_hears
set_option maxRecDepth 20000 in
theorem ggX5_heard_X5_with : GoodIn wsX5_heard wsX5_with := goodIn_r _ [19] (by decide +kernel) (by decide +kernel)
set_option maxRecDepth 20000 in
theorem gX5_heard_X5_with : GoodIn wsX5_heard (va_wsS RX5 135 yX5_with wsX5_with) := goodIn_app (goodIn_of _ (by decide +kernel)) ggX5_heard_X5_with
theorem dX5_heard_0 : decode cX5_heard 0 = .ok (.iload_n 2, 1) := by decide +kernel
theorem dX5_heard_1 : decode cX5_heard 1 = .ok (.bipush 9, 2) := by decide +kernel
theorem dX5_heard_3 : decode cX5_heard 3 = .ok (.if_icmp .ne 7, 3) := by decide +kernel
theorem dX5_heard_6 : decode cX5_heard 6 = .ok (.iload_n 1, 1) := by decide +kernel
theorem dX5_heard_7 : decode cX5_heard 7 = .ok (.goto 27, 3) := by decide +kernel
theorem dX5_heard_10 : decode cX5_heard 10 = .ok (.iload_n 1, 1) := by decide +kernel
theorem dX5_heard_11 : decode cX5_heard 11 = .ok (.iload_n 2, 1) := by decide +kernel
theorem dX5_heard_12 : decode cX5_heard 12 = .ok (.iconst 3, 1) := by decide +kernel
theorem dX5_heard_13 : decode cX5_heard 13 = .ok (.idiv, 1) := by decide +kernel
theorem dX5_heard_14 : decode cX5_heard 14 = .ok (.aload_n 0, 1) := by decide +kernel
theorem dX5_heard_15 : decode cX5_heard 15 = .ok (.iload_n 2, 1) := by decide +kernel
theorem dX5_heard_16 : decode cX5_heard 16 = .ok (.iconst 3, 1) := by decide +kernel
theorem dX5_heard_17 : decode cX5_heard 17 = .ok (.idiv, 1) := by decide +kernel
theorem dX5_heard_18 : decode cX5_heard 18 = .ok (.iload_n 1, 1) := by decide +kernel
theorem dX5_heard_19 : decode cX5_heard 19 = .ok (.iload_n 2, 1) := by decide +kernel
theorem dX5_heard_20 : decode cX5_heard 20 = .ok (.iconst 3, 1) := by decide +kernel
theorem dX5_heard_21 : decode cX5_heard 21 = .ok (.idiv, 1) := by decide +kernel
theorem dX5_heard_22 : decode cX5_heard 22 = .ok (.invokestatic 132, 3) := by decide +kernel
theorem dX5_heard_25 : decode cX5_heard 25 = .ok (.iload_n 2, 1) := by decide +kernel
theorem dX5_heard_26 : decode cX5_heard 26 = .ok (.iconst 3, 1) := by decide +kernel
theorem dX5_heard_27 : decode cX5_heard 27 = .ok (.irem, 1) := by decide +kernel
theorem dX5_heard_28 : decode cX5_heard 28 = .ok (.invokevirtual 109, 3) := by decide +kernel
theorem dX5_heard_31 : decode cX5_heard 31 = .ok (.invokestatic 135, 3) := by decide +kernel
theorem dX5_heard_34 : decode cX5_heard 34 = .ok (.ireturn, 1) := by decide +kernel
set_option maxRecDepth 20000 in
theorem ggX5_told_X5_part : GoodIn wsX5_told wsX5_part := goodIn_r _ [4] (by decide +kernel) (by decide +kernel)
set_option maxRecDepth 20000 in
theorem gX5_told_X5_part : GoodIn wsX5_told (va_wsS RX5 132 yX5_part wsX5_part) := goodIn_app (goodIn_of _ (by decide +kernel)) ggX5_told_X5_part
set_option maxRecDepth 20000 in
theorem ggX5_told_X5_answers : GoodIn wsX5_told wsX5_answers := goodIn_r _ [8, 9, 10, 11, 12, 13, 3, 14, 15, 16, 17, 18, 19, 20, 21, 22, 23, 24, 25, 26, 27, 28, 29, 30, 31, 32, 33, 34, 35, 36, 37, 38] (by decide +kernel) (by decide +kernel)
set_option maxRecDepth 20000 in
theorem gX5_told_X5_answers : GoodIn wsX5_told (wsV RX5 106 RX5 yX5_answers wsX5_answers) := goodIn_app (goodIn_of _ (by decide +kernel)) ggX5_told_X5_answers
theorem dX5_told_0 : decode cX5_told 0 = .ok (.iload_n 2, 1) := by decide +kernel
theorem dX5_told_1 : decode cX5_told 1 = .ok (.bipush 9, 2) := by decide +kernel
theorem dX5_told_3 : decode cX5_told 3 = .ok (.if_icmp .ne 7, 3) := by decide +kernel
theorem dX5_told_6 : decode cX5_told 6 = .ok (.iconst 0, 1) := by decide +kernel
theorem dX5_told_7 : decode cX5_told 7 = .ok (.goto 20, 3) := by decide +kernel
theorem dX5_told_10 : decode cX5_told 10 = .ok (.aload_n 0, 1) := by decide +kernel
theorem dX5_told_11 : decode cX5_told 11 = .ok (.iload_n 2, 1) := by decide +kernel
theorem dX5_told_12 : decode cX5_told 12 = .ok (.iconst 3, 1) := by decide +kernel
theorem dX5_told_13 : decode cX5_told 13 = .ok (.idiv, 1) := by decide +kernel
theorem dX5_told_14 : decode cX5_told 14 = .ok (.iload_n 1, 1) := by decide +kernel
theorem dX5_told_15 : decode cX5_told 15 = .ok (.iload_n 2, 1) := by decide +kernel
theorem dX5_told_16 : decode cX5_told 16 = .ok (.iconst 3, 1) := by decide +kernel
theorem dX5_told_17 : decode cX5_told 17 = .ok (.idiv, 1) := by decide +kernel
theorem dX5_told_18 : decode cX5_told 18 = .ok (.invokestatic 132, 3) := by decide +kernel
theorem dX5_told_21 : decode cX5_told 21 = .ok (.iload_n 2, 1) := by decide +kernel
theorem dX5_told_22 : decode cX5_told 22 = .ok (.iconst 3, 1) := by decide +kernel
theorem dX5_told_23 : decode cX5_told 23 = .ok (.irem, 1) := by decide +kernel
theorem dX5_told_24 : decode cX5_told 24 = .ok (.invokevirtual 106, 3) := by decide +kernel
theorem dX5_told_27 : decode cX5_told 27 = .ok (.ireturn, 1) := by decide +kernel
set_option maxRecDepth 20000 in
theorem ggX5_spreads_X5_isAct : GoodIn wsX5_spreads wsX5_isAct := goodIn_r _ [5, 6, 7, 8, 4, 9, 35, 36, 37, 38, 39, 40, 41, 42, 43, 44, 45, 46, 47, 48, 49, 50, 51, 52, 53, 54] (by decide +kernel) (by decide +kernel)
set_option maxRecDepth 20000 in
theorem gX5_spreads_X5_isAct : GoodIn wsX5_spreads (wsV RX5 138 RX5 yX5_isAct wsX5_isAct) := goodIn_app (goodIn_of _ (by decide +kernel)) ggX5_spreads_X5_isAct
set_option maxRecDepth 20000 in
theorem ggX5_spreads_X5_sent : GoodIn wsX5_spreads wsX5_sent := goodIn_r _ [13, 6, 14, 15, 16, 17, 18, 4, 19, 20, 21, 22, 23, 24, 25, 26, 27, 28, 29, 30, 31, 32, 33, 34, 35, 36, 37, 38, 39, 40, 41, 42, 43, 44, 45, 46, 47, 48, 49, 50, 51, 52, 53, 54] (by decide +kernel) (by decide +kernel)
set_option maxRecDepth 20000 in
theorem gX5_spreads_X5_sent : GoodIn wsX5_spreads (wsV RX5 141 RX5 yX5_sent wsX5_sent) := goodIn_app (goodIn_of _ (by decide +kernel)) ggX5_spreads_X5_sent
theorem dX5_spreads_0 : decode cX5_spreads 0 = .ok (.lconst 0, 1) := by decide +kernel
theorem dX5_spreads_1 : decode cX5_spreads 1 = .ok (.lstore 4, 2) := by decide +kernel
theorem dX5_spreads_3 : decode cX5_spreads 3 = .ok (.iconst 0, 1) := by decide +kernel
theorem dX5_spreads_4 : decode cX5_spreads 4 = .ok (.istore 6, 2) := by decide +kernel
theorem dX5_spreads_6 : decode cX5_spreads 6 = .ok (.iload 6, 2) := by decide +kernel
theorem dX5_spreads_8 : decode cX5_spreads 8 = .ok (.bipush 64, 2) := by decide +kernel
theorem dX5_spreads_10 : decode cX5_spreads 10 = .ok (.if_icmp .ge 64, 3) := by decide +kernel
theorem dX5_spreads_13 : decode cX5_spreads 13 = .ok (.lload_n 1, 1) := by decide +kernel
theorem dX5_spreads_14 : decode cX5_spreads 14 = .ok (.iload 6, 2) := by decide +kernel
theorem dX5_spreads_16 : decode cX5_spreads 16 = .ok (.lshr, 1) := by decide +kernel
theorem dX5_spreads_17 : decode cX5_spreads 17 = .ok (.lconst 1, 1) := by decide +kernel
theorem dX5_spreads_18 : decode cX5_spreads 18 = .ok (.land, 1) := by decide +kernel
theorem dX5_spreads_19 : decode cX5_spreads 19 = .ok (.lconst 0, 1) := by decide +kernel
theorem dX5_spreads_20 : decode cX5_spreads 20 = .ok (.lcmp, 1) := by decide +kernel
theorem dX5_spreads_21 : decode cX5_spreads 21 = .ok (.ifCond .ne 6, 3) := by decide +kernel
theorem dX5_spreads_24 : decode cX5_spreads 24 = .ok (.goto 44, 3) := by decide +kernel
theorem dX5_spreads_27 : decode cX5_spreads 27 = .ok (.iconst 0, 1) := by decide +kernel
theorem dX5_spreads_28 : decode cX5_spreads 28 = .ok (.istore 7, 2) := by decide +kernel
theorem dX5_spreads_30 : decode cX5_spreads 30 = .ok (.iload 7, 2) := by decide +kernel
theorem dX5_spreads_32 : decode cX5_spreads 32 = .ok (.bipush 9, 2) := by decide +kernel
theorem dX5_spreads_34 : decode cX5_spreads 34 = .ok (.if_icmp .gt 34, 3) := by decide +kernel
theorem dX5_spreads_37 : decode cX5_spreads 37 = .ok (.aload_n 0, 1) := by decide +kernel
theorem dX5_spreads_38 : decode cX5_spreads 38 = .ok (.iload 7, 2) := by decide +kernel
theorem dX5_spreads_40 : decode cX5_spreads 40 = .ok (.invokevirtual 138, 3) := by decide +kernel
theorem dX5_spreads_43 : decode cX5_spreads 43 = .ok (.ifCond .eq 19, 3) := by decide +kernel
theorem dX5_spreads_46 : decode cX5_spreads 46 = .ok (.lload 4, 2) := by decide +kernel
theorem dX5_spreads_48 : decode cX5_spreads 48 = .ok (.lconst 1, 1) := by decide +kernel
theorem dX5_spreads_49 : decode cX5_spreads 49 = .ok (.aload_n 0, 1) := by decide +kernel
theorem dX5_spreads_50 : decode cX5_spreads 50 = .ok (.iload 6, 2) := by decide +kernel
theorem dX5_spreads_52 : decode cX5_spreads 52 = .ok (.iload 7, 2) := by decide +kernel
theorem dX5_spreads_54 : decode cX5_spreads 54 = .ok (.iload_n 3, 1) := by decide +kernel
theorem dX5_spreads_55 : decode cX5_spreads 55 = .ok (.invokevirtual 141, 3) := by decide +kernel
theorem dX5_spreads_58 : decode cX5_spreads 58 = .ok (.lshl, 1) := by decide +kernel
theorem dX5_spreads_59 : decode cX5_spreads 59 = .ok (.lor, 1) := by decide +kernel
theorem dX5_spreads_60 : decode cX5_spreads 60 = .ok (.lstore 4, 2) := by decide +kernel
theorem dX5_spreads_62 : decode cX5_spreads 62 = .ok (.iinc 7 1, 3) := by decide +kernel
theorem dX5_spreads_65 : decode cX5_spreads 65 = .ok (.goto (-35), 3) := by decide +kernel
theorem dX5_spreads_68 : decode cX5_spreads 68 = .ok (.iinc 6 1, 3) := by decide +kernel
theorem dX5_spreads_71 : decode cX5_spreads 71 = .ok (.goto (-65), 3) := by decide +kernel
theorem dX5_spreads_74 : decode cX5_spreads 74 = .ok (.lload 4, 2) := by decide +kernel
theorem dX5_spreads_76 : decode cX5_spreads 76 = .ok (.lreturn, 1) := by decide +kernel
set_option maxRecDepth 20000 in
theorem ggX5_parts_X5_told : GoodIn wsX5_parts wsX5_told := goodIn_r _ [5, 6, 7, 4, 8, 9, 10, 11, 12, 13, 14, 15, 16, 17, 18, 19, 20, 21, 22, 34, 35, 36, 37, 38, 39, 40, 41, 42, 43, 44, 45, 46, 47, 48, 49, 50, 51, 52, 53] (by decide +kernel) (by decide +kernel)
set_option maxRecDepth 20000 in
theorem gX5_parts_X5_told : GoodIn wsX5_parts (wsV RX5 144 RX5 yX5_told wsX5_told) := goodIn_app (goodIn_of _ (by decide +kernel)) ggX5_parts_X5_told
set_option maxRecDepth 20000 in
theorem ggX5_parts_X5_heard : GoodIn wsX5_parts wsX5_heard := goodIn_r _ [26, 6, 7, 4, 8, 27, 28, 29, 30, 15, 16, 17, 18, 19, 20, 21, 22, 31, 32, 33, 34, 35, 36, 37, 38, 39, 40, 41, 42, 43, 44, 45, 46, 47, 48, 49, 50, 51, 52, 53] (by decide +kernel) (by decide +kernel)
set_option maxRecDepth 20000 in
theorem gX5_parts_X5_heard : GoodIn wsX5_parts (wsV RX5 147 RX5 yX5_heard wsX5_heard) := goodIn_app (goodIn_of _ (by decide +kernel)) ggX5_parts_X5_heard
theorem dX5_parts_0 : decode cX5_parts 0 = .ok (.lconst 0, 1) := by decide +kernel
theorem dX5_parts_1 : decode cX5_parts 1 = .ok (.lstore 5, 2) := by decide +kernel
theorem dX5_parts_3 : decode cX5_parts 3 = .ok (.iconst 0, 1) := by decide +kernel
theorem dX5_parts_4 : decode cX5_parts 4 = .ok (.istore 7, 2) := by decide +kernel
theorem dX5_parts_6 : decode cX5_parts 6 = .ok (.iload 7, 2) := by decide +kernel
theorem dX5_parts_8 : decode cX5_parts 8 = .ok (.bipush 64, 2) := by decide +kernel
theorem dX5_parts_10 : decode cX5_parts 10 = .ok (.if_icmp .ge 46, 3) := by decide +kernel
theorem dX5_parts_13 : decode cX5_parts 13 = .ok (.lload_n 1, 1) := by decide +kernel
theorem dX5_parts_14 : decode cX5_parts 14 = .ok (.iload 7, 2) := by decide +kernel
theorem dX5_parts_16 : decode cX5_parts 16 = .ok (.lshr, 1) := by decide +kernel
theorem dX5_parts_17 : decode cX5_parts 17 = .ok (.lconst 1, 1) := by decide +kernel
theorem dX5_parts_18 : decode cX5_parts 18 = .ok (.land, 1) := by decide +kernel
theorem dX5_parts_19 : decode cX5_parts 19 = .ok (.lconst 1, 1) := by decide +kernel
theorem dX5_parts_20 : decode cX5_parts 20 = .ok (.lcmp, 1) := by decide +kernel
theorem dX5_parts_21 : decode cX5_parts 21 = .ok (.ifCond .ne 29, 3) := by decide +kernel
theorem dX5_parts_24 : decode cX5_parts 24 = .ok (.aload_n 0, 1) := by decide +kernel
theorem dX5_parts_25 : decode cX5_parts 25 = .ok (.iload 7, 2) := by decide +kernel
theorem dX5_parts_27 : decode cX5_parts 27 = .ok (.iload_n 3, 1) := by decide +kernel
theorem dX5_parts_28 : decode cX5_parts 28 = .ok (.invokevirtual 144, 3) := by decide +kernel
theorem dX5_parts_31 : decode cX5_parts 31 = .ok (.iload 4, 2) := by decide +kernel
theorem dX5_parts_33 : decode cX5_parts 33 = .ok (.if_icmp .ne 17, 3) := by decide +kernel
theorem dX5_parts_36 : decode cX5_parts 36 = .ok (.lload 5, 2) := by decide +kernel
theorem dX5_parts_38 : decode cX5_parts 38 = .ok (.lconst 1, 1) := by decide +kernel
theorem dX5_parts_39 : decode cX5_parts 39 = .ok (.aload_n 0, 1) := by decide +kernel
theorem dX5_parts_40 : decode cX5_parts 40 = .ok (.iload 7, 2) := by decide +kernel
theorem dX5_parts_42 : decode cX5_parts 42 = .ok (.iload_n 3, 1) := by decide +kernel
theorem dX5_parts_43 : decode cX5_parts 43 = .ok (.invokevirtual 147, 3) := by decide +kernel
theorem dX5_parts_46 : decode cX5_parts 46 = .ok (.lshl, 1) := by decide +kernel
theorem dX5_parts_47 : decode cX5_parts 47 = .ok (.lor, 1) := by decide +kernel
theorem dX5_parts_48 : decode cX5_parts 48 = .ok (.lstore 5, 2) := by decide +kernel
theorem dX5_parts_50 : decode cX5_parts 50 = .ok (.iinc 7 1, 3) := by decide +kernel
theorem dX5_parts_53 : decode cX5_parts 53 = .ok (.goto (-47), 3) := by decide +kernel
theorem dX5_parts_56 : decode cX5_parts 56 = .ok (.lload 5, 2) := by decide +kernel
theorem dX5_parts_58 : decode cX5_parts 58 = .ok (.lreturn, 1) := by decide +kernel
set_option maxRecDepth 20000 in
theorem ggX5_most_X5_spreads : GoodIn wsX5_most wsX5_spreads := goodIn_r _ [13, 14, 15, 16, 12, 17, 18, 19, 20, 21, 22, 23, 24, 25, 26, 27, 28, 29, 30, 31, 32, 33, 34, 35, 36, 37, 38, 39, 40, 41, 42, 43, 44, 45, 46, 79, 80, 81, 82, 83, 84, 85, 86, 87, 88, 89, 90, 91, 92, 93, 94, 95, 96, 97, 98] (by decide +kernel) (by decide +kernel)
set_option maxRecDepth 20000 in
theorem gX5_most_X5_spreads : GoodIn wsX5_most (wsV RX5 159 RX5 yX5_spreads wsX5_spreads) := goodIn_app (goodIn_of _ (by decide +kernel)) ggX5_most_X5_spreads
set_option maxRecDepth 20000 in
theorem ggX5_most_X5_isAct : GoodIn wsX5_most wsX5_isAct := goodIn_r _ [17, 18, 19, 20, 12, 21, 79, 80, 81, 82, 83, 84, 85, 86, 87, 88, 89, 90, 91, 92, 93, 94, 95, 96, 97, 98] (by decide +kernel) (by decide +kernel)
set_option maxRecDepth 20000 in
theorem gX5_most_X5_isAct : GoodIn wsX5_most (wsV RX5 138 RX5 yX5_isAct wsX5_isAct) := goodIn_app (goodIn_of _ (by decide +kernel)) ggX5_most_X5_isAct
set_option maxRecDepth 20000 in
theorem ggX5_most_X5_answersOf : GoodIn wsX5_most wsX5_answersOf := goodIn_r _ [50, 51, 52, 53, 12, 54, 29, 30, 31, 55, 56, 57, 58, 26, 59, 36, 37, 38, 39, 40, 41, 42, 43, 79, 80, 81, 82, 83, 84, 85, 86, 87, 88, 89, 90, 91, 92, 93, 94, 95, 96, 97, 98] (by decide +kernel) (by decide +kernel)
set_option maxRecDepth 20000 in
theorem gX5_most_X5_answersOf : GoodIn wsX5_most (wsV RX5 163 RX5 yX5_answersOf wsX5_answersOf) := goodIn_app (goodIn_of _ (by decide +kernel)) ggX5_most_X5_answersOf
set_option maxRecDepth 20000 in
theorem ggX5_most_X5_by : GoodIn wsX5_most wsX5_by := goodIn_r _ [63, 64, 65, 66, 12, 67, 51, 52, 53, 54, 29, 30, 31, 55, 56, 57, 58, 26, 59, 36, 37, 38, 39, 40, 41, 42, 43, 68, 69, 70, 71, 72, 73, 74, 75, 44, 45, 46, 76, 77, 78, 0, 1, 2, 3, 4, 5, 6, 7, 8, 9, 10, 11, 13, 14, 15, 16, 17, 18, 19, 20, 21, 22, 23, 24, 25, 27, 28, 32, 33, 34, 35, 47, 48, 49, 50, 60, 61, 62, 79, 80, 81, 82, 83, 84, 85, 86, 87, 88, 89, 90, 91, 92, 93, 94, 95, 96, 97, 98] (by decide +kernel) (by decide +kernel)
set_option maxRecDepth 20000 in
theorem gX5_most_X5_by : GoodIn wsX5_most (wsV RX5 167 RX5 yX5_by wsX5_by) := goodIn_app (goodIn_of _ (by decide +kernel)) ggX5_most_X5_by
theorem dX5_most_0 : decode cX5_most 0 = .ok (.lload_n 1, 1) := by decide +kernel
theorem dX5_most_1 : decode cX5_most 1 = .ok (.lconst 0, 1) := by decide +kernel
theorem dX5_most_2 : decode cX5_most 2 = .ok (.lcmp, 1) := by decide +kernel
theorem dX5_most_3 : decode cX5_most 3 = .ok (.ifCond .ne 5, 3) := by decide +kernel
theorem dX5_most_6 : decode cX5_most 6 = .ok (.iconst 0, 1) := by decide +kernel
theorem dX5_most_7 : decode cX5_most 7 = .ok (.ireturn, 1) := by decide +kernel
theorem dX5_most_8 : decode cX5_most 8 = .ok (.iload_n 3, 1) := by decide +kernel
theorem dX5_most_9 : decode cX5_most 9 = .ok (.iload 4, 2) := by decide +kernel
theorem dX5_most_11 : decode cX5_most 11 = .ok (.if_icmp .ne 5, 3) := by decide +kernel
theorem dX5_most_14 : decode cX5_most 14 = .ok (.iconst 1, 1) := by decide +kernel
theorem dX5_most_15 : decode cX5_most 15 = .ok (.ireturn, 1) := by decide +kernel
theorem dX5_most_16 : decode cX5_most 16 = .ok (.lload_n 1, 1) := by decide +kernel
theorem dX5_most_17 : decode cX5_most 17 = .ok (.lload_n 1, 1) := by decide +kernel
theorem dX5_most_18 : decode cX5_most 18 = .ok (.bipush 23, 2) := by decide +kernel
theorem dX5_most_20 : decode cX5_most 20 = .ok (.lushr, 1) := by decide +kernel
theorem dX5_most_21 : decode cX5_most 21 = .ok (.lxor, 1) := by decide +kernel
theorem dX5_most_22 : decode cX5_most 22 = .ok (.lload_n 1, 1) := by decide +kernel
theorem dX5_most_23 : decode cX5_most 23 = .ok (.bipush 41, 2) := by decide +kernel
theorem dX5_most_25 : decode cX5_most 25 = .ok (.lushr, 1) := by decide +kernel
theorem dX5_most_26 : decode cX5_most 26 = .ok (.lxor, 1) := by decide +kernel
theorem dX5_most_27 : decode cX5_most 27 = .ok (.ldc2_w 150, 3) := by decide +kernel
theorem dX5_most_30 : decode cX5_most 30 = .ok (.lmul, 1) := by decide +kernel
theorem dX5_most_31 : decode cX5_most 31 = .ok (.ldc2_w 152, 3) := by decide +kernel
theorem dX5_most_34 : decode cX5_most 34 = .ok (.iload_n 3, 1) := by decide +kernel
theorem dX5_most_35 : decode cX5_most 35 = .ok (.i2l, 1) := by decide +kernel
theorem dX5_most_36 : decode cX5_most 36 = .ok (.lmul, 1) := by decide +kernel
theorem dX5_most_37 : decode cX5_most 37 = .ok (.ladd, 1) := by decide +kernel
theorem dX5_most_38 : decode cX5_most 38 = .ok (.ldc2_w 154, 3) := by decide +kernel
theorem dX5_most_41 : decode cX5_most 41 = .ok (.land, 1) := by decide +kernel
theorem dX5_most_42 : decode cX5_most 42 = .ok (.l2i, 1) := by decide +kernel
theorem dX5_most_43 : decode cX5_most 43 = .ok (.istore 5, 2) := by decide +kernel
theorem dX5_most_45 : decode cX5_most 45 = .ok (.aload_n 0, 1) := by decide +kernel
theorem dX5_most_46 : decode cX5_most 46 = .ok (.getfield 47, 3) := by decide +kernel
theorem dX5_most_49 : decode cX5_most 49 = .ok (.iload 5, 2) := by decide +kernel
theorem dX5_most_51 : decode cX5_most 51 = .ok (.iaload, 1) := by decide +kernel
theorem dX5_most_52 : decode cX5_most 52 = .ok (.aload_n 0, 1) := by decide +kernel
theorem dX5_most_53 : decode cX5_most 53 = .ok (.getfield 156, 3) := by decide +kernel
theorem dX5_most_56 : decode cX5_most 56 = .ok (.if_icmp .ne 34, 3) := by decide +kernel
theorem dX5_most_59 : decode cX5_most 59 = .ok (.aload_n 0, 1) := by decide +kernel
theorem dX5_most_60 : decode cX5_most 60 = .ok (.getfield 41, 3) := by decide +kernel
theorem dX5_most_63 : decode cX5_most 63 = .ok (.iload 5, 2) := by decide +kernel
theorem dX5_most_65 : decode cX5_most 65 = .ok (.laload, 1) := by decide +kernel
theorem dX5_most_66 : decode cX5_most 66 = .ok (.lload_n 1, 1) := by decide +kernel
theorem dX5_most_67 : decode cX5_most 67 = .ok (.lcmp, 1) := by decide +kernel
theorem dX5_most_68 : decode cX5_most 68 = .ok (.ifCond .ne 22, 3) := by decide +kernel
theorem dX5_most_71 : decode cX5_most 71 = .ok (.aload_n 0, 1) := by decide +kernel
theorem dX5_most_72 : decode cX5_most 72 = .ok (.getfield 44, 3) := by decide +kernel
theorem dX5_most_75 : decode cX5_most 75 = .ok (.iload 5, 2) := by decide +kernel
theorem dX5_most_77 : decode cX5_most 77 = .ok (.iaload, 1) := by decide +kernel
theorem dX5_most_78 : decode cX5_most 78 = .ok (.iload_n 3, 1) := by decide +kernel
theorem dX5_most_79 : decode cX5_most 79 = .ok (.if_icmp .ne 11, 3) := by decide +kernel
theorem dX5_most_82 : decode cX5_most 82 = .ok (.aload_n 0, 1) := by decide +kernel
theorem dX5_most_83 : decode cX5_most 83 = .ok (.getfield 50, 3) := by decide +kernel
theorem dX5_most_86 : decode cX5_most 86 = .ok (.iload 5, 2) := by decide +kernel
theorem dX5_most_88 : decode cX5_most 88 = .ok (.iaload, 1) := by decide +kernel
theorem dX5_most_89 : decode cX5_most 89 = .ok (.ireturn, 1) := by decide +kernel
theorem dX5_most_90 : decode cX5_most 90 = .ok (.aload_n 0, 1) := by decide +kernel
theorem dX5_most_91 : decode cX5_most 91 = .ok (.lload_n 1, 1) := by decide +kernel
theorem dX5_most_92 : decode cX5_most 92 = .ok (.iload_n 3, 1) := by decide +kernel
theorem dX5_most_93 : decode cX5_most 93 = .ok (.invokevirtual 159, 3) := by decide +kernel
theorem dX5_most_96 : decode cX5_most 96 = .ok (.lstore 6, 2) := by decide +kernel
theorem dX5_most_98 : decode cX5_most 98 = .ok (.iconst 0, 1) := by decide +kernel
theorem dX5_most_99 : decode cX5_most 99 = .ok (.istore 8, 2) := by decide +kernel
theorem dX5_most_101 : decode cX5_most 101 = .ok (.iconst 0, 1) := by decide +kernel
theorem dX5_most_102 : decode cX5_most 102 = .ok (.istore 9, 2) := by decide +kernel
theorem dX5_most_104 : decode cX5_most 104 = .ok (.iload 9, 2) := by decide +kernel
theorem dX5_most_106 : decode cX5_most 106 = .ok (.bipush 9, 2) := by decide +kernel
theorem dX5_most_108 : decode cX5_most 108 = .ok (.if_icmp .gt 70, 3) := by decide +kernel
theorem dX5_most_111 : decode cX5_most 111 = .ok (.aload_n 0, 1) := by decide +kernel
theorem dX5_most_112 : decode cX5_most 112 = .ok (.iload 9, 2) := by decide +kernel
theorem dX5_most_114 : decode cX5_most 114 = .ok (.invokevirtual 138, 3) := by decide +kernel
theorem dX5_most_117 : decode cX5_most 117 = .ok (.ifCond .ne 7, 3) := by decide +kernel
theorem dX5_most_120 : decode cX5_most 120 = .ok (.iconst 0, 1) := by decide +kernel
theorem dX5_most_121 : decode cX5_most 121 = .ok (.goto 33, 3) := by decide +kernel
theorem dX5_most_124 : decode cX5_most 124 = .ok (.iload_n 3, 1) := by decide +kernel
theorem dX5_most_125 : decode cX5_most 125 = .ok (.iload 4, 2) := by decide +kernel
theorem dX5_most_127 : decode cX5_most 127 = .ok (.iconst 1, 1) := by decide +kernel
theorem dX5_most_128 : decode cX5_most 128 = .ok (.isub, 1) := by decide +kernel
theorem dX5_most_129 : decode cX5_most 129 = .ok (.if_icmp .ne 14, 3) := by decide +kernel
theorem dX5_most_132 : decode cX5_most 132 = .ok (.aload_n 0, 1) := by decide +kernel
theorem dX5_most_133 : decode cX5_most 133 = .ok (.lload 6, 2) := by decide +kernel
theorem dX5_most_135 : decode cX5_most 135 = .ok (.iload 9, 2) := by decide +kernel
theorem dX5_most_137 : decode cX5_most 137 = .ok (.invokevirtual 163, 3) := by decide +kernel
theorem dX5_most_140 : decode cX5_most 140 = .ok (.goto 14, 3) := by decide +kernel
theorem dX5_most_143 : decode cX5_most 143 = .ok (.aload_n 0, 1) := by decide +kernel
theorem dX5_most_144 : decode cX5_most 144 = .ok (.lload 6, 2) := by decide +kernel
theorem dX5_most_146 : decode cX5_most 146 = .ok (.iload_n 3, 1) := by decide +kernel
theorem dX5_most_147 : decode cX5_most 147 = .ok (.iload 4, 2) := by decide +kernel
theorem dX5_most_149 : decode cX5_most 149 = .ok (.iload 9, 2) := by decide +kernel
theorem dX5_most_151 : decode cX5_most 151 = .ok (.invokevirtual 167, 3) := by decide +kernel
theorem dX5_most_154 : decode cX5_most 154 = .ok (.istore 10, 2) := by decide +kernel
theorem dX5_most_156 : decode cX5_most 156 = .ok (.iload 10, 2) := by decide +kernel
theorem dX5_most_158 : decode cX5_most 158 = .ok (.iload 8, 2) := by decide +kernel
theorem dX5_most_160 : decode cX5_most 160 = .ok (.if_icmp .le 8, 3) := by decide +kernel
theorem dX5_most_163 : decode cX5_most 163 = .ok (.iload 10, 2) := by decide +kernel
theorem dX5_most_165 : decode cX5_most 165 = .ok (.goto 5, 3) := by decide +kernel
theorem dX5_most_168 : decode cX5_most 168 = .ok (.iload 8, 2) := by decide +kernel
theorem dX5_most_170 : decode cX5_most 170 = .ok (.istore 8, 2) := by decide +kernel
theorem dX5_most_172 : decode cX5_most 172 = .ok (.iinc 9 1, 3) := by decide +kernel
theorem dX5_most_175 : decode cX5_most 175 = .ok (.goto (-71), 3) := by decide +kernel
theorem dX5_most_178 : decode cX5_most 178 = .ok (.aload_n 0, 1) := by decide +kernel
theorem dX5_most_179 : decode cX5_most 179 = .ok (.getfield 47, 3) := by decide +kernel
theorem dX5_most_182 : decode cX5_most 182 = .ok (.iload 5, 2) := by decide +kernel
theorem dX5_most_184 : decode cX5_most 184 = .ok (.aload_n 0, 1) := by decide +kernel
theorem dX5_most_185 : decode cX5_most 185 = .ok (.getfield 156, 3) := by decide +kernel
theorem dX5_most_188 : decode cX5_most 188 = .ok (.iastore, 1) := by decide +kernel
theorem dX5_most_189 : decode cX5_most 189 = .ok (.aload_n 0, 1) := by decide +kernel
theorem dX5_most_190 : decode cX5_most 190 = .ok (.getfield 41, 3) := by decide +kernel
theorem dX5_most_193 : decode cX5_most 193 = .ok (.iload 5, 2) := by decide +kernel
theorem dX5_most_195 : decode cX5_most 195 = .ok (.lload_n 1, 1) := by decide +kernel
theorem dX5_most_196 : decode cX5_most 196 = .ok (.lastore, 1) := by decide +kernel
theorem dX5_most_197 : decode cX5_most 197 = .ok (.aload_n 0, 1) := by decide +kernel
theorem dX5_most_198 : decode cX5_most 198 = .ok (.getfield 44, 3) := by decide +kernel
theorem dX5_most_201 : decode cX5_most 201 = .ok (.iload 5, 2) := by decide +kernel
theorem dX5_most_203 : decode cX5_most 203 = .ok (.iload_n 3, 1) := by decide +kernel
theorem dX5_most_204 : decode cX5_most 204 = .ok (.iastore, 1) := by decide +kernel
theorem dX5_most_205 : decode cX5_most 205 = .ok (.aload_n 0, 1) := by decide +kernel
theorem dX5_most_206 : decode cX5_most 206 = .ok (.getfield 50, 3) := by decide +kernel
theorem dX5_most_209 : decode cX5_most 209 = .ok (.iload 5, 2) := by decide +kernel
theorem dX5_most_211 : decode cX5_most 211 = .ok (.iload 8, 2) := by decide +kernel
theorem dX5_most_213 : decode cX5_most 213 = .ok (.iastore, 1) := by decide +kernel
theorem dX5_most_214 : decode cX5_most 214 = .ok (.iload 8, 2) := by decide +kernel
theorem dX5_most_216 : decode cX5_most 216 = .ok (.ireturn, 1) := by decide +kernel
set_option maxRecDepth 20000 in
theorem ggX5_answersOf_X5_told : GoodIn wsX5_answersOf wsX5_told := goodIn_r _ [5, 6, 7, 4, 8, 9, 10, 11, 12, 13, 14, 15, 16, 17, 18, 19, 20, 21, 22, 23, 24, 25, 26, 27, 28, 29, 30, 31, 32, 33, 34, 35, 36, 37, 38, 39, 40, 41, 42] (by decide +kernel) (by decide +kernel)
set_option maxRecDepth 20000 in
theorem gX5_answersOf_X5_told : GoodIn wsX5_answersOf (wsV RX5 144 RX5 yX5_told wsX5_told) := goodIn_app (goodIn_of _ (by decide +kernel)) ggX5_answersOf_X5_told
theorem dX5_answersOf_0 : decode cX5_answersOf 0 = .ok (.iconst 0, 1) := by decide +kernel
theorem dX5_answersOf_1 : decode cX5_answersOf 1 = .ok (.istore 4, 2) := by decide +kernel
theorem dX5_answersOf_3 : decode cX5_answersOf 3 = .ok (.iconst 0, 1) := by decide +kernel
theorem dX5_answersOf_4 : decode cX5_answersOf 4 = .ok (.istore 5, 2) := by decide +kernel
theorem dX5_answersOf_6 : decode cX5_answersOf 6 = .ok (.iload 5, 2) := by decide +kernel
theorem dX5_answersOf_8 : decode cX5_answersOf 8 = .ok (.bipush 64, 2) := by decide +kernel
theorem dX5_answersOf_10 : decode cX5_answersOf 10 = .ok (.if_icmp .ge 41, 3) := by decide +kernel
theorem dX5_answersOf_13 : decode cX5_answersOf 13 = .ok (.iload 4, 2) := by decide +kernel
theorem dX5_answersOf_15 : decode cX5_answersOf 15 = .ok (.bipush 15, 2) := by decide +kernel
theorem dX5_answersOf_17 : decode cX5_answersOf 17 = .ok (.if_icmp .eq 34, 3) := by decide +kernel
theorem dX5_answersOf_20 : decode cX5_answersOf 20 = .ok (.lload_n 1, 1) := by decide +kernel
theorem dX5_answersOf_21 : decode cX5_answersOf 21 = .ok (.iload 5, 2) := by decide +kernel
theorem dX5_answersOf_23 : decode cX5_answersOf 23 = .ok (.lshr, 1) := by decide +kernel
theorem dX5_answersOf_24 : decode cX5_answersOf 24 = .ok (.lconst 1, 1) := by decide +kernel
theorem dX5_answersOf_25 : decode cX5_answersOf 25 = .ok (.land, 1) := by decide +kernel
theorem dX5_answersOf_26 : decode cX5_answersOf 26 = .ok (.lconst 1, 1) := by decide +kernel
theorem dX5_answersOf_27 : decode cX5_answersOf 27 = .ok (.lcmp, 1) := by decide +kernel
theorem dX5_answersOf_28 : decode cX5_answersOf 28 = .ok (.ifCond .ne 17, 3) := by decide +kernel
theorem dX5_answersOf_31 : decode cX5_answersOf 31 = .ok (.iload 4, 2) := by decide +kernel
theorem dX5_answersOf_33 : decode cX5_answersOf 33 = .ok (.iconst 1, 1) := by decide +kernel
theorem dX5_answersOf_34 : decode cX5_answersOf 34 = .ok (.aload_n 0, 1) := by decide +kernel
theorem dX5_answersOf_35 : decode cX5_answersOf 35 = .ok (.iload 5, 2) := by decide +kernel
theorem dX5_answersOf_37 : decode cX5_answersOf 37 = .ok (.iload_n 3, 1) := by decide +kernel
theorem dX5_answersOf_38 : decode cX5_answersOf 38 = .ok (.invokevirtual 144, 3) := by decide +kernel
theorem dX5_answersOf_41 : decode cX5_answersOf 41 = .ok (.ishl, 1) := by decide +kernel
theorem dX5_answersOf_42 : decode cX5_answersOf 42 = .ok (.ior, 1) := by decide +kernel
theorem dX5_answersOf_43 : decode cX5_answersOf 43 = .ok (.istore 4, 2) := by decide +kernel
theorem dX5_answersOf_45 : decode cX5_answersOf 45 = .ok (.iinc 5 1, 3) := by decide +kernel
theorem dX5_answersOf_48 : decode cX5_answersOf 48 = .ok (.goto (-42), 3) := by decide +kernel
theorem dX5_answersOf_51 : decode cX5_answersOf 51 = .ok (.iload 4, 2) := by decide +kernel
theorem dX5_answersOf_53 : decode cX5_answersOf 53 = .ok (.iconst 1, 1) := by decide +kernel
theorem dX5_answersOf_54 : decode cX5_answersOf 54 = .ok (.iand, 1) := by decide +kernel
theorem dX5_answersOf_55 : decode cX5_answersOf 55 = .ok (.iload 4, 2) := by decide +kernel
theorem dX5_answersOf_57 : decode cX5_answersOf 57 = .ok (.iconst 1, 1) := by decide +kernel
theorem dX5_answersOf_58 : decode cX5_answersOf 58 = .ok (.ishr, 1) := by decide +kernel
theorem dX5_answersOf_59 : decode cX5_answersOf 59 = .ok (.iconst 1, 1) := by decide +kernel
theorem dX5_answersOf_60 : decode cX5_answersOf 60 = .ok (.iand, 1) := by decide +kernel
theorem dX5_answersOf_61 : decode cX5_answersOf 61 = .ok (.iadd, 1) := by decide +kernel
theorem dX5_answersOf_62 : decode cX5_answersOf 62 = .ok (.iload 4, 2) := by decide +kernel
theorem dX5_answersOf_64 : decode cX5_answersOf 64 = .ok (.iconst 2, 1) := by decide +kernel
theorem dX5_answersOf_65 : decode cX5_answersOf 65 = .ok (.ishr, 1) := by decide +kernel
theorem dX5_answersOf_66 : decode cX5_answersOf 66 = .ok (.iconst 1, 1) := by decide +kernel
theorem dX5_answersOf_67 : decode cX5_answersOf 67 = .ok (.iand, 1) := by decide +kernel
theorem dX5_answersOf_68 : decode cX5_answersOf 68 = .ok (.iadd, 1) := by decide +kernel
theorem dX5_answersOf_69 : decode cX5_answersOf 69 = .ok (.iload 4, 2) := by decide +kernel
theorem dX5_answersOf_71 : decode cX5_answersOf 71 = .ok (.iconst 3, 1) := by decide +kernel
theorem dX5_answersOf_72 : decode cX5_answersOf 72 = .ok (.ishr, 1) := by decide +kernel
theorem dX5_answersOf_73 : decode cX5_answersOf 73 = .ok (.iconst 1, 1) := by decide +kernel
theorem dX5_answersOf_74 : decode cX5_answersOf 74 = .ok (.iand, 1) := by decide +kernel
theorem dX5_answersOf_75 : decode cX5_answersOf 75 = .ok (.iadd, 1) := by decide +kernel
theorem dX5_answersOf_76 : decode cX5_answersOf 76 = .ok (.ireturn, 1) := by decide +kernel
set_option maxRecDepth 20000 in
theorem ggX5_by_X5_parts : GoodIn wsX5_by wsX5_parts := goodIn_r _ [5, 6, 7, 8, 4, 9, 10, 11, 12, 13, 14, 15, 16, 17, 18, 19, 20, 21, 22, 23, 24, 25, 26, 27, 28, 29, 30, 31, 32, 33, 34, 35, 36, 37, 79, 80, 81, 82, 83, 84, 85, 86, 87, 88, 89, 90, 91, 92, 93, 94, 95, 96, 97, 98] (by decide +kernel) (by decide +kernel)
set_option maxRecDepth 20000 in
theorem gX5_by_X5_parts : GoodIn wsX5_by (wsV RX5 171 RX5 yX5_parts wsX5_parts) := goodIn_app (goodIn_of _ (by decide +kernel)) ggX5_by_X5_parts
set_option maxRecDepth 20000 in
theorem ggX5_by_X5_most : GoodIn wsX5_by wsX5_most := goodIn_r _ [41, 42, 43, 44, 45, 46, 47, 48, 49, 50, 51, 52, 4, 53, 54, 55, 56, 57, 58, 59, 60, 61, 62, 63, 64, 65, 17, 66, 67, 10, 11, 12, 68, 69, 70, 71, 19, 20, 21, 22, 23, 24, 25, 26, 35, 36, 37, 72, 73, 74, 75, 6, 7, 8, 9, 13, 14, 15, 16, 18, 76, 77, 78, 0, 1, 2, 3, 5, 27, 28, 29, 30, 31, 32, 33, 34, 38, 39, 40, 79, 80, 81, 82, 83, 84, 85, 86, 87, 88, 89, 90, 91, 92, 93, 94, 95, 96, 97, 98] (by decide +kernel) (by decide +kernel)
set_option maxRecDepth 20000 in
theorem gX5_by_X5_most : GoodIn wsX5_by (wsV RX5 175 RX5 yX5_most wsX5_most) := goodIn_app (goodIn_of _ (by decide +kernel)) ggX5_by_X5_most
theorem dX5_by_0 : decode cX5_by 0 = .ok (.iconst 0, 1) := by decide +kernel
theorem dX5_by_1 : decode cX5_by 1 = .ok (.istore 6, 2) := by decide +kernel
theorem dX5_by_3 : decode cX5_by 3 = .ok (.iconst 0, 1) := by decide +kernel
theorem dX5_by_4 : decode cX5_by 4 = .ok (.istore 7, 2) := by decide +kernel
theorem dX5_by_6 : decode cX5_by 6 = .ok (.iload 7, 2) := by decide +kernel
theorem dX5_by_8 : decode cX5_by 8 = .ok (.iconst 4, 1) := by decide +kernel
theorem dX5_by_9 : decode cX5_by 9 = .ok (.if_icmp .ge 32, 3) := by decide +kernel
theorem dX5_by_12 : decode cX5_by 12 = .ok (.iload 6, 2) := by decide +kernel
theorem dX5_by_14 : decode cX5_by 14 = .ok (.aload_n 0, 1) := by decide +kernel
theorem dX5_by_15 : decode cX5_by 15 = .ok (.aload_n 0, 1) := by decide +kernel
theorem dX5_by_16 : decode cX5_by 16 = .ok (.lload_n 1, 1) := by decide +kernel
theorem dX5_by_17 : decode cX5_by 17 = .ok (.iload 5, 2) := by decide +kernel
theorem dX5_by_19 : decode cX5_by 19 = .ok (.iload 7, 2) := by decide +kernel
theorem dX5_by_21 : decode cX5_by 21 = .ok (.invokevirtual 171, 3) := by decide +kernel
theorem dX5_by_24 : decode cX5_by 24 = .ok (.iload_n 3, 1) := by decide +kernel
theorem dX5_by_25 : decode cX5_by 25 = .ok (.iconst 1, 1) := by decide +kernel
theorem dX5_by_26 : decode cX5_by 26 = .ok (.iadd, 1) := by decide +kernel
theorem dX5_by_27 : decode cX5_by 27 = .ok (.iload 4, 2) := by decide +kernel
theorem dX5_by_29 : decode cX5_by 29 = .ok (.invokevirtual 175, 3) := by decide +kernel
theorem dX5_by_32 : decode cX5_by 32 = .ok (.iadd, 1) := by decide +kernel
theorem dX5_by_33 : decode cX5_by 33 = .ok (.istore 6, 2) := by decide +kernel
theorem dX5_by_35 : decode cX5_by 35 = .ok (.iinc 7 1, 3) := by decide +kernel
theorem dX5_by_38 : decode cX5_by 38 = .ok (.goto (-32), 3) := by decide +kernel
theorem dX5_by_41 : decode cX5_by 41 = .ok (.iload 6, 2) := by decide +kernel
theorem dX5_by_43 : decode cX5_by 43 = .ok (.ireturn, 1) := by decide +kernel
set_option maxRecDepth 20000 in
theorem ggX5_letters_X5_isIn : GoodIn wsX5_letters wsX5_isIn := goodIn_r _ [5] (by decide +kernel) (by decide +kernel)
set_option maxRecDepth 20000 in
theorem gX5_letters_X5_isIn : GoodIn wsX5_letters (va_wsS RX5 66 yX5_isIn wsX5_isIn) := goodIn_app (goodIn_of _ (by decide +kernel)) ggX5_letters_X5_isIn
set_option maxRecDepth 20000 in
theorem ggX5_letters_X5_startOf : GoodIn wsX5_letters wsX5_startOf := goodIn_r _ [9, 10, 11, 84, 85, 86, 87, 88, 89, 90, 91, 92, 93, 94, 95, 96, 97, 98, 99, 100, 101, 102, 103] (by decide +kernel) (by decide +kernel)
set_option maxRecDepth 20000 in
theorem gX5_letters_X5_startOf : GoodIn wsX5_letters (wsV RX5 179 RX5 yX5_startOf wsX5_startOf) := goodIn_app (goodIn_of _ (by decide +kernel)) ggX5_letters_X5_startOf
set_option maxRecDepth 20000 in
theorem ggX5_letters_X5_most : GoodIn wsX5_letters wsX5_most := goodIn_r _ [15, 16, 17, 18, 19, 1, 20, 21, 22, 23, 24, 25, 4, 26, 27, 28, 29, 30, 10, 2, 3, 5, 31, 32, 33, 34, 35, 36, 11, 37, 38, 39, 40, 41, 42, 43, 44, 45, 46, 47, 48, 49, 50, 51, 52, 53, 54, 55, 56, 57, 58, 59, 60, 61, 62, 63, 64, 65, 66, 67, 68, 69, 70, 71, 72, 73, 74, 75, 76, 77, 78, 79, 80, 81, 82, 83, 12, 13, 14, 84, 85, 86, 87, 88, 89, 90, 91, 92, 93, 94, 95, 96, 97, 98, 99, 100, 101, 102, 103] (by decide +kernel) (by decide +kernel)
set_option maxRecDepth 20000 in
theorem gX5_letters_X5_most : GoodIn wsX5_letters (wsV RX5 175 RX5 yX5_most wsX5_most) := goodIn_app (goodIn_of _ (by decide +kernel)) ggX5_letters_X5_most
theorem dX5_letters_0 : decode cX5_letters 0 = .ok (.aload_n 0, 1) := by decide +kernel
theorem dX5_letters_1 : decode cX5_letters 1 = .ok (.dup, 1) := by decide +kernel
theorem dX5_letters_2 : decode cX5_letters 2 = .ok (.getfield 156, 3) := by decide +kernel
theorem dX5_letters_5 : decode cX5_letters 5 = .ok (.iconst 1, 1) := by decide +kernel
theorem dX5_letters_6 : decode cX5_letters 6 = .ok (.iadd, 1) := by decide +kernel
theorem dX5_letters_7 : decode cX5_letters 7 = .ok (.putfield 156, 3) := by decide +kernel
theorem dX5_letters_10 : decode cX5_letters 10 = .ok (.iload_n 1, 1) := by decide +kernel
theorem dX5_letters_11 : decode cX5_letters 11 = .ok (.iconst 0, 1) := by decide +kernel
theorem dX5_letters_12 : decode cX5_letters 12 = .ok (.iconst 3, 1) := by decide +kernel
theorem dX5_letters_13 : decode cX5_letters 13 = .ok (.invokestatic 66, 3) := by decide +kernel
theorem dX5_letters_16 : decode cX5_letters 16 = .ok (.ifCond .eq 18, 3) := by decide +kernel
theorem dX5_letters_19 : decode cX5_letters 19 = .ok (.aload_n 0, 1) := by decide +kernel
theorem dX5_letters_20 : decode cX5_letters 20 = .ok (.lconst 1, 1) := by decide +kernel
theorem dX5_letters_21 : decode cX5_letters 21 = .ok (.aload_n 0, 1) := by decide +kernel
theorem dX5_letters_22 : decode cX5_letters 22 = .ok (.invokevirtual 179, 3) := by decide +kernel
theorem dX5_letters_25 : decode cX5_letters 25 = .ok (.lshl, 1) := by decide +kernel
theorem dX5_letters_26 : decode cX5_letters 26 = .ok (.iconst 0, 1) := by decide +kernel
theorem dX5_letters_27 : decode cX5_letters 27 = .ok (.iload_n 1, 1) := by decide +kernel
theorem dX5_letters_28 : decode cX5_letters 28 = .ok (.invokevirtual 175, 3) := by decide +kernel
theorem dX5_letters_31 : decode cX5_letters 31 = .ok (.goto 4, 3) := by decide +kernel
theorem dX5_letters_34 : decode cX5_letters 34 = .ok (.iconst (-1), 1) := by decide +kernel
theorem dX5_letters_35 : decode cX5_letters 35 = .ok (.ireturn, 1) := by decide +kernel
set_option maxRecDepth 20000 in
theorem ggX5_finds_X5_startOf : GoodIn wsX5_finds wsX5_startOf := goodIn_r _ [8, 9, 10, 86, 87, 88, 89, 90, 91, 92, 93, 94, 95, 96, 97, 98, 99, 100, 101, 102, 103, 104, 105] (by decide +kernel) (by decide +kernel)
set_option maxRecDepth 20000 in
theorem gX5_finds_X5_startOf : GoodIn wsX5_finds (wsV RX5 179 RX5 yX5_startOf wsX5_startOf) := goodIn_app (goodIn_of _ (by decide +kernel)) ggX5_finds_X5_startOf
set_option maxRecDepth 20000 in
theorem ggX5_finds_X5_spreads : GoodIn wsX5_finds wsX5_spreads := goodIn_r _ [14, 15, 16, 17, 7, 18, 9, 19, 20, 21, 22, 23, 24, 25, 26, 27, 10, 28, 29, 30, 31, 32, 33, 34, 35, 36, 37, 38, 39, 40, 41, 42, 43, 44, 45, 86, 87, 88, 89, 90, 91, 92, 93, 94, 95, 96, 97, 98, 99, 100, 101, 102, 103, 104, 105] (by decide +kernel) (by decide +kernel)
set_option maxRecDepth 20000 in
theorem gX5_finds_X5_spreads : GoodIn wsX5_finds (wsV RX5 159 RX5 yX5_spreads wsX5_spreads) := goodIn_app (goodIn_of _ (by decide +kernel)) ggX5_finds_X5_spreads
set_option maxRecDepth 20000 in
theorem ggX5_finds_X5_most : GoodIn wsX5_finds wsX5_most := goodIn_r _ [49, 50, 51, 52, 53, 1, 54, 55, 56, 11, 12, 13, 7, 14, 15, 16, 17, 18, 9, 19, 20, 21, 22, 23, 24, 25, 26, 27, 10, 28, 29, 30, 31, 32, 33, 34, 35, 36, 37, 38, 39, 40, 41, 42, 43, 44, 45, 57, 58, 59, 60, 61, 62, 63, 64, 65, 66, 67, 68, 69, 70, 71, 72, 73, 74, 75, 76, 77, 78, 79, 80, 81, 82, 83, 84, 85, 46, 47, 48, 86, 87, 88, 89, 90, 91, 92, 93, 94, 95, 96, 97, 98, 99, 100, 101, 102, 103, 104, 105] (by decide +kernel) (by decide +kernel)
set_option maxRecDepth 20000 in
theorem gX5_finds_X5_most : GoodIn wsX5_finds (wsV RX5 175 RX5 yX5_most wsX5_most) := goodIn_app (goodIn_of _ (by decide +kernel)) ggX5_finds_X5_most
set_option maxRecDepth 20000 in
theorem ggX5_finds_X5_isAct : GoodIn wsX5_finds wsX5_isAct := goodIn_r _ [18, 9, 19, 20, 7, 21, 86, 87, 88, 89, 90, 91, 92, 93, 94, 95, 96, 97, 98, 99, 100, 101, 102, 103, 104, 105] (by decide +kernel) (by decide +kernel)
set_option maxRecDepth 20000 in
theorem gX5_finds_X5_isAct : GoodIn wsX5_finds (wsV RX5 138 RX5 yX5_isAct wsX5_isAct) := goodIn_app (goodIn_of _ (by decide +kernel)) ggX5_finds_X5_isAct
set_option maxRecDepth 20000 in
theorem ggX5_finds_X5_by : GoodIn wsX5_finds wsX5_by := goodIn_r _ [73, 74, 75, 76, 7, 77, 61, 62, 63, 64, 28, 29, 30, 65, 66, 67, 68, 26, 69, 35, 36, 37, 38, 39, 40, 41, 42, 78, 79, 80, 81, 82, 83, 84, 85, 43, 44, 45, 46, 47, 48, 49, 50, 51, 52, 53, 1, 54, 55, 56, 11, 12, 13, 14, 15, 16, 17, 18, 9, 19, 20, 21, 22, 23, 24, 25, 27, 10, 31, 32, 33, 34, 57, 58, 59, 60, 70, 71, 72, 86, 87, 88, 89, 90, 91, 92, 93, 94, 95, 96, 97, 98, 99, 100, 101, 102, 103, 104, 105] (by decide +kernel) (by decide +kernel)
set_option maxRecDepth 20000 in
theorem gX5_finds_X5_by : GoodIn wsX5_finds (wsV RX5 167 RX5 yX5_by wsX5_by) := goodIn_app (goodIn_of _ (by decide +kernel)) ggX5_finds_X5_by
set_option maxRecDepth 20000 in
theorem ggX5_finds_X5_parts : GoodIn wsX5_finds wsX5_parts := goodIn_r _ [77, 61, 62, 63, 7, 64, 28, 29, 30, 65, 66, 67, 68, 26, 69, 35, 36, 37, 38, 39, 40, 41, 42, 78, 79, 80, 81, 82, 83, 84, 85, 43, 44, 45, 86, 87, 88, 89, 90, 91, 92, 93, 94, 95, 96, 97, 98, 99, 100, 101, 102, 103, 104, 105] (by decide +kernel) (by decide +kernel)
set_option maxRecDepth 20000 in
theorem gX5_finds_X5_parts : GoodIn wsX5_finds (wsV RX5 171 RX5 yX5_parts wsX5_parts) := goodIn_app (goodIn_of _ (by decide +kernel)) ggX5_finds_X5_parts
theorem dX5_finds_0 : decode cX5_finds 0 = .ok (.aload_n 0, 1) := by decide +kernel
theorem dX5_finds_1 : decode cX5_finds 1 = .ok (.dup, 1) := by decide +kernel
theorem dX5_finds_2 : decode cX5_finds 2 = .ok (.getfield 156, 3) := by decide +kernel
theorem dX5_finds_5 : decode cX5_finds 5 = .ok (.iconst 1, 1) := by decide +kernel
theorem dX5_finds_6 : decode cX5_finds 6 = .ok (.iadd, 1) := by decide +kernel
theorem dX5_finds_7 : decode cX5_finds 7 = .ok (.putfield 156, 3) := by decide +kernel
theorem dX5_finds_10 : decode cX5_finds 10 = .ok (.lconst 1, 1) := by decide +kernel
theorem dX5_finds_11 : decode cX5_finds 11 = .ok (.aload_n 0, 1) := by decide +kernel
theorem dX5_finds_12 : decode cX5_finds 12 = .ok (.invokevirtual 179, 3) := by decide +kernel
theorem dX5_finds_15 : decode cX5_finds 15 = .ok (.lshl, 1) := by decide +kernel
theorem dX5_finds_16 : decode cX5_finds 16 = .ok (.lstore_n 3, 1) := by decide +kernel
theorem dX5_finds_17 : decode cX5_finds 17 = .ok (.iload_n 2, 1) := by decide +kernel
theorem dX5_finds_18 : decode cX5_finds 18 = .ok (.istore 5, 2) := by decide +kernel
theorem dX5_finds_20 : decode cX5_finds 20 = .ok (.iconst 0, 1) := by decide +kernel
theorem dX5_finds_21 : decode cX5_finds 21 = .ok (.istore 6, 2) := by decide +kernel
theorem dX5_finds_23 : decode cX5_finds 23 = .ok (.iload 6, 2) := by decide +kernel
theorem dX5_finds_25 : decode cX5_finds 25 = .ok (.iload_n 1, 1) := by decide +kernel
theorem dX5_finds_26 : decode cX5_finds 26 = .ok (.if_icmp .ge 162, 3) := by decide +kernel
theorem dX5_finds_29 : decode cX5_finds 29 = .ok (.aload_n 0, 1) := by decide +kernel
theorem dX5_finds_30 : decode cX5_finds 30 = .ok (.lload_n 3, 1) := by decide +kernel
theorem dX5_finds_31 : decode cX5_finds 31 = .ok (.iload 6, 2) := by decide +kernel
theorem dX5_finds_33 : decode cX5_finds 33 = .ok (.invokevirtual 159, 3) := by decide +kernel
theorem dX5_finds_36 : decode cX5_finds 36 = .ok (.lstore 7, 2) := by decide +kernel
theorem dX5_finds_38 : decode cX5_finds 38 = .ok (.aload_n 0, 1) := by decide +kernel
theorem dX5_finds_39 : decode cX5_finds 39 = .ok (.lload_n 3, 1) := by decide +kernel
theorem dX5_finds_40 : decode cX5_finds 40 = .ok (.iload 6, 2) := by decide +kernel
theorem dX5_finds_42 : decode cX5_finds 42 = .ok (.iload_n 1, 1) := by decide +kernel
theorem dX5_finds_43 : decode cX5_finds 43 = .ok (.invokevirtual 175, 3) := by decide +kernel
theorem dX5_finds_46 : decode cX5_finds 46 = .ok (.istore 9, 2) := by decide +kernel
theorem dX5_finds_48 : decode cX5_finds 48 = .ok (.iconst 0, 1) := by decide +kernel
theorem dX5_finds_49 : decode cX5_finds 49 = .ok (.istore 10, 2) := by decide +kernel
theorem dX5_finds_51 : decode cX5_finds 51 = .ok (.aload_n 0, 1) := by decide +kernel
theorem dX5_finds_52 : decode cX5_finds 52 = .ok (.iload 10, 2) := by decide +kernel
theorem dX5_finds_54 : decode cX5_finds 54 = .ok (.invokevirtual 138, 3) := by decide +kernel
theorem dX5_finds_57 : decode cX5_finds 57 = .ok (.ifCond .eq 19, 3) := by decide +kernel
theorem dX5_finds_60 : decode cX5_finds 60 = .ok (.aload_n 0, 1) := by decide +kernel
theorem dX5_finds_61 : decode cX5_finds 61 = .ok (.lload 7, 2) := by decide +kernel
theorem dX5_finds_63 : decode cX5_finds 63 = .ok (.iload 6, 2) := by decide +kernel
theorem dX5_finds_65 : decode cX5_finds 65 = .ok (.iload_n 1, 1) := by decide +kernel
theorem dX5_finds_66 : decode cX5_finds 66 = .ok (.iload 10, 2) := by decide +kernel
theorem dX5_finds_68 : decode cX5_finds 68 = .ok (.invokevirtual 167, 3) := by decide +kernel
theorem dX5_finds_71 : decode cX5_finds 71 = .ok (.iload 9, 2) := by decide +kernel
theorem dX5_finds_73 : decode cX5_finds 73 = .ok (.if_icmp .eq 9, 3) := by decide +kernel
theorem dX5_finds_76 : decode cX5_finds 76 = .ok (.iinc 10 1, 3) := by decide +kernel
theorem dX5_finds_79 : decode cX5_finds 79 = .ok (.goto (-28), 3) := by decide +kernel
theorem dX5_finds_82 : decode cX5_finds 82 = .ok (.aload_n 0, 1) := by decide +kernel
theorem dX5_finds_83 : decode cX5_finds 83 = .ok (.getfield 53, 3) := by decide +kernel
theorem dX5_finds_86 : decode cX5_finds 86 = .ok (.iload 6, 2) := by decide +kernel
theorem dX5_finds_88 : decode cX5_finds 88 = .ok (.iload 10, 2) := by decide +kernel
theorem dX5_finds_90 : decode cX5_finds 90 = .ok (.iastore, 1) := by decide +kernel
theorem dX5_finds_91 : decode cX5_finds 91 = .ok (.iconst 0, 1) := by decide +kernel
theorem dX5_finds_92 : decode cX5_finds 92 = .ok (.istore 11, 2) := by decide +kernel
theorem dX5_finds_94 : decode cX5_finds 94 = .ok (.iload 11, 2) := by decide +kernel
theorem dX5_finds_96 : decode cX5_finds 96 = .ok (.iconst 4, 1) := by decide +kernel
theorem dX5_finds_97 : decode cX5_finds 97 = .ok (.if_icmp .ge 57, 3) := by decide +kernel
end
section
theorem dX5_finds_100 : decode cX5_finds 100 = .ok (.iload 5, 2) := by decide +kernel
theorem dX5_finds_102 : decode cX5_finds 102 = .ok (.aload_n 0, 1) := by decide +kernel
theorem dX5_finds_103 : decode cX5_finds 103 = .ok (.aload_n 0, 1) := by decide +kernel
theorem dX5_finds_104 : decode cX5_finds 104 = .ok (.lload 7, 2) := by decide +kernel
theorem dX5_finds_106 : decode cX5_finds 106 = .ok (.iload 10, 2) := by decide +kernel
theorem dX5_finds_108 : decode cX5_finds 108 = .ok (.iload 11, 2) := by decide +kernel
theorem dX5_finds_110 : decode cX5_finds 110 = .ok (.invokevirtual 171, 3) := by decide +kernel
theorem dX5_finds_113 : decode cX5_finds 113 = .ok (.iload 6, 2) := by decide +kernel
theorem dX5_finds_115 : decode cX5_finds 115 = .ok (.iconst 1, 1) := by decide +kernel
theorem dX5_finds_116 : decode cX5_finds 116 = .ok (.iadd, 1) := by decide +kernel
theorem dX5_finds_117 : decode cX5_finds 117 = .ok (.iload_n 1, 1) := by decide +kernel
theorem dX5_finds_118 : decode cX5_finds 118 = .ok (.invokevirtual 175, 3) := by decide +kernel
theorem dX5_finds_121 : decode cX5_finds 121 = .ok (.if_icmp .lt 33, 3) := by decide +kernel
theorem dX5_finds_124 : decode cX5_finds 124 = .ok (.iload 5, 2) := by decide +kernel
theorem dX5_finds_126 : decode cX5_finds 126 = .ok (.aload_n 0, 1) := by decide +kernel
theorem dX5_finds_127 : decode cX5_finds 127 = .ok (.aload_n 0, 1) := by decide +kernel
theorem dX5_finds_128 : decode cX5_finds 128 = .ok (.lload 7, 2) := by decide +kernel
theorem dX5_finds_130 : decode cX5_finds 130 = .ok (.iload 10, 2) := by decide +kernel
theorem dX5_finds_132 : decode cX5_finds 132 = .ok (.iload 11, 2) := by decide +kernel
theorem dX5_finds_134 : decode cX5_finds 134 = .ok (.invokevirtual 171, 3) := by decide +kernel
theorem dX5_finds_137 : decode cX5_finds 137 = .ok (.iload 6, 2) := by decide +kernel
theorem dX5_finds_139 : decode cX5_finds 139 = .ok (.iconst 1, 1) := by decide +kernel
theorem dX5_finds_140 : decode cX5_finds 140 = .ok (.iadd, 1) := by decide +kernel
theorem dX5_finds_141 : decode cX5_finds 141 = .ok (.iload_n 1, 1) := by decide +kernel
theorem dX5_finds_142 : decode cX5_finds 142 = .ok (.invokevirtual 175, 3) := by decide +kernel
theorem dX5_finds_145 : decode cX5_finds 145 = .ok (.isub, 1) := by decide +kernel
theorem dX5_finds_146 : decode cX5_finds 146 = .ok (.istore 5, 2) := by decide +kernel
theorem dX5_finds_148 : decode cX5_finds 148 = .ok (.iinc 11 1, 3) := by decide +kernel
theorem dX5_finds_151 : decode cX5_finds 151 = .ok (.goto (-57), 3) := by decide +kernel
theorem dX5_finds_154 : decode cX5_finds 154 = .ok (.iload 11, 2) := by decide +kernel
theorem dX5_finds_156 : decode cX5_finds 156 = .ok (.iconst 4, 1) := by decide +kernel
theorem dX5_finds_157 : decode cX5_finds 157 = .ok (.if_icmp .ne 5, 3) := by decide +kernel
theorem dX5_finds_160 : decode cX5_finds 160 = .ok (.iconst 0, 1) := by decide +kernel
theorem dX5_finds_161 : decode cX5_finds 161 = .ok (.ireturn, 1) := by decide +kernel
theorem dX5_finds_162 : decode cX5_finds 162 = .ok (.aload_n 0, 1) := by decide +kernel
theorem dX5_finds_163 : decode cX5_finds 163 = .ok (.getfield 56, 3) := by decide +kernel
theorem dX5_finds_166 : decode cX5_finds 166 = .ok (.iload 6, 2) := by decide +kernel
theorem dX5_finds_168 : decode cX5_finds 168 = .ok (.iload 11, 2) := by decide +kernel
theorem dX5_finds_170 : decode cX5_finds 170 = .ok (.iastore, 1) := by decide +kernel
theorem dX5_finds_171 : decode cX5_finds 171 = .ok (.aload_n 0, 1) := by decide +kernel
theorem dX5_finds_172 : decode cX5_finds 172 = .ok (.lload 7, 2) := by decide +kernel
theorem dX5_finds_174 : decode cX5_finds 174 = .ok (.iload 10, 2) := by decide +kernel
theorem dX5_finds_176 : decode cX5_finds 176 = .ok (.iload 11, 2) := by decide +kernel
theorem dX5_finds_178 : decode cX5_finds 178 = .ok (.invokevirtual 171, 3) := by decide +kernel
theorem dX5_finds_181 : decode cX5_finds 181 = .ok (.lstore_n 3, 1) := by decide +kernel
theorem dX5_finds_182 : decode cX5_finds 182 = .ok (.iinc 6 1, 3) := by decide +kernel
theorem dX5_finds_185 : decode cX5_finds 185 = .ok (.goto (-162), 3) := by decide +kernel
theorem dX5_finds_188 : decode cX5_finds 188 = .ok (.iload 5, 2) := by decide +kernel
theorem dX5_finds_190 : decode cX5_finds 190 = .ok (.ifCond .ne 7, 3) := by decide +kernel
theorem dX5_finds_193 : decode cX5_finds 193 = .ok (.iconst 1, 1) := by decide +kernel
theorem dX5_finds_194 : decode cX5_finds 194 = .ok (.goto 4, 3) := by decide +kernel
theorem dX5_finds_197 : decode cX5_finds 197 = .ok (.iconst 0, 1) := by decide +kernel
theorem dX5_finds_198 : decode cX5_finds 198 = .ok (.ireturn, 1) := by decide +kernel
set_option maxRecDepth 20000 in
theorem ggX5_leads_X5_isAct : GoodIn wsX5_leads wsX5_isAct := goodIn_r _ [8, 9, 10, 11, 7, 12, 58, 59, 60, 61, 62, 63, 64, 65, 66, 67, 68, 69, 70, 71, 72, 73, 74, 75, 76, 77] (by decide +kernel) (by decide +kernel)
set_option maxRecDepth 20000 in
theorem gX5_leads_X5_isAct : GoodIn wsX5_leads (wsV RX5 138 RX5 yX5_isAct wsX5_isAct) := goodIn_app (goodIn_of _ (by decide +kernel)) ggX5_leads_X5_isAct
set_option maxRecDepth 20000 in
theorem ggX5_leads_X5_sent : GoodIn wsX5_leads wsX5_sent := goodIn_r _ [16, 9, 17, 18, 19, 20, 21, 7, 22, 23, 24, 25, 26, 27, 28, 29, 30, 31, 32, 33, 34, 35, 36, 37, 58, 59, 60, 61, 62, 63, 64, 65, 66, 67, 68, 69, 70, 71, 72, 73, 74, 75, 76, 77] (by decide +kernel) (by decide +kernel)
set_option maxRecDepth 20000 in
theorem gX5_leads_X5_sent : GoodIn wsX5_leads (wsV RX5 141 RX5 yX5_sent wsX5_sent) := goodIn_app (goodIn_of _ (by decide +kernel)) ggX5_leads_X5_sent
set_option maxRecDepth 20000 in
theorem ggX5_leads_X5_told : GoodIn wsX5_leads wsX5_told := goodIn_r _ [41, 20, 21, 7, 22, 42, 43, 44, 45, 17, 46, 27, 28, 29, 30, 31, 32, 33, 34, 58, 59, 60, 61, 62, 63, 64, 65, 66, 67, 68, 69, 70, 71, 72, 73, 74, 75, 76, 77] (by decide +kernel) (by decide +kernel)
set_option maxRecDepth 20000 in
theorem gX5_leads_X5_told : GoodIn wsX5_leads (wsV RX5 144 RX5 yX5_told wsX5_told) := goodIn_app (goodIn_of _ (by decide +kernel)) ggX5_leads_X5_told
set_option maxRecDepth 20000 in
theorem ggX5_leads_X5_heard : GoodIn wsX5_leads wsX5_heard := goodIn_r _ [50, 20, 21, 7, 22, 51, 52, 53, 54, 27, 28, 29, 30, 31, 32, 33, 34, 35, 36, 37, 58, 59, 60, 61, 62, 63, 64, 65, 66, 67, 68, 69, 70, 71, 72, 73, 74, 75, 76, 77] (by decide +kernel) (by decide +kernel)
set_option maxRecDepth 20000 in
theorem gX5_leads_X5_heard : GoodIn wsX5_leads (wsV RX5 147 RX5 yX5_heard wsX5_heard) := goodIn_app (goodIn_of _ (by decide +kernel)) ggX5_leads_X5_heard
set_option maxRecDepth 20000 in
theorem ggX5_leads_X5_leads : GoodIn wsX5_leads wsX5_leads := goodIn_r _ [0, 1, 2, 3, 4, 5, 6, 7, 8, 9, 10, 11, 12, 13, 14, 15, 16, 17, 18, 19, 20, 21, 22, 23, 24, 25, 26, 27, 28, 29, 30, 31, 32, 33, 34, 35, 36, 37, 38, 39, 40, 41, 42, 43, 44, 45, 46, 47, 48, 49, 50, 51, 52, 53, 54, 55, 56, 57, 58, 59, 60, 61, 62, 63, 64, 65, 66, 67, 68, 69, 70, 71, 72, 73, 74, 75, 76, 77] (by decide +kernel) (by decide +kernel)
set_option maxRecDepth 20000 in
theorem gX5_leads_X5_leads : GoodIn wsX5_leads (wsV RX5 182 RX5 yX5_leads wsX5_leads) := goodIn_app (goodIn_of _ (by decide +kernel)) ggX5_leads_X5_leads
theorem dX5_leads_0 : decode cX5_leads 0 = .ok (.iload_n 2, 1) := by decide +kernel
theorem dX5_leads_1 : decode cX5_leads 1 = .ok (.iload_n 3, 1) := by decide +kernel
theorem dX5_leads_2 : decode cX5_leads 2 = .ok (.if_icmp .ne 5, 3) := by decide +kernel
theorem dX5_leads_5 : decode cX5_leads 5 = .ok (.iconst 1, 1) := by decide +kernel
theorem dX5_leads_6 : decode cX5_leads 6 = .ok (.ireturn, 1) := by decide +kernel
theorem dX5_leads_7 : decode cX5_leads 7 = .ok (.iconst 0, 1) := by decide +kernel
theorem dX5_leads_8 : decode cX5_leads 8 = .ok (.istore 4, 2) := by decide +kernel
theorem dX5_leads_10 : decode cX5_leads 10 = .ok (.iload 4, 2) := by decide +kernel
theorem dX5_leads_12 : decode cX5_leads 12 = .ok (.bipush 9, 2) := by decide +kernel
theorem dX5_leads_14 : decode cX5_leads 14 = .ok (.if_icmp .gt 88, 3) := by decide +kernel
theorem dX5_leads_17 : decode cX5_leads 17 = .ok (.aload_n 0, 1) := by decide +kernel
theorem dX5_leads_18 : decode cX5_leads 18 = .ok (.iload 4, 2) := by decide +kernel
theorem dX5_leads_20 : decode cX5_leads 20 = .ok (.invokevirtual 138, 3) := by decide +kernel
theorem dX5_leads_23 : decode cX5_leads 23 = .ok (.ifCond .ne 6, 3) := by decide +kernel
theorem dX5_leads_26 : decode cX5_leads 26 = .ok (.goto 70, 3) := by decide +kernel
theorem dX5_leads_29 : decode cX5_leads 29 = .ok (.aload_n 0, 1) := by decide +kernel
theorem dX5_leads_30 : decode cX5_leads 30 = .ok (.iload_n 1, 1) := by decide +kernel
theorem dX5_leads_31 : decode cX5_leads 31 = .ok (.iload 4, 2) := by decide +kernel
theorem dX5_leads_33 : decode cX5_leads 33 = .ok (.iload_n 2, 1) := by decide +kernel
theorem dX5_leads_34 : decode cX5_leads 34 = .ok (.invokevirtual 141, 3) := by decide +kernel
theorem dX5_leads_37 : decode cX5_leads 37 = .ok (.istore 5, 2) := by decide +kernel
theorem dX5_leads_39 : decode cX5_leads 39 = .ok (.aload_n 0, 1) := by decide +kernel
theorem dX5_leads_40 : decode cX5_leads 40 = .ok (.iload 5, 2) := by decide +kernel
theorem dX5_leads_42 : decode cX5_leads 42 = .ok (.aload_n 0, 1) := by decide +kernel
theorem dX5_leads_43 : decode cX5_leads 43 = .ok (.getfield 53, 3) := by decide +kernel
theorem dX5_leads_46 : decode cX5_leads 46 = .ok (.iload_n 2, 1) := by decide +kernel
theorem dX5_leads_47 : decode cX5_leads 47 = .ok (.iaload, 1) := by decide +kernel
theorem dX5_leads_48 : decode cX5_leads 48 = .ok (.invokevirtual 144, 3) := by decide +kernel
theorem dX5_leads_51 : decode cX5_leads 51 = .ok (.aload_n 0, 1) := by decide +kernel
theorem dX5_leads_52 : decode cX5_leads 52 = .ok (.getfield 56, 3) := by decide +kernel
theorem dX5_leads_55 : decode cX5_leads 55 = .ok (.iload_n 2, 1) := by decide +kernel
theorem dX5_leads_56 : decode cX5_leads 56 = .ok (.iaload, 1) := by decide +kernel
theorem dX5_leads_57 : decode cX5_leads 57 = .ok (.if_icmp .ne 39, 3) := by decide +kernel
theorem dX5_leads_60 : decode cX5_leads 60 = .ok (.aload_n 0, 1) := by decide +kernel
theorem dX5_leads_61 : decode cX5_leads 61 = .ok (.aload_n 0, 1) := by decide +kernel
theorem dX5_leads_62 : decode cX5_leads 62 = .ok (.iload 5, 2) := by decide +kernel
theorem dX5_leads_64 : decode cX5_leads 64 = .ok (.aload_n 0, 1) := by decide +kernel
theorem dX5_leads_65 : decode cX5_leads 65 = .ok (.getfield 53, 3) := by decide +kernel
theorem dX5_leads_68 : decode cX5_leads 68 = .ok (.iload_n 2, 1) := by decide +kernel
theorem dX5_leads_69 : decode cX5_leads 69 = .ok (.iaload, 1) := by decide +kernel
theorem dX5_leads_70 : decode cX5_leads 70 = .ok (.invokevirtual 147, 3) := by decide +kernel
theorem dX5_leads_73 : decode cX5_leads 73 = .ok (.iload_n 2, 1) := by decide +kernel
theorem dX5_leads_74 : decode cX5_leads 74 = .ok (.iconst 1, 1) := by decide +kernel
theorem dX5_leads_75 : decode cX5_leads 75 = .ok (.iadd, 1) := by decide +kernel
theorem dX5_leads_76 : decode cX5_leads 76 = .ok (.iload_n 3, 1) := by decide +kernel
theorem dX5_leads_77 : decode cX5_leads 77 = .ok (.invokevirtual 182, 3) := by decide +kernel
theorem dX5_leads_80 : decode cX5_leads 80 = .ok (.ifCond .ne 6, 3) := by decide +kernel
theorem dX5_leads_83 : decode cX5_leads 83 = .ok (.goto 13, 3) := by decide +kernel
theorem dX5_leads_86 : decode cX5_leads 86 = .ok (.aload_n 0, 1) := by decide +kernel
theorem dX5_leads_87 : decode cX5_leads 87 = .ok (.getfield 59, 3) := by decide +kernel
theorem dX5_leads_90 : decode cX5_leads 90 = .ok (.iload_n 2, 1) := by decide +kernel
theorem dX5_leads_91 : decode cX5_leads 91 = .ok (.iload 4, 2) := by decide +kernel
theorem dX5_leads_93 : decode cX5_leads 93 = .ok (.iastore, 1) := by decide +kernel
theorem dX5_leads_94 : decode cX5_leads 94 = .ok (.iconst 1, 1) := by decide +kernel
theorem dX5_leads_95 : decode cX5_leads 95 = .ok (.ireturn, 1) := by decide +kernel
theorem dX5_leads_96 : decode cX5_leads 96 = .ok (.iinc 4 1, 3) := by decide +kernel
theorem dX5_leads_99 : decode cX5_leads 99 = .ok (.goto (-89), 3) := by decide +kernel
theorem dX5_leads_102 : decode cX5_leads 102 = .ok (.iconst 0, 1) := by decide +kernel
theorem dX5_leads_103 : decode cX5_leads 103 = .ok (.ireturn, 1) := by decide +kernel
set_option maxRecDepth 20000 in
theorem ggX5_letter_X5_isIn : GoodIn wsX5_letter wsX5_isIn := goodIn_r _ [7] (by decide +kernel) (by decide +kernel)
set_option maxRecDepth 20000 in
theorem gX5_letter_X5_isIn : GoodIn wsX5_letter (va_wsS RX5 66 yX5_isIn wsX5_isIn) := goodIn_app (goodIn_of _ (by decide +kernel)) ggX5_letter_X5_isIn
set_option maxRecDepth 20000 in
theorem ggX5_letter_X5_finds : GoodIn wsX5_letter wsX5_finds := goodIn_r _ [11, 12, 1, 2, 13, 14, 15, 6, 16, 17, 18, 19, 20, 21, 22, 23, 24, 25, 26, 4, 5, 7, 27, 28, 29, 30, 31, 32, 33, 34, 35, 36, 37, 38, 39, 40, 41, 42, 43, 44, 45, 46, 47, 48, 49, 50, 51, 52, 53, 54, 55, 56, 57, 58, 59, 60, 61, 62, 63, 64, 65, 66, 67, 68, 69, 70, 71, 72, 73, 74, 75, 76, 77, 78, 79, 80, 81, 82, 83, 84, 85, 86, 87, 88, 89, 90, 95, 96, 97, 98, 99, 100, 101, 102, 103, 104, 105, 106, 107, 108, 109, 110, 111, 112, 113, 114] (by decide +kernel) (by decide +kernel)
set_option maxRecDepth 20000 in
theorem gX5_letter_X5_finds : GoodIn wsX5_letter (wsV RX5 185 RX5 yX5_finds wsX5_finds) := goodIn_app (goodIn_of _ (by decide +kernel)) ggX5_letter_X5_finds
set_option maxRecDepth 20000 in
theorem ggX5_letter_X5_startOf : GoodIn wsX5_letter wsX5_startOf := goodIn_r _ [16, 17, 18, 95, 96, 97, 98, 99, 100, 101, 102, 103, 104, 105, 106, 107, 108, 109, 110, 111, 112, 113, 114] (by decide +kernel) (by decide +kernel)
set_option maxRecDepth 20000 in
theorem gX5_letter_X5_startOf : GoodIn wsX5_letter (wsV RX5 179 RX5 yX5_startOf wsX5_startOf) := goodIn_app (goodIn_of _ (by decide +kernel)) ggX5_letter_X5_startOf
set_option maxRecDepth 20000 in
theorem ggX5_letter_X5_leads : GoodIn wsX5_letter wsX5_leads := goodIn_r _ [94, 1, 2, 3, 23, 24, 25, 6, 26, 17, 4, 5, 7, 27, 28, 29, 30, 31, 32, 18, 33, 34, 35, 36, 37, 38, 39, 40, 41, 42, 43, 44, 45, 46, 47, 48, 49, 50, 66, 67, 68, 69, 70, 71, 72, 73, 74, 83, 84, 85, 86, 87, 88, 89, 90, 91, 92, 93, 95, 96, 97, 98, 99, 100, 101, 102, 103, 104, 105, 106, 107, 108, 109, 110, 111, 112, 113, 114] (by decide +kernel) (by decide +kernel)
set_option maxRecDepth 20000 in
theorem gX5_letter_X5_leads : GoodIn wsX5_letter (wsV RX5 182 RX5 yX5_leads wsX5_leads) := goodIn_app (goodIn_of _ (by decide +kernel)) ggX5_letter_X5_leads
theorem dX5_letter_0 : decode cX5_letter 0 = .ok (.iload_n 1, 1) := by decide +kernel
theorem dX5_letter_1 : decode cX5_letter 1 = .ok (.iconst 0, 1) := by decide +kernel
theorem dX5_letter_2 : decode cX5_letter 2 = .ok (.iconst 3, 1) := by decide +kernel
theorem dX5_letter_3 : decode cX5_letter 3 = .ok (.invokestatic 66, 3) := by decide +kernel
theorem dX5_letter_6 : decode cX5_letter 6 = .ok (.ifCond .eq 50, 3) := by decide +kernel
theorem dX5_letter_9 : decode cX5_letter 9 = .ok (.iload_n 2, 1) := by decide +kernel
theorem dX5_letter_10 : decode cX5_letter 10 = .ok (.ifCond .lt 46, 3) := by decide +kernel
theorem dX5_letter_13 : decode cX5_letter 13 = .ok (.iload_n 3, 1) := by decide +kernel
theorem dX5_letter_14 : decode cX5_letter 14 = .ok (.iconst 0, 1) := by decide +kernel
theorem dX5_letter_15 : decode cX5_letter 15 = .ok (.iload_n 1, 1) := by decide +kernel
theorem dX5_letter_16 : decode cX5_letter 16 = .ok (.iconst 1, 1) := by decide +kernel
theorem dX5_letter_17 : decode cX5_letter 17 = .ok (.isub, 1) := by decide +kernel
theorem dX5_letter_18 : decode cX5_letter 18 = .ok (.invokestatic 66, 3) := by decide +kernel
theorem dX5_letter_21 : decode cX5_letter 21 = .ok (.ifCond .eq 35, 3) := by decide +kernel
theorem dX5_letter_24 : decode cX5_letter 24 = .ok (.iload 4, 2) := by decide +kernel
theorem dX5_letter_26 : decode cX5_letter 26 = .ok (.iconst 0, 1) := by decide +kernel
theorem dX5_letter_27 : decode cX5_letter 27 = .ok (.iconst 2, 1) := by decide +kernel
theorem dX5_letter_28 : decode cX5_letter 28 = .ok (.invokestatic 66, 3) := by decide +kernel
theorem dX5_letter_31 : decode cX5_letter 31 = .ok (.ifCond .eq 25, 3) := by decide +kernel
theorem dX5_letter_34 : decode cX5_letter 34 = .ok (.aload_n 0, 1) := by decide +kernel
theorem dX5_letter_35 : decode cX5_letter 35 = .ok (.iload_n 1, 1) := by decide +kernel
theorem dX5_letter_36 : decode cX5_letter 36 = .ok (.iload_n 2, 1) := by decide +kernel
theorem dX5_letter_37 : decode cX5_letter 37 = .ok (.invokevirtual 185, 3) := by decide +kernel
theorem dX5_letter_40 : decode cX5_letter 40 = .ok (.ifCond .eq 16, 3) := by decide +kernel
theorem dX5_letter_43 : decode cX5_letter 43 = .ok (.aload_n 0, 1) := by decide +kernel
theorem dX5_letter_44 : decode cX5_letter 44 = .ok (.aload_n 0, 1) := by decide +kernel
theorem dX5_letter_45 : decode cX5_letter 45 = .ok (.invokevirtual 179, 3) := by decide +kernel
theorem dX5_letter_48 : decode cX5_letter 48 = .ok (.iconst 0, 1) := by decide +kernel
theorem dX5_letter_49 : decode cX5_letter 49 = .ok (.iload_n 1, 1) := by decide +kernel
theorem dX5_letter_50 : decode cX5_letter 50 = .ok (.invokevirtual 182, 3) := by decide +kernel
theorem dX5_letter_53 : decode cX5_letter 53 = .ok (.ifCond .ne 5, 3) := by decide +kernel
theorem dX5_letter_56 : decode cX5_letter 56 = .ok (.iconst (-1), 1) := by decide +kernel
theorem dX5_letter_57 : decode cX5_letter 57 = .ok (.ireturn, 1) := by decide +kernel
theorem dX5_letter_58 : decode cX5_letter 58 = .ok (.iload 4, 2) := by decide +kernel
theorem dX5_letter_60 : decode cX5_letter 60 = .ok (.ifCond .ne 12, 3) := by decide +kernel
theorem dX5_letter_63 : decode cX5_letter 63 = .ok (.aload_n 0, 1) := by decide +kernel
theorem dX5_letter_64 : decode cX5_letter 64 = .ok (.getfield 53, 3) := by decide +kernel
theorem dX5_letter_67 : decode cX5_letter 67 = .ok (.iload_n 3, 1) := by decide +kernel
theorem dX5_letter_68 : decode cX5_letter 68 = .ok (.iaload, 1) := by decide +kernel
theorem dX5_letter_69 : decode cX5_letter 69 = .ok (.goto 24, 3) := by decide +kernel
theorem dX5_letter_72 : decode cX5_letter 72 = .ok (.iload 4, 2) := by decide +kernel
theorem dX5_letter_74 : decode cX5_letter 74 = .ok (.iconst 1, 1) := by decide +kernel
theorem dX5_letter_75 : decode cX5_letter 75 = .ok (.if_icmp .ne 12, 3) := by decide +kernel
theorem dX5_letter_78 : decode cX5_letter 78 = .ok (.aload_n 0, 1) := by decide +kernel
theorem dX5_letter_79 : decode cX5_letter 79 = .ok (.getfield 56, 3) := by decide +kernel
theorem dX5_letter_82 : decode cX5_letter 82 = .ok (.iload_n 3, 1) := by decide +kernel
theorem dX5_letter_83 : decode cX5_letter 83 = .ok (.iaload, 1) := by decide +kernel
theorem dX5_letter_84 : decode cX5_letter 84 = .ok (.goto 9, 3) := by decide +kernel
theorem dX5_letter_87 : decode cX5_letter 87 = .ok (.aload_n 0, 1) := by decide +kernel
theorem dX5_letter_88 : decode cX5_letter 88 = .ok (.getfield 59, 3) := by decide +kernel
theorem dX5_letter_91 : decode cX5_letter 91 = .ok (.iload_n 3, 1) := by decide +kernel
theorem dX5_letter_92 : decode cX5_letter 92 = .ok (.iaload, 1) := by decide +kernel
theorem dX5_letter_93 : decode cX5_letter 93 = .ok (.ireturn, 1) := by decide +kernel
theorem dX5_begin_0 : decode cX5_begin 0 = .ok (.aload_n 0, 1) := by decide +kernel
theorem dX5_begin_1 : decode cX5_begin 1 = .ok (.iconst 0, 1) := by decide +kernel
theorem dX5_begin_2 : decode cX5_begin 2 = .ok (.putfield 188, 3) := by decide +kernel
theorem dX5_begin_5 : decode cX5_begin 5 = .ok (.iconst 0, 1) := by decide +kernel
theorem dX5_begin_6 : decode cX5_begin 6 = .ok (.istore_n 1, 1) := by decide +kernel
theorem dX5_begin_7 : decode cX5_begin 7 = .ok (.iload_n 1, 1) := by decide +kernel
theorem dX5_begin_8 : decode cX5_begin 8 = .ok (.aload_n 0, 1) := by decide +kernel
theorem dX5_begin_9 : decode cX5_begin 9 = .ok (.getfield 62, 3) := by decide +kernel
theorem dX5_begin_12 : decode cX5_begin 12 = .ok (.if_icmp .ge 21, 3) := by decide +kernel
theorem dX5_begin_15 : decode cX5_begin 15 = .ok (.aload_n 0, 1) := by decide +kernel
theorem dX5_begin_16 : decode cX5_begin 16 = .ok (.getfield 28, 3) := by decide +kernel
theorem dX5_begin_19 : decode cX5_begin 19 = .ok (.iload_n 1, 1) := by decide +kernel
theorem dX5_begin_20 : decode cX5_begin 20 = .ok (.aload_n 0, 1) := by decide +kernel
theorem dX5_begin_21 : decode cX5_begin 21 = .ok (.getfield 13, 3) := by decide +kernel
theorem dX5_begin_24 : decode cX5_begin 24 = .ok (.iload_n 1, 1) := by decide +kernel
theorem dX5_begin_25 : decode cX5_begin 25 = .ok (.iaload, 1) := by decide +kernel
theorem dX5_begin_26 : decode cX5_begin 26 = .ok (.iastore, 1) := by decide +kernel
theorem dX5_begin_27 : decode cX5_begin 27 = .ok (.iinc 1 1, 3) := by decide +kernel
theorem dX5_begin_30 : decode cX5_begin 30 = .ok (.goto (-23), 3) := by decide +kernel
theorem dX5_begin_33 : decode cX5_begin 33 = .ok (.return_, 1) := by decide +kernel
set_option maxRecDepth 20000 in
theorem ggX5_run_X5_isAct : GoodIn wsX5_run wsX5_isAct := goodIn_r _ [8, 1, 9, 10, 7, 11, 54, 55, 56, 57, 58, 59, 60, 61, 62, 63, 64, 65, 66, 67, 68, 69, 70, 71, 72, 73] (by decide +kernel) (by decide +kernel)
set_option maxRecDepth 20000 in
theorem gX5_run_X5_isAct : GoodIn wsX5_run (wsV RX5 138 RX5 yX5_isAct wsX5_isAct) := goodIn_app (goodIn_of _ (by decide +kernel)) ggX5_run_X5_isAct
set_option maxRecDepth 20000 in
theorem ggX5_run_X5_sent : GoodIn wsX5_run wsX5_sent := goodIn_r _ [15, 1, 16, 17, 18, 19, 20, 7, 21, 22, 23, 24, 25, 26, 27, 28, 29, 30, 31, 32, 33, 34, 35, 36, 54, 55, 56, 57, 58, 59, 60, 61, 62, 63, 64, 65, 66, 67, 68, 69, 70, 71, 72, 73] (by decide +kernel) (by decide +kernel)
set_option maxRecDepth 20000 in
theorem gX5_run_X5_sent : GoodIn wsX5_run (wsV RX5 141 RX5 yX5_sent wsX5_sent) := goodIn_app (goodIn_of _ (by decide +kernel)) ggX5_run_X5_sent
set_option maxRecDepth 20000 in
theorem ggX5_run_X5_told : GoodIn wsX5_run wsX5_told := goodIn_r _ [40, 19, 20, 7, 21, 41, 42, 43, 44, 16, 45, 26, 27, 28, 29, 30, 31, 32, 33, 54, 55, 56, 57, 58, 59, 60, 61, 62, 63, 64, 65, 66, 67, 68, 69, 70, 71, 72, 73] (by decide +kernel) (by decide +kernel)
set_option maxRecDepth 20000 in
theorem gX5_run_X5_told : GoodIn wsX5_run (wsV RX5 144 RX5 yX5_told wsX5_told) := goodIn_app (goodIn_of _ (by decide +kernel)) ggX5_run_X5_told
set_option maxRecDepth 20000 in
theorem ggX5_run_X5_heard : GoodIn wsX5_run wsX5_heard := goodIn_r _ [49, 19, 20, 7, 21, 50, 51, 52, 53, 26, 27, 28, 29, 30, 31, 32, 33, 34, 35, 36, 54, 55, 56, 57, 58, 59, 60, 61, 62, 63, 64, 65, 66, 67, 68, 69, 70, 71, 72, 73] (by decide +kernel) (by decide +kernel)
set_option maxRecDepth 20000 in
theorem gX5_run_X5_heard : GoodIn wsX5_run (wsV RX5 147 RX5 yX5_heard wsX5_heard) := goodIn_app (goodIn_of _ (by decide +kernel)) ggX5_run_X5_heard
set_option maxRecDepth 20000 in
theorem ggX5_run_X5_part : GoodIn wsX5_run wsX5_part := goodIn_r _ [21] (by decide +kernel) (by decide +kernel)
set_option maxRecDepth 20000 in
theorem gX5_run_X5_part : GoodIn wsX5_run (va_wsS RX5 132 yX5_part wsX5_part) := goodIn_app (goodIn_of _ (by decide +kernel)) ggX5_run_X5_part
theorem dX5_run_0 : decode cX5_run 0 = .ok (.aload_n 0, 1) := by decide +kernel
theorem dX5_run_1 : decode cX5_run 1 = .ok (.iload_n 1, 1) := by decide +kernel
theorem dX5_run_2 : decode cX5_run 2 = .ok (.invokevirtual 138, 3) := by decide +kernel
theorem dX5_run_5 : decode cX5_run 5 = .ok (.ifCond .eq 11, 3) := by decide +kernel
theorem dX5_run_8 : decode cX5_run 8 = .ok (.aload_n 0, 1) := by decide +kernel
theorem dX5_run_9 : decode cX5_run 9 = .ok (.iload_n 2, 1) := by decide +kernel
theorem dX5_run_10 : decode cX5_run 10 = .ok (.invokevirtual 138, 3) := by decide +kernel
theorem dX5_run_13 : decode cX5_run 13 = .ok (.ifCond .ne 5, 3) := by decide +kernel
theorem dX5_run_16 : decode cX5_run 16 = .ok (.iconst (-1), 1) := by decide +kernel
theorem dX5_run_17 : decode cX5_run 17 = .ok (.ireturn, 1) := by decide +kernel
theorem dX5_run_18 : decode cX5_run 18 = .ok (.iconst 0, 1) := by decide +kernel
theorem dX5_run_19 : decode cX5_run 19 = .ok (.istore_n 3, 1) := by decide +kernel
theorem dX5_run_20 : decode cX5_run 20 = .ok (.iconst 0, 1) := by decide +kernel
theorem dX5_run_21 : decode cX5_run 21 = .ok (.istore 4, 2) := by decide +kernel
theorem dX5_run_23 : decode cX5_run 23 = .ok (.iload 4, 2) := by decide +kernel
theorem dX5_run_25 : decode cX5_run 25 = .ok (.aload_n 0, 1) := by decide +kernel
theorem dX5_run_26 : decode cX5_run 26 = .ok (.getfield 62, 3) := by decide +kernel
theorem dX5_run_29 : decode cX5_run 29 = .ok (.if_icmp .ge 24, 3) := by decide +kernel
theorem dX5_run_32 : decode cX5_run 32 = .ok (.iload_n 3, 1) := by decide +kernel
theorem dX5_run_33 : decode cX5_run 33 = .ok (.aload_n 0, 1) := by decide +kernel
theorem dX5_run_34 : decode cX5_run 34 = .ok (.getfield 28, 3) := by decide +kernel
theorem dX5_run_37 : decode cX5_run 37 = .ok (.iload 4, 2) := by decide +kernel
theorem dX5_run_39 : decode cX5_run 39 = .ok (.iaload, 1) := by decide +kernel
theorem dX5_run_40 : decode cX5_run 40 = .ok (.iconst 2, 1) := by decide +kernel
theorem dX5_run_41 : decode cX5_run 41 = .ok (.iload 4, 2) := by decide +kernel
theorem dX5_run_43 : decode cX5_run 43 = .ok (.imul, 1) := by decide +kernel
theorem dX5_run_44 : decode cX5_run 44 = .ok (.ishl, 1) := by decide +kernel
theorem dX5_run_45 : decode cX5_run 45 = .ok (.ior, 1) := by decide +kernel
theorem dX5_run_46 : decode cX5_run 46 = .ok (.istore_n 3, 1) := by decide +kernel
theorem dX5_run_47 : decode cX5_run 47 = .ok (.iinc 4 1, 3) := by decide +kernel
theorem dX5_run_50 : decode cX5_run 50 = .ok (.goto (-27), 3) := by decide +kernel
theorem dX5_run_53 : decode cX5_run 53 = .ok (.aload_n 0, 1) := by decide +kernel
theorem dX5_run_54 : decode cX5_run 54 = .ok (.iload_n 3, 1) := by decide +kernel
theorem dX5_run_55 : decode cX5_run 55 = .ok (.iload_n 1, 1) := by decide +kernel
theorem dX5_run_56 : decode cX5_run 56 = .ok (.aload_n 0, 1) := by decide +kernel
theorem dX5_run_57 : decode cX5_run 57 = .ok (.getfield 188, 3) := by decide +kernel
theorem dX5_run_60 : decode cX5_run 60 = .ok (.invokevirtual 141, 3) := by decide +kernel
theorem dX5_run_63 : decode cX5_run 63 = .ok (.istore_n 3, 1) := by decide +kernel
theorem dX5_run_64 : decode cX5_run 64 = .ok (.aload_n 0, 1) := by decide +kernel
theorem dX5_run_65 : decode cX5_run 65 = .ok (.iload_n 3, 1) := by decide +kernel
theorem dX5_run_66 : decode cX5_run 66 = .ok (.iload_n 2, 1) := by decide +kernel
theorem dX5_run_67 : decode cX5_run 67 = .ok (.invokevirtual 144, 3) := by decide +kernel
theorem dX5_run_70 : decode cX5_run 70 = .ok (.istore 4, 2) := by decide +kernel
theorem dX5_run_72 : decode cX5_run 72 = .ok (.aload_n 0, 1) := by decide +kernel
theorem dX5_run_73 : decode cX5_run 73 = .ok (.iload_n 3, 1) := by decide +kernel
theorem dX5_run_74 : decode cX5_run 74 = .ok (.iload_n 2, 1) := by decide +kernel
theorem dX5_run_75 : decode cX5_run 75 = .ok (.invokevirtual 147, 3) := by decide +kernel
theorem dX5_run_78 : decode cX5_run 78 = .ok (.istore_n 3, 1) := by decide +kernel
theorem dX5_run_79 : decode cX5_run 79 = .ok (.iconst 0, 1) := by decide +kernel
theorem dX5_run_80 : decode cX5_run 80 = .ok (.istore 5, 2) := by decide +kernel
theorem dX5_run_82 : decode cX5_run 82 = .ok (.iload 5, 2) := by decide +kernel
theorem dX5_run_84 : decode cX5_run 84 = .ok (.aload_n 0, 1) := by decide +kernel
theorem dX5_run_85 : decode cX5_run 85 = .ok (.getfield 62, 3) := by decide +kernel
theorem dX5_run_88 : decode cX5_run 88 = .ok (.if_icmp .ge 22, 3) := by decide +kernel
theorem dX5_run_91 : decode cX5_run 91 = .ok (.aload_n 0, 1) := by decide +kernel
theorem dX5_run_92 : decode cX5_run 92 = .ok (.getfield 28, 3) := by decide +kernel
theorem dX5_run_95 : decode cX5_run 95 = .ok (.iload 5, 2) := by decide +kernel
theorem dX5_run_97 : decode cX5_run 97 = .ok (.iload_n 3, 1) := by decide +kernel
theorem dX5_run_98 : decode cX5_run 98 = .ok (.iload 5, 2) := by decide +kernel
theorem dX5_run_100 : decode cX5_run 100 = .ok (.invokestatic 132, 3) := by decide +kernel
theorem dX5_run_103 : decode cX5_run 103 = .ok (.iastore, 1) := by decide +kernel
theorem dX5_run_104 : decode cX5_run 104 = .ok (.iinc 5 1, 3) := by decide +kernel
theorem dX5_run_107 : decode cX5_run 107 = .ok (.goto (-25), 3) := by decide +kernel
theorem dX5_run_110 : decode cX5_run 110 = .ok (.aload_n 0, 1) := by decide +kernel
theorem dX5_run_111 : decode cX5_run 111 = .ok (.dup, 1) := by decide +kernel
theorem dX5_run_112 : decode cX5_run 112 = .ok (.getfield 188, 3) := by decide +kernel
theorem dX5_run_115 : decode cX5_run 115 = .ok (.iconst 1, 1) := by decide +kernel
theorem dX5_run_116 : decode cX5_run 116 = .ok (.iadd, 1) := by decide +kernel
theorem dX5_run_117 : decode cX5_run 117 = .ok (.putfield 188, 3) := by decide +kernel
theorem dX5_run_120 : decode cX5_run 120 = .ok (.iload 4, 2) := by decide +kernel
theorem dX5_run_122 : decode cX5_run 122 = .ok (.ireturn, 1) := by decide +kernel
set_option maxRecDepth 20000 in
theorem ggX5_state_X5_isThing : GoodIn wsX5_state wsX5_isThing := goodIn_r _ [6, 7, 8, 9, 5, 10, 11, 12, 13, 14, 15, 16, 17, 18, 19, 20, 21, 22, 23, 24, 25, 26, 27, 28, 29, 30] (by decide +kernel) (by decide +kernel)
set_option maxRecDepth 20000 in
theorem gX5_state_X5_isThing : GoodIn wsX5_state (wsV RX5 74 RX5 yX5_isThing wsX5_isThing) := goodIn_app (goodIn_of _ (by decide +kernel)) ggX5_state_X5_isThing
theorem dX5_state_0 : decode cX5_state 0 = .ok (.aload_n 0, 1) := by decide +kernel
theorem dX5_state_1 : decode cX5_state 1 = .ok (.iload_n 1, 1) := by decide +kernel
theorem dX5_state_2 : decode cX5_state 2 = .ok (.invokevirtual 74, 3) := by decide +kernel
theorem dX5_state_5 : decode cX5_state 5 = .ok (.ifCond .eq 12, 3) := by decide +kernel
theorem dX5_state_8 : decode cX5_state 8 = .ok (.aload_n 0, 1) := by decide +kernel
theorem dX5_state_9 : decode cX5_state 9 = .ok (.getfield 28, 3) := by decide +kernel
theorem dX5_state_12 : decode cX5_state 12 = .ok (.iload_n 1, 1) := by decide +kernel
theorem dX5_state_13 : decode cX5_state 13 = .ok (.iaload, 1) := by decide +kernel
theorem dX5_state_14 : decode cX5_state 14 = .ok (.goto 4, 3) := by decide +kernel
theorem dX5_state_17 : decode cX5_state 17 = .ok (.iconst (-1), 1) := by decide +kernel
theorem dX5_state_18 : decode cX5_state 18 = .ok (.ireturn, 1) := by decide +kernel
theorem dX5_ticks_0 : decode cX5_ticks 0 = .ok (.aload_n 0, 1) := by decide +kernel
theorem dX5_ticks_1 : decode cX5_ticks 1 = .ok (.getfield 188, 3) := by decide +kernel
theorem dX5_ticks_4 : decode cX5_ticks 4 = .ok (.ireturn, 1) := by decide +kernel
set_option maxRecDepth 20000 in
theorem ggX5_walls_X5_isIn : GoodIn wsX5_walls wsX5_isIn := goodIn_r _ [5] (by decide +kernel) (by decide +kernel)
set_option maxRecDepth 20000 in
theorem gX5_walls_X5_isIn : GoodIn wsX5_walls (va_wsS RX5 66 yX5_isIn wsX5_isIn) := goodIn_app (goodIn_of _ (by decide +kernel)) ggX5_walls_X5_isIn
set_option maxRecDepth 20000 in
theorem ggX5_walls_X5_wallsNow : GoodIn wsX5_walls wsX5_wallsNow := goodIn_r _ [9, 1, 10, 101, 102, 103, 104, 105, 106, 107, 108, 109, 110, 111, 112, 113, 114, 115, 116, 117, 118, 119, 120] (by decide +kernel) (by decide +kernel)
set_option maxRecDepth 20000 in
theorem gX5_walls_X5_wallsNow : GoodIn wsX5_walls (wsV RX5 86 RX5 yX5_wallsNow wsX5_wallsNow) := goodIn_app (goodIn_of _ (by decide +kernel)) ggX5_walls_X5_wallsNow
set_option maxRecDepth 20000 in
theorem ggX5_walls_X5_costs : GoodIn wsX5_walls wsX5_costs := goodIn_r _ [14, 1, 15, 101, 102, 103, 104, 105, 106, 107, 108, 109, 110, 111, 112, 113, 114, 115, 116, 117, 118, 119, 120] (by decide +kernel) (by decide +kernel)
set_option maxRecDepth 20000 in
theorem gX5_walls_X5_costs : GoodIn wsX5_walls (wsV RX5 90 RX5 yX5_costs wsX5_costs) := goodIn_app (goodIn_of _ (by decide +kernel)) ggX5_walls_X5_costs
set_option maxRecDepth 20000 in
theorem ggX5_walls_X5_gives : GoodIn wsX5_walls wsX5_gives := goodIn_r _ [19, 1, 10, 101, 102, 103, 104, 105, 106, 107, 108, 109, 110, 111, 112, 113, 114, 115, 116, 117, 118, 119, 120] (by decide +kernel) (by decide +kernel)
set_option maxRecDepth 20000 in
theorem gX5_walls_X5_gives : GoodIn wsX5_walls (wsV RX5 191 RX5 yX5_gives wsX5_gives) := goodIn_app (goodIn_of _ (by decide +kernel)) ggX5_walls_X5_gives
set_option maxRecDepth 20000 in
theorem ggX5_walls_X5_letters : GoodIn wsX5_walls wsX5_letters := goodIn_r _ [23, 24, 2, 3, 4, 5, 25, 26, 27, 28, 1, 29, 30, 31, 32, 33, 34, 35, 36, 37, 38, 39, 40, 41, 42, 43, 44, 45, 46, 47, 48, 49, 50, 51, 52, 10, 53, 54, 55, 56, 57, 58, 59, 60, 61, 62, 63, 64, 65, 66, 67, 68, 69, 70, 71, 72, 73, 74, 75, 76, 77, 78, 79, 80, 81, 82, 83, 84, 85, 86, 87, 88, 89, 90, 91, 92, 93, 94, 95, 96, 97, 98, 99, 100, 101, 102, 103, 104, 105, 106, 107, 108, 109, 110, 111, 112, 113, 114, 115, 116, 117, 118, 119, 120] (by decide +kernel) (by decide +kernel)
set_option maxRecDepth 20000 in
theorem gX5_walls_X5_letters : GoodIn wsX5_walls (wsV RX5 194 RX5 yX5_letters wsX5_letters) := goodIn_app (goodIn_of _ (by decide +kernel)) ggX5_walls_X5_letters
theorem dX5_walls_0 : decode cX5_walls 0 = .ok (.iload_n 1, 1) := by decide +kernel
theorem dX5_walls_1 : decode cX5_walls 1 = .ok (.iconst 1, 1) := by decide +kernel
theorem dX5_walls_2 : decode cX5_walls 2 = .ok (.sipush 4096, 3) := by decide +kernel
theorem dX5_walls_5 : decode cX5_walls 5 = .ok (.invokestatic 66, 3) := by decide +kernel
theorem dX5_walls_8 : decode cX5_walls 8 = .ok (.ifCond .eq 21, 3) := by decide +kernel
theorem dX5_walls_11 : decode cX5_walls 11 = .ok (.iload_n 2, 1) := by decide +kernel
theorem dX5_walls_12 : decode cX5_walls 12 = .ok (.iconst 0, 1) := by decide +kernel
theorem dX5_walls_13 : decode cX5_walls 13 = .ok (.iconst 2, 1) := by decide +kernel
theorem dX5_walls_14 : decode cX5_walls 14 = .ok (.invokestatic 66, 3) := by decide +kernel
theorem dX5_walls_17 : decode cX5_walls 17 = .ok (.ifCond .eq 12, 3) := by decide +kernel
theorem dX5_walls_20 : decode cX5_walls 20 = .ok (.iload_n 3, 1) := by decide +kernel
theorem dX5_walls_21 : decode cX5_walls 21 = .ok (.iconst 0, 1) := by decide +kernel
theorem dX5_walls_22 : decode cX5_walls 22 = .ok (.iconst 1, 1) := by decide +kernel
theorem dX5_walls_23 : decode cX5_walls 23 = .ok (.invokestatic 66, 3) := by decide +kernel
theorem dX5_walls_26 : decode cX5_walls 26 = .ok (.ifCond .ne 5, 3) := by decide +kernel
theorem dX5_walls_29 : decode cX5_walls 29 = .ok (.iconst (-1), 1) := by decide +kernel
theorem dX5_walls_30 : decode cX5_walls 30 = .ok (.ireturn, 1) := by decide +kernel
theorem dX5_walls_31 : decode cX5_walls 31 = .ok (.aload_n 0, 1) := by decide +kernel
theorem dX5_walls_32 : decode cX5_walls 32 = .ok (.invokevirtual 86, 3) := by decide +kernel
theorem dX5_walls_35 : decode cX5_walls 35 = .ok (.istore 4, 2) := by decide +kernel
theorem dX5_walls_37 : decode cX5_walls 37 = .ok (.iconst (-1), 1) := by decide +kernel
theorem dX5_walls_38 : decode cX5_walls 38 = .ok (.istore 5, 2) := by decide +kernel
theorem dX5_walls_40 : decode cX5_walls 40 = .ok (.iconst 0, 1) := by decide +kernel
theorem dX5_walls_41 : decode cX5_walls 41 = .ok (.istore 6, 2) := by decide +kernel
theorem dX5_walls_43 : decode cX5_walls 43 = .ok (.iload 6, 2) := by decide +kernel
theorem dX5_walls_45 : decode cX5_walls 45 = .ok (.iconst 1, 1) := by decide +kernel
theorem dX5_walls_46 : decode cX5_walls 46 = .ok (.iconst 2, 1) := by decide +kernel
theorem dX5_walls_47 : decode cX5_walls 47 = .ok (.aload_n 0, 1) := by decide +kernel
theorem dX5_walls_48 : decode cX5_walls 48 = .ok (.getfield 62, 3) := by decide +kernel
theorem dX5_walls_51 : decode cX5_walls 51 = .ok (.imul, 1) := by decide +kernel
theorem dX5_walls_52 : decode cX5_walls 52 = .ok (.ishl, 1) := by decide +kernel
theorem dX5_walls_53 : decode cX5_walls 53 = .ok (.if_icmp .ge 52, 3) := by decide +kernel
theorem dX5_walls_56 : decode cX5_walls 56 = .ok (.iload 5, 2) := by decide +kernel
theorem dX5_walls_58 : decode cX5_walls 58 = .ok (.iconst (-1), 1) := by decide +kernel
theorem dX5_walls_59 : decode cX5_walls 59 = .ok (.if_icmp .eq 21, 3) := by decide +kernel
theorem dX5_walls_62 : decode cX5_walls 62 = .ok (.aload_n 0, 1) := by decide +kernel
theorem dX5_walls_63 : decode cX5_walls 63 = .ok (.iload 6, 2) := by decide +kernel
theorem dX5_walls_65 : decode cX5_walls 65 = .ok (.invokevirtual 90, 3) := by decide +kernel
theorem dX5_walls_68 : decode cX5_walls 68 = .ok (.aload_n 0, 1) := by decide +kernel
theorem dX5_walls_69 : decode cX5_walls 69 = .ok (.iload 5, 2) := by decide +kernel
theorem dX5_walls_71 : decode cX5_walls 71 = .ok (.invokevirtual 90, 3) := by decide +kernel
theorem dX5_walls_74 : decode cX5_walls 74 = .ok (.if_icmp .lt 6, 3) := by decide +kernel
theorem dX5_walls_77 : decode cX5_walls 77 = .ok (.goto 22, 3) := by decide +kernel
theorem dX5_walls_80 : decode cX5_walls 80 = .ok (.aload_n 0, 1) := by decide +kernel
theorem dX5_walls_81 : decode cX5_walls 81 = .ok (.iload 6, 2) := by decide +kernel
theorem dX5_walls_83 : decode cX5_walls 83 = .ok (.invokevirtual 191, 3) := by decide +kernel
theorem dX5_walls_86 : decode cX5_walls 86 = .ok (.aload_n 0, 1) := by decide +kernel
theorem dX5_walls_87 : decode cX5_walls 87 = .ok (.iload_n 2, 1) := by decide +kernel
theorem dX5_walls_88 : decode cX5_walls 88 = .ok (.invokevirtual 194, 3) := by decide +kernel
theorem dX5_walls_91 : decode cX5_walls 91 = .ok (.iload_n 1, 1) := by decide +kernel
theorem dX5_walls_92 : decode cX5_walls 92 = .ok (.if_icmp .gt 7, 3) := by decide +kernel
theorem dX5_walls_95 : decode cX5_walls 95 = .ok (.iload 6, 2) := by decide +kernel
theorem dX5_walls_97 : decode cX5_walls 97 = .ok (.istore 5, 2) := by decide +kernel
theorem dX5_walls_99 : decode cX5_walls 99 = .ok (.iinc 6 1, 3) := by decide +kernel
theorem dX5_walls_102 : decode cX5_walls 102 = .ok (.goto (-59), 3) := by decide +kernel
theorem dX5_walls_105 : decode cX5_walls 105 = .ok (.aload_n 0, 1) := by decide +kernel
theorem dX5_walls_106 : decode cX5_walls 106 = .ok (.iload 4, 2) := by decide +kernel
theorem dX5_walls_108 : decode cX5_walls 108 = .ok (.invokevirtual 191, 3) := by decide +kernel
theorem dX5_walls_111 : decode cX5_walls 111 = .ok (.iload 5, 2) := by decide +kernel
theorem dX5_walls_113 : decode cX5_walls 113 = .ok (.iconst (-1), 1) := by decide +kernel
theorem dX5_walls_114 : decode cX5_walls 114 = .ok (.if_icmp .ne 7, 3) := by decide +kernel
theorem dX5_walls_117 : decode cX5_walls 117 = .ok (.iconst (-1), 1) := by decide +kernel
theorem dX5_walls_118 : decode cX5_walls 118 = .ok (.goto 18, 3) := by decide +kernel
theorem dX5_walls_121 : decode cX5_walls 121 = .ok (.iload_n 3, 1) := by decide +kernel
theorem dX5_walls_122 : decode cX5_walls 122 = .ok (.ifCond .ne 12, 3) := by decide +kernel
theorem dX5_walls_125 : decode cX5_walls 125 = .ok (.aload_n 0, 1) := by decide +kernel
theorem dX5_walls_126 : decode cX5_walls 126 = .ok (.iload 5, 2) := by decide +kernel
theorem dX5_walls_128 : decode cX5_walls 128 = .ok (.invokevirtual 90, 3) := by decide +kernel
theorem dX5_walls_131 : decode cX5_walls 131 = .ok (.goto 5, 3) := by decide +kernel
theorem dX5_walls_134 : decode cX5_walls 134 = .ok (.iload 5, 2) := by decide +kernel
theorem dX5_walls_136 : decode cX5_walls 136 = .ok (.ireturn, 1) := by decide +kernel
theorem dX5_gives_0 : decode cX5_gives 0 = .ok (.iconst 0, 1) := by decide +kernel
theorem dX5_gives_1 : decode cX5_gives 1 = .ok (.istore_n 2, 1) := by decide +kernel
theorem dX5_gives_2 : decode cX5_gives 2 = .ok (.iload_n 2, 1) := by decide +kernel
theorem dX5_gives_3 : decode cX5_gives 3 = .ok (.aload_n 0, 1) := by decide +kernel
theorem dX5_gives_4 : decode cX5_gives 4 = .ok (.getfield 62, 3) := by decide +kernel
theorem dX5_gives_7 : decode cX5_gives 7 = .ok (.if_icmp .ge 22, 3) := by decide +kernel
theorem dX5_gives_10 : decode cX5_gives 10 = .ok (.aload_n 0, 1) := by decide +kernel
theorem dX5_gives_11 : decode cX5_gives 11 = .ok (.getfield 16, 3) := by decide +kernel
theorem dX5_gives_14 : decode cX5_gives 14 = .ok (.iload_n 2, 1) := by decide +kernel
theorem dX5_gives_15 : decode cX5_gives 15 = .ok (.iload_n 1, 1) := by decide +kernel
theorem dX5_gives_16 : decode cX5_gives 16 = .ok (.iconst 2, 1) := by decide +kernel
theorem dX5_gives_17 : decode cX5_gives 17 = .ok (.iload_n 2, 1) := by decide +kernel
theorem dX5_gives_18 : decode cX5_gives 18 = .ok (.imul, 1) := by decide +kernel
theorem dX5_gives_19 : decode cX5_gives 19 = .ok (.ishr, 1) := by decide +kernel
theorem dX5_gives_20 : decode cX5_gives 20 = .ok (.iconst 3, 1) := by decide +kernel
theorem dX5_gives_21 : decode cX5_gives 21 = .ok (.iand, 1) := by decide +kernel
theorem dX5_gives_22 : decode cX5_gives 22 = .ok (.iastore, 1) := by decide +kernel
theorem dX5_gives_23 : decode cX5_gives 23 = .ok (.iinc 2 1, 3) := by decide +kernel
theorem dX5_gives_26 : decode cX5_gives 26 = .ok (.goto (-24), 3) := by decide +kernel
theorem dX5_gives_29 : decode cX5_gives 29 = .ok (.return_, 1) := by decide +kernel
set_option maxRecDepth 20000 in
theorem ggX5_give_X5_isIn : GoodIn wsX5_give wsX5_isIn := goodIn_r _ [4] (by decide +kernel) (by decide +kernel)
set_option maxRecDepth 20000 in
theorem gX5_give_X5_isIn : GoodIn wsX5_give (va_wsS RX5 66 yX5_isIn wsX5_isIn) := goodIn_app (goodIn_of _ (by decide +kernel)) ggX5_give_X5_isIn
set_option maxRecDepth 20000 in
theorem ggX5_give_X5_gives : GoodIn wsX5_give wsX5_gives := goodIn_r _ [8, 9, 10, 11, 12, 13, 14, 15, 16, 17, 18, 19, 20, 21, 22, 23, 24, 25, 26, 27, 28, 29, 30] (by decide +kernel) (by decide +kernel)
set_option maxRecDepth 20000 in
theorem gX5_give_X5_gives : GoodIn wsX5_give (wsV RX5 191 RX5 yX5_gives wsX5_gives) := goodIn_app (goodIn_of _ (by decide +kernel)) ggX5_give_X5_gives
theorem dX5_give_0 : decode cX5_give 0 = .ok (.iload_n 1, 1) := by decide +kernel
theorem dX5_give_1 : decode cX5_give 1 = .ok (.iconst 0, 1) := by decide +kernel
theorem dX5_give_2 : decode cX5_give 2 = .ok (.bipush 63, 2) := by decide +kernel
theorem dX5_give_4 : decode cX5_give 4 = .ok (.invokestatic 66, 3) := by decide +kernel
theorem dX5_give_7 : decode cX5_give 7 = .ok (.ifCond .ne 5, 3) := by decide +kernel
theorem dX5_give_10 : decode cX5_give 10 = .ok (.iconst 0, 1) := by decide +kernel
theorem dX5_give_11 : decode cX5_give 11 = .ok (.ireturn, 1) := by decide +kernel
theorem dX5_give_12 : decode cX5_give 12 = .ok (.aload_n 0, 1) := by decide +kernel
theorem dX5_give_13 : decode cX5_give 13 = .ok (.iload_n 1, 1) := by decide +kernel
theorem dX5_give_14 : decode cX5_give 14 = .ok (.invokevirtual 191, 3) := by decide +kernel
theorem dX5_give_17 : decode cX5_give 17 = .ok (.iconst 1, 1) := by decide +kernel
theorem dX5_give_18 : decode cX5_give 18 = .ok (.ireturn, 1) := by decide +kernel
theorem dJ6_bitCount_0f7a4_0 : decode cJ6_bitCount_0f7a4 0 = .ok (.iload_n 0, 1) := by decide +kernel
theorem dJ6_bitCount_0f7a4_1 : decode cJ6_bitCount_0f7a4 1 = .ok (.iload_n 0, 1) := by decide +kernel
theorem dJ6_bitCount_0f7a4_2 : decode cJ6_bitCount_0f7a4 2 = .ok (.iconst 1, 1) := by decide +kernel
theorem dJ6_bitCount_0f7a4_3 : decode cJ6_bitCount_0f7a4 3 = .ok (.iushr, 1) := by decide +kernel
theorem dJ6_bitCount_0f7a4_4 : decode cJ6_bitCount_0f7a4 4 = .ok (.ldc_w 265, 3) := by decide +kernel
theorem dJ6_bitCount_0f7a4_7 : decode cJ6_bitCount_0f7a4 7 = .ok (.iand, 1) := by decide +kernel
theorem dJ6_bitCount_0f7a4_8 : decode cJ6_bitCount_0f7a4 8 = .ok (.isub, 1) := by decide +kernel
theorem dJ6_bitCount_0f7a4_9 : decode cJ6_bitCount_0f7a4 9 = .ok (.istore_n 0, 1) := by decide +kernel
theorem dJ6_bitCount_0f7a4_10 : decode cJ6_bitCount_0f7a4 10 = .ok (.iload_n 0, 1) := by decide +kernel
theorem dJ6_bitCount_0f7a4_11 : decode cJ6_bitCount_0f7a4 11 = .ok (.ldc_w 266, 3) := by decide +kernel
theorem dJ6_bitCount_0f7a4_14 : decode cJ6_bitCount_0f7a4 14 = .ok (.iand, 1) := by decide +kernel
theorem dJ6_bitCount_0f7a4_15 : decode cJ6_bitCount_0f7a4 15 = .ok (.iload_n 0, 1) := by decide +kernel
theorem dJ6_bitCount_0f7a4_16 : decode cJ6_bitCount_0f7a4 16 = .ok (.iconst 2, 1) := by decide +kernel
theorem dJ6_bitCount_0f7a4_17 : decode cJ6_bitCount_0f7a4 17 = .ok (.iushr, 1) := by decide +kernel
theorem dJ6_bitCount_0f7a4_18 : decode cJ6_bitCount_0f7a4 18 = .ok (.ldc_w 266, 3) := by decide +kernel
theorem dJ6_bitCount_0f7a4_21 : decode cJ6_bitCount_0f7a4 21 = .ok (.iand, 1) := by decide +kernel
theorem dJ6_bitCount_0f7a4_22 : decode cJ6_bitCount_0f7a4 22 = .ok (.iadd, 1) := by decide +kernel
theorem dJ6_bitCount_0f7a4_23 : decode cJ6_bitCount_0f7a4 23 = .ok (.istore_n 0, 1) := by decide +kernel
theorem dJ6_bitCount_0f7a4_24 : decode cJ6_bitCount_0f7a4 24 = .ok (.iload_n 0, 1) := by decide +kernel
theorem dJ6_bitCount_0f7a4_25 : decode cJ6_bitCount_0f7a4 25 = .ok (.iload_n 0, 1) := by decide +kernel
theorem dJ6_bitCount_0f7a4_26 : decode cJ6_bitCount_0f7a4 26 = .ok (.iconst 4, 1) := by decide +kernel
theorem dJ6_bitCount_0f7a4_27 : decode cJ6_bitCount_0f7a4 27 = .ok (.iushr, 1) := by decide +kernel
theorem dJ6_bitCount_0f7a4_28 : decode cJ6_bitCount_0f7a4 28 = .ok (.iadd, 1) := by decide +kernel
theorem dJ6_bitCount_0f7a4_29 : decode cJ6_bitCount_0f7a4 29 = .ok (.ldc_w 267, 3) := by decide +kernel
theorem dJ6_bitCount_0f7a4_32 : decode cJ6_bitCount_0f7a4 32 = .ok (.iand, 1) := by decide +kernel
theorem dJ6_bitCount_0f7a4_33 : decode cJ6_bitCount_0f7a4 33 = .ok (.istore_n 0, 1) := by decide +kernel
theorem dJ6_bitCount_0f7a4_34 : decode cJ6_bitCount_0f7a4 34 = .ok (.iload_n 0, 1) := by decide +kernel
theorem dJ6_bitCount_0f7a4_35 : decode cJ6_bitCount_0f7a4 35 = .ok (.iload_n 0, 1) := by decide +kernel
theorem dJ6_bitCount_0f7a4_36 : decode cJ6_bitCount_0f7a4 36 = .ok (.bipush 8, 2) := by decide +kernel
theorem dJ6_bitCount_0f7a4_38 : decode cJ6_bitCount_0f7a4 38 = .ok (.iushr, 1) := by decide +kernel
theorem dJ6_bitCount_0f7a4_39 : decode cJ6_bitCount_0f7a4 39 = .ok (.iadd, 1) := by decide +kernel
theorem dJ6_bitCount_0f7a4_40 : decode cJ6_bitCount_0f7a4 40 = .ok (.istore_n 0, 1) := by decide +kernel
theorem dJ6_bitCount_0f7a4_41 : decode cJ6_bitCount_0f7a4 41 = .ok (.iload_n 0, 1) := by decide +kernel
theorem dJ6_bitCount_0f7a4_42 : decode cJ6_bitCount_0f7a4 42 = .ok (.iload_n 0, 1) := by decide +kernel
theorem dJ6_bitCount_0f7a4_43 : decode cJ6_bitCount_0f7a4 43 = .ok (.bipush 16, 2) := by decide +kernel
theorem dJ6_bitCount_0f7a4_45 : decode cJ6_bitCount_0f7a4 45 = .ok (.iushr, 1) := by decide +kernel
theorem dJ6_bitCount_0f7a4_46 : decode cJ6_bitCount_0f7a4 46 = .ok (.iadd, 1) := by decide +kernel
theorem dJ6_bitCount_0f7a4_47 : decode cJ6_bitCount_0f7a4 47 = .ok (.istore_n 0, 1) := by decide +kernel
theorem dJ6_bitCount_0f7a4_48 : decode cJ6_bitCount_0f7a4 48 = .ok (.iload_n 0, 1) := by decide +kernel
theorem dJ6_bitCount_0f7a4_49 : decode cJ6_bitCount_0f7a4 49 = .ok (.bipush 63, 2) := by decide +kernel
theorem dJ6_bitCount_0f7a4_51 : decode cJ6_bitCount_0f7a4 51 = .ok (.iand, 1) := by decide +kernel
theorem dJ6_bitCount_0f7a4_52 : decode cJ6_bitCount_0f7a4 52 = .ok (.ireturn, 1) := by decide +kernel
theorem dJ9_max_7cf53_0 : decode cJ9_max_7cf53 0 = .ok (.iload_n 0, 1) := by decide +kernel
theorem dJ9_max_7cf53_1 : decode cJ9_max_7cf53 1 = .ok (.iload_n 1, 1) := by decide +kernel
theorem dJ9_max_7cf53_2 : decode cJ9_max_7cf53 2 = .ok (.if_icmp .lt 7, 3) := by decide +kernel
theorem dJ9_max_7cf53_5 : decode cJ9_max_7cf53 5 = .ok (.iload_n 0, 1) := by decide +kernel
theorem dJ9_max_7cf53_6 : decode cJ9_max_7cf53 6 = .ok (.goto 4, 3) := by decide +kernel
theorem dJ9_max_7cf53_9 : decode cJ9_max_7cf53 9 = .ok (.iload_n 1, 1) := by decide +kernel
theorem dJ9_max_7cf53_10 : decode cJ9_max_7cf53 10 = .ok (.ireturn, 1) := by decide +kernel
theorem dJ9_min_7cf53_0 : decode cJ9_min_7cf53 0 = .ok (.iload_n 0, 1) := by decide +kernel
theorem dJ9_min_7cf53_1 : decode cJ9_min_7cf53 1 = .ok (.iload_n 1, 1) := by decide +kernel
theorem dJ9_min_7cf53_2 : decode cJ9_min_7cf53 2 = .ok (.if_icmp .gt 7, 3) := by decide +kernel
theorem dJ9_min_7cf53_5 : decode cJ9_min_7cf53 5 = .ok (.iload_n 0, 1) := by decide +kernel
theorem dJ9_min_7cf53_6 : decode cJ9_min_7cf53 6 = .ok (.goto 4, 3) := by decide +kernel
theorem dJ9_min_7cf53_9 : decode cJ9_min_7cf53 9 = .ok (.iload_n 1, 1) := by decide +kernel
theorem dJ9_min_7cf53_10 : decode cJ9_min_7cf53 10 = .ok (.ireturn, 1) := by decide +kernel
theorem dJ7_fill_53178_0 : decode cJ7_fill_53178 0 = .ok (.iconst 0, 1) := by decide +kernel
theorem dJ7_fill_53178_1 : decode cJ7_fill_53178 1 = .ok (.istore_n 2, 1) := by decide +kernel
theorem dJ7_fill_53178_2 : decode cJ7_fill_53178 2 = .ok (.aload_n 0, 1) := by decide +kernel
theorem dJ7_fill_53178_3 : decode cJ7_fill_53178 3 = .ok (.arraylength, 1) := by decide +kernel
theorem dJ7_fill_53178_4 : decode cJ7_fill_53178 4 = .ok (.istore_n 3, 1) := by decide +kernel
theorem dJ7_fill_53178_5 : decode cJ7_fill_53178 5 = .ok (.iload_n 2, 1) := by decide +kernel
theorem dJ7_fill_53178_6 : decode cJ7_fill_53178 6 = .ok (.iload_n 3, 1) := by decide +kernel
theorem dJ7_fill_53178_7 : decode cJ7_fill_53178 7 = .ok (.if_icmp .ge 13, 3) := by decide +kernel
theorem dJ7_fill_53178_10 : decode cJ7_fill_53178 10 = .ok (.aload_n 0, 1) := by decide +kernel
theorem dJ7_fill_53178_11 : decode cJ7_fill_53178 11 = .ok (.iload_n 2, 1) := by decide +kernel
theorem dJ7_fill_53178_12 : decode cJ7_fill_53178 12 = .ok (.iload_n 1, 1) := by decide +kernel
theorem dJ7_fill_53178_13 : decode cJ7_fill_53178 13 = .ok (.iastore, 1) := by decide +kernel
theorem dJ7_fill_53178_14 : decode cJ7_fill_53178 14 = .ok (.iinc 2 1, 3) := by decide +kernel
theorem dJ7_fill_53178_17 : decode cJ7_fill_53178 17 = .ok (.goto (-12), 3) := by decide +kernel
theorem dJ7_fill_53178_20 : decode cJ7_fill_53178 20 = .ok (.return_, 1) := by decide +kernel
set_option maxRecDepth 20000 in
theorem ggL_law_X4_init : GoodIn wsL_law wsX4_init := goodIn_r _ [9, 10, 11, 12, 13, 14, 15, 16, 17, 18, 19, 20, 21, 22, 23, 24, 25, 26, 27, 28, 29, 30, 31, 32, 33, 34, 35, 36, 37, 38, 39, 40, 41, 42, 43, 44, 45, 46, 47, 48, 49, 50, 51, 52, 53, 54, 55, 56, 57, 58, 59, 611, 612, 613, 614, 615, 616, 617, 638, 639, 640, 641, 642, 643, 644, 645, 646, 647, 648, 649, 650, 651, 652, 653, 654, 655, 656, 657, 658, 659, 660, 661, 662, 663, 664, 665, 666, 667] (by decide +kernel) (by decide +kernel)
set_option maxRecDepth 20000 in
theorem gL_law_X4_init : GoodIn wsL_law (wsX4_init) := ggL_law_X4_init
set_option maxRecDepth 20000 in
theorem ggL_law_X5_init : GoodIn wsL_law wsX5_init := goodIn_r _ [62, 63, 11, 12, 32, 64, 65, 66, 67, 68, 69, 70, 71, 72, 73, 74, 75, 76, 77, 78, 79, 80, 81, 618, 619, 620, 621, 622, 623, 624, 625, 626, 627, 628, 629, 630, 631, 632, 633, 634, 635, 636, 637] (by decide +kernel) (by decide +kernel)
set_option maxRecDepth 20000 in
theorem gL_law_X5_init : GoodIn wsL_law (wsX5_init) := ggL_law_X5_init
set_option maxRecDepth 20000 in
theorem ggL_law_X4_clear : GoodIn wsL_law wsX4_clear := goodIn_r _ [85, 86, 87, 611, 612, 613, 614, 615, 616, 617] (by decide +kernel) (by decide +kernel)
set_option maxRecDepth 20000 in
theorem gL_law_X4_clear : GoodIn wsL_law (wsV RL 13 RX4 yX4_clear wsX4_clear) := goodIn_app (goodIn_of _ (by decide +kernel)) ggL_law_X4_clear
set_option maxRecDepth 20000 in
theorem ggL_law_X5_clear : GoodIn wsL_law wsX5_clear := goodIn_r _ [91, 92, 618, 619, 620, 621, 622, 623, 624, 625, 626, 627, 628, 629, 630, 631, 632, 633, 634, 635, 636, 637] (by decide +kernel) (by decide +kernel)
set_option maxRecDepth 20000 in
theorem gL_law_X5_clear : GoodIn wsL_law (wsV RL 16 RX5 yX5_clear wsX5_clear) := goodIn_app (goodIn_of _ (by decide +kernel)) ggL_law_X5_clear
set_option maxRecDepth 20000 in
theorem ggL_law_X4_thing : GoodIn wsL_law wsX4_thing := goodIn_r _ [96, 97, 98, 99, 2, 100, 86, 14, 87, 101, 102, 103, 104, 105, 106, 24, 107, 108, 109, 110, 111, 112, 113, 114, 115, 41, 116, 117, 118, 119, 611, 612, 613, 614, 615, 616, 617, 645, 646, 647, 648, 649, 650, 651, 652, 653] (by decide +kernel) (by decide +kernel)
set_option maxRecDepth 20000 in
theorem gL_law_X4_thing : GoodIn wsL_law (wsV RL 17 RX4 yX4_thing wsX4_thing) := goodIn_app (goodIn_of _ (by decide +kernel)) ggL_law_X4_thing
set_option maxRecDepth 20000 in
theorem ggL_law_X5_thing : GoodIn wsL_law wsX5_thing := goodIn_r _ [123, 92, 124, 125, 5, 126, 127, 128, 129, 130, 64, 65, 66, 67, 68, 69, 70, 618, 619, 620, 621, 622, 623, 624, 625, 626, 627, 628, 629, 630, 631, 632, 633, 634, 635, 636, 637] (by decide +kernel) (by decide +kernel)
set_option maxRecDepth 20000 in
theorem gL_law_X5_thing : GoodIn wsL_law (wsV RL 21 RX5 yX5_thing wsX5_thing) := goodIn_app (goodIn_of _ (by decide +kernel)) ggL_law_X5_thing
set_option maxRecDepth 20000 in
theorem ggL_law_X4_table : GoodIn wsL_law wsX4_table := goodIn_r _ [134, 97, 98, 99, 2, 100, 86, 14, 87, 101, 102, 103, 104, 105, 106, 24, 107, 108, 109, 110, 111, 112, 113, 114, 115, 41, 116, 117, 118, 119, 611, 612, 613, 614, 615, 616, 617, 645, 646, 647, 648, 649, 650, 651, 652, 653] (by decide +kernel) (by decide +kernel)
set_option maxRecDepth 20000 in
theorem gL_law_X4_table : GoodIn wsL_law (wsV RL 24 RX4 yX4_table wsX4_table) := goodIn_app (goodIn_of _ (by decide +kernel)) ggL_law_X4_table
set_option maxRecDepth 20000 in
theorem ggL_law_X5_table : GoodIn wsL_law wsX5_table := goodIn_r _ [138, 92, 72, 73, 124, 125, 5, 126, 127, 128, 129, 130, 64, 65, 66, 67, 68, 69, 70, 618, 619, 620, 621, 622, 623, 624, 625, 626, 627, 628, 629, 630, 631, 632, 633, 634, 635, 636, 637] (by decide +kernel) (by decide +kernel)
set_option maxRecDepth 20000 in
theorem gL_law_X5_table : GoodIn wsL_law (wsV RL 28 RX5 yX5_table wsX5_table) := goodIn_app (goodIn_of _ (by decide +kernel)) ggL_law_X5_table
set_option maxRecDepth 20000 in
theorem ggL_law_X4_wall : GoodIn wsL_law wsX4_wall := goodIn_r _ [142, 14, 143, 87, 144, 145, 146, 2, 147, 86, 148, 149, 150, 151, 152, 153, 24, 154, 114, 115, 611, 612, 613, 614, 615, 616, 617, 645, 646, 647, 648, 649, 650, 651, 652, 653] (by decide +kernel) (by decide +kernel)
set_option maxRecDepth 20000 in
theorem gL_law_X4_wall : GoodIn wsL_law (wsV RL 29 RX4 yX4_wall wsX4_wall) := goodIn_app (goodIn_of _ (by decide +kernel)) ggL_law_X4_wall
set_option maxRecDepth 20000 in
theorem ggL_law_X5_wall : GoodIn wsL_law wsX5_wall := goodIn_r _ [158, 66, 67, 68, 159, 160, 161, 5, 162, 92, 124, 125, 126, 163, 164, 165, 618, 619, 620, 621, 622, 623, 624, 625, 626, 627, 628, 629, 630, 631, 632, 633, 634, 635, 636, 637] (by decide +kernel) (by decide +kernel)
set_option maxRecDepth 20000 in
theorem gL_law_X5_wall : GoodIn wsL_law (wsV RL 33 RX5 yX5_wall wsX5_wall) := goodIn_app (goodIn_of _ (by decide +kernel)) ggL_law_X5_wall
set_option maxRecDepth 20000 in
theorem ggL_law_X4_set : GoodIn wsL_law wsX4_set := goodIn_r _ [169, 14, 87, 144, 145, 146, 2, 147, 86, 148, 149, 150, 151, 152, 153, 24, 154, 114, 115, 611, 612, 613, 614, 615, 616, 617, 645, 646, 647, 648, 649, 650, 651, 652, 653] (by decide +kernel) (by decide +kernel)
set_option maxRecDepth 20000 in
theorem gL_law_X4_set : GoodIn wsL_law (wsV RL 34 RX4 yX4_set wsX4_set) := goodIn_app (goodIn_of _ (by decide +kernel)) ggL_law_X4_set
set_option maxRecDepth 20000 in
theorem ggL_law_X5_set : GoodIn wsL_law wsX5_set := goodIn_r _ [173, 67, 68, 159, 160, 161, 5, 162, 92, 124, 125, 126, 163, 164, 165, 618, 619, 620, 621, 622, 623, 624, 625, 626, 627, 628, 629, 630, 631, 632, 633, 634, 635, 636, 637] (by decide +kernel) (by decide +kernel)
set_option maxRecDepth 20000 in
theorem gL_law_X5_set : GoodIn wsL_law (wsV RL 37 RX5 yX5_set wsX5_set) := goodIn_app (goodIn_of _ (by decide +kernel)) ggL_law_X5_set
set_option maxRecDepth 20000 in
theorem ggL_law_X4_price : GoodIn wsL_law wsX4_price := goodIn_r _ [177, 14, 178, 144, 145, 146, 2, 147, 86, 611, 612, 613, 614, 615, 616, 617, 645, 646, 647, 648, 649, 650, 651, 652, 653] (by decide +kernel) (by decide +kernel)
set_option maxRecDepth 20000 in
theorem gL_law_X4_price : GoodIn wsL_law (wsV RL 38 RX4 yX4_price wsX4_price) := goodIn_app (goodIn_of _ (by decide +kernel)) ggL_law_X4_price
set_option maxRecDepth 20000 in
theorem ggL_law_X5_price : GoodIn wsL_law wsX5_price := goodIn_r _ [182, 69, 159, 160, 161, 5, 162, 92, 124, 125, 126, 618, 619, 620, 621, 622, 623, 624, 625, 626, 627, 628, 629, 630, 631, 632, 633, 634, 635, 636, 637] (by decide +kernel) (by decide +kernel)
set_option maxRecDepth 20000 in
theorem gL_law_X5_price : GoodIn wsL_law (wsV RL 41 RX5 yX5_price wsX5_price) := goodIn_app (goodIn_of _ (by decide +kernel)) ggL_law_X5_price
set_option maxRecDepth 20000 in
theorem ggL_law_X4_look : GoodIn wsL_law wsX4_look := goodIn_r _ [186, 86, 187, 188, 189, 2, 190, 191, 192, 193, 194, 195, 16, 196, 87, 22, 14, 197, 198, 199, 200, 143, 201, 202, 203, 21, 204, 205, 206, 207, 37, 36, 208, 209, 210, 211, 212, 213, 214, 33, 34, 35, 215, 216, 217, 218, 219, 220, 221, 222, 24, 223, 108, 112, 224, 225, 226, 227, 228, 229, 230, 231, 232, 233, 234, 235, 236, 237, 111, 238, 239, 240, 241, 242, 243, 244, 245, 246, 247, 248, 26, 249, 250, 251, 49, 46, 252, 117, 118, 119, 253, 254, 255, 256, 257, 258, 259, 47, 48, 260, 261, 262, 263, 264, 265, 266, 267, 268, 269, 270, 271, 272, 273, 274, 275, 276, 277, 278, 279, 45, 280, 281, 282, 283, 284, 285, 286, 287, 288, 289, 290, 291, 292, 293, 294, 178, 295, 611, 612, 613, 614, 615, 616, 617, 654, 655, 656, 657, 658, 659, 660, 661, 645, 646, 647, 648, 649, 650, 651, 652, 653, 638, 639, 640, 641, 642, 643, 644] (by decide +kernel) (by decide +kernel)
set_option maxRecDepth 20000 in
theorem gL_law_X4_look : GoodIn wsL_law (wsV RL 42 RX4 yX4_look wsX4_look) := goodIn_app (goodIn_of _ (by decide +kernel)) ggL_law_X4_look
set_option maxRecDepth 20000 in
theorem ggL_law_X5_look : GoodIn wsL_law wsX5_look := goodIn_r _ [299, 92, 300, 301, 302, 5, 303, 159, 160, 161, 162, 124, 125, 126, 304, 305, 306, 307, 74, 65, 308, 309, 310, 311, 312, 313, 314, 315, 66, 67, 316, 317, 318, 319, 320, 321, 322, 323, 324, 325, 326, 327, 64, 72, 328, 73, 329, 330, 331, 332, 333, 334, 335, 336, 68, 337, 338, 339, 340, 341, 342, 343, 344, 345, 346, 347, 348, 349, 350, 351, 352, 69, 618, 619, 620, 621, 622, 623, 624, 625, 626, 627, 628, 629, 630, 631, 632, 633, 634, 635, 636, 637] (by decide +kernel) (by decide +kernel)
set_option maxRecDepth 20000 in
theorem gL_law_X5_look : GoodIn wsL_law (wsV RL 46 RX5 yX5_look wsX5_look) := goodIn_app (goodIn_of _ (by decide +kernel)) ggL_law_X5_look
set_option maxRecDepth 20000 in
theorem ggL_law_X4_of : GoodIn wsL_law wsX4_of := goodIn_r _ [356, 14, 357, 358, 143, 359, 360, 144, 145, 146, 2, 147, 86, 611, 612, 613, 614, 615, 616, 617, 645, 646, 647, 648, 649, 650, 651, 652, 653] (by decide +kernel) (by decide +kernel)
set_option maxRecDepth 20000 in
theorem gL_law_X4_of : GoodIn wsL_law (wsV RL 47 RX4 yX4_of wsX4_of) := goodIn_app (goodIn_of _ (by decide +kernel)) ggL_law_X4_of
set_option maxRecDepth 20000 in
theorem ggL_law_X5_of : GoodIn wsL_law wsX5_of := goodIn_r _ [364, 64, 65, 66, 67, 68, 159, 160, 161, 5, 162, 92, 124, 125, 126, 618, 619, 620, 621, 622, 623, 624, 625, 626, 627, 628, 629, 630, 631, 632, 633, 634, 635, 636, 637] (by decide +kernel) (by decide +kernel)
set_option maxRecDepth 20000 in
theorem gL_law_X5_of : GoodIn wsL_law (wsV RL 50 RX5 yX5_of wsX5_of) := goodIn_app (goodIn_of _ (by decide +kernel)) ggL_law_X5_of
set_option maxRecDepth 20000 in
theorem ggL_law_X4_does : GoodIn wsL_law wsX4_does := goodIn_r _ [368, 14, 357, 144, 145, 146, 2, 147, 86, 101, 102, 103, 369, 235, 236, 24, 237, 108, 111, 224, 225, 226, 238, 239, 240, 241, 242, 217, 218, 219, 243, 244, 245, 370, 221, 222, 223, 112, 227, 228, 229, 230, 611, 612, 613, 614, 615, 616, 617, 645, 646, 647, 648, 649, 650, 651, 652, 653] (by decide +kernel) (by decide +kernel)
set_option maxRecDepth 20000 in
theorem gL_law_X4_does : GoodIn wsL_law (wsV RL 51 RX4 yX4_does wsX4_does) := goodIn_app (goodIn_of _ (by decide +kernel)) ggL_law_X4_does
set_option maxRecDepth 20000 in
theorem ggL_law_X5_does : GoodIn wsL_law wsX5_does := goodIn_r _ [374, 64, 159, 160, 161, 5, 162, 92, 124, 125, 126, 324, 325, 326, 327, 72, 328, 73, 618, 619, 620, 621, 622, 623, 624, 625, 626, 627, 628, 629, 630, 631, 632, 633, 634, 635, 636, 637] (by decide +kernel) (by decide +kernel)
set_option maxRecDepth 20000 in
theorem gL_law_X5_does : GoodIn wsL_law (wsV RL 55 RX5 yX5_does wsX5_does) := goodIn_app (goodIn_of _ (by decide +kernel)) ggL_law_X5_does
set_option maxRecDepth 20000 in
theorem ggL_law_X4_silent : GoodIn wsL_law wsX4_silent := goodIn_r _ [378, 191, 144, 145, 146, 2, 147, 86, 192, 193, 194, 195, 16, 196, 87, 22, 14, 197, 198, 199, 200, 143, 201, 202, 203, 21, 204, 205, 206, 207, 37, 36, 208, 209, 210, 211, 212, 213, 214, 33, 34, 35, 215, 216, 217, 218, 219, 220, 221, 222, 24, 223, 108, 112, 224, 225, 226, 227, 228, 229, 230, 231, 232, 233, 234, 235, 236, 237, 111, 238, 239, 240, 241, 242, 243, 244, 245, 246, 247, 248, 26, 249, 250, 251, 49, 46, 252, 117, 118, 119, 253, 254, 255, 256, 257, 258, 259, 47, 48, 260, 261, 262, 263, 264, 265, 266, 267, 268, 269, 270, 271, 272, 273, 274, 275, 276, 277, 278, 279, 45, 280, 281, 282, 283, 284, 285, 286, 287, 288, 289, 290, 654, 655, 656, 657, 658, 659, 660, 661, 611, 612, 613, 614, 615, 616, 617, 645, 646, 647, 648, 649, 650, 651, 652, 653, 638, 639, 640, 641, 642, 643, 644] (by decide +kernel) (by decide +kernel)
set_option maxRecDepth 20000 in
theorem gL_law_X4_silent : GoodIn wsL_law (wsV RL 56 RX4 yX4_silent wsX4_silent) := goodIn_app (goodIn_of _ (by decide +kernel)) ggL_law_X4_silent
set_option maxRecDepth 20000 in
theorem ggL_law_X5_silent : GoodIn wsL_law wsX5_silent := goodIn_r _ [303, 159, 160, 161, 5, 162, 92, 124, 125, 126, 304, 305, 306, 307, 74, 65, 308, 309, 310, 311, 312, 313, 314, 315, 66, 67, 316, 317, 318, 319, 320, 321, 322, 323, 324, 325, 326, 327, 64, 72, 328, 73, 329, 330, 331, 332, 333, 334, 335, 336, 68, 337, 338, 339, 340, 341, 342, 343, 344, 618, 619, 620, 621, 622, 623, 624, 625, 626, 627, 628, 629, 630, 631, 632, 633, 634, 635, 636, 637] (by decide +kernel) (by decide +kernel)
set_option maxRecDepth 20000 in
theorem gL_law_X5_silent : GoodIn wsL_law (wsV RL 59 RX5 yX5_silent wsX5_silent) := goodIn_app (goodIn_of _ (by decide +kernel)) ggL_law_X5_silent
set_option maxRecDepth 20000 in
theorem ggL_law_X4_shown : GoodIn wsL_law wsX4_shown := goodIn_r _ [383, 191, 144, 145, 146, 2, 147, 86, 192, 193, 194, 195, 16, 196, 87, 22, 14, 197, 198, 199, 200, 143, 201, 202, 203, 21, 204, 205, 206, 207, 37, 36, 208, 209, 210, 211, 212, 213, 214, 33, 34, 35, 215, 216, 217, 218, 219, 220, 221, 222, 24, 223, 108, 112, 224, 225, 226, 227, 228, 229, 230, 231, 232, 233, 234, 235, 236, 237, 111, 238, 239, 240, 241, 242, 243, 244, 245, 246, 247, 248, 26, 249, 250, 251, 49, 46, 252, 117, 118, 119, 253, 254, 255, 256, 257, 258, 259, 47, 48, 260, 261, 262, 263, 264, 265, 266, 267, 268, 269, 270, 271, 272, 273, 274, 275, 276, 277, 278, 279, 45, 280, 281, 282, 283, 284, 285, 286, 287, 288, 289, 290, 654, 655, 656, 657, 658, 659, 660, 661, 611, 612, 613, 614, 615, 616, 617, 645, 646, 647, 648, 649, 650, 651, 652, 653, 638, 639, 640, 641, 642, 643, 644] (by decide +kernel) (by decide +kernel)
set_option maxRecDepth 20000 in
theorem gL_law_X4_shown : GoodIn wsL_law (wsV RL 60 RX4 yX4_shown wsX4_shown) := goodIn_app (goodIn_of _ (by decide +kernel)) ggL_law_X4_shown
set_option maxRecDepth 20000 in
theorem ggL_law_X5_shown : GoodIn wsL_law wsX5_shown := goodIn_r _ [387, 159, 160, 161, 5, 162, 92, 124, 125, 126, 304, 305, 306, 307, 74, 65, 308, 309, 310, 311, 312, 313, 314, 315, 66, 67, 316, 317, 318, 319, 320, 321, 322, 323, 324, 325, 326, 327, 64, 72, 328, 73, 329, 330, 331, 332, 333, 334, 335, 336, 68, 337, 338, 339, 340, 341, 342, 343, 344, 618, 619, 620, 621, 622, 623, 624, 625, 626, 627, 628, 629, 630, 631, 632, 633, 634, 635, 636, 637] (by decide +kernel) (by decide +kernel)
set_option maxRecDepth 20000 in
theorem gL_law_X5_shown : GoodIn wsL_law (wsV RL 63 RX5 yX5_shown wsX5_shown) := goodIn_app (goodIn_of _ (by decide +kernel)) ggL_law_X5_shown
set_option maxRecDepth 20000 in
theorem ggL_law_X4_show : GoodIn wsL_law wsX4_show := goodIn_r _ [391, 191, 392, 144, 145, 146, 2, 147, 86, 192, 193, 194, 195, 16, 196, 87, 22, 14, 197, 198, 199, 200, 143, 201, 202, 203, 21, 204, 205, 206, 207, 37, 36, 208, 209, 210, 211, 212, 213, 214, 33, 34, 35, 215, 216, 217, 218, 219, 220, 221, 222, 24, 223, 108, 112, 224, 225, 226, 227, 228, 229, 230, 231, 232, 233, 234, 235, 236, 237, 111, 238, 239, 240, 241, 242, 243, 244, 245, 246, 247, 248, 26, 249, 250, 251, 49, 46, 252, 117, 118, 119, 253, 254, 255, 256, 257, 258, 259, 47, 48, 260, 261, 262, 263, 264, 265, 266, 267, 268, 269, 270, 271, 272, 273, 274, 275, 276, 277, 278, 279, 45, 280, 281, 282, 283, 284, 285, 286, 287, 288, 289, 290, 654, 655, 656, 657, 658, 659, 660, 661, 611, 612, 613, 614, 615, 616, 617, 645, 646, 647, 648, 649, 650, 651, 652, 653, 638, 639, 640, 641, 642, 643, 644] (by decide +kernel) (by decide +kernel)
set_option maxRecDepth 20000 in
theorem gL_law_X4_show : GoodIn wsL_law (wsV RL 64 RX4 yX4_show wsX4_show) := goodIn_app (goodIn_of _ (by decide +kernel)) ggL_law_X4_show
set_option maxRecDepth 20000 in
theorem ggL_law_X5_show : GoodIn wsL_law wsX5_show := goodIn_r _ [396, 65, 159, 160, 161, 5, 162, 92, 124, 125, 126, 304, 305, 306, 307, 74, 308, 309, 310, 311, 312, 313, 314, 315, 66, 67, 316, 317, 318, 319, 320, 321, 322, 323, 324, 325, 326, 327, 64, 72, 328, 73, 329, 330, 331, 332, 333, 334, 335, 336, 68, 337, 338, 339, 340, 341, 342, 343, 344, 397, 398, 399, 618, 619, 620, 621, 622, 623, 624, 625, 626, 627, 628, 629, 630, 631, 632, 633, 634, 635, 636, 637] (by decide +kernel) (by decide +kernel)
set_option maxRecDepth 20000 in
theorem gL_law_X5_show : GoodIn wsL_law (wsV RL 68 RX5 yX5_show wsX5_show) := goodIn_app (goodIn_of _ (by decide +kernel)) ggL_law_X5_show
set_option maxRecDepth 20000 in
theorem ggL_law_X4_letters : GoodIn wsL_law wsX4_letters := goodIn_r _ [403, 404, 405, 406, 407, 2, 408, 18, 409, 87, 22, 14, 86, 410, 197, 198, 199, 200, 143, 201, 202, 203, 21, 204, 205, 206, 207, 37, 36, 208, 209, 210, 211, 212, 213, 214, 33, 34, 35, 215, 216, 217, 218, 219, 220, 221, 222, 24, 223, 108, 112, 224, 225, 226, 227, 228, 229, 230, 231, 232, 233, 234, 235, 236, 237, 111, 238, 239, 240, 241, 242, 243, 244, 245, 411, 28, 412, 59, 413, 56, 57, 414, 415, 416, 417, 418, 55, 419, 420, 421, 422, 423, 424, 425, 426, 427, 428, 429, 430, 431, 268, 269, 270, 271, 432, 433, 434, 435, 436, 437, 438, 439, 440, 441, 442, 443, 444, 445, 446, 447, 448, 449, 450, 451, 452, 453, 454, 455, 456, 457, 458, 459, 460, 461, 462, 463, 464, 465, 466, 467, 468, 469, 470, 471, 662, 663, 664, 665, 666, 667, 611, 612, 613, 614, 615, 616, 617, 638, 639, 640, 641, 642, 643, 644, 645, 646, 647, 648, 649, 650, 651, 652, 653] (by decide +kernel) (by decide +kernel)
set_option maxRecDepth 20000 in
theorem gL_law_X4_letters : GoodIn wsL_law (wsV RL 69 RX4 yX4_letters wsX4_letters) := goodIn_app (goodIn_of _ (by decide +kernel)) ggL_law_X4_letters
set_option maxRecDepth 20000 in
theorem ggL_law_X5_letters : GoodIn wsL_law wsX5_letters := goodIn_r _ [475, 476, 124, 125, 5, 126, 477, 478, 479, 480, 92, 65, 481, 482, 483, 484, 485, 486, 487, 77, 75, 76, 78, 488, 489, 490, 491, 492, 493, 494, 495, 496, 497, 498, 499, 66, 67, 500, 501, 502, 320, 321, 322, 323, 324, 325, 326, 327, 64, 72, 328, 73, 503, 504, 505, 506, 507, 508, 509, 510, 511, 512, 513, 333, 334, 335, 336, 68, 514, 515, 516, 517, 518, 519, 520, 521, 522, 523, 524, 525, 337, 338, 339, 340, 618, 619, 620, 621, 622, 623, 624, 625, 626, 627, 628, 629, 630, 631, 632, 633, 634, 635, 636, 637] (by decide +kernel) (by decide +kernel)
set_option maxRecDepth 20000 in
theorem gL_law_X5_letters : GoodIn wsL_law (wsV RL 72 RX5 yX5_letters wsX5_letters) := goodIn_app (goodIn_of _ (by decide +kernel)) ggL_law_X5_letters
set_option maxRecDepth 20000 in
theorem ggL_law_X4_letter : GoodIn wsL_law wsX4_letter := goodIn_r _ [529, 404, 530, 405, 406, 407, 2, 408, 18, 409, 87, 22, 14, 86, 410, 197, 198, 199, 200, 143, 201, 202, 203, 21, 204, 205, 206, 207, 37, 36, 208, 209, 210, 211, 212, 213, 214, 33, 34, 35, 215, 216, 217, 218, 219, 220, 221, 222, 24, 223, 108, 112, 224, 225, 226, 227, 228, 229, 230, 231, 232, 233, 234, 235, 236, 237, 111, 238, 239, 240, 241, 242, 243, 244, 245, 411, 28, 412, 59, 413, 56, 57, 414, 415, 416, 417, 418, 55, 419, 420, 421, 422, 423, 424, 425, 426, 427, 428, 429, 430, 431, 268, 269, 270, 271, 432, 433, 434, 435, 436, 437, 438, 439, 440, 441, 442, 443, 444, 445, 446, 447, 448, 449, 450, 451, 452, 453, 454, 455, 456, 457, 458, 459, 460, 461, 462, 463, 464, 465, 466, 467, 468, 469, 470, 471, 531, 662, 663, 664, 665, 666, 667, 611, 612, 613, 614, 615, 616, 617, 638, 639, 640, 641, 642, 643, 644, 645, 646, 647, 648, 649, 650, 651, 652, 653] (by decide +kernel) (by decide +kernel)
set_option maxRecDepth 20000 in
theorem gL_law_X4_letter : GoodIn wsL_law (wsV RL 73 RX4 yX4_letter wsX4_letter) := goodIn_app (goodIn_of _ (by decide +kernel)) ggL_law_X4_letter
set_option maxRecDepth 20000 in
theorem ggL_law_X5_letter : GoodIn wsL_law wsX5_letter := goodIn_r _ [535, 79, 80, 81, 124, 125, 5, 126, 536, 537, 538, 539, 476, 477, 478, 479, 480, 92, 65, 488, 489, 490, 491, 492, 493, 494, 495, 496, 497, 498, 499, 66, 67, 500, 501, 502, 320, 321, 322, 323, 324, 325, 326, 327, 64, 72, 328, 73, 503, 504, 505, 481, 482, 483, 484, 485, 486, 487, 77, 75, 76, 78, 506, 507, 508, 509, 510, 511, 512, 513, 333, 334, 335, 336, 68, 514, 515, 516, 517, 518, 519, 520, 521, 522, 523, 524, 525, 337, 338, 339, 340, 540, 541, 542, 543, 618, 619, 620, 621, 622, 623, 624, 625, 626, 627, 628, 629, 630, 631, 632, 633, 634, 635, 636, 637] (by decide +kernel) (by decide +kernel)
set_option maxRecDepth 20000 in
theorem gL_law_X5_letter : GoodIn wsL_law (wsV RL 77 RX5 yX5_letter wsX5_letter) := goodIn_app (goodIn_of _ (by decide +kernel)) ggL_law_X5_letter
set_option maxRecDepth 20000 in
theorem ggL_law_X4_begin : GoodIn wsL_law wsX4_begin := goodIn_r _ [547, 86, 14, 358, 548, 549, 611, 612, 613, 614, 615, 616, 617, 645, 646, 647, 648, 649, 650, 651, 652, 653] (by decide +kernel) (by decide +kernel)
set_option maxRecDepth 20000 in
theorem gL_law_X4_begin : GoodIn wsL_law (wsV RL 78 RX4 yX4_begin wsX4_begin) := goodIn_app (goodIn_of _ (by decide +kernel)) ggL_law_X4_begin
set_option maxRecDepth 20000 in
theorem ggL_law_X5_begin : GoodIn wsL_law wsX5_begin := goodIn_r _ [553, 554, 92, 70, 65, 618, 619, 620, 621, 622, 623, 624, 625, 626, 627, 628, 629, 630, 631, 632, 633, 634, 635, 636, 637] (by decide +kernel) (by decide +kernel)
set_option maxRecDepth 20000 in
theorem gL_law_X5_begin : GoodIn wsL_law (wsV RL 81 RX5 yX5_begin wsX5_begin) := goodIn_app (goodIn_of _ (by decide +kernel)) ggL_law_X5_begin
set_option maxRecDepth 20000 in
theorem ggL_law_X4_run : GoodIn wsL_law wsX4_run := goodIn_r _ [558, 22, 14, 86, 548, 549, 559, 560, 561, 2, 562, 197, 198, 199, 200, 143, 201, 202, 203, 21, 204, 205, 206, 207, 37, 36, 208, 209, 210, 211, 212, 213, 214, 33, 34, 35, 215, 216, 217, 218, 219, 220, 221, 222, 24, 223, 108, 112, 224, 225, 226, 227, 228, 229, 230, 231, 232, 233, 234, 235, 236, 237, 111, 238, 239, 240, 241, 242, 243, 244, 245, 563, 265, 266, 267, 268, 269, 270, 271, 564, 273, 274, 275, 565, 284, 285, 286, 611, 612, 613, 614, 615, 616, 617, 645, 646, 647, 648, 649, 650, 651, 652, 653, 638, 639, 640, 641, 642, 643, 644] (by decide +kernel) (by decide +kernel)
set_option maxRecDepth 20000 in
theorem gL_law_X4_run : GoodIn wsL_law (wsV RL 82 RX4 yX4_run wsX4_run) := goodIn_app (goodIn_of _ (by decide +kernel)) ggL_law_X4_run
set_option maxRecDepth 20000 in
theorem ggL_law_X5_run : GoodIn wsL_law wsX5_run := goodIn_r _ [569, 92, 70, 554, 492, 493, 494, 5, 495, 124, 125, 126, 496, 497, 498, 499, 66, 67, 65, 500, 501, 502, 320, 321, 322, 323, 324, 325, 326, 327, 64, 72, 328, 73, 503, 504, 505, 510, 511, 512, 513, 333, 334, 335, 336, 68, 522, 523, 524, 525, 337, 338, 339, 340, 618, 619, 620, 621, 622, 623, 624, 625, 626, 627, 628, 629, 630, 631, 632, 633, 634, 635, 636, 637] (by decide +kernel) (by decide +kernel)
set_option maxRecDepth 20000 in
theorem gL_law_X5_run : GoodIn wsL_law (wsV RL 85 RX5 yX5_run wsX5_run) := goodIn_app (goodIn_of _ (by decide +kernel)) ggL_law_X5_run
set_option maxRecDepth 20000 in
theorem ggL_law_X4_state : GoodIn wsL_law wsX4_state := goodIn_r _ [573, 14, 548, 144, 145, 146, 2, 147, 86, 611, 612, 613, 614, 615, 616, 617, 645, 646, 647, 648, 649, 650, 651, 652, 653] (by decide +kernel) (by decide +kernel)
set_option maxRecDepth 20000 in
theorem gL_law_X4_state : GoodIn wsL_law (wsV RL 86 RX4 yX4_state wsX4_state) := goodIn_app (goodIn_of _ (by decide +kernel)) ggL_law_X4_state
set_option maxRecDepth 20000 in
theorem ggL_law_X5_state : GoodIn wsL_law wsX5_state := goodIn_r _ [577, 70, 159, 160, 161, 5, 162, 92, 124, 125, 126, 618, 619, 620, 621, 622, 623, 624, 625, 626, 627, 628, 629, 630, 631, 632, 633, 634, 635, 636, 637] (by decide +kernel) (by decide +kernel)
set_option maxRecDepth 20000 in
theorem gL_law_X5_state : GoodIn wsL_law (wsV RL 89 RX5 yX5_state wsX5_state) := goodIn_app (goodIn_of _ (by decide +kernel)) ggL_law_X5_state
set_option maxRecDepth 20000 in
theorem ggL_law_X4_ticks : GoodIn wsL_law wsX4_ticks := goodIn_r _ [581, 549, 611, 612, 613, 614, 615, 616, 617] (by decide +kernel) (by decide +kernel)
set_option maxRecDepth 20000 in
theorem gL_law_X4_ticks : GoodIn wsL_law (wsV RL 90 RX4 yX4_ticks wsX4_ticks) := goodIn_app (goodIn_of _ (by decide +kernel)) ggL_law_X4_ticks
set_option maxRecDepth 20000 in
theorem ggL_law_X5_ticks : GoodIn wsL_law wsX5_ticks := goodIn_r _ [585, 554, 618, 619, 620, 621, 622, 623, 624, 625, 626, 627, 628, 629, 630, 631, 632, 633, 634, 635, 636, 637] (by decide +kernel) (by decide +kernel)
set_option maxRecDepth 20000 in
theorem gL_law_X5_ticks : GoodIn wsL_law (wsV RL 94 RX5 yX5_ticks wsX5_ticks) := goodIn_app (goodIn_of _ (by decide +kernel)) ggL_law_X5_ticks
set_option maxRecDepth 20000 in
theorem ggL_law_X4_walls : GoodIn wsL_law wsX4_walls := goodIn_r _ [589, 86, 291, 292, 293, 2, 294, 14, 178, 295, 209, 210, 590, 591, 592, 593, 22, 410, 201, 202, 203, 21, 204, 205, 206, 207, 37, 36, 208, 211, 212, 213, 214, 33, 34, 35, 215, 216, 217, 218, 219, 220, 221, 222, 24, 223, 108, 112, 224, 225, 226, 227, 228, 229, 230, 231, 232, 233, 234, 235, 236, 237, 111, 238, 239, 240, 241, 242, 243, 244, 245, 449, 450, 451, 452, 453, 454, 423, 424, 425, 426, 427, 428, 429, 430, 431, 268, 269, 270, 271, 455, 432, 433, 434, 435, 436, 437, 438, 439, 440, 441, 442, 443, 444, 445, 446, 447, 448, 611, 612, 613, 614, 615, 616, 617, 645, 646, 647, 648, 649, 650, 651, 652, 653, 638, 639, 640, 641, 642, 643, 644] (by decide +kernel) (by decide +kernel)
set_option maxRecDepth 20000 in
theorem gL_law_X4_walls : GoodIn wsL_law (wsV RL 95 RX4 yX4_walls wsX4_walls) := goodIn_app (goodIn_of _ (by decide +kernel)) ggL_law_X4_walls
set_option maxRecDepth 20000 in
theorem ggL_law_X5_walls : GoodIn wsL_law wsX5_walls := goodIn_r _ [597, 92, 124, 125, 5, 126, 345, 346, 347, 348, 66, 349, 350, 351, 352, 69, 598, 599, 600, 601, 602, 473, 474, 475, 476, 477, 478, 479, 480, 65, 481, 482, 483, 484, 485, 486, 487, 77, 75, 76, 78, 488, 489, 490, 491, 492, 493, 494, 495, 496, 497, 498, 499, 67, 500, 501, 502, 320, 321, 322, 323, 324, 325, 326, 327, 64, 72, 328, 73, 503, 504, 505, 506, 507, 508, 509, 510, 511, 512, 513, 333, 334, 335, 336, 68, 514, 515, 516, 517, 518, 519, 520, 521, 522, 523, 524, 525, 337, 338, 339, 340, 618, 619, 620, 621, 622, 623, 624, 625, 626, 627, 628, 629, 630, 631, 632, 633, 634, 635, 636, 637] (by decide +kernel) (by decide +kernel)
set_option maxRecDepth 20000 in
theorem gL_law_X5_walls : GoodIn wsL_law (wsV RL 98 RX5 yX5_walls wsX5_walls) := goodIn_app (goodIn_of _ (by decide +kernel)) ggL_law_X5_walls
set_option maxRecDepth 20000 in
theorem ggL_law_X4_give : GoodIn wsL_law wsX4_give := goodIn_r _ [606, 86, 14, 143, 87, 295, 209, 2, 210, 611, 612, 613, 614, 615, 616, 617, 645, 646, 647, 648, 649, 650, 651, 652, 653] (by decide +kernel) (by decide +kernel)
set_option maxRecDepth 20000 in
theorem gL_law_X4_give : GoodIn wsL_law (wsV RL 99 RX4 yX4_give wsX4_give) := goodIn_app (goodIn_of _ (by decide +kernel)) ggL_law_X4_give
set_option maxRecDepth 20000 in
theorem ggL_law_X5_give : GoodIn wsL_law wsX5_give := goodIn_r _ [610, 124, 125, 5, 126, 598, 599, 600, 601, 92, 66, 618, 619, 620, 621, 622, 623, 624, 625, 626, 627, 628, 629, 630, 631, 632, 633, 634, 635, 636, 637] (by decide +kernel) (by decide +kernel)
set_option maxRecDepth 20000 in
theorem gL_law_X5_give : GoodIn wsL_law (wsV RL 103 RX5 yX5_give wsX5_give) := goodIn_app (goodIn_of _ (by decide +kernel)) ggL_law_X5_give
theorem dL_law_0 : decode cL_law 0 = .ok (.new 7, 3) := by decide +kernel
theorem dL_law_3 : decode cL_law 3 = .ok (.dup, 1) := by decide +kernel
theorem dL_law_4 : decode cL_law 4 = .ok (.invokespecial 9, 3) := by decide +kernel
theorem dL_law_7 : decode cL_law 7 = .ok (.astore_n 1, 1) := by decide +kernel
theorem dL_law_8 : decode cL_law 8 = .ok (.new 10, 3) := by decide +kernel
theorem dL_law_11 : decode cL_law 11 = .ok (.dup, 1) := by decide +kernel
theorem dL_law_12 : decode cL_law 12 = .ok (.invokespecial 12, 3) := by decide +kernel
theorem dL_law_15 : decode cL_law 15 = .ok (.astore_n 2, 1) := by decide +kernel
theorem dL_law_16 : decode cL_law 16 = .ok (.iconst 0, 1) := by decide +kernel
theorem dL_law_17 : decode cL_law 17 = .ok (.istore_n 3, 1) := by decide +kernel
theorem dL_law_18 : decode cL_law 18 = .ok (.iload_n 3, 1) := by decide +kernel
theorem dL_law_19 : decode cL_law 19 = .ok (.aload_n 0, 1) := by decide +kernel
theorem dL_law_20 : decode cL_law 20 = .ok (.arraylength, 1) := by decide +kernel
theorem dL_law_21 : decode cL_law 21 = .ok (.bipush 6, 2) := by decide +kernel
theorem dL_law_23 : decode cL_law 23 = .ok (.isub, 1) := by decide +kernel
theorem dL_law_24 : decode cL_law 24 = .ok (.if_icmp .gt 816, 3) := by decide +kernel
theorem dL_law_27 : decode cL_law 27 = .ok (.aload_n 0, 1) := by decide +kernel
theorem dL_law_28 : decode cL_law 28 = .ok (.iload_n 3, 1) := by decide +kernel
theorem dL_law_29 : decode cL_law 29 = .ok (.iaload, 1) := by decide +kernel
theorem dL_law_30 : decode cL_law 30 = .ok (.bipush 31, 2) := by decide +kernel
theorem dL_law_32 : decode cL_law 32 = .ok (.iand, 1) := by decide +kernel
theorem dL_law_33 : decode cL_law 33 = .ok (.tableswitch 801 0 19 #[95, 106, 139, 242, 285, 328, 371, 394, 427, 490, 513, 536, 579, 602, 655, 666, 699, 722, 735, 778], 95) := by decide +kernel
theorem dL_law_128 : decode cL_law 128 = .ok (.aload_n 1, 1) := by decide +kernel
theorem dL_law_129 : decode cL_law 129 = .ok (.invokevirtual 13, 3) := by decide +kernel
theorem dL_law_132 : decode cL_law 132 = .ok (.aload_n 2, 1) := by decide +kernel
theorem dL_law_133 : decode cL_law 133 = .ok (.invokevirtual 16, 3) := by decide +kernel
theorem dL_law_136 : decode cL_law 136 = .ok (.goto 698, 3) := by decide +kernel
theorem dL_law_139 : decode cL_law 139 = .ok (.aload_n 1, 1) := by decide +kernel
theorem dL_law_140 : decode cL_law 140 = .ok (.aload_n 0, 1) := by decide +kernel
theorem dL_law_141 : decode cL_law 141 = .ok (.iload_n 3, 1) := by decide +kernel
theorem dL_law_142 : decode cL_law 142 = .ok (.iconst 1, 1) := by decide +kernel
theorem dL_law_143 : decode cL_law 143 = .ok (.iadd, 1) := by decide +kernel
theorem dL_law_144 : decode cL_law 144 = .ok (.iaload, 1) := by decide +kernel
theorem dL_law_145 : decode cL_law 145 = .ok (.aload_n 0, 1) := by decide +kernel
theorem dL_law_146 : decode cL_law 146 = .ok (.iload_n 3, 1) := by decide +kernel
theorem dL_law_147 : decode cL_law 147 = .ok (.iconst 2, 1) := by decide +kernel
theorem dL_law_148 : decode cL_law 148 = .ok (.iadd, 1) := by decide +kernel
theorem dL_law_149 : decode cL_law 149 = .ok (.iaload, 1) := by decide +kernel
theorem dL_law_150 : decode cL_law 150 = .ok (.invokevirtual 17, 3) := by decide +kernel
theorem dL_law_153 : decode cL_law 153 = .ok (.aload_n 2, 1) := by decide +kernel
theorem dL_law_154 : decode cL_law 154 = .ok (.aload_n 0, 1) := by decide +kernel
theorem dL_law_155 : decode cL_law 155 = .ok (.iload_n 3, 1) := by decide +kernel
theorem dL_law_156 : decode cL_law 156 = .ok (.iconst 1, 1) := by decide +kernel
theorem dL_law_157 : decode cL_law 157 = .ok (.iadd, 1) := by decide +kernel
theorem dL_law_158 : decode cL_law 158 = .ok (.iaload, 1) := by decide +kernel
theorem dL_law_159 : decode cL_law 159 = .ok (.aload_n 0, 1) := by decide +kernel
theorem dL_law_160 : decode cL_law 160 = .ok (.iload_n 3, 1) := by decide +kernel
theorem dL_law_161 : decode cL_law 161 = .ok (.iconst 2, 1) := by decide +kernel
theorem dL_law_162 : decode cL_law 162 = .ok (.iadd, 1) := by decide +kernel
theorem dL_law_163 : decode cL_law 163 = .ok (.iaload, 1) := by decide +kernel
theorem dL_law_164 : decode cL_law 164 = .ok (.invokevirtual 21, 3) := by decide +kernel
theorem dL_law_167 : decode cL_law 167 = .ok (.if_icmp .eq 667, 3) := by decide +kernel
theorem dL_law_170 : decode cL_law 170 = .ok (.iconst 0, 1) := by decide +kernel
theorem dL_law_171 : decode cL_law 171 = .ok (.ireturn, 1) := by decide +kernel
theorem dL_law_172 : decode cL_law 172 = .ok (.aload_n 1, 1) := by decide +kernel
theorem dL_law_173 : decode cL_law 173 = .ok (.aload_n 0, 1) := by decide +kernel
theorem dL_law_174 : decode cL_law 174 = .ok (.iload_n 3, 1) := by decide +kernel
theorem dL_law_175 : decode cL_law 175 = .ok (.iconst 1, 1) := by decide +kernel
theorem dL_law_176 : decode cL_law 176 = .ok (.iadd, 1) := by decide +kernel
theorem dL_law_177 : decode cL_law 177 = .ok (.iaload, 1) := by decide +kernel
theorem dL_law_178 : decode cL_law 178 = .ok (.aload_n 0, 1) := by decide +kernel
theorem dL_law_179 : decode cL_law 179 = .ok (.iload_n 3, 1) := by decide +kernel
theorem dL_law_180 : decode cL_law 180 = .ok (.iconst 2, 1) := by decide +kernel
theorem dL_law_181 : decode cL_law 181 = .ok (.iadd, 1) := by decide +kernel
theorem dL_law_182 : decode cL_law 182 = .ok (.iaload, 1) := by decide +kernel
theorem dL_law_183 : decode cL_law 183 = .ok (.i2l, 1) := by decide +kernel
theorem dL_law_184 : decode cL_law 184 = .ok (.bipush 32, 2) := by decide +kernel
theorem dL_law_186 : decode cL_law 186 = .ok (.lshl, 1) := by decide +kernel
theorem dL_law_187 : decode cL_law 187 = .ok (.aload_n 0, 1) := by decide +kernel
theorem dL_law_188 : decode cL_law 188 = .ok (.iload_n 3, 1) := by decide +kernel
theorem dL_law_189 : decode cL_law 189 = .ok (.iconst 3, 1) := by decide +kernel
theorem dL_law_190 : decode cL_law 190 = .ok (.iadd, 1) := by decide +kernel
theorem dL_law_191 : decode cL_law 191 = .ok (.iaload, 1) := by decide +kernel
theorem dL_law_192 : decode cL_law 192 = .ok (.i2l, 1) := by decide +kernel
theorem dL_law_193 : decode cL_law 193 = .ok (.ldc2_w 22, 3) := by decide +kernel
theorem dL_law_196 : decode cL_law 196 = .ok (.land, 1) := by decide +kernel
theorem dL_law_197 : decode cL_law 197 = .ok (.lor, 1) := by decide +kernel
theorem dL_law_198 : decode cL_law 198 = .ok (.aload_n 0, 1) := by decide +kernel
theorem dL_law_199 : decode cL_law 199 = .ok (.iload_n 3, 1) := by decide +kernel
theorem dL_law_200 : decode cL_law 200 = .ok (.iconst 4, 1) := by decide +kernel
theorem dL_law_201 : decode cL_law 201 = .ok (.iadd, 1) := by decide +kernel
theorem dL_law_202 : decode cL_law 202 = .ok (.iaload, 1) := by decide +kernel
theorem dL_law_203 : decode cL_law 203 = .ok (.i2l, 1) := by decide +kernel
theorem dL_law_204 : decode cL_law 204 = .ok (.bipush 32, 2) := by decide +kernel
theorem dL_law_206 : decode cL_law 206 = .ok (.lshl, 1) := by decide +kernel
theorem dL_law_207 : decode cL_law 207 = .ok (.aload_n 0, 1) := by decide +kernel
theorem dL_law_208 : decode cL_law 208 = .ok (.iload_n 3, 1) := by decide +kernel
theorem dL_law_209 : decode cL_law 209 = .ok (.iconst 5, 1) := by decide +kernel
theorem dL_law_210 : decode cL_law 210 = .ok (.iadd, 1) := by decide +kernel
theorem dL_law_211 : decode cL_law 211 = .ok (.iaload, 1) := by decide +kernel
theorem dL_law_212 : decode cL_law 212 = .ok (.i2l, 1) := by decide +kernel
theorem dL_law_213 : decode cL_law 213 = .ok (.ldc2_w 22, 3) := by decide +kernel
theorem dL_law_216 : decode cL_law 216 = .ok (.land, 1) := by decide +kernel
theorem dL_law_217 : decode cL_law 217 = .ok (.lor, 1) := by decide +kernel
theorem dL_law_218 : decode cL_law 218 = .ok (.invokevirtual 24, 3) := by decide +kernel
theorem dL_law_221 : decode cL_law 221 = .ok (.aload_n 2, 1) := by decide +kernel
theorem dL_law_222 : decode cL_law 222 = .ok (.aload_n 0, 1) := by decide +kernel
theorem dL_law_223 : decode cL_law 223 = .ok (.iload_n 3, 1) := by decide +kernel
theorem dL_law_224 : decode cL_law 224 = .ok (.iconst 1, 1) := by decide +kernel
theorem dL_law_225 : decode cL_law 225 = .ok (.iadd, 1) := by decide +kernel
theorem dL_law_226 : decode cL_law 226 = .ok (.iaload, 1) := by decide +kernel
theorem dL_law_227 : decode cL_law 227 = .ok (.aload_n 0, 1) := by decide +kernel
theorem dL_law_228 : decode cL_law 228 = .ok (.iload_n 3, 1) := by decide +kernel
theorem dL_law_229 : decode cL_law 229 = .ok (.iconst 2, 1) := by decide +kernel
theorem dL_law_230 : decode cL_law 230 = .ok (.iadd, 1) := by decide +kernel
theorem dL_law_231 : decode cL_law 231 = .ok (.iaload, 1) := by decide +kernel
theorem dL_law_232 : decode cL_law 232 = .ok (.i2l, 1) := by decide +kernel
theorem dL_law_233 : decode cL_law 233 = .ok (.bipush 32, 2) := by decide +kernel
theorem dL_law_235 : decode cL_law 235 = .ok (.lshl, 1) := by decide +kernel
theorem dL_law_236 : decode cL_law 236 = .ok (.aload_n 0, 1) := by decide +kernel
theorem dL_law_237 : decode cL_law 237 = .ok (.iload_n 3, 1) := by decide +kernel
theorem dL_law_238 : decode cL_law 238 = .ok (.iconst 3, 1) := by decide +kernel
theorem dL_law_239 : decode cL_law 239 = .ok (.iadd, 1) := by decide +kernel
theorem dL_law_240 : decode cL_law 240 = .ok (.iaload, 1) := by decide +kernel
theorem dL_law_241 : decode cL_law 241 = .ok (.i2l, 1) := by decide +kernel
theorem dL_law_242 : decode cL_law 242 = .ok (.ldc2_w 22, 3) := by decide +kernel
theorem dL_law_245 : decode cL_law 245 = .ok (.land, 1) := by decide +kernel
theorem dL_law_246 : decode cL_law 246 = .ok (.lor, 1) := by decide +kernel
theorem dL_law_247 : decode cL_law 247 = .ok (.aload_n 0, 1) := by decide +kernel
theorem dL_law_248 : decode cL_law 248 = .ok (.iload_n 3, 1) := by decide +kernel
theorem dL_law_249 : decode cL_law 249 = .ok (.iconst 4, 1) := by decide +kernel
theorem dL_law_250 : decode cL_law 250 = .ok (.iadd, 1) := by decide +kernel
theorem dL_law_251 : decode cL_law 251 = .ok (.iaload, 1) := by decide +kernel
theorem dL_law_252 : decode cL_law 252 = .ok (.i2l, 1) := by decide +kernel
theorem dL_law_253 : decode cL_law 253 = .ok (.bipush 32, 2) := by decide +kernel
theorem dL_law_255 : decode cL_law 255 = .ok (.lshl, 1) := by decide +kernel
theorem dL_law_256 : decode cL_law 256 = .ok (.aload_n 0, 1) := by decide +kernel
theorem dL_law_257 : decode cL_law 257 = .ok (.iload_n 3, 1) := by decide +kernel
theorem dL_law_258 : decode cL_law 258 = .ok (.iconst 5, 1) := by decide +kernel
theorem dL_law_259 : decode cL_law 259 = .ok (.iadd, 1) := by decide +kernel
theorem dL_law_260 : decode cL_law 260 = .ok (.iaload, 1) := by decide +kernel
theorem dL_law_261 : decode cL_law 261 = .ok (.i2l, 1) := by decide +kernel
theorem dL_law_262 : decode cL_law 262 = .ok (.ldc2_w 22, 3) := by decide +kernel
theorem dL_law_265 : decode cL_law 265 = .ok (.land, 1) := by decide +kernel
theorem dL_law_266 : decode cL_law 266 = .ok (.lor, 1) := by decide +kernel
theorem dL_law_267 : decode cL_law 267 = .ok (.invokevirtual 28, 3) := by decide +kernel
theorem dL_law_270 : decode cL_law 270 = .ok (.if_icmp .eq 564, 3) := by decide +kernel
theorem dL_law_273 : decode cL_law 273 = .ok (.iconst 0, 1) := by decide +kernel
theorem dL_law_274 : decode cL_law 274 = .ok (.ireturn, 1) := by decide +kernel
theorem dL_law_275 : decode cL_law 275 = .ok (.aload_n 1, 1) := by decide +kernel
theorem dL_law_276 : decode cL_law 276 = .ok (.aload_n 0, 1) := by decide +kernel
theorem dL_law_277 : decode cL_law 277 = .ok (.iload_n 3, 1) := by decide +kernel
theorem dL_law_278 : decode cL_law 278 = .ok (.iconst 1, 1) := by decide +kernel
theorem dL_law_279 : decode cL_law 279 = .ok (.iadd, 1) := by decide +kernel
theorem dL_law_280 : decode cL_law 280 = .ok (.iaload, 1) := by decide +kernel
theorem dL_law_281 : decode cL_law 281 = .ok (.aload_n 0, 1) := by decide +kernel
theorem dL_law_282 : decode cL_law 282 = .ok (.iload_n 3, 1) := by decide +kernel
theorem dL_law_283 : decode cL_law 283 = .ok (.iconst 2, 1) := by decide +kernel
theorem dL_law_284 : decode cL_law 284 = .ok (.iadd, 1) := by decide +kernel
theorem dL_law_285 : decode cL_law 285 = .ok (.iaload, 1) := by decide +kernel
theorem dL_law_286 : decode cL_law 286 = .ok (.aload_n 0, 1) := by decide +kernel
theorem dL_law_287 : decode cL_law 287 = .ok (.iload_n 3, 1) := by decide +kernel
theorem dL_law_288 : decode cL_law 288 = .ok (.iconst 3, 1) := by decide +kernel
theorem dL_law_289 : decode cL_law 289 = .ok (.iadd, 1) := by decide +kernel
theorem dL_law_290 : decode cL_law 290 = .ok (.iaload, 1) := by decide +kernel
theorem dL_law_291 : decode cL_law 291 = .ok (.invokevirtual 29, 3) := by decide +kernel
theorem dL_law_294 : decode cL_law 294 = .ok (.aload_n 2, 1) := by decide +kernel
theorem dL_law_295 : decode cL_law 295 = .ok (.aload_n 0, 1) := by decide +kernel
theorem dL_law_296 : decode cL_law 296 = .ok (.iload_n 3, 1) := by decide +kernel
theorem dL_law_297 : decode cL_law 297 = .ok (.iconst 1, 1) := by decide +kernel
theorem dL_law_298 : decode cL_law 298 = .ok (.iadd, 1) := by decide +kernel
theorem dL_law_299 : decode cL_law 299 = .ok (.iaload, 1) := by decide +kernel
theorem dL_law_300 : decode cL_law 300 = .ok (.aload_n 0, 1) := by decide +kernel
theorem dL_law_301 : decode cL_law 301 = .ok (.iload_n 3, 1) := by decide +kernel
theorem dL_law_302 : decode cL_law 302 = .ok (.iconst 2, 1) := by decide +kernel
theorem dL_law_303 : decode cL_law 303 = .ok (.iadd, 1) := by decide +kernel
theorem dL_law_304 : decode cL_law 304 = .ok (.iaload, 1) := by decide +kernel
theorem dL_law_305 : decode cL_law 305 = .ok (.aload_n 0, 1) := by decide +kernel
theorem dL_law_306 : decode cL_law 306 = .ok (.iload_n 3, 1) := by decide +kernel
theorem dL_law_307 : decode cL_law 307 = .ok (.iconst 3, 1) := by decide +kernel
theorem dL_law_308 : decode cL_law 308 = .ok (.iadd, 1) := by decide +kernel
theorem dL_law_309 : decode cL_law 309 = .ok (.iaload, 1) := by decide +kernel
theorem dL_law_310 : decode cL_law 310 = .ok (.invokevirtual 33, 3) := by decide +kernel
theorem dL_law_313 : decode cL_law 313 = .ok (.if_icmp .eq 521, 3) := by decide +kernel
theorem dL_law_316 : decode cL_law 316 = .ok (.iconst 0, 1) := by decide +kernel
theorem dL_law_317 : decode cL_law 317 = .ok (.ireturn, 1) := by decide +kernel
theorem dL_law_318 : decode cL_law 318 = .ok (.aload_n 1, 1) := by decide +kernel
theorem dL_law_319 : decode cL_law 319 = .ok (.aload_n 0, 1) := by decide +kernel
theorem dL_law_320 : decode cL_law 320 = .ok (.iload_n 3, 1) := by decide +kernel
theorem dL_law_321 : decode cL_law 321 = .ok (.iconst 1, 1) := by decide +kernel
theorem dL_law_322 : decode cL_law 322 = .ok (.iadd, 1) := by decide +kernel
theorem dL_law_323 : decode cL_law 323 = .ok (.iaload, 1) := by decide +kernel
theorem dL_law_324 : decode cL_law 324 = .ok (.aload_n 0, 1) := by decide +kernel
theorem dL_law_325 : decode cL_law 325 = .ok (.iload_n 3, 1) := by decide +kernel
theorem dL_law_326 : decode cL_law 326 = .ok (.iconst 2, 1) := by decide +kernel
theorem dL_law_327 : decode cL_law 327 = .ok (.iadd, 1) := by decide +kernel
theorem dL_law_328 : decode cL_law 328 = .ok (.iaload, 1) := by decide +kernel
theorem dL_law_329 : decode cL_law 329 = .ok (.aload_n 0, 1) := by decide +kernel
theorem dL_law_330 : decode cL_law 330 = .ok (.iload_n 3, 1) := by decide +kernel
theorem dL_law_331 : decode cL_law 331 = .ok (.iconst 3, 1) := by decide +kernel
theorem dL_law_332 : decode cL_law 332 = .ok (.iadd, 1) := by decide +kernel
theorem dL_law_333 : decode cL_law 333 = .ok (.iaload, 1) := by decide +kernel
theorem dL_law_334 : decode cL_law 334 = .ok (.invokevirtual 34, 3) := by decide +kernel
theorem dL_law_337 : decode cL_law 337 = .ok (.aload_n 2, 1) := by decide +kernel
theorem dL_law_338 : decode cL_law 338 = .ok (.aload_n 0, 1) := by decide +kernel
theorem dL_law_339 : decode cL_law 339 = .ok (.iload_n 3, 1) := by decide +kernel
theorem dL_law_340 : decode cL_law 340 = .ok (.iconst 1, 1) := by decide +kernel
theorem dL_law_341 : decode cL_law 341 = .ok (.iadd, 1) := by decide +kernel
theorem dL_law_342 : decode cL_law 342 = .ok (.iaload, 1) := by decide +kernel
theorem dL_law_343 : decode cL_law 343 = .ok (.aload_n 0, 1) := by decide +kernel
theorem dL_law_344 : decode cL_law 344 = .ok (.iload_n 3, 1) := by decide +kernel
theorem dL_law_345 : decode cL_law 345 = .ok (.iconst 2, 1) := by decide +kernel
theorem dL_law_346 : decode cL_law 346 = .ok (.iadd, 1) := by decide +kernel
theorem dL_law_347 : decode cL_law 347 = .ok (.iaload, 1) := by decide +kernel
theorem dL_law_348 : decode cL_law 348 = .ok (.aload_n 0, 1) := by decide +kernel
theorem dL_law_349 : decode cL_law 349 = .ok (.iload_n 3, 1) := by decide +kernel
theorem dL_law_350 : decode cL_law 350 = .ok (.iconst 3, 1) := by decide +kernel
theorem dL_law_351 : decode cL_law 351 = .ok (.iadd, 1) := by decide +kernel
theorem dL_law_352 : decode cL_law 352 = .ok (.iaload, 1) := by decide +kernel
theorem dL_law_353 : decode cL_law 353 = .ok (.invokevirtual 37, 3) := by decide +kernel
theorem dL_law_356 : decode cL_law 356 = .ok (.if_icmp .eq 478, 3) := by decide +kernel
theorem dL_law_359 : decode cL_law 359 = .ok (.iconst 0, 1) := by decide +kernel
theorem dL_law_360 : decode cL_law 360 = .ok (.ireturn, 1) := by decide +kernel
theorem dL_law_361 : decode cL_law 361 = .ok (.aload_n 1, 1) := by decide +kernel
theorem dL_law_362 : decode cL_law 362 = .ok (.aload_n 0, 1) := by decide +kernel
theorem dL_law_363 : decode cL_law 363 = .ok (.iload_n 3, 1) := by decide +kernel
theorem dL_law_364 : decode cL_law 364 = .ok (.iconst 1, 1) := by decide +kernel
theorem dL_law_365 : decode cL_law 365 = .ok (.iadd, 1) := by decide +kernel
theorem dL_law_366 : decode cL_law 366 = .ok (.iaload, 1) := by decide +kernel
theorem dL_law_367 : decode cL_law 367 = .ok (.aload_n 0, 1) := by decide +kernel
theorem dL_law_368 : decode cL_law 368 = .ok (.iload_n 3, 1) := by decide +kernel
theorem dL_law_369 : decode cL_law 369 = .ok (.iconst 2, 1) := by decide +kernel
theorem dL_law_370 : decode cL_law 370 = .ok (.iadd, 1) := by decide +kernel
theorem dL_law_371 : decode cL_law 371 = .ok (.iaload, 1) := by decide +kernel
theorem dL_law_372 : decode cL_law 372 = .ok (.aload_n 0, 1) := by decide +kernel
theorem dL_law_373 : decode cL_law 373 = .ok (.iload_n 3, 1) := by decide +kernel
theorem dL_law_374 : decode cL_law 374 = .ok (.iconst 3, 1) := by decide +kernel
theorem dL_law_375 : decode cL_law 375 = .ok (.iadd, 1) := by decide +kernel
theorem dL_law_376 : decode cL_law 376 = .ok (.iaload, 1) := by decide +kernel
theorem dL_law_377 : decode cL_law 377 = .ok (.invokevirtual 38, 3) := by decide +kernel
theorem dL_law_380 : decode cL_law 380 = .ok (.aload_n 2, 1) := by decide +kernel
theorem dL_law_381 : decode cL_law 381 = .ok (.aload_n 0, 1) := by decide +kernel
theorem dL_law_382 : decode cL_law 382 = .ok (.iload_n 3, 1) := by decide +kernel
theorem dL_law_383 : decode cL_law 383 = .ok (.iconst 1, 1) := by decide +kernel
theorem dL_law_384 : decode cL_law 384 = .ok (.iadd, 1) := by decide +kernel
theorem dL_law_385 : decode cL_law 385 = .ok (.iaload, 1) := by decide +kernel
theorem dL_law_386 : decode cL_law 386 = .ok (.aload_n 0, 1) := by decide +kernel
theorem dL_law_387 : decode cL_law 387 = .ok (.iload_n 3, 1) := by decide +kernel
theorem dL_law_388 : decode cL_law 388 = .ok (.iconst 2, 1) := by decide +kernel
theorem dL_law_389 : decode cL_law 389 = .ok (.iadd, 1) := by decide +kernel
theorem dL_law_390 : decode cL_law 390 = .ok (.iaload, 1) := by decide +kernel
theorem dL_law_391 : decode cL_law 391 = .ok (.aload_n 0, 1) := by decide +kernel
theorem dL_law_392 : decode cL_law 392 = .ok (.iload_n 3, 1) := by decide +kernel
theorem dL_law_393 : decode cL_law 393 = .ok (.iconst 3, 1) := by decide +kernel
theorem dL_law_394 : decode cL_law 394 = .ok (.iadd, 1) := by decide +kernel
theorem dL_law_395 : decode cL_law 395 = .ok (.iaload, 1) := by decide +kernel
theorem dL_law_396 : decode cL_law 396 = .ok (.invokevirtual 41, 3) := by decide +kernel
theorem dL_law_399 : decode cL_law 399 = .ok (.if_icmp .eq 435, 3) := by decide +kernel
theorem dL_law_402 : decode cL_law 402 = .ok (.iconst 0, 1) := by decide +kernel
theorem dL_law_403 : decode cL_law 403 = .ok (.ireturn, 1) := by decide +kernel
theorem dL_law_404 : decode cL_law 404 = .ok (.aload_n 1, 1) := by decide +kernel
theorem dL_law_405 : decode cL_law 405 = .ok (.aload_n 0, 1) := by decide +kernel
theorem dL_law_406 : decode cL_law 406 = .ok (.iload_n 3, 1) := by decide +kernel
theorem dL_law_407 : decode cL_law 407 = .ok (.iconst 1, 1) := by decide +kernel
theorem dL_law_408 : decode cL_law 408 = .ok (.iadd, 1) := by decide +kernel
theorem dL_law_409 : decode cL_law 409 = .ok (.iaload, 1) := by decide +kernel
theorem dL_law_410 : decode cL_law 410 = .ok (.invokevirtual 42, 3) := by decide +kernel
theorem dL_law_413 : decode cL_law 413 = .ok (.aload_n 2, 1) := by decide +kernel
theorem dL_law_414 : decode cL_law 414 = .ok (.aload_n 0, 1) := by decide +kernel
theorem dL_law_415 : decode cL_law 415 = .ok (.iload_n 3, 1) := by decide +kernel
theorem dL_law_416 : decode cL_law 416 = .ok (.iconst 1, 1) := by decide +kernel
theorem dL_law_417 : decode cL_law 417 = .ok (.iadd, 1) := by decide +kernel
theorem dL_law_418 : decode cL_law 418 = .ok (.iaload, 1) := by decide +kernel
theorem dL_law_419 : decode cL_law 419 = .ok (.invokevirtual 46, 3) := by decide +kernel
theorem dL_law_422 : decode cL_law 422 = .ok (.if_icmp .eq 412, 3) := by decide +kernel
theorem dL_law_425 : decode cL_law 425 = .ok (.iconst 0, 1) := by decide +kernel
theorem dL_law_426 : decode cL_law 426 = .ok (.ireturn, 1) := by decide +kernel
theorem dL_law_427 : decode cL_law 427 = .ok (.aload_n 1, 1) := by decide +kernel
theorem dL_law_428 : decode cL_law 428 = .ok (.aload_n 0, 1) := by decide +kernel
theorem dL_law_429 : decode cL_law 429 = .ok (.iload_n 3, 1) := by decide +kernel
theorem dL_law_430 : decode cL_law 430 = .ok (.iconst 1, 1) := by decide +kernel
theorem dL_law_431 : decode cL_law 431 = .ok (.iadd, 1) := by decide +kernel
theorem dL_law_432 : decode cL_law 432 = .ok (.iaload, 1) := by decide +kernel
theorem dL_law_433 : decode cL_law 433 = .ok (.aload_n 0, 1) := by decide +kernel
theorem dL_law_434 : decode cL_law 434 = .ok (.iload_n 3, 1) := by decide +kernel
theorem dL_law_435 : decode cL_law 435 = .ok (.iconst 2, 1) := by decide +kernel
theorem dL_law_436 : decode cL_law 436 = .ok (.iadd, 1) := by decide +kernel
theorem dL_law_437 : decode cL_law 437 = .ok (.iaload, 1) := by decide +kernel
end
section
theorem dL_law_438 : decode cL_law 438 = .ok (.invokevirtual 47, 3) := by decide +kernel
theorem dL_law_441 : decode cL_law 441 = .ok (.aload_n 2, 1) := by decide +kernel
theorem dL_law_442 : decode cL_law 442 = .ok (.aload_n 0, 1) := by decide +kernel
theorem dL_law_443 : decode cL_law 443 = .ok (.iload_n 3, 1) := by decide +kernel
theorem dL_law_444 : decode cL_law 444 = .ok (.iconst 1, 1) := by decide +kernel
theorem dL_law_445 : decode cL_law 445 = .ok (.iadd, 1) := by decide +kernel
theorem dL_law_446 : decode cL_law 446 = .ok (.iaload, 1) := by decide +kernel
theorem dL_law_447 : decode cL_law 447 = .ok (.aload_n 0, 1) := by decide +kernel
theorem dL_law_448 : decode cL_law 448 = .ok (.iload_n 3, 1) := by decide +kernel
theorem dL_law_449 : decode cL_law 449 = .ok (.iconst 2, 1) := by decide +kernel
theorem dL_law_450 : decode cL_law 450 = .ok (.iadd, 1) := by decide +kernel
theorem dL_law_451 : decode cL_law 451 = .ok (.iaload, 1) := by decide +kernel
theorem dL_law_452 : decode cL_law 452 = .ok (.invokevirtual 50, 3) := by decide +kernel
theorem dL_law_455 : decode cL_law 455 = .ok (.if_icmp .eq 379, 3) := by decide +kernel
theorem dL_law_458 : decode cL_law 458 = .ok (.iconst 0, 1) := by decide +kernel
theorem dL_law_459 : decode cL_law 459 = .ok (.ireturn, 1) := by decide +kernel
theorem dL_law_460 : decode cL_law 460 = .ok (.aload_n 1, 1) := by decide +kernel
theorem dL_law_461 : decode cL_law 461 = .ok (.aload_n 0, 1) := by decide +kernel
theorem dL_law_462 : decode cL_law 462 = .ok (.iload_n 3, 1) := by decide +kernel
theorem dL_law_463 : decode cL_law 463 = .ok (.iconst 1, 1) := by decide +kernel
theorem dL_law_464 : decode cL_law 464 = .ok (.iadd, 1) := by decide +kernel
theorem dL_law_465 : decode cL_law 465 = .ok (.iaload, 1) := by decide +kernel
theorem dL_law_466 : decode cL_law 466 = .ok (.aload_n 0, 1) := by decide +kernel
theorem dL_law_467 : decode cL_law 467 = .ok (.iload_n 3, 1) := by decide +kernel
theorem dL_law_468 : decode cL_law 468 = .ok (.iconst 2, 1) := by decide +kernel
theorem dL_law_469 : decode cL_law 469 = .ok (.iadd, 1) := by decide +kernel
theorem dL_law_470 : decode cL_law 470 = .ok (.iaload, 1) := by decide +kernel
theorem dL_law_471 : decode cL_law 471 = .ok (.aload_n 0, 1) := by decide +kernel
theorem dL_law_472 : decode cL_law 472 = .ok (.iload_n 3, 1) := by decide +kernel
theorem dL_law_473 : decode cL_law 473 = .ok (.iconst 3, 1) := by decide +kernel
theorem dL_law_474 : decode cL_law 474 = .ok (.iadd, 1) := by decide +kernel
theorem dL_law_475 : decode cL_law 475 = .ok (.iaload, 1) := by decide +kernel
theorem dL_law_476 : decode cL_law 476 = .ok (.aload_n 0, 1) := by decide +kernel
theorem dL_law_477 : decode cL_law 477 = .ok (.iload_n 3, 1) := by decide +kernel
theorem dL_law_478 : decode cL_law 478 = .ok (.iconst 4, 1) := by decide +kernel
theorem dL_law_479 : decode cL_law 479 = .ok (.iadd, 1) := by decide +kernel
theorem dL_law_480 : decode cL_law 480 = .ok (.iaload, 1) := by decide +kernel
theorem dL_law_481 : decode cL_law 481 = .ok (.aload_n 0, 1) := by decide +kernel
theorem dL_law_482 : decode cL_law 482 = .ok (.iload_n 3, 1) := by decide +kernel
theorem dL_law_483 : decode cL_law 483 = .ok (.iconst 5, 1) := by decide +kernel
theorem dL_law_484 : decode cL_law 484 = .ok (.iadd, 1) := by decide +kernel
theorem dL_law_485 : decode cL_law 485 = .ok (.iaload, 1) := by decide +kernel
theorem dL_law_486 : decode cL_law 486 = .ok (.invokevirtual 51, 3) := by decide +kernel
theorem dL_law_489 : decode cL_law 489 = .ok (.aload_n 2, 1) := by decide +kernel
theorem dL_law_490 : decode cL_law 490 = .ok (.aload_n 0, 1) := by decide +kernel
theorem dL_law_491 : decode cL_law 491 = .ok (.iload_n 3, 1) := by decide +kernel
theorem dL_law_492 : decode cL_law 492 = .ok (.iconst 1, 1) := by decide +kernel
theorem dL_law_493 : decode cL_law 493 = .ok (.iadd, 1) := by decide +kernel
theorem dL_law_494 : decode cL_law 494 = .ok (.iaload, 1) := by decide +kernel
theorem dL_law_495 : decode cL_law 495 = .ok (.aload_n 0, 1) := by decide +kernel
theorem dL_law_496 : decode cL_law 496 = .ok (.iload_n 3, 1) := by decide +kernel
theorem dL_law_497 : decode cL_law 497 = .ok (.iconst 2, 1) := by decide +kernel
theorem dL_law_498 : decode cL_law 498 = .ok (.iadd, 1) := by decide +kernel
theorem dL_law_499 : decode cL_law 499 = .ok (.iaload, 1) := by decide +kernel
theorem dL_law_500 : decode cL_law 500 = .ok (.aload_n 0, 1) := by decide +kernel
theorem dL_law_501 : decode cL_law 501 = .ok (.iload_n 3, 1) := by decide +kernel
theorem dL_law_502 : decode cL_law 502 = .ok (.iconst 3, 1) := by decide +kernel
theorem dL_law_503 : decode cL_law 503 = .ok (.iadd, 1) := by decide +kernel
theorem dL_law_504 : decode cL_law 504 = .ok (.iaload, 1) := by decide +kernel
theorem dL_law_505 : decode cL_law 505 = .ok (.aload_n 0, 1) := by decide +kernel
theorem dL_law_506 : decode cL_law 506 = .ok (.iload_n 3, 1) := by decide +kernel
theorem dL_law_507 : decode cL_law 507 = .ok (.iconst 4, 1) := by decide +kernel
theorem dL_law_508 : decode cL_law 508 = .ok (.iadd, 1) := by decide +kernel
theorem dL_law_509 : decode cL_law 509 = .ok (.iaload, 1) := by decide +kernel
theorem dL_law_510 : decode cL_law 510 = .ok (.aload_n 0, 1) := by decide +kernel
theorem dL_law_511 : decode cL_law 511 = .ok (.iload_n 3, 1) := by decide +kernel
theorem dL_law_512 : decode cL_law 512 = .ok (.iconst 5, 1) := by decide +kernel
theorem dL_law_513 : decode cL_law 513 = .ok (.iadd, 1) := by decide +kernel
theorem dL_law_514 : decode cL_law 514 = .ok (.iaload, 1) := by decide +kernel
theorem dL_law_515 : decode cL_law 515 = .ok (.invokevirtual 55, 3) := by decide +kernel
theorem dL_law_518 : decode cL_law 518 = .ok (.if_icmp .eq 316, 3) := by decide +kernel
theorem dL_law_521 : decode cL_law 521 = .ok (.iconst 0, 1) := by decide +kernel
theorem dL_law_522 : decode cL_law 522 = .ok (.ireturn, 1) := by decide +kernel
theorem dL_law_523 : decode cL_law 523 = .ok (.aload_n 1, 1) := by decide +kernel
theorem dL_law_524 : decode cL_law 524 = .ok (.aload_n 0, 1) := by decide +kernel
theorem dL_law_525 : decode cL_law 525 = .ok (.iload_n 3, 1) := by decide +kernel
theorem dL_law_526 : decode cL_law 526 = .ok (.iconst 1, 1) := by decide +kernel
theorem dL_law_527 : decode cL_law 527 = .ok (.iadd, 1) := by decide +kernel
theorem dL_law_528 : decode cL_law 528 = .ok (.iaload, 1) := by decide +kernel
theorem dL_law_529 : decode cL_law 529 = .ok (.invokevirtual 56, 3) := by decide +kernel
theorem dL_law_532 : decode cL_law 532 = .ok (.aload_n 2, 1) := by decide +kernel
theorem dL_law_533 : decode cL_law 533 = .ok (.aload_n 0, 1) := by decide +kernel
theorem dL_law_534 : decode cL_law 534 = .ok (.iload_n 3, 1) := by decide +kernel
theorem dL_law_535 : decode cL_law 535 = .ok (.iconst 1, 1) := by decide +kernel
theorem dL_law_536 : decode cL_law 536 = .ok (.iadd, 1) := by decide +kernel
theorem dL_law_537 : decode cL_law 537 = .ok (.iaload, 1) := by decide +kernel
theorem dL_law_538 : decode cL_law 538 = .ok (.invokevirtual 59, 3) := by decide +kernel
theorem dL_law_541 : decode cL_law 541 = .ok (.if_icmp .eq 293, 3) := by decide +kernel
theorem dL_law_544 : decode cL_law 544 = .ok (.iconst 0, 1) := by decide +kernel
theorem dL_law_545 : decode cL_law 545 = .ok (.ireturn, 1) := by decide +kernel
theorem dL_law_546 : decode cL_law 546 = .ok (.aload_n 1, 1) := by decide +kernel
theorem dL_law_547 : decode cL_law 547 = .ok (.aload_n 0, 1) := by decide +kernel
theorem dL_law_548 : decode cL_law 548 = .ok (.iload_n 3, 1) := by decide +kernel
theorem dL_law_549 : decode cL_law 549 = .ok (.iconst 1, 1) := by decide +kernel
theorem dL_law_550 : decode cL_law 550 = .ok (.iadd, 1) := by decide +kernel
theorem dL_law_551 : decode cL_law 551 = .ok (.iaload, 1) := by decide +kernel
theorem dL_law_552 : decode cL_law 552 = .ok (.invokevirtual 60, 3) := by decide +kernel
theorem dL_law_555 : decode cL_law 555 = .ok (.aload_n 2, 1) := by decide +kernel
theorem dL_law_556 : decode cL_law 556 = .ok (.aload_n 0, 1) := by decide +kernel
theorem dL_law_557 : decode cL_law 557 = .ok (.iload_n 3, 1) := by decide +kernel
theorem dL_law_558 : decode cL_law 558 = .ok (.iconst 1, 1) := by decide +kernel
theorem dL_law_559 : decode cL_law 559 = .ok (.iadd, 1) := by decide +kernel
theorem dL_law_560 : decode cL_law 560 = .ok (.iaload, 1) := by decide +kernel
theorem dL_law_561 : decode cL_law 561 = .ok (.invokevirtual 63, 3) := by decide +kernel
theorem dL_law_564 : decode cL_law 564 = .ok (.if_icmp .eq 270, 3) := by decide +kernel
theorem dL_law_567 : decode cL_law 567 = .ok (.iconst 0, 1) := by decide +kernel
theorem dL_law_568 : decode cL_law 568 = .ok (.ireturn, 1) := by decide +kernel
theorem dL_law_569 : decode cL_law 569 = .ok (.aload_n 1, 1) := by decide +kernel
theorem dL_law_570 : decode cL_law 570 = .ok (.aload_n 0, 1) := by decide +kernel
theorem dL_law_571 : decode cL_law 571 = .ok (.iload_n 3, 1) := by decide +kernel
theorem dL_law_572 : decode cL_law 572 = .ok (.iconst 1, 1) := by decide +kernel
theorem dL_law_573 : decode cL_law 573 = .ok (.iadd, 1) := by decide +kernel
theorem dL_law_574 : decode cL_law 574 = .ok (.iaload, 1) := by decide +kernel
theorem dL_law_575 : decode cL_law 575 = .ok (.aload_n 0, 1) := by decide +kernel
theorem dL_law_576 : decode cL_law 576 = .ok (.iload_n 3, 1) := by decide +kernel
theorem dL_law_577 : decode cL_law 577 = .ok (.iconst 2, 1) := by decide +kernel
theorem dL_law_578 : decode cL_law 578 = .ok (.iadd, 1) := by decide +kernel
theorem dL_law_579 : decode cL_law 579 = .ok (.iaload, 1) := by decide +kernel
theorem dL_law_580 : decode cL_law 580 = .ok (.aload_n 0, 1) := by decide +kernel
theorem dL_law_581 : decode cL_law 581 = .ok (.iload_n 3, 1) := by decide +kernel
theorem dL_law_582 : decode cL_law 582 = .ok (.iconst 3, 1) := by decide +kernel
theorem dL_law_583 : decode cL_law 583 = .ok (.iadd, 1) := by decide +kernel
theorem dL_law_584 : decode cL_law 584 = .ok (.iaload, 1) := by decide +kernel
theorem dL_law_585 : decode cL_law 585 = .ok (.invokevirtual 64, 3) := by decide +kernel
theorem dL_law_588 : decode cL_law 588 = .ok (.aload_n 2, 1) := by decide +kernel
theorem dL_law_589 : decode cL_law 589 = .ok (.aload_n 0, 1) := by decide +kernel
theorem dL_law_590 : decode cL_law 590 = .ok (.iload_n 3, 1) := by decide +kernel
theorem dL_law_591 : decode cL_law 591 = .ok (.iconst 1, 1) := by decide +kernel
theorem dL_law_592 : decode cL_law 592 = .ok (.iadd, 1) := by decide +kernel
theorem dL_law_593 : decode cL_law 593 = .ok (.iaload, 1) := by decide +kernel
theorem dL_law_594 : decode cL_law 594 = .ok (.aload_n 0, 1) := by decide +kernel
theorem dL_law_595 : decode cL_law 595 = .ok (.iload_n 3, 1) := by decide +kernel
theorem dL_law_596 : decode cL_law 596 = .ok (.iconst 2, 1) := by decide +kernel
theorem dL_law_597 : decode cL_law 597 = .ok (.iadd, 1) := by decide +kernel
theorem dL_law_598 : decode cL_law 598 = .ok (.iaload, 1) := by decide +kernel
theorem dL_law_599 : decode cL_law 599 = .ok (.aload_n 0, 1) := by decide +kernel
theorem dL_law_600 : decode cL_law 600 = .ok (.iload_n 3, 1) := by decide +kernel
theorem dL_law_601 : decode cL_law 601 = .ok (.iconst 3, 1) := by decide +kernel
theorem dL_law_602 : decode cL_law 602 = .ok (.iadd, 1) := by decide +kernel
theorem dL_law_603 : decode cL_law 603 = .ok (.iaload, 1) := by decide +kernel
theorem dL_law_604 : decode cL_law 604 = .ok (.invokevirtual 68, 3) := by decide +kernel
theorem dL_law_607 : decode cL_law 607 = .ok (.if_icmp .eq 227, 3) := by decide +kernel
theorem dL_law_610 : decode cL_law 610 = .ok (.iconst 0, 1) := by decide +kernel
theorem dL_law_611 : decode cL_law 611 = .ok (.ireturn, 1) := by decide +kernel
theorem dL_law_612 : decode cL_law 612 = .ok (.aload_n 1, 1) := by decide +kernel
theorem dL_law_613 : decode cL_law 613 = .ok (.aload_n 0, 1) := by decide +kernel
theorem dL_law_614 : decode cL_law 614 = .ok (.iload_n 3, 1) := by decide +kernel
theorem dL_law_615 : decode cL_law 615 = .ok (.iconst 1, 1) := by decide +kernel
theorem dL_law_616 : decode cL_law 616 = .ok (.iadd, 1) := by decide +kernel
theorem dL_law_617 : decode cL_law 617 = .ok (.iaload, 1) := by decide +kernel
theorem dL_law_618 : decode cL_law 618 = .ok (.invokevirtual 69, 3) := by decide +kernel
theorem dL_law_621 : decode cL_law 621 = .ok (.aload_n 2, 1) := by decide +kernel
theorem dL_law_622 : decode cL_law 622 = .ok (.aload_n 0, 1) := by decide +kernel
theorem dL_law_623 : decode cL_law 623 = .ok (.iload_n 3, 1) := by decide +kernel
theorem dL_law_624 : decode cL_law 624 = .ok (.iconst 1, 1) := by decide +kernel
theorem dL_law_625 : decode cL_law 625 = .ok (.iadd, 1) := by decide +kernel
theorem dL_law_626 : decode cL_law 626 = .ok (.iaload, 1) := by decide +kernel
theorem dL_law_627 : decode cL_law 627 = .ok (.invokevirtual 72, 3) := by decide +kernel
theorem dL_law_630 : decode cL_law 630 = .ok (.if_icmp .eq 204, 3) := by decide +kernel
theorem dL_law_633 : decode cL_law 633 = .ok (.iconst 0, 1) := by decide +kernel
theorem dL_law_634 : decode cL_law 634 = .ok (.ireturn, 1) := by decide +kernel
theorem dL_law_635 : decode cL_law 635 = .ok (.aload_n 1, 1) := by decide +kernel
theorem dL_law_636 : decode cL_law 636 = .ok (.aload_n 0, 1) := by decide +kernel
theorem dL_law_637 : decode cL_law 637 = .ok (.iload_n 3, 1) := by decide +kernel
theorem dL_law_638 : decode cL_law 638 = .ok (.iconst 1, 1) := by decide +kernel
theorem dL_law_639 : decode cL_law 639 = .ok (.iadd, 1) := by decide +kernel
theorem dL_law_640 : decode cL_law 640 = .ok (.iaload, 1) := by decide +kernel
theorem dL_law_641 : decode cL_law 641 = .ok (.aload_n 0, 1) := by decide +kernel
theorem dL_law_642 : decode cL_law 642 = .ok (.iload_n 3, 1) := by decide +kernel
theorem dL_law_643 : decode cL_law 643 = .ok (.iconst 2, 1) := by decide +kernel
theorem dL_law_644 : decode cL_law 644 = .ok (.iadd, 1) := by decide +kernel
theorem dL_law_645 : decode cL_law 645 = .ok (.iaload, 1) := by decide +kernel
theorem dL_law_646 : decode cL_law 646 = .ok (.aload_n 0, 1) := by decide +kernel
theorem dL_law_647 : decode cL_law 647 = .ok (.iload_n 3, 1) := by decide +kernel
theorem dL_law_648 : decode cL_law 648 = .ok (.iconst 3, 1) := by decide +kernel
theorem dL_law_649 : decode cL_law 649 = .ok (.iadd, 1) := by decide +kernel
theorem dL_law_650 : decode cL_law 650 = .ok (.iaload, 1) := by decide +kernel
theorem dL_law_651 : decode cL_law 651 = .ok (.aload_n 0, 1) := by decide +kernel
theorem dL_law_652 : decode cL_law 652 = .ok (.iload_n 3, 1) := by decide +kernel
theorem dL_law_653 : decode cL_law 653 = .ok (.iconst 4, 1) := by decide +kernel
theorem dL_law_654 : decode cL_law 654 = .ok (.iadd, 1) := by decide +kernel
theorem dL_law_655 : decode cL_law 655 = .ok (.iaload, 1) := by decide +kernel
theorem dL_law_656 : decode cL_law 656 = .ok (.invokevirtual 73, 3) := by decide +kernel
theorem dL_law_659 : decode cL_law 659 = .ok (.aload_n 2, 1) := by decide +kernel
theorem dL_law_660 : decode cL_law 660 = .ok (.aload_n 0, 1) := by decide +kernel
theorem dL_law_661 : decode cL_law 661 = .ok (.iload_n 3, 1) := by decide +kernel
theorem dL_law_662 : decode cL_law 662 = .ok (.iconst 1, 1) := by decide +kernel
theorem dL_law_663 : decode cL_law 663 = .ok (.iadd, 1) := by decide +kernel
theorem dL_law_664 : decode cL_law 664 = .ok (.iaload, 1) := by decide +kernel
theorem dL_law_665 : decode cL_law 665 = .ok (.aload_n 0, 1) := by decide +kernel
theorem dL_law_666 : decode cL_law 666 = .ok (.iload_n 3, 1) := by decide +kernel
theorem dL_law_667 : decode cL_law 667 = .ok (.iconst 2, 1) := by decide +kernel
theorem dL_law_668 : decode cL_law 668 = .ok (.iadd, 1) := by decide +kernel
theorem dL_law_669 : decode cL_law 669 = .ok (.iaload, 1) := by decide +kernel
theorem dL_law_670 : decode cL_law 670 = .ok (.aload_n 0, 1) := by decide +kernel
theorem dL_law_671 : decode cL_law 671 = .ok (.iload_n 3, 1) := by decide +kernel
theorem dL_law_672 : decode cL_law 672 = .ok (.iconst 3, 1) := by decide +kernel
theorem dL_law_673 : decode cL_law 673 = .ok (.iadd, 1) := by decide +kernel
theorem dL_law_674 : decode cL_law 674 = .ok (.iaload, 1) := by decide +kernel
theorem dL_law_675 : decode cL_law 675 = .ok (.aload_n 0, 1) := by decide +kernel
theorem dL_law_676 : decode cL_law 676 = .ok (.iload_n 3, 1) := by decide +kernel
theorem dL_law_677 : decode cL_law 677 = .ok (.iconst 4, 1) := by decide +kernel
theorem dL_law_678 : decode cL_law 678 = .ok (.iadd, 1) := by decide +kernel
theorem dL_law_679 : decode cL_law 679 = .ok (.iaload, 1) := by decide +kernel
theorem dL_law_680 : decode cL_law 680 = .ok (.invokevirtual 77, 3) := by decide +kernel
theorem dL_law_683 : decode cL_law 683 = .ok (.if_icmp .eq 151, 3) := by decide +kernel
theorem dL_law_686 : decode cL_law 686 = .ok (.iconst 0, 1) := by decide +kernel
theorem dL_law_687 : decode cL_law 687 = .ok (.ireturn, 1) := by decide +kernel
theorem dL_law_688 : decode cL_law 688 = .ok (.aload_n 1, 1) := by decide +kernel
theorem dL_law_689 : decode cL_law 689 = .ok (.invokevirtual 78, 3) := by decide +kernel
theorem dL_law_692 : decode cL_law 692 = .ok (.aload_n 2, 1) := by decide +kernel
theorem dL_law_693 : decode cL_law 693 = .ok (.invokevirtual 81, 3) := by decide +kernel
theorem dL_law_696 : decode cL_law 696 = .ok (.goto 138, 3) := by decide +kernel
theorem dL_law_699 : decode cL_law 699 = .ok (.aload_n 1, 1) := by decide +kernel
theorem dL_law_700 : decode cL_law 700 = .ok (.aload_n 0, 1) := by decide +kernel
theorem dL_law_701 : decode cL_law 701 = .ok (.iload_n 3, 1) := by decide +kernel
theorem dL_law_702 : decode cL_law 702 = .ok (.iconst 1, 1) := by decide +kernel
theorem dL_law_703 : decode cL_law 703 = .ok (.iadd, 1) := by decide +kernel
theorem dL_law_704 : decode cL_law 704 = .ok (.iaload, 1) := by decide +kernel
theorem dL_law_705 : decode cL_law 705 = .ok (.aload_n 0, 1) := by decide +kernel
theorem dL_law_706 : decode cL_law 706 = .ok (.iload_n 3, 1) := by decide +kernel
theorem dL_law_707 : decode cL_law 707 = .ok (.iconst 2, 1) := by decide +kernel
theorem dL_law_708 : decode cL_law 708 = .ok (.iadd, 1) := by decide +kernel
theorem dL_law_709 : decode cL_law 709 = .ok (.iaload, 1) := by decide +kernel
theorem dL_law_710 : decode cL_law 710 = .ok (.invokevirtual 82, 3) := by decide +kernel
theorem dL_law_713 : decode cL_law 713 = .ok (.aload_n 2, 1) := by decide +kernel
theorem dL_law_714 : decode cL_law 714 = .ok (.aload_n 0, 1) := by decide +kernel
theorem dL_law_715 : decode cL_law 715 = .ok (.iload_n 3, 1) := by decide +kernel
theorem dL_law_716 : decode cL_law 716 = .ok (.iconst 1, 1) := by decide +kernel
theorem dL_law_717 : decode cL_law 717 = .ok (.iadd, 1) := by decide +kernel
theorem dL_law_718 : decode cL_law 718 = .ok (.iaload, 1) := by decide +kernel
theorem dL_law_719 : decode cL_law 719 = .ok (.aload_n 0, 1) := by decide +kernel
theorem dL_law_720 : decode cL_law 720 = .ok (.iload_n 3, 1) := by decide +kernel
theorem dL_law_721 : decode cL_law 721 = .ok (.iconst 2, 1) := by decide +kernel
theorem dL_law_722 : decode cL_law 722 = .ok (.iadd, 1) := by decide +kernel
theorem dL_law_723 : decode cL_law 723 = .ok (.iaload, 1) := by decide +kernel
theorem dL_law_724 : decode cL_law 724 = .ok (.invokevirtual 85, 3) := by decide +kernel
theorem dL_law_727 : decode cL_law 727 = .ok (.if_icmp .eq 107, 3) := by decide +kernel
theorem dL_law_730 : decode cL_law 730 = .ok (.iconst 0, 1) := by decide +kernel
theorem dL_law_731 : decode cL_law 731 = .ok (.ireturn, 1) := by decide +kernel
theorem dL_law_732 : decode cL_law 732 = .ok (.aload_n 1, 1) := by decide +kernel
theorem dL_law_733 : decode cL_law 733 = .ok (.aload_n 0, 1) := by decide +kernel
theorem dL_law_734 : decode cL_law 734 = .ok (.iload_n 3, 1) := by decide +kernel
theorem dL_law_735 : decode cL_law 735 = .ok (.iconst 1, 1) := by decide +kernel
theorem dL_law_736 : decode cL_law 736 = .ok (.iadd, 1) := by decide +kernel
theorem dL_law_737 : decode cL_law 737 = .ok (.iaload, 1) := by decide +kernel
theorem dL_law_738 : decode cL_law 738 = .ok (.invokevirtual 86, 3) := by decide +kernel
theorem dL_law_741 : decode cL_law 741 = .ok (.aload_n 2, 1) := by decide +kernel
theorem dL_law_742 : decode cL_law 742 = .ok (.aload_n 0, 1) := by decide +kernel
theorem dL_law_743 : decode cL_law 743 = .ok (.iload_n 3, 1) := by decide +kernel
theorem dL_law_744 : decode cL_law 744 = .ok (.iconst 1, 1) := by decide +kernel
theorem dL_law_745 : decode cL_law 745 = .ok (.iadd, 1) := by decide +kernel
theorem dL_law_746 : decode cL_law 746 = .ok (.iaload, 1) := by decide +kernel
theorem dL_law_747 : decode cL_law 747 = .ok (.invokevirtual 89, 3) := by decide +kernel
theorem dL_law_750 : decode cL_law 750 = .ok (.if_icmp .eq 84, 3) := by decide +kernel
theorem dL_law_753 : decode cL_law 753 = .ok (.iconst 0, 1) := by decide +kernel
theorem dL_law_754 : decode cL_law 754 = .ok (.ireturn, 1) := by decide +kernel
theorem dL_law_755 : decode cL_law 755 = .ok (.aload_n 1, 1) := by decide +kernel
theorem dL_law_756 : decode cL_law 756 = .ok (.invokevirtual 90, 3) := by decide +kernel
theorem dL_law_759 : decode cL_law 759 = .ok (.aload_n 2, 1) := by decide +kernel
theorem dL_law_760 : decode cL_law 760 = .ok (.invokevirtual 94, 3) := by decide +kernel
theorem dL_law_763 : decode cL_law 763 = .ok (.if_icmp .eq 71, 3) := by decide +kernel
theorem dL_law_766 : decode cL_law 766 = .ok (.iconst 0, 1) := by decide +kernel
theorem dL_law_767 : decode cL_law 767 = .ok (.ireturn, 1) := by decide +kernel
theorem dL_law_768 : decode cL_law 768 = .ok (.aload_n 1, 1) := by decide +kernel
theorem dL_law_769 : decode cL_law 769 = .ok (.aload_n 0, 1) := by decide +kernel
theorem dL_law_770 : decode cL_law 770 = .ok (.iload_n 3, 1) := by decide +kernel
theorem dL_law_771 : decode cL_law 771 = .ok (.iconst 1, 1) := by decide +kernel
theorem dL_law_772 : decode cL_law 772 = .ok (.iadd, 1) := by decide +kernel
theorem dL_law_773 : decode cL_law 773 = .ok (.iaload, 1) := by decide +kernel
theorem dL_law_774 : decode cL_law 774 = .ok (.aload_n 0, 1) := by decide +kernel
theorem dL_law_775 : decode cL_law 775 = .ok (.iload_n 3, 1) := by decide +kernel
theorem dL_law_776 : decode cL_law 776 = .ok (.iconst 2, 1) := by decide +kernel
theorem dL_law_777 : decode cL_law 777 = .ok (.iadd, 1) := by decide +kernel
theorem dL_law_778 : decode cL_law 778 = .ok (.iaload, 1) := by decide +kernel
theorem dL_law_779 : decode cL_law 779 = .ok (.aload_n 0, 1) := by decide +kernel
theorem dL_law_780 : decode cL_law 780 = .ok (.iload_n 3, 1) := by decide +kernel
theorem dL_law_781 : decode cL_law 781 = .ok (.iconst 3, 1) := by decide +kernel
theorem dL_law_782 : decode cL_law 782 = .ok (.iadd, 1) := by decide +kernel
theorem dL_law_783 : decode cL_law 783 = .ok (.iaload, 1) := by decide +kernel
theorem dL_law_784 : decode cL_law 784 = .ok (.invokevirtual 95, 3) := by decide +kernel
theorem dL_law_787 : decode cL_law 787 = .ok (.aload_n 2, 1) := by decide +kernel
theorem dL_law_788 : decode cL_law 788 = .ok (.aload_n 0, 1) := by decide +kernel
theorem dL_law_789 : decode cL_law 789 = .ok (.iload_n 3, 1) := by decide +kernel
theorem dL_law_790 : decode cL_law 790 = .ok (.iconst 1, 1) := by decide +kernel
theorem dL_law_791 : decode cL_law 791 = .ok (.iadd, 1) := by decide +kernel
theorem dL_law_792 : decode cL_law 792 = .ok (.iaload, 1) := by decide +kernel
theorem dL_law_793 : decode cL_law 793 = .ok (.aload_n 0, 1) := by decide +kernel
theorem dL_law_794 : decode cL_law 794 = .ok (.iload_n 3, 1) := by decide +kernel
theorem dL_law_795 : decode cL_law 795 = .ok (.iconst 2, 1) := by decide +kernel
theorem dL_law_796 : decode cL_law 796 = .ok (.iadd, 1) := by decide +kernel
theorem dL_law_797 : decode cL_law 797 = .ok (.iaload, 1) := by decide +kernel
theorem dL_law_798 : decode cL_law 798 = .ok (.aload_n 0, 1) := by decide +kernel
theorem dL_law_799 : decode cL_law 799 = .ok (.iload_n 3, 1) := by decide +kernel
theorem dL_law_800 : decode cL_law 800 = .ok (.iconst 3, 1) := by decide +kernel
theorem dL_law_801 : decode cL_law 801 = .ok (.iadd, 1) := by decide +kernel
theorem dL_law_802 : decode cL_law 802 = .ok (.iaload, 1) := by decide +kernel
theorem dL_law_803 : decode cL_law 803 = .ok (.invokevirtual 98, 3) := by decide +kernel
theorem dL_law_806 : decode cL_law 806 = .ok (.if_icmp .eq 28, 3) := by decide +kernel
theorem dL_law_809 : decode cL_law 809 = .ok (.iconst 0, 1) := by decide +kernel
theorem dL_law_810 : decode cL_law 810 = .ok (.ireturn, 1) := by decide +kernel
theorem dL_law_811 : decode cL_law 811 = .ok (.aload_n 1, 1) := by decide +kernel
theorem dL_law_812 : decode cL_law 812 = .ok (.aload_n 0, 1) := by decide +kernel
theorem dL_law_813 : decode cL_law 813 = .ok (.iload_n 3, 1) := by decide +kernel
theorem dL_law_814 : decode cL_law 814 = .ok (.iconst 1, 1) := by decide +kernel
theorem dL_law_815 : decode cL_law 815 = .ok (.iadd, 1) := by decide +kernel
theorem dL_law_816 : decode cL_law 816 = .ok (.iaload, 1) := by decide +kernel
theorem dL_law_817 : decode cL_law 817 = .ok (.invokevirtual 99, 3) := by decide +kernel
theorem dL_law_820 : decode cL_law 820 = .ok (.aload_n 2, 1) := by decide +kernel
theorem dL_law_821 : decode cL_law 821 = .ok (.aload_n 0, 1) := by decide +kernel
theorem dL_law_822 : decode cL_law 822 = .ok (.iload_n 3, 1) := by decide +kernel
theorem dL_law_823 : decode cL_law 823 = .ok (.iconst 1, 1) := by decide +kernel
theorem dL_law_824 : decode cL_law 824 = .ok (.iadd, 1) := by decide +kernel
theorem dL_law_825 : decode cL_law 825 = .ok (.iaload, 1) := by decide +kernel
theorem dL_law_826 : decode cL_law 826 = .ok (.invokevirtual 103, 3) := by decide +kernel
theorem dL_law_829 : decode cL_law 829 = .ok (.if_icmp .eq 5, 3) := by decide +kernel
theorem dL_law_832 : decode cL_law 832 = .ok (.iconst 0, 1) := by decide +kernel
theorem dL_law_833 : decode cL_law 833 = .ok (.ireturn, 1) := by decide +kernel
theorem dL_law_834 : decode cL_law 834 = .ok (.iinc 3 6, 3) := by decide +kernel
theorem dL_law_837 : decode cL_law 837 = .ok (.goto (-819), 3) := by decide +kernel
theorem dL_law_840 : decode cL_law 840 = .ok (.iconst 1, 1) := by decide +kernel
theorem dL_law_841 : decode cL_law 841 = .ok (.ireturn, 1) := by decide +kernel
end
section
/-! ===== THE WALK OVER A WORLD THAT IS A FUNCTION OF A STATE: V, its rows, contracts ===== -/
/-- int fields by (place, slot), long fields, int arrays by place, long arrays by place -/
abbrev ST : Type := (Nat → Nat → Int32) × (Nat → Nat → Int64) × (Nat → Nat → Int32) × (Nat → Nat → Int64)
def sI (σ : ST) (q k : Nat) (v : Int32) : ST := (fun a b => if a = q ∧ b = k then v else σ.1 a b, σ.2.1, σ.2.2.1, σ.2.2.2)
def sL (σ : ST) (q k : Nat) (v : Int64) : ST := (σ.1, fun a b => if a = q ∧ b = k then v else σ.2.1 a b, σ.2.2.1, σ.2.2.2)
def sR (σ : ST) (q i : Nat) (v : Int32) : ST := (σ.1, σ.2.1, fun a => if a = q then upd (σ.2.2.1 a) i v else σ.2.2.1 a, σ.2.2.2)
def sJ (σ : ST) (q i : Nat) (v : Int64) : ST := (σ.1, σ.2.1, σ.2.2.1, fun a => if a = q then vp_updL (σ.2.2.2 a) i v else σ.2.2.2 a)
abbrev XE : Type := (Program × Env × State × MethodId) × (Array Value × List Frame × Method × Code) × (Nat → Prop) × (State → Prop) × (Nat × Nat)
abbrev xp (E : XE) : Program := E.1.1
abbrev xe (E : XE) : Env := E.1.2.1
abbrev xs (E : XE) : State := E.1.2.2.1
abbrev xm (E : XE) : MethodId := E.1.2.2.2
abbrev xa (E : XE) : Array Value := E.2.1.1
abbrev xb (E : XE) : List Frame := E.2.1.2.1
abbrev xme (E : XE) : Method := E.2.1.2.2.1
abbrev xc (E : XE) : Code := E.2.1.2.2.2
abbrev xA (E : XE) : Nat → Prop := E.2.2.1
abbrev xQ (E : XE) : State → Prop := E.2.2.2.1
abbrev xcs (E : XE) : Nat := E.2.2.2.2.1
abbrev xsl (E : XE) : Nat := E.2.2.2.2.2
/-- calls between nest mates' own members -/
def NW (U : State) : Prop := va_Nw (.methodLinkNest RX1 40 yX4_wallIn RX4) U ∧ va_Nw (.methodLinkNest RX4 166 yX3_grow RX4) U ∧ va_Nw (.methodLinkNest RX3 39 yX4_mostBy RX4) U ∧ va_Nw (.methodLinkNest RX4 29 yX1_init RX4) U ∧ va_Nw (.methodLinkNest RX4 34 yX2_init RX4) U ∧ va_Nw (.methodLinkNest RX4 35 yX0_init RX4) U
theorem NW.warm {s U : State} (hW : s.WarmedH U.vm) (h : NW s) : NW U := ⟨h.1.warmM hW, h.2.1.warmM hW, h.2.2.1.warmM hW, h.2.2.2.1.warmM hW, h.2.2.2.2.1.warmM hW, h.2.2.2.2.2.warmM hW⟩
theorem NW.same {u U : State} (hv : u.vm = U.vm) (h : NW u) : NW U := ⟨h.1.same rfl hv, h.2.1.same rfl hv, h.2.2.1.same rfl hv, h.2.2.2.1.same rfl hv, h.2.2.2.2.1.same rfl hv, h.2.2.2.2.2.same rfl hv⟩
def V {τ : Type} (l : Launch) (D : va_G) (tys : List (ClassId × FieldType)) (wf : τ → va_W) (R : Room) (nL : Nat) (E : XE) (pc : Nat) (lv : List (Nat × Value)) (st : List Value) (σ : τ) : Prop :=
  ∀ (H : Heap) (locs : List Loc) (ls : Array Slot), va_P D vwCl (wf σ) H → va_S (xA E) (xs E).heap H locs → lv_has ls nL lv → W (xp E) l (xe E) R (xs E) (xm E) (xa E) (xb E) (xme E) (xc E) H locs (xcs E) (xsl E) (xQ E) (F0 (xm E) pc ls st)
def XFix {τ : Type} (D : va_G) (tys : List (ClassId × FieldType)) (wf : τ → va_W) (R : Room) (nL : Nat) (E : XE) (cc : ByteArray) (own : String) (Ts : List Cond) : Prop :=
  CallFix (xp E) (xm E) (xc E) cc nL (xs E) (xa E) Ts own ∧ va_K D vwCl tys (xs E) ∧ (∀ σ, va_D (xA E) (wf σ)) ∧ (∀ q, (xs E).heap.size ≤ q → xA E q) ∧ xcs E ≤ R.cells ∧ xsl E ≤ R.slots ∧ NW (xs E)
def wAdr {τ : Type} (wf : τ → va_W) : Prop := ∀ σ σ' : τ, (wf σ).map (fun q => q.1) = (wf σ').map (fun q => q.1)
theorem wAdr.at {τ : Type} {wf : τ → va_W} (h : wAdr wf) (σ σ' : τ) {k : Nat} {q : Nat × va_E} (hk : (wf σ)[k]? = some q) : ∃ e, (wf σ')[k]? = some (q.1, e) := by
  have h1 : ((wf σ).map (fun q => q.1))[k]? = some q.1 := by rw [List.getElem?_map, hk]; rfl
  rw [h σ σ', List.getElem?_map] at h1
  cases h2 : (wf σ')[k]? with
  | none => rw [h2] at h1; cases h1
  | some r =>
    rw [h2] at h1
    have h3 : r.1 = q.1 := Option.some.inj h1
    exact ⟨r.2, by rw [← h3]⟩
theorem wAdr.D {τ : Type} {wf : τ → va_W} (h : wAdr wf) {A : Nat → Prop} {σ : τ} (hD : va_D A (wf σ)) (σ' : τ) : va_D A (wf σ') := by
  refine ⟨fun i j p q hp hq e => ?_, fun k q hq => ?_⟩
  · obtain ⟨e1, h1⟩ := h.at σ' σ hp
    obtain ⟨e2, h2⟩ := h.at σ' σ hq
    exact hD.1 i j _ _ h1 h2 e
  · obtain ⟨e1, h1⟩ := h.at σ' σ hq
    exact hD.2 k (q.1, e1) h1
theorem wAdr.A {τ : Type} {wf : τ → va_W} (h : wAdr wf) {σ : τ} (σ' : τ) {sz q : Nat} (hq : va_A (wf σ) sz q) : va_A (wf σ') sz q := by
  rcases hq with ⟨k, e, hk⟩ | hq
  · obtain ⟨e1, h1⟩ := h.at σ σ' hk
    exact Or.inl ⟨k, e1, h1⟩
  · exact Or.inr hq
/-- a contract's start over a world -/
def PcX {τ : Type} (D : va_G) (tys : List (ClassId × FieldType)) (wf : τ → va_W) (as : List Value) (σ : τ) (sz : Nat) : Array Value → State → Prop :=
  va_Pc as (fun U => U.heap.size = sz ∧ va_P D vwCl (wf σ) U.heap ∧ va_K D vwCl tys U ∧ va_D (fun _ => True) (wf σ) ∧ NW U)
abbrev BX {τ : Type} (D : va_G) (tys : List (ClassId × FieldType)) (wf : τ → va_W) : τ → State → Prop := fun σ t => va_P D vwCl (wf σ) t.heap ∧ va_K D vwCl tys t
def CtI {τ : Type} (l : Launch) (D : va_G) (tys : List (ClassId × FieldType)) (wf : τ → va_W) (y : MethodName) (ws : List Cond) (rm : Room) (as : List Value) (σ : τ) (Q : Int32 → τ → Prop) : Prop :=
  ∀ sz, Met l y ws rm (PcX D tys wf as σ sz) (va_Qi Q (BX D tys wf) (va_A (wf σ) sz)) 0 0 (va_A (wf σ) sz)
def CtL {τ : Type} (l : Launch) (D : va_G) (tys : List (ClassId × FieldType)) (wf : τ → va_W) (y : MethodName) (ws : List Cond) (rm : Room) (as : List Value) (σ : τ) (Q : Int64 → τ → Prop) : Prop :=
  ∀ sz, Met l y ws rm (PcX D tys wf as σ sz) (va_Ql Q (BX D tys wf) (va_A (wf σ) sz)) 0 0 (va_A (wf σ) sz)
def CtV {τ : Type} (l : Launch) (D : va_G) (tys : List (ClassId × FieldType)) (wf : τ → va_W) (y : MethodName) (ws : List Cond) (rm : Room) (as : List Value) (σ : τ) (Q : τ → Prop) : Prop :=
  ∀ sz, Met l y ws rm (PcX D tys wf as σ sz) (va_Qv Q (BX D tys wf) (va_A (wf σ) sz)) 0 0 (va_A (wf σ) sz)
/-- an answer that is a cell of the world: by its place -/
def CtA {τ : Type} (l : Launch) (D : va_G) (tys : List (ClassId × FieldType)) (wf : τ → va_W) (ad : Nat → Nat) (y : MethodName) (ws : List Cond) (rm : Room) (as : List Value) (σ : τ) (Q : Nat → τ → Prop) : Prop :=
  ∀ sz, Met l y ws rm (PcX D tys wf as σ sz) (va_Qr (S := τ × Nat) (fun u => Q u.2 u.1) (fun u a t => a = ad u.2 ∧ BX D tys wf u.1 t) (va_A (wf σ) sz)) 0 0 (va_A (wf σ) sz)
theorem tne {x c : Int32} (h : ¬ x = c) {k : Int} (hk : c.toInt = k) : x.toInt ≠ k := fun e => h (Int32.toInt_inj.mp (e.trans hk.symm))
section XV
variable {τ : Type} {l : Launch} {D : va_G} {tys : List (ClassId × FieldType)} {wf : τ → va_W} {R : Room} {nL : Nat} {E : XE} {cc : ByteArray} {own : String} {Ts : List Cond} {a b : Nat} {lv : List (Nat × Value)} {rest : List Value} {σ : τ}
theorem x_top {x y : Int32} (h : x = y) (k : V l D tys wf R nL E a lv (.int y :: rest) σ) : V l D tys wf R nL E a lv (.int x :: rest) σ := h ▸ k
theorem x_ni {x : Int32} (k : ∀ y : Int32, y = x → V l D tys wf R nL E a lv (.int y :: rest) σ) : V l D tys wf R nL E a lv (.int x :: rest) σ := k x rfl
theorem x_nl {x : Int64} (k : ∀ y : Int64, y = x → V l D tys wf R nL E a lv (.long y :: rest) σ) : V l D tys wf R nL E a lv (.long x :: rest) σ := k x rfl
theorem x_sub {lv' : List (Nat × Value)} (ks : List Nat) (h : lv_pick lv ks = lv') (k : V l D tys wf R nL E a lv' rest σ) : V l D tys wf R nL E a lv rest σ := fun H locs ls hP hS hl => k H locs ls hP hS (lv_sub hl ks h)
theorem x_iconst (C : XFix D tys wf R nL E cc own Ts) (b : Nat) (hb : a + 1 = b) {n : Int} (v : Int32) (hd : decode cc a = .ok (.iconst n, 1)) (hv : Int32.ofInt n = v) (k : V l D tys wf R nL E b lv (.int v :: rest) σ) : V l D tys wf R nL E a lv rest σ := by
  subst hb; exact fun H locs ls hP hS hl => lv_iconst C.1.1 C.1.2.1 hd hv (k H locs ls hP hS hl)
theorem x_bipush (C : XFix D tys wf R nL E cc own Ts) (b : Nat) (hb : a + 2 = b) {n : Int} (v : Int32) (hd : decode cc a = .ok (.bipush n, 2)) (hv : (Int8.ofInt n).toInt32 = v) (k : V l D tys wf R nL E b lv (.int v :: rest) σ) : V l D tys wf R nL E a lv rest σ := by
  subst hb; exact fun H locs ls hP hS hl => lv_bipush C.1.1 C.1.2.1 hd hv (k H locs ls hP hS hl)
theorem x_sipush (C : XFix D tys wf R nL E cc own Ts) (b : Nat) (hb : a + 3 = b) {n : Int} (v : Int32) (hd : decode cc a = .ok (.sipush n, 3)) (hv : (Int16.ofInt n).toInt32 = v) (k : V l D tys wf R nL E b lv (.int v :: rest) σ) : V l D tys wf R nL E a lv rest σ := by
  subst hb; exact fun H locs ls hP hS hl => lv_sipush C.1.1 C.1.2.1 hd hv (k H locs ls hP hS hl)
theorem x_lconst (C : XFix D tys wf R nL E cc own Ts) (b : Nat) (hb : a + 1 = b) {n : Fin 2} (v : Int64) (hd : decode cc a = .ok (.lconst n, 1)) (hv : Int64.ofNat (n : Nat) = v) (k : V l D tys wf R nL E b lv (.long v :: rest) σ) : V l D tys wf R nL E a lv rest σ := by
  subst hb; exact fun H locs ls hP hS hl => lv_lconst C.1.1 C.1.2.1 hd hv (k H locs ls hP hS hl)
theorem x_ldc2 (C : XFix D tys wf R nL E cc own Ts) (b : Nat) (hb : a + 3 = b) {index : Nat} (v : Int64) (hm : Cond.constantLong own index v ∈ Ts) (hd : decode cc a = .ok (.ldc2_w index, 3)) (k : V l D tys wf R nL E b lv (.long v :: rest) σ) : V l D tys wf R nL E a lv rest σ := by
  subst hb; exact fun H locs ls hP hS hl => lv_ldc2 C.1.1 C.1.2.1 C.1.2.2.2.1 (C.1.2.2.2.2 _ hm) hd (k H locs ls hP hS hl)
theorem x_ldcw (C : XFix D tys wf R nL E cc own Ts) (b : Nat) (hb : a + 3 = b) {index : Nat} (v : Int32) (hm : Cond.constant own index v ∈ Ts) (hd : decode cc a = .ok (.ldc_w index, 3)) (k : V l D tys wf R nL E b lv (.int v :: rest) σ) : V l D tys wf R nL E a lv rest σ := by
  subst hb; exact fun H locs ls hP hS hl => lv_ldcw C.1.1 C.1.2.1 C.1.2.2.2.1 (C.1.2.2.2.2 _ hm) hd (k H locs ls hP hS hl)
theorem x_iload_n (C : XFix D tys wf R nL E cc own Ts) (b : Nat) (hb : a + 1 = b) {k : Fin 4} {i : Nat} (j : Nat) {x : Int32} (hd : decode cc a = .ok (.iload_n k, 1)) (hi : (k : Nat) = i) (hk : lv[j]? = some (i, .int x)) (kk : V l D tys wf R nL E b lv (.int x :: rest) σ) : V l D tys wf R nL E a lv rest σ := by
  subst hb; exact fun H locs ls hP hS hl => lv_iload_n C.1.1 C.1.2.1 hd hi (lv_at hl j hk) (kk H locs ls hP hS hl)
theorem x_iload (C : XFix D tys wf R nL E cc own Ts) (b : Nat) (hb : a + 2 = b) {i : Nat} (j : Nat) {x : Int32} (hd : decode cc a = .ok (.iload i, 2)) (hk : lv[j]? = some (i, .int x)) (kk : V l D tys wf R nL E b lv (.int x :: rest) σ) : V l D tys wf R nL E a lv rest σ := by
  subst hb; exact fun H locs ls hP hS hl => lv_iload C.1.1 C.1.2.1 hd (lv_at hl j hk) (kk H locs ls hP hS hl)
theorem x_lload_n (C : XFix D tys wf R nL E cc own Ts) (b : Nat) (hb : a + 1 = b) {k : Fin 4} {i : Nat} (j : Nat) {x : Int64} (hd : decode cc a = .ok (.lload_n k, 1)) (hi : (k : Nat) = i) (hk : lv[j]? = some (i, .long x)) (kk : V l D tys wf R nL E b lv (.long x :: rest) σ) : V l D tys wf R nL E a lv rest σ := by
  subst hb; exact fun H locs ls hP hS hl => lv_lload_n C.1.1 C.1.2.1 hd hi (lv_at hl j hk) (kk H locs ls hP hS hl)
theorem x_lload (C : XFix D tys wf R nL E cc own Ts) (b : Nat) (hb : a + 2 = b) {i : Nat} (j : Nat) {x : Int64} (hd : decode cc a = .ok (.lload i, 2)) (hk : lv[j]? = some (i, .long x)) (kk : V l D tys wf R nL E b lv (.long x :: rest) σ) : V l D tys wf R nL E a lv rest σ := by
  subst hb; exact fun H locs ls hP hS hl => lv_lload C.1.1 C.1.2.1 hd (lv_at hl j hk) (kk H locs ls hP hS hl)
theorem x_aload_n (C : XFix D tys wf R nL E cc own Ts) (b : Nat) (hb : a + 1 = b) {k : Fin 4} {i : Nat} (j : Nat) {x : Nat} (hd : decode cc a = .ok (.aload_n k, 1)) (hi : (k : Nat) = i) (hk : lv[j]? = some (i, .ref x)) (kk : V l D tys wf R nL E b lv (.ref x :: rest) σ) : V l D tys wf R nL E a lv rest σ := by
  subst hb; exact fun H locs ls hP hS hl => lv_aload_n C.1.1 C.1.2.1 hd hi (lv_at hl j hk) (kk H locs ls hP hS hl)
theorem x_aload (C : XFix D tys wf R nL E cc own Ts) (b : Nat) (hb : a + 2 = b) {i : Nat} (j : Nat) {x : Nat} (hd : decode cc a = .ok (.aload i, 2)) (hk : lv[j]? = some (i, .ref x)) (kk : V l D tys wf R nL E b lv (.ref x :: rest) σ) : V l D tys wf R nL E a lv rest σ := by
  subst hb; exact fun H locs ls hP hS hl => lv_aload C.1.1 C.1.2.1 hd (lv_at hl j hk) (kk H locs ls hP hS hl)
theorem x_istore_n (C : XFix D tys wf R nL E cc own Ts) (b : Nat) (hb : a + 1 = b) {k : Fin 4} {i : Nat} {x : Int32} (lv' : List (Nat × Value)) (hd : decode cc a = .ok (.istore_n k, 1)) (hi : (k : Nat) = i) (hn : i < nL) (hl' : (i, Value.int x) :: lv.filter (fun q => !(q.1 == i) && !(q.1 + 1 == i && q.2.category == 2)) = lv') (kk : V l D tys wf R nL E b lv' rest σ) : V l D tys wf R nL E a lv (.int x :: rest) σ := by
  subst hb; exact fun H locs ls hP hS hl => lv_istore_n C.1.1 C.1.2.1 hd hi hl hn hl' (fun ls' h' => kk H locs ls' hP hS h')
theorem x_istore (C : XFix D tys wf R nL E cc own Ts) (b : Nat) (hb : a + 2 = b) {i : Nat} {x : Int32} (lv' : List (Nat × Value)) (hd : decode cc a = .ok (.istore i, 2)) (hn : i < nL) (hl' : (i, Value.int x) :: lv.filter (fun q => !(q.1 == i) && !(q.1 + 1 == i && q.2.category == 2)) = lv') (kk : V l D tys wf R nL E b lv' rest σ) : V l D tys wf R nL E a lv (.int x :: rest) σ := by
  subst hb; exact fun H locs ls hP hS hl => lv_istore C.1.1 C.1.2.1 hd hl hn hl' (fun ls' h' => kk H locs ls' hP hS h')
theorem x_lstore_n (C : XFix D tys wf R nL E cc own Ts) (b : Nat) (hb : a + 1 = b) {k : Fin 4} {i : Nat} {x : Int64} (lv' : List (Nat × Value)) (hd : decode cc a = .ok (.lstore_n k, 1)) (hi : (k : Nat) = i) (hn : i + 1 < nL) (hl' : (i, Value.long x) :: lv.filter (fun q => !(q.1 == i) && (!(q.1 == i + 1) && !(q.1 + 1 == i && q.2.category == 2))) = lv') (kk : V l D tys wf R nL E b lv' rest σ) : V l D tys wf R nL E a lv (.long x :: rest) σ := by
  subst hb; exact fun H locs ls hP hS hl => lv_lstore_n C.1.1 C.1.2.1 hd hi hl hn hl' (fun ls' h' => kk H locs ls' hP hS h')
theorem x_lstore (C : XFix D tys wf R nL E cc own Ts) (b : Nat) (hb : a + 2 = b) {i : Nat} {x : Int64} (lv' : List (Nat × Value)) (hd : decode cc a = .ok (.lstore i, 2)) (hn : i + 1 < nL) (hl' : (i, Value.long x) :: lv.filter (fun q => !(q.1 == i) && (!(q.1 == i + 1) && !(q.1 + 1 == i && q.2.category == 2))) = lv') (kk : V l D tys wf R nL E b lv' rest σ) : V l D tys wf R nL E a lv (.long x :: rest) σ := by
  subst hb; exact fun H locs ls hP hS hl => lv_lstore C.1.1 C.1.2.1 hd hl hn hl' (fun ls' h' => kk H locs ls' hP hS h')
theorem x_astore_n (C : XFix D tys wf R nL E cc own Ts) (b : Nat) (hb : a + 1 = b) {k : Fin 4} {i : Nat} {x : Nat} (lv' : List (Nat × Value)) (hd : decode cc a = .ok (.astore_n k, 1)) (hi : (k : Nat) = i) (hn : i < nL) (hl' : (i, Value.ref x) :: lv.filter (fun q => !(q.1 == i) && !(q.1 + 1 == i && q.2.category == 2)) = lv') (kk : V l D tys wf R nL E b lv' rest σ) : V l D tys wf R nL E a lv (.ref x :: rest) σ := by
  subst hb; exact fun H locs ls hP hS hl => lv_astore_n C.1.1 C.1.2.1 hd hi hl hn hl' (fun ls' h' => kk H locs ls' hP hS h')
theorem x_astore (C : XFix D tys wf R nL E cc own Ts) (b : Nat) (hb : a + 2 = b) {i : Nat} {x : Nat} (lv' : List (Nat × Value)) (hd : decode cc a = .ok (.astore i, 2)) (hn : i < nL) (hl' : (i, Value.ref x) :: lv.filter (fun q => !(q.1 == i) && !(q.1 + 1 == i && q.2.category == 2)) = lv') (kk : V l D tys wf R nL E b lv' rest σ) : V l D tys wf R nL E a lv (.ref x :: rest) σ := by
  subst hb; exact fun H locs ls hP hS hl => lv_astore C.1.1 C.1.2.1 hd hl hn hl' (fun ls' h' => kk H locs ls' hP hS h')
theorem x_iinc (C : XFix D tys wf R nL E cc own Ts) (b : Nat) (hb : a + 3 = b) {i : Nat} (j : Nat) {n : Int} {x : Int32} (v : Int32) (lv' : List (Nat × Value)) (hd : decode cc a = .ok (.iinc i n, 3)) (hk : lv[j]? = some (i, .int x)) (hv : x + Int32.ofInt n = v) (hn : i < nL) (hl' : (i, Value.int v) :: lv.filter (fun q => !(q.1 == i) && !(q.1 + 1 == i && q.2.category == 2)) = lv') (kk : V l D tys wf R nL E b lv' rest σ) : V l D tys wf R nL E a lv rest σ := by
  subst hb; exact fun H locs ls hP hS hl => lv_iinc C.1.1 C.1.2.1 hd hl hk hv hn hl' (fun ls' h' => kk H locs ls' hP hS h')
theorem x_iadd (C : XFix D tys wf R nL E cc own Ts) (b : Nat) (hb : a + 1 = b) {x y : Int32} (hd : decode cc a = .ok (.iadd, 1))  (k : V l D tys wf R nL E b lv (.int (x + y) :: rest) σ) : V l D tys wf R nL E a lv (.int y :: .int x :: rest) σ := by
  subst hb; exact fun H locs ls hP hS hl => lv_iadd C.1.1 C.1.2.1 hd  (k H locs ls hP hS hl)
theorem x_isub (C : XFix D tys wf R nL E cc own Ts) (b : Nat) (hb : a + 1 = b) {x y : Int32} (hd : decode cc a = .ok (.isub, 1))  (k : V l D tys wf R nL E b lv (.int (x - y) :: rest) σ) : V l D tys wf R nL E a lv (.int y :: .int x :: rest) σ := by
  subst hb; exact fun H locs ls hP hS hl => lv_isub C.1.1 C.1.2.1 hd  (k H locs ls hP hS hl)
theorem x_imul (C : XFix D tys wf R nL E cc own Ts) (b : Nat) (hb : a + 1 = b) {x y : Int32} (hd : decode cc a = .ok (.imul, 1))  (k : V l D tys wf R nL E b lv (.int (x * y) :: rest) σ) : V l D tys wf R nL E a lv (.int y :: .int x :: rest) σ := by
  subst hb; exact fun H locs ls hP hS hl => lv_imul C.1.1 C.1.2.1 hd  (k H locs ls hP hS hl)
theorem x_iand (C : XFix D tys wf R nL E cc own Ts) (b : Nat) (hb : a + 1 = b) {x y : Int32} (hd : decode cc a = .ok (.iand, 1))  (k : V l D tys wf R nL E b lv (.int (x &&& y) :: rest) σ) : V l D tys wf R nL E a lv (.int y :: .int x :: rest) σ := by
  subst hb; exact fun H locs ls hP hS hl => lv_iand C.1.1 C.1.2.1 hd  (k H locs ls hP hS hl)
theorem x_ior (C : XFix D tys wf R nL E cc own Ts) (b : Nat) (hb : a + 1 = b) {x y : Int32} (hd : decode cc a = .ok (.ior, 1))  (k : V l D tys wf R nL E b lv (.int (x ||| y) :: rest) σ) : V l D tys wf R nL E a lv (.int y :: .int x :: rest) σ := by
  subst hb; exact fun H locs ls hP hS hl => lv_ior C.1.1 C.1.2.1 hd  (k H locs ls hP hS hl)
theorem x_ixor (C : XFix D tys wf R nL E cc own Ts) (b : Nat) (hb : a + 1 = b) {x y : Int32} (hd : decode cc a = .ok (.ixor, 1))  (k : V l D tys wf R nL E b lv (.int (x ^^^ y) :: rest) σ) : V l D tys wf R nL E a lv (.int y :: .int x :: rest) σ := by
  subst hb; exact fun H locs ls hP hS hl => lv_ixor C.1.1 C.1.2.1 hd  (k H locs ls hP hS hl)
theorem x_idiv (C : XFix D tys wf R nL E cc own Ts) (b : Nat) (hb : a + 1 = b) {x y : Int32} (hd : decode cc a = .ok (.idiv, 1)) (hne : ¬ y = 0) (k : V l D tys wf R nL E b lv (.int (x / y) :: rest) σ) : V l D tys wf R nL E a lv (.int y :: .int x :: rest) σ := by
  subst hb; exact fun H locs ls hP hS hl => lv_idiv C.1.1 C.1.2.1 hd hne (k H locs ls hP hS hl)
theorem x_irem (C : XFix D tys wf R nL E cc own Ts) (b : Nat) (hb : a + 1 = b) {x y : Int32} (hd : decode cc a = .ok (.irem, 1)) (hne : ¬ y = 0) (k : V l D tys wf R nL E b lv (.int (x - x / y * y) :: rest) σ) : V l D tys wf R nL E a lv (.int y :: .int x :: rest) σ := by
  subst hb; exact fun H locs ls hP hS hl => lv_irem C.1.1 C.1.2.1 hd hne (k H locs ls hP hS hl)
theorem x_ishl (C : XFix D tys wf R nL E cc own Ts) (b : Nat) (hb : a + 1 = b) {x y : Int32} (hd : decode cc a = .ok (.ishl, 1))  (k : V l D tys wf R nL E b lv (.int (x <<< (y &&& 31)) :: rest) σ) : V l D tys wf R nL E a lv (.int y :: .int x :: rest) σ := by
  subst hb; exact fun H locs ls hP hS hl => lv_ishl C.1.1 C.1.2.1 hd  (k H locs ls hP hS hl)
theorem x_ishr (C : XFix D tys wf R nL E cc own Ts) (b : Nat) (hb : a + 1 = b) {x y : Int32} (hd : decode cc a = .ok (.ishr, 1))  (k : V l D tys wf R nL E b lv (.int (x >>> (y &&& 31)) :: rest) σ) : V l D tys wf R nL E a lv (.int y :: .int x :: rest) σ := by
  subst hb; exact fun H locs ls hP hS hl => lv_ishr C.1.1 C.1.2.1 hd  (k H locs ls hP hS hl)
theorem x_iushr (C : XFix D tys wf R nL E cc own Ts) (b : Nat) (hb : a + 1 = b) {x y : Int32} (hd : decode cc a = .ok (.iushr, 1))  (k : V l D tys wf R nL E b lv (.int (x.toUInt32 >>> (y.toUInt32 &&& Int32.toUInt32 31)).toInt32 :: rest) σ) : V l D tys wf R nL E a lv (.int y :: .int x :: rest) σ := by
  subst hb; exact fun H locs ls hP hS hl => lv_iushr C.1.1 C.1.2.1 hd rfl (k H locs ls hP hS hl)
theorem x_ladd (C : XFix D tys wf R nL E cc own Ts) (b : Nat) (hb : a + 1 = b) {x y : Int64} (hd : decode cc a = .ok (.ladd, 1))  (k : V l D tys wf R nL E b lv (.long (x + y) :: rest) σ) : V l D tys wf R nL E a lv (.long y :: .long x :: rest) σ := by
  subst hb; exact fun H locs ls hP hS hl => lv_ladd C.1.1 C.1.2.1 hd  (k H locs ls hP hS hl)
theorem x_land (C : XFix D tys wf R nL E cc own Ts) (b : Nat) (hb : a + 1 = b) {x y : Int64} (hd : decode cc a = .ok (.land, 1))  (k : V l D tys wf R nL E b lv (.long (x &&& y) :: rest) σ) : V l D tys wf R nL E a lv (.long y :: .long x :: rest) σ := by
  subst hb; exact fun H locs ls hP hS hl => lv_land C.1.1 C.1.2.1 hd  (k H locs ls hP hS hl)
theorem x_lor (C : XFix D tys wf R nL E cc own Ts) (b : Nat) (hb : a + 1 = b) {x y : Int64} (hd : decode cc a = .ok (.lor, 1))  (k : V l D tys wf R nL E b lv (.long (x ||| y) :: rest) σ) : V l D tys wf R nL E a lv (.long y :: .long x :: rest) σ := by
  subst hb; exact fun H locs ls hP hS hl => lv_lor C.1.1 C.1.2.1 hd  (k H locs ls hP hS hl)
theorem x_lxor (C : XFix D tys wf R nL E cc own Ts) (b : Nat) (hb : a + 1 = b) {x y : Int64} (hd : decode cc a = .ok (.lxor, 1))  (k : V l D tys wf R nL E b lv (.long (x ^^^ y) :: rest) σ) : V l D tys wf R nL E a lv (.long y :: .long x :: rest) σ := by
  subst hb; exact fun H locs ls hP hS hl => lv_lxor C.1.1 C.1.2.1 hd  (k H locs ls hP hS hl)
theorem x_lmul (C : XFix D tys wf R nL E cc own Ts) (b : Nat) (hb : a + 1 = b) {x y : Int64} (hd : decode cc a = .ok (.lmul, 1))  (k : V l D tys wf R nL E b lv (.long (x * y) :: rest) σ) : V l D tys wf R nL E a lv (.long y :: .long x :: rest) σ := by
  subst hb; exact fun H locs ls hP hS hl => lv_lmul C.1.1 C.1.2.1 hd  (k H locs ls hP hS hl)
theorem x_lshl (C : XFix D tys wf R nL E cc own Ts) (b : Nat) (hb : a + 1 = b) {x : Int64} {y : Int32} (hd : decode cc a = .ok (.lshl, 1))  (k : V l D tys wf R nL E b lv (.long (x <<< (y.toInt64 &&& 63)) :: rest) σ) : V l D tys wf R nL E a lv (.int y :: .long x :: rest) σ := by
  subst hb; exact fun H locs ls hP hS hl => lv_lshl C.1.1 C.1.2.1 hd rfl (k H locs ls hP hS hl)
theorem x_lshr (C : XFix D tys wf R nL E cc own Ts) (b : Nat) (hb : a + 1 = b) {x : Int64} {y : Int32} (hd : decode cc a = .ok (.lshr, 1))  (k : V l D tys wf R nL E b lv (.long (x >>> (y.toInt64 &&& 63)) :: rest) σ) : V l D tys wf R nL E a lv (.int y :: .long x :: rest) σ := by
  subst hb; exact fun H locs ls hP hS hl => lv_lshr C.1.1 C.1.2.1 hd rfl (k H locs ls hP hS hl)
theorem x_lushr (C : XFix D tys wf R nL E cc own Ts) (b : Nat) (hb : a + 1 = b) {x : Int64} {y : Int32} (hd : decode cc a = .ok (.lushr, 1))  (k : V l D tys wf R nL E b lv (.long (x.toUInt64 >>> (y.toInt64.toUInt64 &&& Int64.toUInt64 63)).toInt64 :: rest) σ) : V l D tys wf R nL E a lv (.int y :: .long x :: rest) σ := by
  subst hb; exact fun H locs ls hP hS hl => lv_lushr C.1.1 C.1.2.1 hd rfl (k H locs ls hP hS hl)
theorem x_i2l (C : XFix D tys wf R nL E cc own Ts) (b : Nat) (hb : a + 1 = b) {x : Int32} (hd : decode cc a = .ok (.i2l, 1))  (k : V l D tys wf R nL E b lv (.long x.toInt64 :: rest) σ) : V l D tys wf R nL E a lv (.int x :: rest) σ := by
  subst hb; exact fun H locs ls hP hS hl => lv_i2l C.1.1 C.1.2.1 hd rfl (k H locs ls hP hS hl)
theorem x_l2i (C : XFix D tys wf R nL E cc own Ts) (b : Nat) (hb : a + 1 = b) {x : Int64} (hd : decode cc a = .ok (.l2i, 1))  (k : V l D tys wf R nL E b lv (.int x.toInt32 :: rest) σ) : V l D tys wf R nL E a lv (.long x :: rest) σ := by
  subst hb; exact fun H locs ls hP hS hl => lv_l2i C.1.1 C.1.2.1 hd rfl (k H locs ls hP hS hl)
theorem x_lcmp (C : XFix D tys wf R nL E cc own Ts) (b : Nat) (hb : a + 1 = b) {x y : Int64} (hd : decode cc a = .ok (.lcmp, 1))  (k : V l D tys wf R nL E b lv (.int (lg_cmp x y) :: rest) σ) : V l D tys wf R nL E a lv (.long y :: .long x :: rest) σ := by
  subst hb; exact fun H locs ls hP hS hl => W.lcmp C.1.1 C.1.2.1 hd  (k H locs ls hP hS hl)
theorem x_dup (C : XFix D tys wf R nL E cc own Ts) (b : Nat) (hb : a + 1 = b) {va : Value} (hd : decode cc a = .ok (.dup, 1)) (hva : va.category = 1) (k : V l D tys wf R nL E b lv (va :: va :: rest) σ) : V l D tys wf R nL E a lv (va :: rest) σ := by
  subst hb; exact fun H locs ls hP hS hl => lv_dup C.1.1 C.1.2.1 hd hva (k H locs ls hP hS hl)
theorem x_if_eq (C : XFix D tys wf R nL E cc own Ts) (b c : Nat) {off : Int} {x : Int32} (hd : decode cc a = .ok (.ifCond .eq off, 3)) (ht : (a : Int) + off = (b : Int)) (hc : a + 3 = c) (kt : x = 0 → V l D tys wf R nL E b lv rest σ) (kf : ¬ x = 0 → V l D tys wf R nL E c lv rest σ) : V l D tys wf R nL E a lv (.int x :: rest) σ := by
  subst hc; exact fun H locs ls hP hS hl => lv_if_eq C.1.1 C.1.2.1 hd ht (fun h => kt h H locs ls hP hS hl) (fun h => kf h H locs ls hP hS hl)
theorem x_if_ne (C : XFix D tys wf R nL E cc own Ts) (b c : Nat) {off : Int} {x : Int32} (hd : decode cc a = .ok (.ifCond .ne off, 3)) (ht : (a : Int) + off = (b : Int)) (hc : a + 3 = c) (kt : ¬ x = 0 → V l D tys wf R nL E b lv rest σ) (kf : x = 0 → V l D tys wf R nL E c lv rest σ) : V l D tys wf R nL E a lv (.int x :: rest) σ := by
  subst hc; exact fun H locs ls hP hS hl => lv_if_ne C.1.1 C.1.2.1 hd ht (fun h => kt h H locs ls hP hS hl) (fun h => kf h H locs ls hP hS hl)
theorem x_if_lt (C : XFix D tys wf R nL E cc own Ts) (b c : Nat) {off : Int} {x : Int32} (hd : decode cc a = .ok (.ifCond .lt off, 3)) (ht : (a : Int) + off = (b : Int)) (hc : a + 3 = c) (kt : x < 0 → V l D tys wf R nL E b lv rest σ) (kf : ¬ x < 0 → V l D tys wf R nL E c lv rest σ) : V l D tys wf R nL E a lv (.int x :: rest) σ := by
  subst hc; exact fun H locs ls hP hS hl => lv_if_lt C.1.1 C.1.2.1 hd ht (fun h => kt h H locs ls hP hS hl) (fun h => kf h H locs ls hP hS hl)
theorem x_if_ge (C : XFix D tys wf R nL E cc own Ts) (b c : Nat) {off : Int} {x : Int32} (hd : decode cc a = .ok (.ifCond .ge off, 3)) (ht : (a : Int) + off = (b : Int)) (hc : a + 3 = c) (kt : 0 ≤ x → V l D tys wf R nL E b lv rest σ) (kf : ¬ 0 ≤ x → V l D tys wf R nL E c lv rest σ) : V l D tys wf R nL E a lv (.int x :: rest) σ := by
  subst hc; exact fun H locs ls hP hS hl => lv_if_ge C.1.1 C.1.2.1 hd ht (fun h => kt h H locs ls hP hS hl) (fun h => kf h H locs ls hP hS hl)
theorem x_if_gt (C : XFix D tys wf R nL E cc own Ts) (b c : Nat) {off : Int} {x : Int32} (hd : decode cc a = .ok (.ifCond .gt off, 3)) (ht : (a : Int) + off = (b : Int)) (hc : a + 3 = c) (kt : 0 < x → V l D tys wf R nL E b lv rest σ) (kf : ¬ 0 < x → V l D tys wf R nL E c lv rest σ) : V l D tys wf R nL E a lv (.int x :: rest) σ := by
  subst hc; exact fun H locs ls hP hS hl => lv_if_gt C.1.1 C.1.2.1 hd ht (fun h => kt h H locs ls hP hS hl) (fun h => kf h H locs ls hP hS hl)
theorem x_if_le (C : XFix D tys wf R nL E cc own Ts) (b c : Nat) {off : Int} {x : Int32} (hd : decode cc a = .ok (.ifCond .le off, 3)) (ht : (a : Int) + off = (b : Int)) (hc : a + 3 = c) (kt : x ≤ 0 → V l D tys wf R nL E b lv rest σ) (kf : ¬ x ≤ 0 → V l D tys wf R nL E c lv rest σ) : V l D tys wf R nL E a lv (.int x :: rest) σ := by
  subst hc; exact fun H locs ls hP hS hl => lv_if_le C.1.1 C.1.2.1 hd ht (fun h => kt h H locs ls hP hS hl) (fun h => kf h H locs ls hP hS hl)
theorem x_icmp_eq (C : XFix D tys wf R nL E cc own Ts) (b c : Nat) {off : Int} {x y : Int32} (hd : decode cc a = .ok (.if_icmp .eq off, 3)) (ht : (a : Int) + off = (b : Int)) (hc : a + 3 = c) (kt : x = y → V l D tys wf R nL E b lv rest σ) (kf : ¬ x = y → V l D tys wf R nL E c lv rest σ) : V l D tys wf R nL E a lv (.int y :: .int x :: rest) σ := by
  subst hc; exact fun H locs ls hP hS hl => lv_icmp_eq C.1.1 C.1.2.1 hd ht (fun h => kt h H locs ls hP hS hl) (fun h => kf h H locs ls hP hS hl)
theorem x_icmp_ne (C : XFix D tys wf R nL E cc own Ts) (b c : Nat) {off : Int} {x y : Int32} (hd : decode cc a = .ok (.if_icmp .ne off, 3)) (ht : (a : Int) + off = (b : Int)) (hc : a + 3 = c) (kt : ¬ x = y → V l D tys wf R nL E b lv rest σ) (kf : x = y → V l D tys wf R nL E c lv rest σ) : V l D tys wf R nL E a lv (.int y :: .int x :: rest) σ := by
  subst hc; exact fun H locs ls hP hS hl => lv_icmp_ne C.1.1 C.1.2.1 hd ht (fun h => kt h H locs ls hP hS hl) (fun h => kf h H locs ls hP hS hl)
theorem x_icmp_lt (C : XFix D tys wf R nL E cc own Ts) (b c : Nat) {off : Int} {x y : Int32} (hd : decode cc a = .ok (.if_icmp .lt off, 3)) (ht : (a : Int) + off = (b : Int)) (hc : a + 3 = c) (kt : x < y → V l D tys wf R nL E b lv rest σ) (kf : ¬ x < y → V l D tys wf R nL E c lv rest σ) : V l D tys wf R nL E a lv (.int y :: .int x :: rest) σ := by
  subst hc; exact fun H locs ls hP hS hl => lv_icmp_lt C.1.1 C.1.2.1 hd ht (fun h => kt h H locs ls hP hS hl) (fun h => kf h H locs ls hP hS hl)
theorem x_icmp_ge (C : XFix D tys wf R nL E cc own Ts) (b c : Nat) {off : Int} {x y : Int32} (hd : decode cc a = .ok (.if_icmp .ge off, 3)) (ht : (a : Int) + off = (b : Int)) (hc : a + 3 = c) (kt : y ≤ x → V l D tys wf R nL E b lv rest σ) (kf : ¬ y ≤ x → V l D tys wf R nL E c lv rest σ) : V l D tys wf R nL E a lv (.int y :: .int x :: rest) σ := by
  subst hc; exact fun H locs ls hP hS hl => lv_icmp_ge C.1.1 C.1.2.1 hd ht (fun h => kt h H locs ls hP hS hl) (fun h => kf h H locs ls hP hS hl)
theorem x_icmp_gt (C : XFix D tys wf R nL E cc own Ts) (b c : Nat) {off : Int} {x y : Int32} (hd : decode cc a = .ok (.if_icmp .gt off, 3)) (ht : (a : Int) + off = (b : Int)) (hc : a + 3 = c) (kt : y < x → V l D tys wf R nL E b lv rest σ) (kf : ¬ y < x → V l D tys wf R nL E c lv rest σ) : V l D tys wf R nL E a lv (.int y :: .int x :: rest) σ := by
  subst hc; exact fun H locs ls hP hS hl => lv_icmp_gt C.1.1 C.1.2.1 hd ht (fun h => kt h H locs ls hP hS hl) (fun h => kf h H locs ls hP hS hl)
theorem x_icmp_le (C : XFix D tys wf R nL E cc own Ts) (b c : Nat) {off : Int} {x y : Int32} (hd : decode cc a = .ok (.if_icmp .le off, 3)) (ht : (a : Int) + off = (b : Int)) (hc : a + 3 = c) (kt : x ≤ y → V l D tys wf R nL E b lv rest σ) (kf : ¬ x ≤ y → V l D tys wf R nL E c lv rest σ) : V l D tys wf R nL E a lv (.int y :: .int x :: rest) σ := by
  subst hc; exact fun H locs ls hP hS hl => lv_icmp_le C.1.1 C.1.2.1 hd ht (fun h => kt h H locs ls hP hS hl) (fun h => kf h H locs ls hP hS hl)
theorem x_goto (C : XFix D tys wf R nL E cc own Ts) (b : Nat) {off : Int} (hd : decode cc a = .ok (.goto off, 3)) (ht : (a : Int) + off = (b : Int)) (k : V l D tys wf R nL E b lv rest σ) : V l D tys wf R nL E a lv rest σ :=
  fun H locs ls hP hS hl => lv_goto C.1.1 C.1.2.1 hd ht (k H locs ls hP hS hl)
theorem x_tsIn (C : XFix D tys wf R nL E cc own Ts) (b : Nat) {dflt lo hi : Int} {offs : Array Int} {len : Nat} {x : Int32} (off : Int) (hd : decode cc a = .ok (.tableswitch dflt lo hi offs, len)) (h1 : ¬ x.toInt < lo) (h2 : ¬ hi < x.toInt) (ho : offs[(x.toInt - lo).toNat]? = some off) (ht : (a : Int) + off = (b : Int)) (k : V l D tys wf R nL E b lv rest σ) : V l D tys wf R nL E a lv (.int x :: rest) σ :=
  fun H locs ls hP hS hl => lv_tableIn C.1.1 C.1.2.1 hd h1 h2 ho ht (k H locs ls hP hS hl)
theorem x_tsOut (C : XFix D tys wf R nL E cc own Ts) (b : Nat) {dflt lo hi : Int} {offs : Array Int} {len : Nat} {x : Int32} (hd : decode cc a = .ok (.tableswitch dflt lo hi offs, len)) (h : x.toInt < lo ∨ hi < x.toInt) (ht : (a : Int) + dflt = (b : Int)) (k : V l D tys wf R nL E b lv rest σ) : V l D tys wf R nL E a lv (.int x :: rest) σ :=
  fun H locs ls hP hS hl => lv_tableOut C.1.1 C.1.2.1 hd h ht (k H locs ls hP hS hl)
theorem x_get (C : XFix D tys wf R nL E cc own Ts) (b : Nat) (hb : a + 3 = b) {ref Cn : String} {T : u_T} {N ci index p : Nat} {fs : List Value} {v : Value} (q0 k : Nat) (he : (wf σ)[q0]? = some (p, .inr (ci, fs))) (hc : vwCl[ci]? = some (Cn, T, N)) (hin : ∀ w ∈ u_ws Cn T N, w ∈ Ts) (hk : k < N) (hm : Cond.fieldLink own index ref (T k).2.1 (T k).2.2.1 ∈ Ts) (hr : ref = (T k).1) (hv : fs[k]? = some v) (hd : decode cc a = .ok (.getfield index, 3)) (kk : V l D tys wf R nL E b lv (v :: rest) σ) : V l D tys wf R nL E a lv (.ref p :: rest) σ := by
  subst hb; subst hr; exact fun H locs ls hP hS hl => va_get C.1.1 C.1.2.1 C.1.2.2.2.2 hin C.1.2.2.2.1 C.2.1 hP q0 he hc k hk (C.1.2.2.2.2 _ hm) (fun _ h => h) hv hd (kk H locs ls hP hS hl)
theorem x_put (C : XFix D tys wf R nL E cc own Ts) (b : Nat) (hb : a + 3 = b) {ref Cn : String} {T : u_T} {N ci index p : Nat} {fs : List Value} {v : Value} {ty : FieldType} {σ' : τ} (q0 k : Nat) (he : (wf σ)[q0]? = some (p, .inr (ci, fs))) (hc : vwCl[ci]? = some (Cn, T, N)) (hin : ∀ w ∈ u_ws Cn T N, w ∈ Ts) (ty0 : Nat → FieldType) (hty : ∀ k, k < N → parseFieldDescriptor (T k).2.2.1 = some (ty0 k)) (hnm : ∀ a, a < N → ∀ b, b < N → a ≠ b → (T a).2.1 ≠ (T b).2.1) (hk : k < N) (hm : Cond.fieldLink own index ref (T k).2.1 (T k).2.2.1 ∈ Ts) (hr : ref = (T k).1) (hfin : (T k).2.2.2 = false) (hds : parseFieldDescriptor (T k).2.2.1 = some ty) (hn : narrow ty v = v) (hfit : fits ty v = true) (hl0 : k < fs.length) (hw : (wf σ).set q0 (p, .inr (ci, fs.set k v)) = wf σ') (hd : decode cc a = .ok (.putfield index, 3)) (kk : V l D tys wf R nL E b lv rest σ') : V l D tys wf R nL E a lv (v :: .ref p :: rest) σ := by
  subst hb; subst hr; exact fun H locs ls hP hS hl => va_put C.1.1 C.1.2.1 C.1.2.2.2.2 hin ty0 hty hnm C.1.2.2.2.1 C.2.1 hP (C.2.2.1 σ) hS q0 he hc k hk (C.1.2.2.2.2 _ hm) (fun _ h => h) hfin hds hn hfit hl0 hd (fun H1 locs1 hP1 _ hS1 => kk H1 locs1 ls (hw ▸ hP1) hS1 hl)
theorem x_iald (C : XFix D tys wf R nL E cc own Ts) (b : Nat) (hb : a + 1 = b) {cA : ClassId} {n p : Nat} {f : Nat → Int32} {i : Int32} (q0 t0 : Nat) (ha : (wf σ)[q0]? = some (p, .inl (cA, n, .inl f))) (ht : tys[t0]? = some (cA, .int)) (hin : vp_in i n) (hd : decode cc a = .ok (.iaload, 1)) (kk : V l D tys wf R nL E b lv (.int (f i.toNatClampNeg) :: rest) σ) : V l D tys wf R nL E a lv (.int i :: .ref p :: rest) σ := by
  subst hb; exact fun H locs ls hP hS hl => va_iald C.1.1 C.1.2.1 C.2.1 hP q0 t0 ha ht hin hd (kk H locs ls hP hS hl)
theorem x_lald (C : XFix D tys wf R nL E cc own Ts) (b : Nat) (hb : a + 1 = b) {cA : ClassId} {n p : Nat} {f : Nat → Int64} {i : Int32} (q0 t0 : Nat) (ha : (wf σ)[q0]? = some (p, .inl (cA, n, .inr (.inl f)))) (ht : tys[t0]? = some (cA, .long)) (hin : vp_in i n) (hd : decode cc a = .ok (.laload, 1)) (kk : V l D tys wf R nL E b lv (.long (f i.toNatClampNeg) :: rest) σ) : V l D tys wf R nL E a lv (.int i :: .ref p :: rest) σ := by
  subst hb; exact fun H locs ls hP hS hl => va_lald C.1.1 C.1.2.1 C.2.1 hP q0 t0 ha ht hin hd (kk H locs ls hP hS hl)
theorem x_aald (C : XFix D tys wf R nL E cc own Ts) (b : Nat) (hb : a + 1 = b) {cA : ClassId} {Cn : String} {n p q : Nat} {f : Nat → Option Nat} {i : Int32} (q0 t0 : Nat) (ha : (wf σ)[q0]? = some (p, .inl (cA, n, .inr (.inr (.inr (.inr f)))))) (ht : tys[t0]? = some (cA, .object Cn)) (hin : vp_in i n) (hf : f i.toNatClampNeg = some q) (hd : decode cc a = .ok (.aaload, 1)) (kk : V l D tys wf R nL E b lv (.ref q :: rest) σ) : V l D tys wf R nL E a lv (.int i :: .ref p :: rest) σ := by
  subst hb; exact fun H locs ls hP hS hl => va_aldq C.1.1 C.1.2.1 C.2.1 hP q0 t0 ha ht hin hd (by rw [hf]; exact kk H locs ls hP hS hl)
theorem x_iast (C : XFix D tys wf R nL E cc own Ts) (b : Nat) (hb : a + 1 = b) {cA : ClassId} {n p : Nat} {f : Nat → Int32} {i x : Int32} {σ' : τ} (q0 t0 : Nat) (ha : (wf σ)[q0]? = some (p, .inl (cA, n, .inl f))) (ht : tys[t0]? = some (cA, .int)) (hin : vp_in i n) (hw : (wf σ).set q0 (p, .inl (cA, n, .inl (upd f i.toNatClampNeg x))) = wf σ') (hd : decode cc a = .ok (.iastore, 1)) (kk : V l D tys wf R nL E b lv rest σ') : V l D tys wf R nL E a lv (.int x :: .int i :: .ref p :: rest) σ := by
  subst hb; exact fun H locs ls hP hS hl => va_iast C.1.1 C.1.2.1 C.2.1 hP (C.2.2.1 σ) hS q0 t0 ha ht hin hd (fun H1 locs1 hP1 _ hS1 => kk H1 locs1 ls (hw ▸ hP1) hS1 hl)
theorem x_last (C : XFix D tys wf R nL E cc own Ts) (b : Nat) (hb : a + 1 = b) {cA : ClassId} {n p : Nat} {f : Nat → Int64} {i : Int32} {x : Int64} {σ' : τ} (q0 t0 : Nat) (ha : (wf σ)[q0]? = some (p, .inl (cA, n, .inr (.inl f)))) (ht : tys[t0]? = some (cA, .long)) (hin : vp_in i n) (hw : (wf σ).set q0 (p, .inl (cA, n, .inr (.inl (vp_updL f i.toNatClampNeg x)))) = wf σ') (hd : decode cc a = .ok (.lastore, 1)) (kk : V l D tys wf R nL E b lv rest σ') : V l D tys wf R nL E a lv (.long x :: .int i :: .ref p :: rest) σ := by
  subst hb; exact fun H locs ls hP hS hl => va_last C.1.1 C.1.2.1 C.2.1 hP (C.2.2.1 σ) hS q0 t0 ha ht hin hd (fun H1 locs1 hP1 _ hS1 => kk H1 locs1 ls (hw ▸ hP1) hS1 hl)
theorem x_alen (C : XFix D tys wf R nL E cc own Ts) (b : Nat) (hb : a + 1 = b) {cA : ClassId} {p : Nat} {x : vp_A} {ty : FieldType} {v : Int32} (q0 t0 : Nat) (ha : (wf σ)[q0]? = some (p, .inl (cA, x))) (ht : tys[t0]? = some (cA, ty)) (hv : Int32.ofNat x.1 = v) (hd : decode cc a = .ok (.arraylength, 1)) (kk : V l D tys wf R nL E b lv (.int v :: rest) σ) : V l D tys wf R nL E a lv (.ref p :: rest) σ := by
  subst hb; exact fun H locs ls hP hS hl => va_alen C.1.1 C.1.2.1 C.2.1 hP q0 t0 ha ht hv hd (kk H locs ls hP hS hl)
theorem x_max (C : XFix D tys wf R nL E cc own Ts) (b : Nat) (hb : a + 3 = b) {index : Nat} {x y : Int32} (hw : ∀ w ∈ ([.methodLink own index Lib.Math.max.name, .static Lib.Math.max.name, .initialized "java/lang/Math", .code Lib.Math.max.name Lib.Math.max.code 2 (some .int)] : List Cond), w ∈ Ts) (hf : 1 ≤ R.frames) (hlo : (rest.map fun v => v.category).sum + 13 ≤ R.locals) (hd : decode cc a = .ok (.invokestatic index, 3)) (kk : V l D tys wf R nL E b lv (.int (if x < y then y else x) :: rest) σ) : V l D tys wf R nL E a lv (.int y :: .int x :: rest) σ := by
  subst hb; exact fun H locs ls hP hS hl => va_mmax C.1.1 C.1.2.1 (C.1.2.2.1.trans hl.1.symm) C.1.2.2.2.1 (C.1.2.2.2.2 _ (hw _ (by simp))) (C.1.2.2.2.2 _ (hw _ (by simp))) (C.1.2.2.2.2 _ (hw _ (by simp))) (C.1.2.2.2.2 _ (hw _ (by simp))) hf hlo C.2.2.2.2.1 C.2.2.2.2.2.1 hd (kk H locs ls hP hS hl)
theorem x_min (C : XFix D tys wf R nL E cc own Ts) (b : Nat) (hb : a + 3 = b) {index : Nat} {x y : Int32} (hw : ∀ w ∈ ([.methodLink own index Lib.Math.min.name, .static Lib.Math.min.name, .initialized "java/lang/Math", .code Lib.Math.min.name Lib.Math.min.code 2 (some .int)] : List Cond), w ∈ Ts) (hf : 1 ≤ R.frames) (hlo : (rest.map fun v => v.category).sum + 13 ≤ R.locals) (hd : decode cc a = .ok (.invokestatic index, 3)) (kk : V l D tys wf R nL E b lv (.int (if y < x then y else x) :: rest) σ) : V l D tys wf R nL E a lv (.int y :: .int x :: rest) σ := by
  subst hb; exact fun H locs ls hP hS hl => va_mmin C.1.1 C.1.2.1 (C.1.2.2.1.trans hl.1.symm) C.1.2.2.2.1 (C.1.2.2.2.2 _ (hw _ (by simp))) (C.1.2.2.2.2 _ (hw _ (by simp))) (C.1.2.2.2.2 _ (hw _ (by simp))) (C.1.2.2.2.2 _ (hw _ (by simp))) hf hlo C.2.2.2.2.1 C.2.2.2.2.2.1 hd (kk H locs ls hP hS hl)
end XV
end
section
/-! ===== contracts over a world: ends, entries, calls, a contract beside other cells ===== -/
def RetI {τ : Type} (l : Launch) (D : va_G) (tys : List (ClassId × FieldType)) (wf : τ → va_W) (R : Room) (nL : Nat) (E : XE) (cc : ByteArray) (Q : Int32 → τ → Prop) : Prop :=
  ∀ (pc : Nat) (lv : List (Nat × Value)) (r : Int32) (σ : τ), decode cc pc = .ok (.ireturn, 1) → Q r σ → V l D tys wf R nL E pc lv [.int r] σ
def RetZ {τ : Type} (l : Launch) (D : va_G) (tys : List (ClassId × FieldType)) (wf : τ → va_W) (R : Room) (nL : Nat) (E : XE) (cc : ByteArray) (Q : Int32 → τ → Prop) : Prop :=
  ∀ (pc : Nat) (lv : List (Nat × Value)) (r : Int32) (σ : τ), decode cc pc = .ok (.ireturn, 1) → (r = 0 ∨ r = 1) → Q r σ → V l D tys wf R nL E pc lv [.int r] σ
def RetL {τ : Type} (l : Launch) (D : va_G) (tys : List (ClassId × FieldType)) (wf : τ → va_W) (R : Room) (nL : Nat) (E : XE) (cc : ByteArray) (Q : Int64 → τ → Prop) : Prop :=
  ∀ (pc : Nat) (lv : List (Nat × Value)) (r : Int64) (σ : τ), decode cc pc = .ok (.lreturn, 1) → Q r σ → V l D tys wf R nL E pc lv [.long r] σ
def RetV {τ : Type} (l : Launch) (D : va_G) (tys : List (ClassId × FieldType)) (wf : τ → va_W) (R : Room) (nL : Nat) (E : XE) (cc : ByteArray) (Q : τ → Prop) : Prop :=
  ∀ (pc : Nat) (lv : List (Nat × Value)) (σ : τ), decode cc pc = .ok (.return_, 1) → Q σ → V l D tys wf R nL E pc lv [] σ
def RetA {τ : Type} (l : Launch) (D : va_G) (tys : List (ClassId × FieldType)) (wf : τ → va_W) (ad : Nat → Nat) (R : Room) (nL : Nat) (E : XE) (cc : ByteArray) (Q : Nat → τ → Prop) : Prop :=
  ∀ (pc : Nat) (lv : List (Nat × Value)) (q : Nat) (σ : τ), decode cc pc = .ok (.areturn, 1) → Q q σ → V l D tys wf R nL E pc lv [.ref (ad q)] σ
section XC
variable {τ : Type} {l : Launch} {D : va_G} {tys : List (ClassId × FieldType)} {wf : τ → va_W}
theorem PcX.blind {as : List Value} {σ : τ} {sz : Nat} : FrameBlind (PcX D tys wf as σ sz) := fun a U g mk q => by
  obtain ⟨q0, q1, qP, qK, qD, qN⟩ := q
  exact ⟨q0, q1, qP, va_K.moved (u := U) (U := U.calling g mk a) (Vm.Alike.refl U.vm) qK, qD, NW.same (u := U) (U := U.calling g mk a) rfl qN⟩
theorem x_entry (hA : wAdr wf) {y : MethodName} {ws ws' : List Cond} {rm : Room} {cc : ByteArray} {maxL : Nat} {ret : Option FieldType} {as : List Value} {σ : τ} {lv : List (Nat × Value)} {Qc : Array Value → State → Outcome → State → Prop} {sz : Nat}
    (hy : plainName y.cls = true) (hw : ws = Cond.code y cc maxL ret :: ws') (hlen : (lg_sl as).length ≤ maxL) (hlv : lv_args 0 as = lv) (hrc : rm.cells = 0) (hrs : rm.slots = 0)
    (body : ∀ E : XE, XFix D tys wf rm maxL E cc y.cls ws → (xme E).sig.returnType = ret → (xme E).locks = false → xcs E = 0 → xsl E = 0 → xA E = va_A (wf σ) (xs E).heap.size → (xs E).heap.size = sz → xQ E = MQ (xb E) Qc (xa E) (xs E) 0 0 (va_A (wf σ) sz) → V l D tys wf rm maxL E 0 lv [] σ) :
    Met l y ws rm (PcX D tys wf as σ sz) Qc 0 0 (va_A (wf σ) sz) := by
  refine Met.ofW (cc := cc) (maxL := maxL) (ret := ret) hy hw ?_
  intro p e s m args below meth c s₁ B hml hv
  obtain ⟨rfl, hsz, hP, hK, hD0, hN⟩ := hv
  have hts := atoms_spec (ws := ws) B.pre
  have hown : s.vm.findClass y.cls = some m.cls := findClass_of_methodNamed B.named
  have hl := lv_entry as (n := maxL) hlen
  rw [lg_entry_eq]
  have hb := body ((p, e, s, m), (as.toArray, below, meth, c), va_A (wf σ) s.heap.size, MQ below Qc as.toArray s 0 0 (va_A (wf σ) sz), (0, 0))
    ⟨⟨B.exec, B.bytes, hml, hown, hts⟩, hK, fun σ' => hA.D (hD0.self (sz := s.heap.size)) σ', fun q h => Or.inr h, by rw [hrc]; exact Nat.le_refl 0, by rw [hrs]; exact Nat.le_refl 0, hN⟩ B.returns B.notSynchronized rfl rfl rfl hsz rfl
  exact hb s.heap [] _ hP va_S.rf (hlv ▸ hl)
theorem BX.at {E : XE} {cc : ByteArray} {own : String} {Ts : List Cond} {R : Room} {nL : Nat} (C : XFix D tys wf R nL E cc own Ts) {H : Heap} {σ : τ} (hP : va_P D vwCl (wf σ) H) {t : State} (ht : t.heap = H) (hW : (xs E).WarmedH t.vm) : BX D tys wf σ t := ⟨by rw [ht]; exact hP, va_K.moved hW.alike C.2.1⟩
theorem CtI.of (hA : wAdr wf) {y : MethodName} {ws ws' : List Cond} {rm : Room} {cc : ByteArray} {maxL : Nat} {as : List Value} {σ : τ} {Q : Int32 → τ → Prop} (lv : List (Nat × Value)) (own : String)
    (hy : plainName y.cls = true) (ho : y.cls = own) (hw : ws = Cond.code y cc maxL (some .int) :: ws') (hlen : (lg_sl as).length ≤ maxL) (hlv : lv_args 0 as = lv) (hrc : rm.cells = 0) (hrs : rm.slots = 0)
    (body : ∀ E : XE, XFix D tys wf rm maxL E cc own ws → RetI l D tys wf rm maxL E cc Q → V l D tys wf rm maxL E 0 lv [] σ) : CtI l D tys wf y ws rm as σ Q := by
  intro sz
  subst ho
  refine x_entry hA hy hw hlen hlv hrc hrs (fun E C hr hlk hc hsl hAe hsz hQ => body E C ?_)
  intro pc lv r σ' hd hq H locs ls hP hS hl
  rw [hQ, hc, hsl]
  refine W.iret C.1.1 C.1.2.1 hr (fun t ht hW => ⟨⟨r, σ', rfl, hq, BX.at C hP ht hW⟩, ?_⟩) ?_ hd hlk
  · rw [← hsz, ← hAe]; exact hS.2.2
  · rw [← hsz, ← hAe]; exact hS.F ht
theorem CtI.ofZ (hA : wAdr wf) {y : MethodName} {ws ws' : List Cond} {rm : Room} {cc : ByteArray} {maxL : Nat} {as : List Value} {σ : τ} {Q : Int32 → τ → Prop} (lv : List (Nat × Value)) (own : String)
    (hy : plainName y.cls = true) (ho : y.cls = own) (hw : ws = Cond.code y cc maxL (some .boolean) :: ws') (hlen : (lg_sl as).length ≤ maxL) (hlv : lv_args 0 as = lv) (hrc : rm.cells = 0) (hrs : rm.slots = 0)
    (body : ∀ E : XE, XFix D tys wf rm maxL E cc own ws → RetZ l D tys wf rm maxL E cc Q → V l D tys wf rm maxL E 0 lv [] σ) : CtI l D tys wf y ws rm as σ Q := by
  intro sz
  subst ho
  refine x_entry hA hy hw hlen hlv hrc hrs (fun E C hr hlk hc hsl hAe hsz hQ => body E C ?_)
  intro pc lv r σ' hd h01 hq H locs ls hP hS hl
  rw [hQ, hc, hsl]
  refine W.zret C.1.1 C.1.2.1 hr (by rcases h01 with h | h <;> subst h <;> rfl) (fun t ht hW => ⟨⟨r, σ', rfl, hq, BX.at C hP ht hW⟩, ?_⟩) ?_ hd hlk
  · rw [← hsz, ← hAe]; exact hS.2.2
  · rw [← hsz, ← hAe]; exact hS.F ht
theorem CtL.of (hA : wAdr wf) {y : MethodName} {ws ws' : List Cond} {rm : Room} {cc : ByteArray} {maxL : Nat} {as : List Value} {σ : τ} {Q : Int64 → τ → Prop} (lv : List (Nat × Value)) (own : String)
    (hy : plainName y.cls = true) (ho : y.cls = own) (hw : ws = Cond.code y cc maxL (some .long) :: ws') (hlen : (lg_sl as).length ≤ maxL) (hlv : lv_args 0 as = lv) (hrc : rm.cells = 0) (hrs : rm.slots = 0)
    (body : ∀ E : XE, XFix D tys wf rm maxL E cc own ws → RetL l D tys wf rm maxL E cc Q → V l D tys wf rm maxL E 0 lv [] σ) : CtL l D tys wf y ws rm as σ Q := by
  intro sz
  subst ho
  refine x_entry hA hy hw hlen hlv hrc hrs (fun E C hr hlk hc hsl hAe hsz hQ => body E C ?_)
  intro pc lv r σ' hd hq H locs ls hP hS hl
  rw [hQ, hc, hsl]
  refine W.lret C.1.1 C.1.2.1 hr (fun t ht hW => ⟨⟨r, σ', rfl, hq, BX.at C hP ht hW⟩, ?_⟩) ?_ hd hlk
  · rw [← hsz, ← hAe]; exact hS.2.2
  · rw [← hsz, ← hAe]; exact hS.F ht
theorem CtV.of (hA : wAdr wf) {y : MethodName} {ws ws' : List Cond} {rm : Room} {cc : ByteArray} {maxL : Nat} {as : List Value} {σ : τ} {Q : τ → Prop} (lv : List (Nat × Value)) (own : String)
    (hy : plainName y.cls = true) (ho : y.cls = own) (hw : ws = Cond.code y cc maxL none :: ws') (hlen : (lg_sl as).length ≤ maxL) (hlv : lv_args 0 as = lv) (hrc : rm.cells = 0) (hrs : rm.slots = 0)
    (body : ∀ E : XE, XFix D tys wf rm maxL E cc own ws → RetV l D tys wf rm maxL E cc Q → V l D tys wf rm maxL E 0 lv [] σ) : CtV l D tys wf y ws rm as σ Q := by
  intro sz
  subst ho
  refine x_entry hA hy hw hlen hlv hrc hrs (fun E C hr hlk hc hsl hAe hsz hQ => body E C ?_)
  intro pc lv σ' hd hq H locs ls hP hS hl
  rw [hQ, hc, hsl]
  refine W.vret C.1.1 C.1.2.1 hr (fun t ht hW => ⟨⟨σ', rfl, hq, BX.at C hP ht hW⟩, ?_⟩) ?_ hd hlk
  · rw [← hsz, ← hAe]; exact hS.2.2
  · rw [← hsz, ← hAe]; exact hS.F ht
theorem CtA.of (hA : wAdr wf) {ad : Nat → Nat} {y : MethodName} {ws ws' : List Cond} {rm : Room} {cc : ByteArray} {maxL : Nat} {as : List Value} {σ : τ} {Q : Nat → τ → Prop} {rn : String} (lv : List (Nat × Value)) (own : String)
    (hy : plainName y.cls = true) (ho : y.cls = own) (hw : ws = Cond.code y cc maxL (some (.object rn)) :: ws') (hlen : (lg_sl as).length ≤ maxL) (hlv : lv_args 0 as = lv) (hrc : rm.cells = 0) (hrs : rm.slots = 0)
    (body : ∀ E : XE, XFix D tys wf rm maxL E cc own ws → RetA l D tys wf ad rm maxL E cc Q → V l D tys wf rm maxL E 0 lv [] σ) : CtA l D tys wf ad y ws rm as σ Q := by
  intro sz
  subst ho
  refine x_entry hA hy hw hlen hlv hrc hrs (fun E C hr hlk hc hsl hAe hsz hQ => body E C ?_)
  intro pc lv q σ' hd hq H locs ls hP hS hl
  rw [hQ, hc, hsl]
  refine W.aret (v := .ref (ad q)) C.1.1 C.1.2.1 hr (Or.inl ⟨rn, rfl⟩) (Or.inr ⟨_, rfl⟩) (fun t ht hW => ⟨⟨(σ', q), ad q, rfl, hq, rfl, BX.at C hP ht hW⟩, ?_⟩) ?_ hd hlk
  · rw [← hsz, ← hAe]; exact hS.2.2
  · rw [← hsz, ← hAe]; exact hS.F ht
section CALLS
variable {R : Room} {nL : Nat} {E : XE} {cc : ByteArray} {own : String} {Ts : List Cond} {a b : Nat} {lv : List (Nat × Value)} {rest st : List Value} {σ : τ}
theorem x_inA (C : XFix D tys wf R nL E cc own Ts) {H : Heap} {locs : List Loc} (hS : va_S (xA E) (xs E).heap H locs) {q : Nat} (h : va_A (wf σ) H.size q) : xA E q := by
  rcases h with ⟨k, e, hk⟩ | h
  · exact (C.2.2.1 σ).2 k _ hk
  · exact C.2.2.2.1 q (Nat.le_trans hS.1 h)
theorem x_pre (C : XFix D tys wf R nL E cc own Ts) {H : Heap} (hP : va_P D vwCl (wf σ) H) {as : List Value} (U : State) (hU : U.heap = H) (hW : (xs E).WarmedH U.vm) : PcX D tys wf as σ H.size as.toArray U :=
  ⟨rfl, by rw [hU], by rw [hU]; exact hP, va_K.moved hW.alike C.2.1, (C.2.2.1 σ).weaken (fun _ _ _ _ => trivial), NW.warm hW C.2.2.2.2.2.2⟩
theorem x_room (C : XFix D tys wf R nL E cc own Ts) : xcs E + 0 ≤ R.cells ∧ xsl E + 0 ≤ R.slots := ⟨C.2.2.2.2.1, C.2.2.2.2.2.1⟩
/-- a receiver: a cell of the world -/
def Rcv (ws : va_W) (p : Nat) (Cn : String) : Prop := ∃ (q0 ci : Nat) (fs : List Value) (T : u_T) (N : Nat), ws[q0]? = some (p, .inr (ci, fs)) ∧ vwCl[ci]? = some (Cn, T, N)
theorem Rcv.use (C : XFix D tys wf R nL E cc own Ts) {H : Heap} (hP : va_P D vwCl (wf σ) H) {p : Nat} {Cn : String} (h : Rcv (wf σ) p Cn) : ∃ cell : Cell, H[p]? = some cell ∧ cell.vm.isStatics = false ∧ (xs E).vm.findClass Cn = some cell.cls := by
  obtain ⟨q0, ci, fs, T, N, h1, h2⟩ := h
  exact va_recv C.2.1 hP h2 h1
variable {y : MethodName} {ws ws' : List Cond} {rm : Room} {bytes : ByteArray} {maxL index n p : Nat} {As : List Value} {Cn : String} {ret : Option FieldType}
theorem x_cVI (C : XFix D tys wf R nL E cc own Ts) (b : Nat) (hb : a + 3 = b) {Q : Int32 → τ → Prop} (hc : CtI l D tys wf y ws rm (.ref p :: As) σ Q) (cw : CallW R (xs E) (xa E) own Cn index y bytes maxL ret ws rm 0 0 n) (hrv : Rcv (wf σ) p Cn) (hn : As.length = n) (hst : st = As.reverse ++ .ref p :: rest) (hro : (rest.map fun v => v.category).sum ≤ 8) (hd : decode cc a = .ok (.invokevirtual index, 3))
    (kk : ∀ r σ', Q r σ' → V l D tys wf R nL E b lv (.int r :: rest) σ') : V l D tys wf R nL E a lv st σ := by
  subst hb; intro H locs ls hP hS hl
  exact va_calli (va_runV C.1 (hc H.size) cw ⟨PcX.blind, hrv.use C hP, x_pre C hP⟩ rfl hn hl.1 hst (lv_room hro) hd (x_room C)) hS (fun q _ h => x_inA C hS h) (fun q h => x_inA C hS h) (fun r u t H1 locs1 ht hvm hq hB hz hk hS1 => kk r u hq H1 locs1 ls (by rw [← ht]; exact hB.1) hS1 hl)
theorem x_cVL (C : XFix D tys wf R nL E cc own Ts) (b : Nat) (hb : a + 3 = b) {Q : Int64 → τ → Prop} (hc : CtL l D tys wf y ws rm (.ref p :: As) σ Q) (cw : CallW R (xs E) (xa E) own Cn index y bytes maxL ret ws rm 0 0 n) (hrv : Rcv (wf σ) p Cn) (hn : As.length = n) (hst : st = As.reverse ++ .ref p :: rest) (hro : (rest.map fun v => v.category).sum ≤ 8) (hd : decode cc a = .ok (.invokevirtual index, 3))
    (kk : ∀ r σ', Q r σ' → V l D tys wf R nL E b lv (.long r :: rest) σ') : V l D tys wf R nL E a lv st σ := by
  subst hb; intro H locs ls hP hS hl
  exact va_calll (va_runV C.1 (hc H.size) cw ⟨PcX.blind, hrv.use C hP, x_pre C hP⟩ rfl hn hl.1 hst (lv_room hro) hd (x_room C)) hS (fun q _ h => x_inA C hS h) (fun q h => x_inA C hS h) (fun r u t H1 locs1 ht hvm hq hB hz hk hS1 => kk r u hq H1 locs1 ls (by rw [← ht]; exact hB.1) hS1 hl)
theorem x_cVV (C : XFix D tys wf R nL E cc own Ts) (b : Nat) (hb : a + 3 = b) {Q : τ → Prop} (hc : CtV l D tys wf y ws rm (.ref p :: As) σ Q) (cw : CallW R (xs E) (xa E) own Cn index y bytes maxL ret ws rm 0 0 n) (hrv : Rcv (wf σ) p Cn) (hn : As.length = n) (hst : st = As.reverse ++ .ref p :: rest) (hro : (rest.map fun v => v.category).sum ≤ 8) (hd : decode cc a = .ok (.invokevirtual index, 3))
    (kk : ∀ σ', Q σ' → V l D tys wf R nL E b lv rest σ') : V l D tys wf R nL E a lv st σ := by
  subst hb; intro H locs ls hP hS hl
  exact va_callv (va_runV C.1 (hc H.size) cw ⟨PcX.blind, hrv.use C hP, x_pre C hP⟩ rfl hn hl.1 hst (lv_room hro) hd (x_room C)) hS (fun q _ h => x_inA C hS h) (fun q h => x_inA C hS h) (fun u t H1 locs1 ht hvm hq hB hz hk hS1 => kk u hq H1 locs1 ls (by rw [← ht]; exact hB.1) hS1 hl)
theorem x_cVA (C : XFix D tys wf R nL E cc own Ts) (b : Nat) (hb : a + 3 = b) {ad : Nat → Nat} {Q : Nat → τ → Prop} (hc : CtA l D tys wf ad y ws rm (.ref p :: As) σ Q) (cw : CallW R (xs E) (xa E) own Cn index y bytes maxL ret ws rm 0 0 n) (hrv : Rcv (wf σ) p Cn) (hn : As.length = n) (hst : st = As.reverse ++ .ref p :: rest) (hro : (rest.map fun v => v.category).sum ≤ 8) (hd : decode cc a = .ok (.invokevirtual index, 3))
    (kk : ∀ q σ', Q q σ' → V l D tys wf R nL E b lv (.ref (ad q) :: rest) σ') : V l D tys wf R nL E a lv st σ := by
  subst hb; intro H locs ls hP hS hl
  exact va_callr (va_runV C.1 (hc H.size) cw ⟨PcX.blind, hrv.use C hP, x_pre C hP⟩ rfl hn hl.1 hst (lv_room hro) hd (x_room C)) hS (fun q _ h => x_inA C hS h) (fun q h => x_inA C hS h) (fun u q t H1 locs1 ht hvm hq hB hz hk hS1 => by
    obtain ⟨rfl, hB⟩ := hB
    exact kk u.2 u.1 hq H1 locs1 ls (by rw [← ht]; exact hB.1) hS1 hl)
theorem x_cSI (C : XFix D tys wf R nL E cc own Ts) (b : Nat) (hb : a + 3 = b) {Q : Int32 → τ → Prop} (hc : CtI l D tys wf y ws rm As σ Q) (cw : CallB R (xs E) (xa E) own index y bytes maxL ret ws rm 0 0 n ∧ (Cond.static y).before (xa E) (xs E) = true) (hn : As.length = n) (hst : st = As.reverse ++ rest) (hro : (rest.map fun v => v.category).sum ≤ 8) (hd : decode cc a = .ok (.invokestatic index, 3))
    (kk : ∀ r σ', Q r σ' → V l D tys wf R nL E b lv (.int r :: rest) σ') : V l D tys wf R nL E a lv st σ := by
  subst hb; intro H locs ls hP hS hl
  exact va_calli (va_runS C.1 (hc H.size) cw ⟨PcX.blind, x_pre C hP⟩ rfl hn hl.1 hst (lv_room hro) hd (x_room C)) hS (fun q _ h => x_inA C hS h) (fun q h => x_inA C hS h) (fun r u t H1 locs1 ht hvm hq hB hz hk hS1 => kk r u hq H1 locs1 ls (by rw [← ht]; exact hB.1) hS1 hl)
theorem x_cSL (C : XFix D tys wf R nL E cc own Ts) (b : Nat) (hb : a + 3 = b) {Q : Int64 → τ → Prop} (hc : CtL l D tys wf y ws rm As σ Q) (cw : CallB R (xs E) (xa E) own index y bytes maxL ret ws rm 0 0 n ∧ (Cond.static y).before (xa E) (xs E) = true) (hn : As.length = n) (hst : st = As.reverse ++ rest) (hro : (rest.map fun v => v.category).sum ≤ 8) (hd : decode cc a = .ok (.invokestatic index, 3))
    (kk : ∀ r σ', Q r σ' → V l D tys wf R nL E b lv (.long r :: rest) σ') : V l D tys wf R nL E a lv st σ := by
  subst hb; intro H locs ls hP hS hl
  exact va_calll (va_runS C.1 (hc H.size) cw ⟨PcX.blind, x_pre C hP⟩ rfl hn hl.1 hst (lv_room hro) hd (x_room C)) hS (fun q _ h => x_inA C hS h) (fun q h => x_inA C hS h) (fun r u t H1 locs1 ht hvm hq hB hz hk hS1 => kk r u hq H1 locs1 ls (by rw [← ht]; exact hB.1) hS1 hl)
theorem x_cSV (C : XFix D tys wf R nL E cc own Ts) (b : Nat) (hb : a + 3 = b) {Q : τ → Prop} (hc : CtV l D tys wf y ws rm As σ Q) (cw : CallB R (xs E) (xa E) own index y bytes maxL ret ws rm 0 0 n ∧ (Cond.static y).before (xa E) (xs E) = true) (hn : As.length = n) (hst : st = As.reverse ++ rest) (hro : (rest.map fun v => v.category).sum ≤ 8) (hd : decode cc a = .ok (.invokestatic index, 3))
    (kk : ∀ σ', Q σ' → V l D tys wf R nL E b lv rest σ') : V l D tys wf R nL E a lv st σ := by
  subst hb; intro H locs ls hP hS hl
  exact va_callv (va_runS C.1 (hc H.size) cw ⟨PcX.blind, x_pre C hP⟩ rfl hn hl.1 hst (lv_room hro) hd (x_room C)) hS (fun q _ h => x_inA C hS h) (fun q h => x_inA C hS h) (fun u t H1 locs1 ht hvm hq hB hz hk hS1 => kk u hq H1 locs1 ls (by rw [← ht]; exact hB.1) hS1 hl)
/-- nest mates' static methods -/
theorem x_cNI (C : XFix D tys wf R nL E cc own Ts) (b : Nat) (hb : a + 3 = b) {host : String} {Q : Int32 → τ → Prop} (hc : CtI l D tys wf y ws rm As σ Q) (cw : va_CN R (xs E) (xa E) own index y host bytes maxL ret ws rm 0 0 n) (hstt : (Cond.static y).before (xa E) (xs E) = true) (hn : As.length = n) (hst : st = As.reverse ++ rest) (hro : (rest.map fun v => v.category).sum ≤ 8) (hd : decode cc a = .ok (.invokestatic index, 3))
    (kk : ∀ r σ', Q r σ' → V l D tys wf R nL E b lv (.int r :: rest) σ') : V l D tys wf R nL E a lv st σ := by
  subst hb; intro H locs ls hP hS hl
  exact va_calli (va_runSN C.1 (hc H.size) ⟨cw, hstt, trivial⟩ ⟨PcX.blind, x_pre C hP⟩ rfl hn hl.1 hst (lv_room hro) hd (x_room C)) hS (fun q _ h => x_inA C hS h) (fun q h => x_inA C hS h) (fun r u t H1 locs1 ht hvm hq hB hz hk hS1 => kk r u hq H1 locs1 ls (by rw [← ht]; exact hB.1) hS1 hl)
theorem x_cNV (C : XFix D tys wf R nL E cc own Ts) (b : Nat) (hb : a + 3 = b) {host : String} {Q : τ → Prop} (hc : CtV l D tys wf y ws rm As σ Q) (cw : va_CN R (xs E) (xa E) own index y host bytes maxL ret ws rm 0 0 n) (hstt : (Cond.static y).before (xa E) (xs E) = true) (hn : As.length = n) (hst : st = As.reverse ++ rest) (hro : (rest.map fun v => v.category).sum ≤ 8) (hd : decode cc a = .ok (.invokestatic index, 3))
    (kk : ∀ σ', Q σ' → V l D tys wf R nL E b lv rest σ') : V l D tys wf R nL E a lv st σ := by
  subst hb; intro H locs ls hP hS hl
  exact va_callv (va_runSN C.1 (hc H.size) ⟨cw, hstt, trivial⟩ ⟨PcX.blind, x_pre C hP⟩ rfl hn hl.1 hst (lv_room hro) hd (x_room C)) hS (fun q _ h => x_inA C hS h) (fun q h => x_inA C hS h) (fun u t H1 locs1 ht hvm hq hB hz hk hS1 => kk u hq H1 locs1 ls (by rw [← ht]; exact hB.1) hS1 hl)
end CALLS
end XC
end
section
theorem zz_last : 1 + 1 = 2 := rfl
theorem i_vc : Claimed_1_1 ∧ Claimed_1_2 := sorry
end
