abbrev rm_X5_letters : Room := { frames := 21, cells := 0, slots := 0, locals := 530 }
theorem in_X5_letters_X5 : ∀ w ∈ u_ws RX5 TX5 20, w ∈ wsX5_letters := by decide +kernel
theorem fl_X5_letters_156 : Cond.fieldLink RX5 156 RX5 (TX5 16).2.1 (TX5 16).2.2.1 ∈ wsX5_letters := by decide +kernel
set_option maxRecDepth 100000 in
set_option maxHeartbeats 4000000 in
theorem m_X5_letters (l : Launch) (D : va_G) (ad : Nat → Nat) (ct : Nat → ClassId) (x1 : Int32) (σ : ST) (Q : Int32 → ST → Prop) (h : wp_X5_letters x1 σ Q) : CtI l D (tysF ct) (wM ad ct) yX5_letters wsX5_letters rm_X5_letters [.ref (ad 0), .int x1] σ Q := by
  refine CtI.of (wM_adr ad ct) (maxL := 2) [(0, .ref (ad 0)), (1, .int x1)] RX5 (by decide) rfl rfl (by show (lg_sl [.ref (ad 0), .int x1]).length ≤ 2; exact Nat.le_of_ble_eq_true rfl) rfl rfl rfl ?_
  intro E C hR
  unfold wp_X5_letters at h
  refine x_aload_n C 1 rfl 0 dX5_letters_0 rfl rfl ?_
  refine x_dup C 2 rfl dX5_letters_1 rfl ?_
  refine x_get C 5 rfl (ref := RX5) 0 16 (gM_M ad ct _) rfl in_X5_letters_X5 (by decide) fl_X5_letters_156 rfl rfl dX5_letters_2 ?_
  refine x_iconst C 6 rfl 1 dX5_letters_5 rfl ?_
  refine x_iadd C 7 rfl dX5_letters_6 ?_
  obtain ⟨σ1, eσ1⟩ : ∃ z, z = sI σ 0 16 ((σ.1 0 16) + 1) := ⟨_, rfl⟩
  have h := h σ1 eσ1
  refine x_put C 10 rfl (ref := RX5) (ty := .int) (σ' := σ1) 0 16 (gM_M ad ct _) rfl in_X5_letters_X5 tyX5 tyX5_ok nmX5 (by decide) fl_X5_letters_156 rfl rfl (by decide +kernel) rfl rfl (by show 16 < 20; decide) (by rw [eσ1]; exact (sM_M_question ad ct _)) dX5_letters_7 ?_
  refine x_iload_n C 11 rfl 1 dX5_letters_10 rfl rfl ?_
  refine x_iconst C 12 rfl 0 dX5_letters_11 rfl ?_
  refine x_iconst C 13 rfl 3 dX5_letters_12 rfl ?_
  refine x_cSI C 16 rfl (m_X5_isIn l D ad ct _ _ _ _ _ h) (va_cwS 3 C.1.2.2.2.2 gX5_letters_X5_isIn rfl rfl rfl (by decide +kernel) ⟨Nat.le_of_ble_eq_true rfl, Nat.le_of_ble_eq_true rfl⟩) rfl rfl (Nat.le_of_ble_eq_true rfl) dX5_letters_13 ?_
  intro r3 σ2 h
  refine x_if_eq C 34 19 dX5_letters_16 (by decide) rfl (fun c16 => ?_) (fun c16 => ?_)
  · have h := h.1 c16
    refine x_iconst C 35 rfl (-1) dX5_letters_34 rfl ?_
    exact hR _ _ _ _ dX5_letters_35 h
  · have h := h.2 c16
    refine x_aload_n C 20 rfl 0 dX5_letters_19 rfl rfl ?_
    refine x_lconst C 21 rfl 1 dX5_letters_20 rfl ?_
    refine x_aload_n C 22 rfl 0 dX5_letters_21 rfl rfl ?_
    refine x_cVI C 25 rfl (m_X5_startOf l D ad ct _ _ h) (cwV 0 C.1.2.2.2.2 gX5_letters_X5_startOf rfl rfl rfl (by decide +kernel) ⟨Nat.le_of_ble_eq_true rfl, Nat.le_of_ble_eq_true rfl⟩) ⟨0, 5, _, _, _, (gM_M ad ct _), rfl⟩ rfl rfl (Nat.le_of_ble_eq_true rfl) dX5_letters_22 ?_
    intro r5 σ4 h
    refine x_lshl C 26 rfl dX5_letters_25 ?_
    refine x_iconst C 27 rfl 0 dX5_letters_26 rfl ?_
    refine x_iload_n C 28 rfl 1 dX5_letters_27 rfl rfl ?_
    refine x_cVI C 31 rfl (m_X5_most l D ad ct 4 _ _ _ _ _ h) (cwV 3 C.1.2.2.2.2 gX5_letters_X5_most rfl rfl rfl (by decide +kernel) ⟨Nat.le_of_ble_eq_true rfl, Nat.le_of_ble_eq_true rfl⟩) ⟨0, 5, _, _, _, (gM_M ad ct _), rfl⟩ rfl rfl (Nat.le_of_ble_eq_true rfl) dX5_letters_28 ?_
    intro r7 σ6 h
    refine x_goto C 35 dX5_letters_31 (by decide) ?_
    exact hR _ _ _ _ dX5_letters_35 h
abbrev rm_X5_finds : Room := { frames := 25, cells := 0, slots := 0, locals := 625 }
theorem in_X5_finds_X5 : ∀ w ∈ u_ws RX5 TX5 20, w ∈ wsX5_finds := by decide +kernel
theorem fl_X5_finds_156 : Cond.fieldLink RX5 156 RX5 (TX5 16).2.1 (TX5 16).2.2.1 ∈ wsX5_finds := by decide +kernel
theorem fl_X5_finds_53 : Cond.fieldLink RX5 53 RX5 (TX5 17).2.1 (TX5 17).2.2.1 ∈ wsX5_finds := by decide +kernel
theorem fl_X5_finds_56 : Cond.fieldLink RX5 56 RX5 (TX5 18).2.1 (TX5 18).2.2.1 ∈ wsX5_finds := by decide +kernel
set_option maxRecDepth 100000 in
set_option maxHeartbeats 4000000 in
theorem v_X5_finds_L51 {l : Launch} {D : va_G} {ad : Nat → Nat} {ct : Nat → ClassId} {E : XE}  {Q : Int32 → ST → Prop} (C : XFix D (tysF ct) (wM ad ct) rm_X5_finds 12 E cX5_finds RX5 wsX5_finds) (x1 : Int32) (x5 : Int32) (x6 : Int32) (x7 : Int64) (x9 : Int32) {K : Int32 → ST → Prop} (hK : ∀ (x10 : Int32) (σ : ST), K x10 σ → V l D (tysF ct) (wM ad ct) rm_X5_finds 12 E 82 [(0, .ref (ad 0)), (1, .int x1), (5, .int x5), (6, .int x6), (7, .long x7), (10, .int x10)] [] σ) (hR : RetZ l D (tysF ct) (wM ad ct) rm_X5_finds 12 E cX5_finds Q) :
    ∀ (n : Nat) (x10 : Int32) (σ : ST), wp_X5_finds_L51 x1 x5 x6 x7 x9 K Q n x10 σ → V l D (tysF ct) (wM ad ct) rm_X5_finds 12 E 51 [(0, .ref (ad 0)), (1, .int x1), (5, .int x5), (6, .int x6), (7, .long x7), (9, .int x9), (10, .int x10)] [] σ := by
  intro n
  induction n with
  | zero => intro x10 σ h; exact (h : False).elim
  | succ n ih =>
    intro x10 σ h
    unfold wp_X5_finds_L51 at h
    refine x_aload_n C 52 rfl 0 dX5_finds_51 rfl rfl ?_
    refine x_iload C 54 rfl 6 dX5_finds_52 rfl ?_
    refine x_cVI C 57 rfl (m_X5_isAct l D ad ct _ _ _ h) (cwV 1 C.1.2.2.2.2 gX5_finds_X5_isAct rfl rfl rfl (by decide +kernel) ⟨Nat.le_of_ble_eq_true rfl, Nat.le_of_ble_eq_true rfl⟩) ⟨0, 5, _, _, _, (gM_M ad ct _), rfl⟩ rfl rfl (Nat.le_of_ble_eq_true rfl) dX5_finds_54 ?_
    intro r9 σ8 h
    refine x_if_eq C 76 60 dX5_finds_57 (by decide) rfl (fun c57 => ?_) (fun c57 => ?_)
    · have h := h.1 c57
      refine x_iinc C 79 rfl 6 (x10 + 1) [(10, .int (x10 + 1)), (0, .ref (ad 0)), (1, .int x1), (5, .int x5), (6, .int x6), (7, .long x7), (9, .int x9)] dX5_finds_76 rfl rfl (by decide) rfl ?_
      refine x_goto C 51 dX5_finds_79 (by decide) ?_
      refine x_sub (lv' := [(0, .ref (ad 0)), (1, .int x1), (5, .int x5), (6, .int x6), (7, .long x7), (9, .int x9), (10, .int (x10 + 1))]) [1, 2, 3, 4, 5, 6, 0] rfl ?_
      exact ih _ _ h
    · have h := h.2 c57
      refine x_aload_n C 61 rfl 0 dX5_finds_60 rfl rfl ?_
      refine x_lload C 63 rfl 4 dX5_finds_61 rfl ?_
      refine x_iload C 65 rfl 3 dX5_finds_63 rfl ?_
      refine x_iload_n C 66 rfl 1 dX5_finds_65 rfl rfl ?_
      refine x_iload C 68 rfl 6 dX5_finds_66 rfl ?_
      refine x_cVI C 71 rfl (m_X5_by l D ad ct (wp_X5_most 4) (rm_X5_most 4) ⟨rfl, rfl, m_X5_most l D ad ct 4⟩ _ _ _ _ _ _ h) (cwV 4 C.1.2.2.2.2 gX5_finds_X5_by rfl rfl rfl (by decide +kernel) ⟨Nat.le_of_ble_eq_true rfl, Nat.le_of_ble_eq_true rfl⟩) ⟨0, 5, _, _, _, (gM_M ad ct _), rfl⟩ rfl rfl (Nat.le_of_ble_eq_true rfl) dX5_finds_68 ?_
      intro r11 σ10 h
      refine x_iload C 73 rfl 5 dX5_finds_71 rfl ?_
      refine x_icmp_eq C 82 76 dX5_finds_73 (by decide) rfl (fun c73 => ?_) (fun c73 => ?_)
      · have h := h.1 c73
        refine x_sub (lv' := [(0, .ref (ad 0)), (1, .int x1), (5, .int x5), (6, .int x6), (7, .long x7), (10, .int x10)]) [0, 1, 2, 3, 4, 6] rfl ?_
        exact hK _ _ h
      · have h := h.2 c73
        refine x_iinc C 79 rfl 6 (x10 + 1) [(10, .int (x10 + 1)), (0, .ref (ad 0)), (1, .int x1), (5, .int x5), (6, .int x6), (7, .long x7), (9, .int x9)] dX5_finds_76 rfl rfl (by decide) rfl ?_
        refine x_goto C 51 dX5_finds_79 (by decide) ?_
        refine x_sub (lv' := [(0, .ref (ad 0)), (1, .int x1), (5, .int x5), (6, .int x6), (7, .long x7), (9, .int x9), (10, .int (x10 + 1))]) [1, 2, 3, 4, 5, 6, 0] rfl ?_
        exact ih _ _ h
set_option maxRecDepth 100000 in
set_option maxHeartbeats 4000000 in
theorem v_X5_finds_L94 {l : Launch} {D : va_G} {ad : Nat → Nat} {ct : Nat → ClassId} {E : XE}  {Q : Int32 → ST → Prop} (C : XFix D (tysF ct) (wM ad ct) rm_X5_finds 12 E cX5_finds RX5 wsX5_finds) (x1 : Int32) (x6 : Int32) (x7 : Int64) (x10 : Int32) {K : Int32 → Int32 → ST → Prop} (hK : ∀ (x5 : Int32) (x11 : Int32) (σ : ST), K x5 x11 σ → V l D (tysF ct) (wM ad ct) rm_X5_finds 12 E 154 [(0, .ref (ad 0)), (1, .int x1), (5, .int x5), (6, .int x6), (7, .long x7), (10, .int x10), (11, .int x11)] [] σ) (hR : RetZ l D (tysF ct) (wM ad ct) rm_X5_finds 12 E cX5_finds Q) :
    ∀ (n : Nat) (x5 : Int32) (x11 : Int32) (σ : ST), wp_X5_finds_L94 x1 x6 x7 x10 K Q n x5 x11 σ → V l D (tysF ct) (wM ad ct) rm_X5_finds 12 E 94 [(0, .ref (ad 0)), (1, .int x1), (5, .int x5), (6, .int x6), (7, .long x7), (10, .int x10), (11, .int x11)] [] σ := by
  intro n
  induction n with
  | zero => intro x5 x11 σ h; exact (h : False).elim
  | succ n ih =>
    intro x5 x11 σ h
    unfold wp_X5_finds_L94 at h
    refine x_iload C 96 rfl 6 dX5_finds_94 rfl ?_
    refine x_iconst C 97 rfl 4 dX5_finds_96 rfl ?_
    refine x_icmp_ge C 154 100 dX5_finds_97 (by decide) rfl (fun c97 => ?_) (fun c97 => ?_)
    · have h := h.1 c97
      exact hK _ _ _ h
    · have h := h.2 c97
      refine x_iload C 102 rfl 2 dX5_finds_100 rfl ?_
      refine x_aload_n C 103 rfl 0 dX5_finds_102 rfl rfl ?_
      refine x_aload_n C 104 rfl 0 dX5_finds_103 rfl rfl ?_
      refine x_lload C 106 rfl 4 dX5_finds_104 rfl ?_
      refine x_iload C 108 rfl 5 dX5_finds_106 rfl ?_
      refine x_iload C 110 rfl 6 dX5_finds_108 rfl ?_
      refine x_cVL C 113 rfl (m_X5_parts l D ad ct _ _ _ _ _ h) (cwV 3 C.1.2.2.2.2 gX5_finds_X5_parts rfl rfl rfl (by decide +kernel) ⟨Nat.le_of_ble_eq_true rfl, Nat.le_of_ble_eq_true rfl⟩) ⟨0, 5, _, _, _, (gM_M ad ct _), rfl⟩ rfl rfl (Nat.le_of_ble_eq_true rfl) dX5_finds_110 ?_
      intro r18 σ17 h
      refine x_iload C 115 rfl 3 dX5_finds_113 rfl ?_
      refine x_iconst C 116 rfl 1 dX5_finds_115 rfl ?_
      refine x_iadd C 117 rfl dX5_finds_116 ?_
      refine x_iload_n C 118 rfl 1 dX5_finds_117 rfl rfl ?_
      refine x_cVI C 121 rfl (m_X5_most l D ad ct 4 _ _ _ _ _ h) (cwV 3 C.1.2.2.2.2 gX5_finds_X5_most rfl rfl rfl (by decide +kernel) ⟨Nat.le_of_ble_eq_true rfl, Nat.le_of_ble_eq_true rfl⟩) ⟨0, 5, _, _, _, (gM_M ad ct _), rfl⟩ rfl rfl (Nat.le_of_ble_eq_true rfl) dX5_finds_118 ?_
      intro r20 σ19 h
      refine x_icmp_lt C 154 124 dX5_finds_121 (by decide) rfl (fun c121 => ?_) (fun c121 => ?_)
      · have h := h.1 c121
        exact hK _ _ _ h
      · have h := h.2 c121
        refine x_iload C 126 rfl 2 dX5_finds_124 rfl ?_
        refine x_aload_n C 127 rfl 0 dX5_finds_126 rfl rfl ?_
        refine x_aload_n C 128 rfl 0 dX5_finds_127 rfl rfl ?_
        refine x_lload C 130 rfl 4 dX5_finds_128 rfl ?_
        refine x_iload C 132 rfl 5 dX5_finds_130 rfl ?_
        refine x_iload C 134 rfl 6 dX5_finds_132 rfl ?_
        refine x_cVL C 137 rfl (m_X5_parts l D ad ct _ _ _ _ _ h) (cwV 3 C.1.2.2.2.2 gX5_finds_X5_parts rfl rfl rfl (by decide +kernel) ⟨Nat.le_of_ble_eq_true rfl, Nat.le_of_ble_eq_true rfl⟩) ⟨0, 5, _, _, _, (gM_M ad ct _), rfl⟩ rfl rfl (Nat.le_of_ble_eq_true rfl) dX5_finds_134 ?_
        intro r22 σ21 h
        refine x_iload C 139 rfl 3 dX5_finds_137 rfl ?_
        refine x_iconst C 140 rfl 1 dX5_finds_139 rfl ?_
        refine x_iadd C 141 rfl dX5_finds_140 ?_
        refine x_iload_n C 142 rfl 1 dX5_finds_141 rfl rfl ?_
        refine x_cVI C 145 rfl (m_X5_most l D ad ct 4 _ _ _ _ _ h) (cwV 3 C.1.2.2.2.2 gX5_finds_X5_most rfl rfl rfl (by decide +kernel) ⟨Nat.le_of_ble_eq_true rfl, Nat.le_of_ble_eq_true rfl⟩) ⟨0, 5, _, _, _, (gM_M ad ct _), rfl⟩ rfl rfl (Nat.le_of_ble_eq_true rfl) dX5_finds_142 ?_
        intro r24 σ23 h
        refine x_isub C 146 rfl dX5_finds_145 ?_
        refine x_istore C 148 rfl [(5, .int (x5 - r24)), (0, .ref (ad 0)), (1, .int x1), (6, .int x6), (7, .long x7), (10, .int x10), (11, .int x11)] dX5_finds_146 (by decide) rfl ?_
        refine x_iinc C 151 rfl 6 (x11 + 1) [(11, .int (x11 + 1)), (5, .int (x5 - r24)), (0, .ref (ad 0)), (1, .int x1), (6, .int x6), (7, .long x7), (10, .int x10)] dX5_finds_148 rfl rfl (by decide) rfl ?_
        refine x_goto C 94 dX5_finds_151 (by decide) ?_
        refine x_sub (lv' := [(0, .ref (ad 0)), (1, .int x1), (5, .int (x5 - r24)), (6, .int x6), (7, .long x7), (10, .int x10), (11, .int (x11 + 1))]) [2, 3, 1, 4, 5, 6, 0] rfl ?_
        exact ih _ _ _ h
set_option maxRecDepth 100000 in
set_option maxHeartbeats 4000000 in
theorem v_X5_finds_L23 {l : Launch} {D : va_G} {ad : Nat → Nat} {ct : Nat → ClassId} {E : XE}  {Q : Int32 → ST → Prop} (C : XFix D (tysF ct) (wM ad ct) rm_X5_finds 12 E cX5_finds RX5 wsX5_finds) (x1 : Int32) (hR : RetZ l D (tysF ct) (wM ad ct) rm_X5_finds 12 E cX5_finds Q) :
    ∀ (n : Nat) (x3 : Int64) (x5 : Int32) (x6 : Int32) (σ : ST), wp_X5_finds_L23 x1 Q n x3 x5 x6 σ → V l D (tysF ct) (wM ad ct) rm_X5_finds 12 E 23 [(0, .ref (ad 0)), (1, .int x1), (3, .long x3), (5, .int x5), (6, .int x6)] [] σ := by
  intro n
  induction n with
  | zero => intro x3 x5 x6 σ h; exact (h : False).elim
  | succ n ih =>
    intro x3 x5 x6 σ h
    unfold wp_X5_finds_L23 at h
    refine x_iload C 25 rfl 4 dX5_finds_23 rfl ?_
    refine x_iload_n C 26 rfl 1 dX5_finds_25 rfl rfl ?_
    refine x_icmp_ge C 188 29 dX5_finds_26 (by decide) rfl (fun c26 => ?_) (fun c26 => ?_)
    · have h := h.1 c26
      refine x_iload C 190 rfl 3 dX5_finds_188 rfl ?_
      refine x_if_ne C 197 193 dX5_finds_190 (by decide) rfl (fun c190 => ?_) (fun c190 => ?_)
      · have h := h.1 c190
        refine x_iconst C 198 rfl 0 dX5_finds_197 rfl ?_
        exact hR _ _ _ _ dX5_finds_198 (by decide) h
      · have h := h.2 c190
        refine x_iconst C 194 rfl 1 dX5_finds_193 rfl ?_
        refine x_goto C 198 dX5_finds_194 (by decide) ?_
        exact hR _ _ _ _ dX5_finds_198 (by decide) h
    · have h := h.2 c26
      refine x_aload_n C 30 rfl 0 dX5_finds_29 rfl rfl ?_
      refine x_lload_n C 31 rfl 2 dX5_finds_30 rfl rfl ?_
      refine x_iload C 33 rfl 4 dX5_finds_31 rfl ?_
      refine x_cVL C 36 rfl (m_X5_spreads l D ad ct _ _ _ _ h) (cwV 2 C.1.2.2.2.2 gX5_finds_X5_spreads rfl rfl rfl (by decide +kernel) ⟨Nat.le_of_ble_eq_true rfl, Nat.le_of_ble_eq_true rfl⟩) ⟨0, 5, _, _, _, (gM_M ad ct _), rfl⟩ rfl rfl (Nat.le_of_ble_eq_true rfl) dX5_finds_33 ?_
      intro r5 σ4 h
      refine x_lstore C 38 rfl [(7, .long r5), (0, .ref (ad 0)), (1, .int x1), (3, .long x3), (5, .int x5), (6, .int x6)] dX5_finds_36 (by decide) rfl ?_
      refine x_aload_n C 39 rfl 1 dX5_finds_38 rfl rfl ?_
      refine x_lload_n C 40 rfl 3 dX5_finds_39 rfl rfl ?_
      refine x_iload C 42 rfl 5 dX5_finds_40 rfl ?_
      refine x_iload_n C 43 rfl 2 dX5_finds_42 rfl rfl ?_
      refine x_cVI C 46 rfl (m_X5_most l D ad ct 4 _ _ _ _ _ h) (cwV 3 C.1.2.2.2.2 gX5_finds_X5_most rfl rfl rfl (by decide +kernel) ⟨Nat.le_of_ble_eq_true rfl, Nat.le_of_ble_eq_true rfl⟩) ⟨0, 5, _, _, _, (gM_M ad ct _), rfl⟩ rfl rfl (Nat.le_of_ble_eq_true rfl) dX5_finds_43 ?_
      intro r7 σ6 h
      refine x_istore C 48 rfl [(9, .int r7), (7, .long r5), (0, .ref (ad 0)), (1, .int x1), (3, .long x3), (5, .int x5), (6, .int x6)] dX5_finds_46 (by decide) rfl ?_
      refine x_iconst C 49 rfl 0 dX5_finds_48 rfl ?_
      refine x_istore C 51 rfl [(10, .int 0), (9, .int r7), (7, .long r5), (0, .ref (ad 0)), (1, .int x1), (3, .long x3), (5, .int x5), (6, .int x6)] dX5_finds_49 (by decide) rfl ?_
      refine x_sub (lv' := [(0, .ref (ad 0)), (1, .int x1), (5, .int x5), (6, .int x6), (7, .long r5), (9, .int r7), (10, .int 0)]) [3, 4, 6, 7, 2, 1, 0] rfl ?_
      obtain ⟨n12, h⟩ := h
      refine v_X5_finds_L51 C x1 x5 x6 r5 r7 ?_ hR n12 _ _ h
      · intro y10_13 σ14 h
        refine x_aload_n C 83 rfl 0 dX5_finds_82 rfl rfl ?_
        refine x_get C 86 rfl (ref := RX5) 0 17 (gM_M ad ct _) rfl in_X5_finds_X5 (by decide) fl_X5_finds_53 rfl rfl dX5_finds_83 ?_
        refine x_iload C 88 rfl 3 dX5_finds_86 rfl ?_
        refine x_iload C 90 rfl 5 dX5_finds_88 rfl ?_
        have i15 := h.1
        have h := h.2
        obtain ⟨σ16, eσ16⟩ : ∃ z, z = sR σ14 15 (Int32.toNatClampNeg x6) y10_13 := ⟨_, rfl⟩
        have h := h σ16 eσ16
        refine x_iast C 91 rfl (σ' := σ16) 15 0 (gM_M_acts ad ct _) rfl i15 (by rw [eσ16]; exact (sM_M_acts ad ct _)) dX5_finds_90 ?_
        refine x_iconst C 92 rfl 0 dX5_finds_91 rfl ?_
        refine x_istore C 94 rfl [(11, .int 0), (0, .ref (ad 0)), (1, .int x1), (5, .int x5), (6, .int x6), (7, .long r5), (10, .int y10_13)] dX5_finds_92 (by decide) rfl ?_
        refine x_sub (lv' := [(0, .ref (ad 0)), (1, .int x1), (5, .int x5), (6, .int x6), (7, .long r5), (10, .int y10_13), (11, .int 0)]) [1, 2, 3, 4, 5, 6, 0] rfl ?_
        obtain ⟨n25, h⟩ := h
        refine v_X5_finds_L94 C x1 x6 r5 y10_13 ?_ hR n25 _ _ _ h
        · intro y5_26 y11_27 σ28 h
          refine x_iload C 156 rfl 6 dX5_finds_154 rfl ?_
          refine x_iconst C 157 rfl 4 dX5_finds_156 rfl ?_
          refine x_icmp_ne C 162 160 dX5_finds_157 (by decide) rfl (fun c157 => ?_) (fun c157 => ?_)
          · have h := h.1 c157
            refine x_aload_n C 163 rfl 0 dX5_finds_162 rfl rfl ?_
            refine x_get C 166 rfl (ref := RX5) 0 18 (gM_M ad ct _) rfl in_X5_finds_X5 (by decide) fl_X5_finds_56 rfl rfl dX5_finds_163 ?_
            refine x_iload C 168 rfl 3 dX5_finds_166 rfl ?_
            refine x_iload C 170 rfl 6 dX5_finds_168 rfl ?_
            obtain ⟨σ29, eσ29⟩ : ∃ z, z = sR σ28 16 (Int32.toNatClampNeg x6) y11_27 := ⟨_, rfl⟩
            have h := h σ29 eσ29
            refine x_iast C 171 rfl (σ' := σ29) 16 0 (gM_M_said ad ct _) rfl i15 (by rw [eσ29]; exact (sM_M_said ad ct _)) dX5_finds_170 ?_
            refine x_aload_n C 172 rfl 0 dX5_finds_171 rfl rfl ?_
            refine x_lload C 174 rfl 4 dX5_finds_172 rfl ?_
            refine x_iload C 176 rfl 5 dX5_finds_174 rfl ?_
            refine x_iload C 178 rfl 6 dX5_finds_176 rfl ?_
            refine x_cVL C 181 rfl (m_X5_parts l D ad ct _ _ _ _ _ h) (cwV 3 C.1.2.2.2.2 gX5_finds_X5_parts rfl rfl rfl (by decide +kernel) ⟨Nat.le_of_ble_eq_true rfl, Nat.le_of_ble_eq_true rfl⟩) ⟨0, 5, _, _, _, (gM_M ad ct _), rfl⟩ rfl rfl (Nat.le_of_ble_eq_true rfl) dX5_finds_178 ?_
            intro r31 σ30 h
            refine x_lstore_n C 182 rfl [(3, .long r31), (0, .ref (ad 0)), (1, .int x1), (5, .int y5_26), (6, .int x6), (7, .long r5), (10, .int y10_13), (11, .int y11_27)] dX5_finds_181 rfl (by decide) rfl ?_
            refine x_iinc C 185 rfl 4 (x6 + 1) [(6, .int (x6 + 1)), (3, .long r31), (0, .ref (ad 0)), (1, .int x1), (5, .int y5_26), (7, .long r5), (10, .int y10_13), (11, .int y11_27)] dX5_finds_182 rfl rfl (by decide) rfl ?_
            refine x_goto C 23 dX5_finds_185 (by decide) ?_
            refine x_sub (lv' := [(0, .ref (ad 0)), (1, .int x1), (3, .long r31), (5, .int y5_26), (6, .int (x6 + 1))]) [2, 3, 1, 4, 0] rfl ?_
            exact ih _ _ _ _ h
          · have h := h.2 c157
            refine x_iconst C 161 rfl 0 dX5_finds_160 rfl ?_
            exact hR _ _ _ _ dX5_finds_161 (by decide) h
set_option maxRecDepth 100000 in
set_option maxHeartbeats 4000000 in
theorem m_X5_finds (l : Launch) (D : va_G) (ad : Nat → Nat) (ct : Nat → ClassId) (x1 : Int32) (x2 : Int32) (σ : ST) (Q : Int32 → ST → Prop) (h : wp_X5_finds x1 x2 σ Q) : CtI l D (tysF ct) (wM ad ct) yX5_finds wsX5_finds rm_X5_finds [.ref (ad 0), .int x1, .int x2] σ Q := by
  refine CtI.ofZ (wM_adr ad ct) (maxL := 12) [(0, .ref (ad 0)), (1, .int x1), (2, .int x2)] RX5 (by decide) rfl rfl (by show (lg_sl [.ref (ad 0), .int x1, .int x2]).length ≤ 12; exact Nat.le_of_ble_eq_true rfl) rfl rfl rfl ?_
  intro E C hR
  unfold wp_X5_finds at h
  refine x_aload_n C 1 rfl 0 dX5_finds_0 rfl rfl ?_
  refine x_dup C 2 rfl dX5_finds_1 rfl ?_
  refine x_get C 5 rfl (ref := RX5) 0 16 (gM_M ad ct _) rfl in_X5_finds_X5 (by decide) fl_X5_finds_156 rfl rfl dX5_finds_2 ?_
  refine x_iconst C 6 rfl 1 dX5_finds_5 rfl ?_
  refine x_iadd C 7 rfl dX5_finds_6 ?_
  obtain ⟨σ1, eσ1⟩ : ∃ z, z = sI σ 0 16 ((σ.1 0 16) + 1) := ⟨_, rfl⟩
  have h := h σ1 eσ1
  refine x_put C 10 rfl (ref := RX5) (ty := .int) (σ' := σ1) 0 16 (gM_M ad ct _) rfl in_X5_finds_X5 tyX5 tyX5_ok nmX5 (by decide) fl_X5_finds_156 rfl rfl (by decide +kernel) rfl rfl (by show 16 < 20; decide) (by rw [eσ1]; exact (sM_M_question ad ct _)) dX5_finds_7 ?_
  refine x_lconst C 11 rfl 1 dX5_finds_10 rfl ?_
  refine x_aload_n C 12 rfl 0 dX5_finds_11 rfl rfl ?_
  refine x_cVI C 15 rfl (m_X5_startOf l D ad ct _ _ h) (cwV 0 C.1.2.2.2.2 gX5_finds_X5_startOf rfl rfl rfl (by decide +kernel) ⟨Nat.le_of_ble_eq_true rfl, Nat.le_of_ble_eq_true rfl⟩) ⟨0, 5, _, _, _, (gM_M ad ct _), rfl⟩ rfl rfl (Nat.le_of_ble_eq_true rfl) dX5_finds_12 ?_
  intro r3 σ2 h
  refine x_lshl C 16 rfl dX5_finds_15 ?_
  refine x_lstore_n C 17 rfl [(3, .long (1 <<< (Int32.toInt64 r3 &&& 63))), (0, .ref (ad 0)), (1, .int x1), (2, .int x2)] dX5_finds_16 rfl (by decide) rfl ?_
  refine x_iload_n C 18 rfl 3 dX5_finds_17 rfl rfl ?_
  refine x_istore C 20 rfl [(5, .int x2), (3, .long (1 <<< (Int32.toInt64 r3 &&& 63))), (0, .ref (ad 0)), (1, .int x1), (2, .int x2)] dX5_finds_18 (by decide) rfl ?_
  refine x_iconst C 21 rfl 0 dX5_finds_20 rfl ?_
  refine x_istore C 23 rfl [(6, .int 0), (5, .int x2), (3, .long (1 <<< (Int32.toInt64 r3 &&& 63))), (0, .ref (ad 0)), (1, .int x1), (2, .int x2)] dX5_finds_21 (by decide) rfl ?_
  refine x_sub (lv' := [(0, .ref (ad 0)), (1, .int x1), (3, .long (1 <<< (Int32.toInt64 r3 &&& 63))), (5, .int x2), (6, .int 0)]) [3, 4, 2, 1, 0] rfl ?_
  obtain ⟨n32, h⟩ := h
  refine v_X5_finds_L23 C x1 hR n32 _ _ _ _ h
abbrev rm_X5_leadso (rmr : Room) : Room := { frames := rmr.frames + 3, cells := 0, slots := 0, locals := rmr.locals + 73 }
theorem in_X5_leads_X5 : ∀ w ∈ u_ws RX5 TX5 20, w ∈ wsX5_leads := by decide +kernel
theorem fl_X5_leads_53 : Cond.fieldLink RX5 53 RX5 (TX5 17).2.1 (TX5 17).2.2.1 ∈ wsX5_leads := by decide +kernel
theorem fl_X5_leads_56 : Cond.fieldLink RX5 56 RX5 (TX5 18).2.1 (TX5 18).2.2.1 ∈ wsX5_leads := by decide +kernel
theorem fl_X5_leads_59 : Cond.fieldLink RX5 59 RX5 (TX5 19).2.1 (TX5 19).2.2.1 ∈ wsX5_leads := by decide +kernel
set_option maxRecDepth 100000 in
set_option maxHeartbeats 4000000 in
theorem v_X5_leads_L10 {l : Launch} {D : va_G} {ad : Nat → Nat} {ct : Nat → ClassId} {E : XE}  {rec : Int32 → Int32 → Int32 → ST → (Int32 → ST → Prop) → Prop} {rmr : Room} (hrec : rmr.cells = 0 ∧ rmr.slots = 0 ∧ ∀ (x1 : Int32) (x2 : Int32) (x3 : Int32) (σ : ST) (Q : Int32 → ST → Prop), rec x1 x2 x3 σ Q → CtI l D (tysF ct) (wM ad ct) yX5_leads wsX5_leads rmr [.ref (ad 0), .int x1, .int x2, .int x3] σ Q) {Q : Int32 → ST → Prop} (C : XFix D (tysF ct) (wM ad ct) (rm_X5_leadso rmr) 6 E cX5_leads RX5 wsX5_leads) (x1 : Int32) (x2 : Int32) (x3 : Int32) {K1 : Int32 → ST → Prop} (hK1 : ∀ (x4 : Int32) (σ : ST), K1 x4 σ → V l D (tysF ct) (wM ad ct) (rm_X5_leadso rmr) 6 E 86 [(0, .ref (ad 0)), (2, .int x2), (4, .int x4)] [] σ) (hR : RetZ l D (tysF ct) (wM ad ct) (rm_X5_leadso rmr) 6 E cX5_leads Q) :
    ∀ (n : Nat) (x4 : Int32) (σ : ST), wp_X5_leads_L10 rec x1 x2 x3 K1 Q n x4 σ → V l D (tysF ct) (wM ad ct) (rm_X5_leadso rmr) 6 E 10 [(0, .ref (ad 0)), (1, .int x1), (2, .int x2), (3, .int x3), (4, .int x4)] [] σ := by
  intro n
  induction n with
  | zero => intro x4 σ h; exact (h : False).elim
  | succ n ih =>
    intro x4 σ h
    unfold wp_X5_leads_L10 at h
    refine x_iload C 12 rfl 4 dX5_leads_10 rfl ?_
    refine x_bipush C 14 rfl 9 dX5_leads_12 rfl ?_
    refine x_icmp_gt C 102 17 dX5_leads_14 (by decide) rfl (fun c14 => ?_) (fun c14 => ?_)
    · have h := h.1 c14
      refine x_iconst C 103 rfl 0 dX5_leads_102 rfl ?_
      exact hR _ _ _ _ dX5_leads_103 (by decide) h
    · have h := h.2 c14
      refine x_aload_n C 18 rfl 0 dX5_leads_17 rfl rfl ?_
      refine x_iload C 20 rfl 4 dX5_leads_18 rfl ?_
      refine x_cVI C 23 rfl (m_X5_isAct l D ad ct _ _ _ h) (cwV 1 C.1.2.2.2.2 gX5_leads_X5_isAct rfl rfl rfl (by decide +kernel) ⟨by show 1 + 1 ≤ rmr.frames + 3; omega, by show 8 + (2 + 11) + (22) ≤ rmr.locals + 73; omega⟩) ⟨0, 5, _, _, _, (gM_M ad ct _), rfl⟩ rfl rfl (Nat.le_of_ble_eq_true rfl) dX5_leads_20 ?_
      intro r2 σ1 h
      refine x_if_ne C 29 26 dX5_leads_23 (by decide) rfl (fun c23 => ?_) (fun c23 => ?_)
      · have h := h.1 c23
        refine x_aload_n C 30 rfl 0 dX5_leads_29 rfl rfl ?_
        refine x_iload_n C 31 rfl 1 dX5_leads_30 rfl rfl ?_
        refine x_iload C 33 rfl 4 dX5_leads_31 rfl ?_
        refine x_iload_n C 34 rfl 2 dX5_leads_33 rfl rfl ?_
        refine x_cVI C 37 rfl (m_X5_sent l D ad ct _ _ _ _ _ h) (cwV 3 C.1.2.2.2.2 gX5_leads_X5_sent rfl rfl rfl (by decide +kernel) ⟨by show 2 + 1 ≤ rmr.frames + 3; omega, by show 8 + (6 + 11) + (48) ≤ rmr.locals + 73; omega⟩) ⟨0, 5, _, _, _, (gM_M ad ct _), rfl⟩ rfl rfl (Nat.le_of_ble_eq_true rfl) dX5_leads_34 ?_
        intro r4 σ3 h
        refine x_istore C 39 rfl [(5, .int r4), (0, .ref (ad 0)), (1, .int x1), (2, .int x2), (3, .int x3), (4, .int x4)] dX5_leads_37 (by decide) rfl ?_
        refine x_aload_n C 40 rfl 1 dX5_leads_39 rfl rfl ?_
        refine x_iload C 42 rfl 0 dX5_leads_40 rfl ?_
        refine x_aload_n C 43 rfl 1 dX5_leads_42 rfl rfl ?_
        refine x_get C 46 rfl (ref := RX5) 0 17 (gM_M ad ct _) rfl in_X5_leads_X5 (by decide) fl_X5_leads_53 rfl rfl dX5_leads_43 ?_
        refine x_iload_n C 47 rfl 3 dX5_leads_46 rfl rfl ?_
        have i5 := h.1
        have h := h.2
        refine x_iald C 48 rfl 15 0 (gM_M_acts ad ct _) rfl i5 dX5_leads_47 ?_
        refine x_cVI C 51 rfl (m_X5_told l D ad ct _ _ _ _ h) (cwV 2 C.1.2.2.2.2 gX5_leads_X5_told rfl rfl rfl (by decide +kernel) ⟨by show 2 + 1 ≤ rmr.frames + 3; omega, by show 8 + (3 + 11) + (49) ≤ rmr.locals + 73; omega⟩) ⟨0, 5, _, _, _, (gM_M ad ct _), rfl⟩ rfl rfl (Nat.le_of_ble_eq_true rfl) dX5_leads_48 ?_
        intro r7 σ6 h
        refine x_aload_n C 52 rfl 1 dX5_leads_51 rfl rfl ?_
        refine x_get C 55 rfl (ref := RX5) 0 18 (gM_M ad ct _) rfl in_X5_leads_X5 (by decide) fl_X5_leads_56 rfl rfl dX5_leads_52 ?_
        refine x_iload_n C 56 rfl 3 dX5_leads_55 rfl rfl ?_
        refine x_iald C 57 rfl 16 0 (gM_M_said ad ct _) rfl i5 dX5_leads_56 ?_
        refine x_icmp_ne C 96 60 dX5_leads_57 (by decide) rfl (fun c57 => ?_) (fun c57 => ?_)
        · have h := h.1 c57
          refine x_iinc C 99 rfl 5 (x4 + 1) [(4, .int (x4 + 1)), (5, .int r4), (0, .ref (ad 0)), (1, .int x1), (2, .int x2), (3, .int x3)] dX5_leads_96 rfl rfl (by decide) rfl ?_
          refine x_goto C 10 dX5_leads_99 (by decide) ?_
          refine x_sub (lv' := [(0, .ref (ad 0)), (1, .int x1), (2, .int x2), (3, .int x3), (4, .int (x4 + 1))]) [2, 3, 4, 5, 0] rfl ?_
          exact ih _ _ h
        · have h := h.2 c57
          refine x_aload_n C 61 rfl 1 dX5_leads_60 rfl rfl ?_
          refine x_aload_n C 62 rfl 1 dX5_leads_61 rfl rfl ?_
          refine x_iload C 64 rfl 0 dX5_leads_62 rfl ?_
          refine x_aload_n C 65 rfl 1 dX5_leads_64 rfl rfl ?_
          refine x_get C 68 rfl (ref := RX5) 0 17 (gM_M ad ct _) rfl in_X5_leads_X5 (by decide) fl_X5_leads_53 rfl rfl dX5_leads_65 ?_
          refine x_iload_n C 69 rfl 3 dX5_leads_68 rfl rfl ?_
          refine x_iald C 70 rfl 15 0 (gM_M_acts ad ct _) rfl i5 dX5_leads_69 ?_
          refine x_cVI C 73 rfl (m_X5_heard l D ad ct _ _ _ _ h) (cwV 2 C.1.2.2.2.2 gX5_leads_X5_heard rfl rfl rfl (by decide +kernel) ⟨by show 2 + 1 ≤ rmr.frames + 3; omega, by show 8 + (3 + 11) + (48) ≤ rmr.locals + 73; omega⟩) ⟨0, 5, _, _, _, (gM_M ad ct _), rfl⟩ rfl rfl (Nat.le_of_ble_eq_true rfl) dX5_leads_70 ?_
          intro r9 σ8 h
          refine x_iload_n C 74 rfl 3 dX5_leads_73 rfl rfl ?_
          refine x_iconst C 75 rfl 1 dX5_leads_74 rfl ?_
          refine x_iadd C 76 rfl dX5_leads_75 ?_
          refine x_iload_n C 77 rfl 4 dX5_leads_76 rfl rfl ?_
          refine x_cVI C 80 rfl (hrec.2.2 _ _ _ _ _ h) (cwV 3 C.1.2.2.2.2 gX5_leads_X5_leads rfl hrec.1 hrec.2.1 (by decide +kernel) ⟨by show rmr.frames + 1 ≤ rmr.frames + 3; omega, by show 8 + (6 + 11) + (rmr.locals) ≤ rmr.locals + 73; omega⟩) ⟨0, 5, _, _, _, (gM_M ad ct _), rfl⟩ rfl rfl (Nat.le_of_ble_eq_true rfl) dX5_leads_77 ?_
          intro r11 σ10 h
          refine x_if_ne C 86 83 dX5_leads_80 (by decide) rfl (fun c80 => ?_) (fun c80 => ?_)
          · have h := h.1 c80
            refine x_sub (lv' := [(0, .ref (ad 0)), (2, .int x2), (4, .int x4)]) [1, 3, 5] rfl ?_
            exact hK1 _ _ h
          · have h := h.2 c80
            refine x_goto C 96 dX5_leads_83 (by decide) ?_
            refine x_iinc C 99 rfl 5 (x4 + 1) [(4, .int (x4 + 1)), (5, .int r4), (0, .ref (ad 0)), (1, .int x1), (2, .int x2), (3, .int x3)] dX5_leads_96 rfl rfl (by decide) rfl ?_
            refine x_goto C 10 dX5_leads_99 (by decide) ?_
            refine x_sub (lv' := [(0, .ref (ad 0)), (1, .int x1), (2, .int x2), (3, .int x3), (4, .int (x4 + 1))]) [2, 3, 4, 5, 0] rfl ?_
            exact ih _ _ h
      · have h := h.2 c23
        refine x_goto C 96 dX5_leads_26 (by decide) ?_
        refine x_iinc C 99 rfl 4 (x4 + 1) [(4, .int (x4 + 1)), (0, .ref (ad 0)), (1, .int x1), (2, .int x2), (3, .int x3)] dX5_leads_96 rfl rfl (by decide) rfl ?_
        refine x_goto C 10 dX5_leads_99 (by decide) ?_
        refine x_sub (lv' := [(0, .ref (ad 0)), (1, .int x1), (2, .int x2), (3, .int x3), (4, .int (x4 + 1))]) [1, 2, 3, 4, 0] rfl ?_
        exact ih _ _ h
set_option maxRecDepth 100000 in
set_option maxHeartbeats 4000000 in
theorem m_X5_leadso (l : Launch) (D : va_G) (ad : Nat → Nat) (ct : Nat → ClassId) (rec : Int32 → Int32 → Int32 → ST → (Int32 → ST → Prop) → Prop) (rmr : Room) (hrec : rmr.cells = 0 ∧ rmr.slots = 0 ∧ ∀ (x1 : Int32) (x2 : Int32) (x3 : Int32) (σ : ST) (Q : Int32 → ST → Prop), rec x1 x2 x3 σ Q → CtI l D (tysF ct) (wM ad ct) yX5_leads wsX5_leads rmr [.ref (ad 0), .int x1, .int x2, .int x3] σ Q) (x1 : Int32) (x2 : Int32) (x3 : Int32) (σ : ST) (Q : Int32 → ST → Prop) (h : wp_X5_leadso rec x1 x2 x3 σ Q) : CtI l D (tysF ct) (wM ad ct) yX5_leads wsX5_leads (rm_X5_leadso rmr) [.ref (ad 0), .int x1, .int x2, .int x3] σ Q := by
  refine CtI.ofZ (wM_adr ad ct) (maxL := 6) [(0, .ref (ad 0)), (1, .int x1), (2, .int x2), (3, .int x3)] RX5 (by decide) rfl rfl (by show (lg_sl [.ref (ad 0), .int x1, .int x2, .int x3]).length ≤ 6; exact Nat.le_of_ble_eq_true rfl) rfl rfl rfl ?_
  intro E C hR
  unfold wp_X5_leadso at h
  refine x_iload_n C 1 rfl 2 dX5_leads_0 rfl rfl ?_
  refine x_iload_n C 2 rfl 3 dX5_leads_1 rfl rfl ?_
  refine x_icmp_ne C 7 5 dX5_leads_2 (by decide) rfl (fun c2 => ?_) (fun c2 => ?_)
  · have h := h.1 c2
    refine x_iconst C 8 rfl 0 dX5_leads_7 rfl ?_
    refine x_istore C 10 rfl [(4, .int 0), (0, .ref (ad 0)), (1, .int x1), (2, .int x2), (3, .int x3)] dX5_leads_8 (by decide) rfl ?_
    refine x_sub (lv' := [(0, .ref (ad 0)), (1, .int x1), (2, .int x2), (3, .int x3), (4, .int 0)]) [1, 2, 3, 4, 0] rfl ?_
    obtain ⟨n12, h⟩ := h
    refine v_X5_leads_L10 hrec C x1 x2 x3 ?_ hR n12 _ _ h
    · intro y4_13 σ14 h
      refine x_aload_n C 87 rfl 0 dX5_leads_86 rfl rfl ?_
      refine x_get C 90 rfl (ref := RX5) 0 19 (gM_M ad ct _) rfl in_X5_leads_X5 (by decide) fl_X5_leads_59 rfl rfl dX5_leads_87 ?_
      refine x_iload_n C 91 rfl 1 dX5_leads_90 rfl rfl ?_
      refine x_iload C 93 rfl 2 dX5_leads_91 rfl ?_
      have i15 := h.1
      have h := h.2
      obtain ⟨σ16, eσ16⟩ : ∃ z, z = sR σ14 17 (Int32.toNatClampNeg x2) y4_13 := ⟨_, rfl⟩
      have h := h σ16 eσ16
      refine x_iast C 94 rfl (σ' := σ16) 17 0 (gM_M_wish ad ct _) rfl i15 (by rw [eσ16]; exact (sM_M_wish ad ct _)) dX5_leads_93 ?_
      refine x_iconst C 95 rfl 1 dX5_leads_94 rfl ?_
      exact hR _ _ _ _ dX5_leads_95 (by decide) h
  · have h := h.2 c2
    refine x_iconst C 6 rfl 1 dX5_leads_5 rfl ?_
    exact hR _ _ _ _ dX5_leads_6 (by decide) h
def rm_X5_leads : Nat → Room
  | 0 => { frames := 0, cells := 0, slots := 0, locals := 0 }
  | d + 1 => rm_X5_leadso (rm_X5_leads d)
theorem rm_X5_leads_0 (d : Nat) : (rm_X5_leads d).cells = 0 ∧ (rm_X5_leads d).slots = 0 := by cases d <;> exact ⟨rfl, rfl⟩
theorem m_X5_leads (l : Launch) (D : va_G) (ad : Nat → Nat) (ct : Nat → ClassId) : ∀ (d : Nat) (x1 : Int32) (x2 : Int32) (x3 : Int32) (σ : ST) (Q : Int32 → ST → Prop), wp_X5_leads d x1 x2 x3 σ Q → CtI l D (tysF ct) (wM ad ct) yX5_leads wsX5_leads (rm_X5_leads d) [.ref (ad 0), .int x1, .int x2, .int x3] σ Q := by
  intro d
  induction d with
  | zero => intro x1 x2 x3 σ Q h; exact (h : False).elim
  | succ d ih => intro x1 x2 x3 σ Q h; exact m_X5_leadso l D ad ct (wp_X5_leads d) (rm_X5_leads d) ⟨(rm_X5_leads_0 d).1, (rm_X5_leads_0 d).2, ih⟩ x1 x2 x3 σ Q h
abbrev rm_X5_letter : Room := { frames := 26, cells := 0, slots := 0, locals := 656 }
theorem in_X5_letter_X5 : ∀ w ∈ u_ws RX5 TX5 20, w ∈ wsX5_letter := by decide +kernel
theorem fl_X5_letter_59 : Cond.fieldLink RX5 59 RX5 (TX5 19).2.1 (TX5 19).2.2.1 ∈ wsX5_letter := by decide +kernel
theorem fl_X5_letter_56 : Cond.fieldLink RX5 56 RX5 (TX5 18).2.1 (TX5 18).2.2.1 ∈ wsX5_letter := by decide +kernel
theorem fl_X5_letter_53 : Cond.fieldLink RX5 53 RX5 (TX5 17).2.1 (TX5 17).2.2.1 ∈ wsX5_letter := by decide +kernel
set_option maxRecDepth 100000 in
set_option maxHeartbeats 4000000 in
theorem m_X5_letter (l : Launch) (D : va_G) (ad : Nat → Nat) (ct : Nat → ClassId) (x1 : Int32) (x2 : Int32) (x3 : Int32) (x4 : Int32) (σ : ST) (Q : Int32 → ST → Prop) (h : wp_X5_letter x1 x2 x3 x4 σ Q) : CtI l D (tysF ct) (wM ad ct) yX5_letter wsX5_letter rm_X5_letter [.ref (ad 0), .int x1, .int x2, .int x3, .int x4] σ Q := by
  refine CtI.of (wM_adr ad ct) (maxL := 5) [(0, .ref (ad 0)), (1, .int x1), (2, .int x2), (3, .int x3), (4, .int x4)] RX5 (by decide) rfl rfl (by show (lg_sl [.ref (ad 0), .int x1, .int x2, .int x3, .int x4]).length ≤ 5; exact Nat.le_of_ble_eq_true rfl) rfl rfl rfl ?_
  intro E C hR
  unfold wp_X5_letter at h
  refine x_iload_n C 1 rfl 1 dX5_letter_0 rfl rfl ?_
  refine x_iconst C 2 rfl 0 dX5_letter_1 rfl ?_
  refine x_iconst C 3 rfl 3 dX5_letter_2 rfl ?_
  refine x_cSI C 6 rfl (m_X5_isIn l D ad ct _ _ _ _ _ h) (va_cwS 3 C.1.2.2.2.2 gX5_letter_X5_isIn rfl rfl rfl (by decide +kernel) ⟨Nat.le_of_ble_eq_true rfl, Nat.le_of_ble_eq_true rfl⟩) rfl rfl (Nat.le_of_ble_eq_true rfl) dX5_letter_3 ?_
  intro r2 σ1 h
  refine x_if_eq C 56 9 dX5_letter_6 (by decide) rfl (fun c6 => ?_) (fun c6 => ?_)
  · have h := h.1 c6
    refine x_iconst C 57 rfl (-1) dX5_letter_56 rfl ?_
    exact hR _ _ _ _ dX5_letter_57 h
  · have h := h.2 c6
    refine x_iload_n C 10 rfl 2 dX5_letter_9 rfl rfl ?_
    refine x_if_lt C 56 13 dX5_letter_10 (by decide) rfl (fun c10 => ?_) (fun c10 => ?_)
    · have h := h.1 c10
      refine x_iconst C 57 rfl (-1) dX5_letter_56 rfl ?_
      exact hR _ _ _ _ dX5_letter_57 h
    · have h := h.2 c10
      refine x_iload_n C 14 rfl 3 dX5_letter_13 rfl rfl ?_
      refine x_iconst C 15 rfl 0 dX5_letter_14 rfl ?_
      refine x_iload_n C 16 rfl 1 dX5_letter_15 rfl rfl ?_
      refine x_iconst C 17 rfl 1 dX5_letter_16 rfl ?_
      refine x_isub C 18 rfl dX5_letter_17 ?_
      refine x_cSI C 21 rfl (m_X5_isIn l D ad ct _ _ _ _ _ h) (va_cwS 3 C.1.2.2.2.2 gX5_letter_X5_isIn rfl rfl rfl (by decide +kernel) ⟨Nat.le_of_ble_eq_true rfl, Nat.le_of_ble_eq_true rfl⟩) rfl rfl (Nat.le_of_ble_eq_true rfl) dX5_letter_18 ?_
      intro r4 σ3 h
      refine x_if_eq C 56 24 dX5_letter_21 (by decide) rfl (fun c21 => ?_) (fun c21 => ?_)
      · have h := h.1 c21
        refine x_iconst C 57 rfl (-1) dX5_letter_56 rfl ?_
        exact hR _ _ _ _ dX5_letter_57 h
      · have h := h.2 c21
        refine x_iload C 26 rfl 4 dX5_letter_24 rfl ?_
        refine x_iconst C 27 rfl 0 dX5_letter_26 rfl ?_
        refine x_iconst C 28 rfl 2 dX5_letter_27 rfl ?_
        refine x_cSI C 31 rfl (m_X5_isIn l D ad ct _ _ _ _ _ h) (va_cwS 3 C.1.2.2.2.2 gX5_letter_X5_isIn rfl rfl rfl (by decide +kernel) ⟨Nat.le_of_ble_eq_true rfl, Nat.le_of_ble_eq_true rfl⟩) rfl rfl (Nat.le_of_ble_eq_true rfl) dX5_letter_28 ?_
        intro r6 σ5 h
        refine x_if_eq C 56 34 dX5_letter_31 (by decide) rfl (fun c31 => ?_) (fun c31 => ?_)
        · have h := h.1 c31
          refine x_iconst C 57 rfl (-1) dX5_letter_56 rfl ?_
          exact hR _ _ _ _ dX5_letter_57 h
        · have h := h.2 c31
          refine x_aload_n C 35 rfl 0 dX5_letter_34 rfl rfl ?_
          refine x_iload_n C 36 rfl 1 dX5_letter_35 rfl rfl ?_
          refine x_iload_n C 37 rfl 2 dX5_letter_36 rfl rfl ?_
          refine x_cVI C 40 rfl (m_X5_finds l D ad ct _ _ _ _ h) (cwV 2 C.1.2.2.2.2 gX5_letter_X5_finds rfl rfl rfl (by decide +kernel) ⟨Nat.le_of_ble_eq_true rfl, Nat.le_of_ble_eq_true rfl⟩) ⟨0, 5, _, _, _, (gM_M ad ct _), rfl⟩ rfl rfl (Nat.le_of_ble_eq_true rfl) dX5_letter_37 ?_
          intro r8 σ7 h
          refine x_if_eq C 56 43 dX5_letter_40 (by decide) rfl (fun c40 => ?_) (fun c40 => ?_)
          · have h := h.1 c40
            refine x_iconst C 57 rfl (-1) dX5_letter_56 rfl ?_
            exact hR _ _ _ _ dX5_letter_57 h
          · have h := h.2 c40
            refine x_aload_n C 44 rfl 0 dX5_letter_43 rfl rfl ?_
            refine x_aload_n C 45 rfl 0 dX5_letter_44 rfl rfl ?_
            refine x_cVI C 48 rfl (m_X5_startOf l D ad ct _ _ h) (cwV 0 C.1.2.2.2.2 gX5_letter_X5_startOf rfl rfl rfl (by decide +kernel) ⟨Nat.le_of_ble_eq_true rfl, Nat.le_of_ble_eq_true rfl⟩) ⟨0, 5, _, _, _, (gM_M ad ct _), rfl⟩ rfl rfl (Nat.le_of_ble_eq_true rfl) dX5_letter_45 ?_
            intro r10 σ9 h
            refine x_iconst C 49 rfl 0 dX5_letter_48 rfl ?_
            refine x_iload_n C 50 rfl 1 dX5_letter_49 rfl rfl ?_
            refine x_cVI C 53 rfl (m_X5_leads l D ad ct 4 _ _ _ _ _ h) (cwV 3 C.1.2.2.2.2 gX5_letter_X5_leads rfl rfl rfl (by decide +kernel) ⟨Nat.le_of_ble_eq_true rfl, Nat.le_of_ble_eq_true rfl⟩) ⟨0, 5, _, _, _, (gM_M ad ct _), rfl⟩ rfl rfl (Nat.le_of_ble_eq_true rfl) dX5_letter_50 ?_
            intro r12 σ11 h
            refine x_if_ne C 58 56 dX5_letter_53 (by decide) rfl (fun c53 => ?_) (fun c53 => ?_)
            · have h := h.1 c53
              refine x_iload C 60 rfl 4 dX5_letter_58 rfl ?_
              refine x_if_ne C 72 63 dX5_letter_60 (by decide) rfl (fun c60 => ?_) (fun c60 => ?_)
              · have h := h.1 c60
                refine x_iload C 74 rfl 4 dX5_letter_72 rfl ?_
                refine x_iconst C 75 rfl 1 dX5_letter_74 rfl ?_
                refine x_icmp_ne C 87 78 dX5_letter_75 (by decide) rfl (fun c75 => ?_) (fun c75 => ?_)
                · have h := h.1 c75
                  refine x_aload_n C 88 rfl 0 dX5_letter_87 rfl rfl ?_
                  refine x_get C 91 rfl (ref := RX5) 0 19 (gM_M ad ct _) rfl in_X5_letter_X5 (by decide) fl_X5_letter_59 rfl rfl dX5_letter_88 ?_
                  refine x_iload_n C 92 rfl 3 dX5_letter_91 rfl rfl ?_
                  have i13 := h.1
                  have h := h.2
                  refine x_iald C 93 rfl 17 0 (gM_M_wish ad ct _) rfl i13 dX5_letter_92 ?_
                  exact hR _ _ _ _ dX5_letter_93 h
                · have h := h.2 c75
                  refine x_aload_n C 79 rfl 0 dX5_letter_78 rfl rfl ?_
                  refine x_get C 82 rfl (ref := RX5) 0 18 (gM_M ad ct _) rfl in_X5_letter_X5 (by decide) fl_X5_letter_56 rfl rfl dX5_letter_79 ?_
                  refine x_iload_n C 83 rfl 3 dX5_letter_82 rfl rfl ?_
                  have i14 := h.1
                  have h := h.2
                  refine x_iald C 84 rfl 16 0 (gM_M_said ad ct _) rfl i14 dX5_letter_83 ?_
                  refine x_goto C 93 dX5_letter_84 (by decide) ?_
                  exact hR _ _ _ _ dX5_letter_93 h
              · have h := h.2 c60
                refine x_aload_n C 64 rfl 0 dX5_letter_63 rfl rfl ?_
                refine x_get C 67 rfl (ref := RX5) 0 17 (gM_M ad ct _) rfl in_X5_letter_X5 (by decide) fl_X5_letter_53 rfl rfl dX5_letter_64 ?_
                refine x_iload_n C 68 rfl 3 dX5_letter_67 rfl rfl ?_
                have i15 := h.1
                have h := h.2
                refine x_iald C 69 rfl 15 0 (gM_M_acts ad ct _) rfl i15 dX5_letter_68 ?_
                refine x_goto C 93 dX5_letter_69 (by decide) ?_
                exact hR _ _ _ _ dX5_letter_93 h
            · have h := h.2 c53
              refine x_iconst C 57 rfl (-1) dX5_letter_56 rfl ?_
              exact hR _ _ _ _ dX5_letter_57 h
abbrev rm_X5_begin : Room := { frames := 0, cells := 0, slots := 0, locals := 0 }
theorem in_X5_begin_X5 : ∀ w ∈ u_ws RX5 TX5 20, w ∈ wsX5_begin := by decide +kernel
theorem fl_X5_begin_188 : Cond.fieldLink RX5 188 RX5 (TX5 10).2.1 (TX5 10).2.2.1 ∈ wsX5_begin := by decide +kernel
theorem fl_X5_begin_62 : Cond.fieldLink RX5 62 RX5 (TX5 0).2.1 (TX5 0).2.2.1 ∈ wsX5_begin := by decide +kernel
theorem fl_X5_begin_28 : Cond.fieldLink RX5 28 RX5 (TX5 7).2.1 (TX5 7).2.2.1 ∈ wsX5_begin := by decide +kernel
theorem fl_X5_begin_13 : Cond.fieldLink RX5 13 RX5 (TX5 2).2.1 (TX5 2).2.2.1 ∈ wsX5_begin := by decide +kernel
set_option maxRecDepth 100000 in
set_option maxHeartbeats 4000000 in
theorem v_X5_begin_L7 {l : Launch} {D : va_G} {ad : Nat → Nat} {ct : Nat → ClassId} {E : XE}  {Q : ST → Prop} (C : XFix D (tysF ct) (wM ad ct) rm_X5_begin 2 E cX5_begin RX5 wsX5_begin) (hR : RetV l D (tysF ct) (wM ad ct) rm_X5_begin 2 E cX5_begin Q) :
    ∀ (n : Nat) (x1 : Int32) (σ : ST), wp_X5_begin_L7 Q n x1 σ → V l D (tysF ct) (wM ad ct) rm_X5_begin 2 E 7 [(0, .ref (ad 0)), (1, .int x1)] [] σ := by
  intro n
  induction n with
  | zero => intro x1 σ h; exact (h : False).elim
  | succ n ih =>
    intro x1 σ h
    unfold wp_X5_begin_L7 at h
    refine x_iload_n C 8 rfl 1 dX5_begin_7 rfl rfl ?_
    refine x_aload_n C 9 rfl 0 dX5_begin_8 rfl rfl ?_
    refine x_get C 12 rfl (ref := RX5) 0 0 (gM_M ad ct _) rfl in_X5_begin_X5 (by decide) fl_X5_begin_62 rfl rfl dX5_begin_9 ?_
    refine x_icmp_ge C 33 15 dX5_begin_12 (by decide) rfl (fun c12 => ?_) (fun c12 => ?_)
    · have h := h.1 c12
      exact hR _ _ _ dX5_begin_33 h
    · have h := h.2 c12
      refine x_aload_n C 16 rfl 0 dX5_begin_15 rfl rfl ?_
      refine x_get C 19 rfl (ref := RX5) 0 7 (gM_M ad ct _) rfl in_X5_begin_X5 (by decide) fl_X5_begin_28 rfl rfl dX5_begin_16 ?_
      refine x_iload_n C 20 rfl 1 dX5_begin_19 rfl rfl ?_
      refine x_aload_n C 21 rfl 0 dX5_begin_20 rfl rfl ?_
      refine x_get C 24 rfl (ref := RX5) 0 2 (gM_M ad ct _) rfl in_X5_begin_X5 (by decide) fl_X5_begin_13 rfl rfl dX5_begin_21 ?_
      refine x_iload_n C 25 rfl 1 dX5_begin_24 rfl rfl ?_
      have i2 := h.1
      have h := h.2
      refine x_iald C 26 rfl 2 0 (gM_M_first ad ct _) rfl i2 dX5_begin_25 ?_
      obtain ⟨σ3, eσ3⟩ : ∃ z, z = sR σ 7 (Int32.toNatClampNeg x1) (σ.2.2.1 2 (Int32.toNatClampNeg x1)) := ⟨_, rfl⟩
      have h := h σ3 eσ3
      refine x_iast C 27 rfl (σ' := σ3) 7 0 (gM_M_state ad ct _) rfl i2 (by rw [eσ3]; exact (sM_M_state ad ct _)) dX5_begin_26 ?_
      refine x_iinc C 30 rfl 1 (x1 + 1) [(1, .int (x1 + 1)), (0, .ref (ad 0))] dX5_begin_27 rfl rfl (by decide) rfl ?_
      refine x_goto C 7 dX5_begin_30 (by decide) ?_
      refine x_sub (lv' := [(0, .ref (ad 0)), (1, .int (x1 + 1))]) [1, 0] rfl ?_
      exact ih _ _ h
set_option maxRecDepth 100000 in
set_option maxHeartbeats 4000000 in
theorem m_X5_begin (l : Launch) (D : va_G) (ad : Nat → Nat) (ct : Nat → ClassId) (σ : ST) (Q : ST → Prop) (h : wp_X5_begin σ Q) : CtV l D (tysF ct) (wM ad ct) yX5_begin wsX5_begin rm_X5_begin [.ref (ad 0)] σ Q := by
  refine CtV.of (wM_adr ad ct) (maxL := 2) [(0, .ref (ad 0))] RX5 (by decide) rfl rfl (by show (lg_sl [.ref (ad 0)]).length ≤ 2; exact Nat.le_of_ble_eq_true rfl) rfl rfl rfl ?_
  intro E C hR
  unfold wp_X5_begin at h
  refine x_aload_n C 1 rfl 0 dX5_begin_0 rfl rfl ?_
  refine x_iconst C 2 rfl 0 dX5_begin_1 rfl ?_
  obtain ⟨σ1, eσ1⟩ : ∃ z, z = sI σ 0 10 0 := ⟨_, rfl⟩
  have h := h σ1 eσ1
  refine x_put C 5 rfl (ref := RX5) (ty := .int) (σ' := σ1) 0 10 (gM_M ad ct _) rfl in_X5_begin_X5 tyX5 tyX5_ok nmX5 (by decide) fl_X5_begin_188 rfl rfl (by decide +kernel) rfl rfl (by show 10 < 20; decide) (by rw [eσ1]; exact (sM_M_ticks ad ct _)) dX5_begin_2 ?_
  refine x_iconst C 6 rfl 0 dX5_begin_5 rfl ?_
  refine x_istore_n C 7 rfl [(1, .int 0), (0, .ref (ad 0))] dX5_begin_6 rfl (by decide) rfl ?_
  refine x_sub (lv' := [(0, .ref (ad 0)), (1, .int 0)]) [1, 0] rfl ?_
  obtain ⟨n4, h⟩ := h
  refine v_X5_begin_L7 C hR n4 _ _ h
abbrev rm_X5_run : Room := { frames := 3, cells := 0, slots := 0, locals := 73 }
theorem in_X5_run_X5 : ∀ w ∈ u_ws RX5 TX5 20, w ∈ wsX5_run := by decide +kernel
theorem fl_X5_run_62 : Cond.fieldLink RX5 62 RX5 (TX5 0).2.1 (TX5 0).2.2.1 ∈ wsX5_run := by decide +kernel
theorem fl_X5_run_28 : Cond.fieldLink RX5 28 RX5 (TX5 7).2.1 (TX5 7).2.2.1 ∈ wsX5_run := by decide +kernel
theorem fl_X5_run_188 : Cond.fieldLink RX5 188 RX5 (TX5 10).2.1 (TX5 10).2.2.1 ∈ wsX5_run := by decide +kernel
set_option maxRecDepth 100000 in
set_option maxHeartbeats 4000000 in
theorem v_X5_run_L23 {l : Launch} {D : va_G} {ad : Nat → Nat} {ct : Nat → ClassId} {E : XE}  {Q : Int32 → ST → Prop} (C : XFix D (tysF ct) (wM ad ct) rm_X5_run 6 E cX5_run RX5 wsX5_run) (x1 : Int32) (x2 : Int32) {K : Int32 → ST → Prop} (hK : ∀ (x3 : Int32) (σ : ST), K x3 σ → V l D (tysF ct) (wM ad ct) rm_X5_run 6 E 53 [(0, .ref (ad 0)), (1, .int x1), (2, .int x2), (3, .int x3)] [] σ) (hR : RetI l D (tysF ct) (wM ad ct) rm_X5_run 6 E cX5_run Q) :
    ∀ (n : Nat) (x3 : Int32) (x4 : Int32) (σ : ST), wp_X5_run_L23 x1 x2 K Q n x3 x4 σ → V l D (tysF ct) (wM ad ct) rm_X5_run 6 E 23 [(0, .ref (ad 0)), (1, .int x1), (2, .int x2), (3, .int x3), (4, .int x4)] [] σ := by
  intro n
  induction n with
  | zero => intro x3 x4 σ h; exact (h : False).elim
  | succ n ih =>
    intro x3 x4 σ h
    unfold wp_X5_run_L23 at h
    refine x_iload C 25 rfl 4 dX5_run_23 rfl ?_
    refine x_aload_n C 26 rfl 0 dX5_run_25 rfl rfl ?_
    refine x_get C 29 rfl (ref := RX5) 0 0 (gM_M ad ct _) rfl in_X5_run_X5 (by decide) fl_X5_run_62 rfl rfl dX5_run_26 ?_
    refine x_icmp_ge C 53 32 dX5_run_29 (by decide) rfl (fun c29 => ?_) (fun c29 => ?_)
    · have h := h.1 c29
      refine x_sub (lv' := [(0, .ref (ad 0)), (1, .int x1), (2, .int x2), (3, .int x3)]) [0, 1, 2, 3] rfl ?_
      exact hK _ _ h
    · have h := h.2 c29
      refine x_iload_n C 33 rfl 3 dX5_run_32 rfl rfl ?_
      refine x_aload_n C 34 rfl 0 dX5_run_33 rfl rfl ?_
      refine x_get C 37 rfl (ref := RX5) 0 7 (gM_M ad ct _) rfl in_X5_run_X5 (by decide) fl_X5_run_28 rfl rfl dX5_run_34 ?_
      refine x_iload C 39 rfl 4 dX5_run_37 rfl ?_
      have i5 := h.1
      have h := h.2
      refine x_iald C 40 rfl 7 0 (gM_M_state ad ct _) rfl i5 dX5_run_39 ?_
      refine x_iconst C 41 rfl 2 dX5_run_40 rfl ?_
      refine x_iload C 43 rfl 4 dX5_run_41 rfl ?_
      refine x_imul C 44 rfl dX5_run_43 ?_
      refine x_ishl C 45 rfl dX5_run_44 ?_
      refine x_ior C 46 rfl dX5_run_45 ?_
      refine x_ni (fun w6 ew6 => ?_)
      have h := h w6 ew6
      refine x_istore_n C 47 rfl [(3, .int w6), (0, .ref (ad 0)), (1, .int x1), (2, .int x2), (4, .int x4)] dX5_run_46 rfl (by decide) rfl ?_
      refine x_iinc C 50 rfl 4 (x4 + 1) [(4, .int (x4 + 1)), (3, .int w6), (0, .ref (ad 0)), (1, .int x1), (2, .int x2)] dX5_run_47 rfl rfl (by decide) rfl ?_
      refine x_goto C 23 dX5_run_50 (by decide) ?_
      refine x_sub (lv' := [(0, .ref (ad 0)), (1, .int x1), (2, .int x2), (3, .int w6), (4, .int (x4 + 1))]) [2, 3, 4, 1, 0] rfl ?_
      exact ih _ _ _ h
set_option maxRecDepth 100000 in
set_option maxHeartbeats 4000000 in
theorem v_X5_run_L82 {l : Launch} {D : va_G} {ad : Nat → Nat} {ct : Nat → ClassId} {E : XE}  {Q : Int32 → ST → Prop} (C : XFix D (tysF ct) (wM ad ct) rm_X5_run 6 E cX5_run RX5 wsX5_run) (x3 : Int32) (x4 : Int32) {K : ST → Prop} (hK : ∀ (σ : ST), K σ → V l D (tysF ct) (wM ad ct) rm_X5_run 6 E 110 [(0, .ref (ad 0)), (4, .int x4)] [] σ) (hR : RetI l D (tysF ct) (wM ad ct) rm_X5_run 6 E cX5_run Q) :
    ∀ (n : Nat) (x5 : Int32) (σ : ST), wp_X5_run_L82 x3 x4 K Q n x5 σ → V l D (tysF ct) (wM ad ct) rm_X5_run 6 E 82 [(0, .ref (ad 0)), (3, .int x3), (4, .int x4), (5, .int x5)] [] σ := by
  intro n
  induction n with
  | zero => intro x5 σ h; exact (h : False).elim
  | succ n ih =>
    intro x5 σ h
    unfold wp_X5_run_L82 at h
    refine x_iload C 84 rfl 3 dX5_run_82 rfl ?_
    refine x_aload_n C 85 rfl 0 dX5_run_84 rfl rfl ?_
    refine x_get C 88 rfl (ref := RX5) 0 0 (gM_M ad ct _) rfl in_X5_run_X5 (by decide) fl_X5_run_62 rfl rfl dX5_run_85 ?_
    refine x_icmp_ge C 110 91 dX5_run_88 (by decide) rfl (fun c88 => ?_) (fun c88 => ?_)
    · have h := h.1 c88
      refine x_sub (lv' := [(0, .ref (ad 0)), (4, .int x4)]) [0, 2] rfl ?_
      exact hK  _ h
    · have h := h.2 c88
      refine x_aload_n C 92 rfl 0 dX5_run_91 rfl rfl ?_
      refine x_get C 95 rfl (ref := RX5) 0 7 (gM_M ad ct _) rfl in_X5_run_X5 (by decide) fl_X5_run_28 rfl rfl dX5_run_92 ?_
      refine x_iload C 97 rfl 3 dX5_run_95 rfl ?_
      refine x_iload_n C 98 rfl 1 dX5_run_97 rfl rfl ?_
      refine x_iload C 100 rfl 3 dX5_run_98 rfl ?_
      refine x_cSI C 103 rfl (m_X5_part l D ad ct _ _ _ _ h) (va_cwS 2 C.1.2.2.2.2 gX5_run_X5_part rfl rfl rfl (by decide +kernel) ⟨Nat.le_of_ble_eq_true rfl, Nat.le_of_ble_eq_true rfl⟩) rfl rfl (Nat.le_of_ble_eq_true rfl) dX5_run_100 ?_
      intro r17 σ16 h
      have i18 := h.1
      have h := h.2
      obtain ⟨σ19, eσ19⟩ : ∃ z, z = sR σ16 7 (Int32.toNatClampNeg x5) r17 := ⟨_, rfl⟩
      have h := h σ19 eσ19
      refine x_iast C 104 rfl (σ' := σ19) 7 0 (gM_M_state ad ct _) rfl i18 (by rw [eσ19]; exact (sM_M_state ad ct _)) dX5_run_103 ?_
      refine x_iinc C 107 rfl 3 (x5 + 1) [(5, .int (x5 + 1)), (0, .ref (ad 0)), (3, .int x3), (4, .int x4)] dX5_run_104 rfl rfl (by decide) rfl ?_
      refine x_goto C 82 dX5_run_107 (by decide) ?_
      refine x_sub (lv' := [(0, .ref (ad 0)), (3, .int x3), (4, .int x4), (5, .int (x5 + 1))]) [1, 2, 3, 0] rfl ?_
      exact ih _ _ h
set_option maxRecDepth 100000 in
set_option maxHeartbeats 4000000 in
theorem m_X5_run (l : Launch) (D : va_G) (ad : Nat → Nat) (ct : Nat → ClassId) (x1 : Int32) (x2 : Int32) (σ : ST) (Q : Int32 → ST → Prop) (h : wp_X5_run x1 x2 σ Q) : CtI l D (tysF ct) (wM ad ct) yX5_run wsX5_run rm_X5_run [.ref (ad 0), .int x1, .int x2] σ Q := by
  refine CtI.of (wM_adr ad ct) (maxL := 6) [(0, .ref (ad 0)), (1, .int x1), (2, .int x2)] RX5 (by decide) rfl rfl (by show (lg_sl [.ref (ad 0), .int x1, .int x2]).length ≤ 6; exact Nat.le_of_ble_eq_true rfl) rfl rfl rfl ?_
  intro E C hR
  unfold wp_X5_run at h
  refine x_aload_n C 1 rfl 0 dX5_run_0 rfl rfl ?_
  refine x_iload_n C 2 rfl 1 dX5_run_1 rfl rfl ?_
  refine x_cVI C 5 rfl (m_X5_isAct l D ad ct _ _ _ h) (cwV 1 C.1.2.2.2.2 gX5_run_X5_isAct rfl rfl rfl (by decide +kernel) ⟨Nat.le_of_ble_eq_true rfl, Nat.le_of_ble_eq_true rfl⟩) ⟨0, 5, _, _, _, (gM_M ad ct _), rfl⟩ rfl rfl (Nat.le_of_ble_eq_true rfl) dX5_run_2 ?_
  intro r2 σ1 h
  refine x_if_eq C 16 8 dX5_run_5 (by decide) rfl (fun c5 => ?_) (fun c5 => ?_)
  · have h := h.1 c5
    refine x_iconst C 17 rfl (-1) dX5_run_16 rfl ?_
    exact hR _ _ _ _ dX5_run_17 h
  · have h := h.2 c5
    refine x_aload_n C 9 rfl 0 dX5_run_8 rfl rfl ?_
    refine x_iload_n C 10 rfl 2 dX5_run_9 rfl rfl ?_
    refine x_cVI C 13 rfl (m_X5_isAct l D ad ct _ _ _ h) (cwV 1 C.1.2.2.2.2 gX5_run_X5_isAct rfl rfl rfl (by decide +kernel) ⟨Nat.le_of_ble_eq_true rfl, Nat.le_of_ble_eq_true rfl⟩) ⟨0, 5, _, _, _, (gM_M ad ct _), rfl⟩ rfl rfl (Nat.le_of_ble_eq_true rfl) dX5_run_10 ?_
    intro r4 σ3 h
    refine x_if_ne C 18 16 dX5_run_13 (by decide) rfl (fun c13 => ?_) (fun c13 => ?_)
    · have h := h.1 c13
      refine x_iconst C 19 rfl 0 dX5_run_18 rfl ?_
      refine x_istore_n C 20 rfl [(3, .int 0), (0, .ref (ad 0)), (1, .int x1), (2, .int x2)] dX5_run_19 rfl (by decide) rfl ?_
      refine x_iconst C 21 rfl 0 dX5_run_20 rfl ?_
      refine x_istore C 23 rfl [(4, .int 0), (3, .int 0), (0, .ref (ad 0)), (1, .int x1), (2, .int x2)] dX5_run_21 (by decide) rfl ?_
      refine x_sub (lv' := [(0, .ref (ad 0)), (1, .int x1), (2, .int x2), (3, .int 0), (4, .int 0)]) [2, 3, 4, 1, 0] rfl ?_
      obtain ⟨n7, h⟩ := h
      refine v_X5_run_L23 C x1 x2 ?_ hR n7 _ _ _ h
      · intro y3_8 σ9 h
        refine x_aload_n C 54 rfl 0 dX5_run_53 rfl rfl ?_
        refine x_iload_n C 55 rfl 3 dX5_run_54 rfl rfl ?_
        refine x_iload_n C 56 rfl 1 dX5_run_55 rfl rfl ?_
        refine x_aload_n C 57 rfl 0 dX5_run_56 rfl rfl ?_
        refine x_get C 60 rfl (ref := RX5) 0 10 (gM_M ad ct _) rfl in_X5_run_X5 (by decide) fl_X5_run_188 rfl rfl dX5_run_57 ?_
        refine x_cVI C 63 rfl (m_X5_sent l D ad ct _ _ _ _ _ h) (cwV 3 C.1.2.2.2.2 gX5_run_X5_sent rfl rfl rfl (by decide +kernel) ⟨Nat.le_of_ble_eq_true rfl, Nat.le_of_ble_eq_true rfl⟩) ⟨0, 5, _, _, _, (gM_M ad ct _), rfl⟩ rfl rfl (Nat.le_of_ble_eq_true rfl) dX5_run_60 ?_
        intro r11 σ10 h
        refine x_istore_n C 64 rfl [(3, .int r11), (0, .ref (ad 0)), (1, .int x1), (2, .int x2)] dX5_run_63 rfl (by decide) rfl ?_
        refine x_aload_n C 65 rfl 1 dX5_run_64 rfl rfl ?_
        refine x_iload_n C 66 rfl 0 dX5_run_65 rfl rfl ?_
        refine x_iload_n C 67 rfl 3 dX5_run_66 rfl rfl ?_
        refine x_cVI C 70 rfl (m_X5_told l D ad ct _ _ _ _ h) (cwV 2 C.1.2.2.2.2 gX5_run_X5_told rfl rfl rfl (by decide +kernel) ⟨Nat.le_of_ble_eq_true rfl, Nat.le_of_ble_eq_true rfl⟩) ⟨0, 5, _, _, _, (gM_M ad ct _), rfl⟩ rfl rfl (Nat.le_of_ble_eq_true rfl) dX5_run_67 ?_
        intro r13 σ12 h
        refine x_istore C 72 rfl [(4, .int r13), (3, .int r11), (0, .ref (ad 0)), (1, .int x1), (2, .int x2)] dX5_run_70 (by decide) rfl ?_
        refine x_aload_n C 73 rfl 2 dX5_run_72 rfl rfl ?_
        refine x_iload_n C 74 rfl 1 dX5_run_73 rfl rfl ?_
        refine x_iload_n C 75 rfl 4 dX5_run_74 rfl rfl ?_
        refine x_cVI C 78 rfl (m_X5_heard l D ad ct _ _ _ _ h) (cwV 2 C.1.2.2.2.2 gX5_run_X5_heard rfl rfl rfl (by decide +kernel) ⟨Nat.le_of_ble_eq_true rfl, Nat.le_of_ble_eq_true rfl⟩) ⟨0, 5, _, _, _, (gM_M ad ct _), rfl⟩ rfl rfl (Nat.le_of_ble_eq_true rfl) dX5_run_75 ?_
        intro r15 σ14 h
        refine x_istore_n C 79 rfl [(3, .int r15), (4, .int r13), (0, .ref (ad 0)), (1, .int x1), (2, .int x2)] dX5_run_78 rfl (by decide) rfl ?_
        refine x_iconst C 80 rfl 0 dX5_run_79 rfl ?_
        refine x_istore C 82 rfl [(5, .int 0), (3, .int r15), (4, .int r13), (0, .ref (ad 0)), (1, .int x1), (2, .int x2)] dX5_run_80 (by decide) rfl ?_
        refine x_sub (lv' := [(0, .ref (ad 0)), (3, .int r15), (4, .int r13), (5, .int 0)]) [3, 1, 2, 0] rfl ?_
        obtain ⟨n20, h⟩ := h
        refine v_X5_run_L82 C r15 r13 ?_ hR n20 _ _ h
        · intro σ21 h
          refine x_aload_n C 111 rfl 0 dX5_run_110 rfl rfl ?_
          refine x_dup C 112 rfl dX5_run_111 rfl ?_
          refine x_get C 115 rfl (ref := RX5) 0 10 (gM_M ad ct _) rfl in_X5_run_X5 (by decide) fl_X5_run_188 rfl rfl dX5_run_112 ?_
          refine x_iconst C 116 rfl 1 dX5_run_115 rfl ?_
          refine x_iadd C 117 rfl dX5_run_116 ?_
          obtain ⟨σ22, eσ22⟩ : ∃ z, z = sI σ21 0 10 ((σ21.1 0 10) + 1) := ⟨_, rfl⟩
          have h := h σ22 eσ22
          refine x_put C 120 rfl (ref := RX5) (ty := .int) (σ' := σ22) 0 10 (gM_M ad ct _) rfl in_X5_run_X5 tyX5 tyX5_ok nmX5 (by decide) fl_X5_run_188 rfl rfl (by decide +kernel) rfl rfl (by show 10 < 20; decide) (by rw [eσ22]; exact (sM_M_ticks ad ct _)) dX5_run_117 ?_
          refine x_iload C 122 rfl 1 dX5_run_120 rfl ?_
          exact hR _ _ _ _ dX5_run_122 h
    · have h := h.2 c13
      refine x_iconst C 17 rfl (-1) dX5_run_16 rfl ?_
      exact hR _ _ _ _ dX5_run_17 h
abbrev rm_X5_state : Room := { frames := 2, cells := 0, slots := 0, locals := 43 }
theorem in_X5_state_X5 : ∀ w ∈ u_ws RX5 TX5 20, w ∈ wsX5_state := by decide +kernel
theorem fl_X5_state_28 : Cond.fieldLink RX5 28 RX5 (TX5 7).2.1 (TX5 7).2.2.1 ∈ wsX5_state := by decide +kernel
set_option maxRecDepth 100000 in
set_option maxHeartbeats 4000000 in
theorem m_X5_state (l : Launch) (D : va_G) (ad : Nat → Nat) (ct : Nat → ClassId) (x1 : Int32) (σ : ST) (Q : Int32 → ST → Prop) (h : wp_X5_state x1 σ Q) : CtI l D (tysF ct) (wM ad ct) yX5_state wsX5_state rm_X5_state [.ref (ad 0), .int x1] σ Q := by
  refine CtI.of (wM_adr ad ct) (maxL := 2) [(0, .ref (ad 0)), (1, .int x1)] RX5 (by decide) rfl rfl (by show (lg_sl [.ref (ad 0), .int x1]).length ≤ 2; exact Nat.le_of_ble_eq_true rfl) rfl rfl rfl ?_
  intro E C hR
  unfold wp_X5_state at h
  refine x_aload_n C 1 rfl 0 dX5_state_0 rfl rfl ?_
  refine x_iload_n C 2 rfl 1 dX5_state_1 rfl rfl ?_
  refine x_cVI C 5 rfl (m_X5_isThing l D ad ct _ _ _ h) (cwV 1 C.1.2.2.2.2 gX5_state_X5_isThing rfl rfl rfl (by decide +kernel) ⟨Nat.le_of_ble_eq_true rfl, Nat.le_of_ble_eq_true rfl⟩) ⟨0, 5, _, _, _, (gM_M ad ct _), rfl⟩ rfl rfl (Nat.le_of_ble_eq_true rfl) dX5_state_2 ?_
  intro r2 σ1 h
  refine x_if_eq C 17 8 dX5_state_5 (by decide) rfl (fun c5 => ?_) (fun c5 => ?_)
  · have h := h.1 c5
    refine x_iconst C 18 rfl (-1) dX5_state_17 rfl ?_
    exact hR _ _ _ _ dX5_state_18 h
  · have h := h.2 c5
    refine x_aload_n C 9 rfl 0 dX5_state_8 rfl rfl ?_
    refine x_get C 12 rfl (ref := RX5) 0 7 (gM_M ad ct _) rfl in_X5_state_X5 (by decide) fl_X5_state_28 rfl rfl dX5_state_9 ?_
    refine x_iload_n C 13 rfl 1 dX5_state_12 rfl rfl ?_
    have i3 := h.1
    have h := h.2
    refine x_iald C 14 rfl 7 0 (gM_M_state ad ct _) rfl i3 dX5_state_13 ?_
    refine x_goto C 18 dX5_state_14 (by decide) ?_
    exact hR _ _ _ _ dX5_state_18 h
abbrev rm_X5_ticks : Room := { frames := 0, cells := 0, slots := 0, locals := 0 }
theorem in_X5_ticks_X5 : ∀ w ∈ u_ws RX5 TX5 20, w ∈ wsX5_ticks := by decide +kernel
theorem fl_X5_ticks_188 : Cond.fieldLink RX5 188 RX5 (TX5 10).2.1 (TX5 10).2.2.1 ∈ wsX5_ticks := by decide +kernel
set_option maxRecDepth 100000 in
set_option maxHeartbeats 4000000 in
theorem m_X5_ticks (l : Launch) (D : va_G) (ad : Nat → Nat) (ct : Nat → ClassId) (σ : ST) (Q : Int32 → ST → Prop) (h : wp_X5_ticks σ Q) : CtI l D (tysF ct) (wM ad ct) yX5_ticks wsX5_ticks rm_X5_ticks [.ref (ad 0)] σ Q := by
  refine CtI.of (wM_adr ad ct) (maxL := 1) [(0, .ref (ad 0))] RX5 (by decide) rfl rfl (by show (lg_sl [.ref (ad 0)]).length ≤ 1; exact Nat.le_of_ble_eq_true rfl) rfl rfl rfl ?_
  intro E C hR
  unfold wp_X5_ticks at h
  refine x_aload_n C 1 rfl 0 dX5_ticks_0 rfl rfl ?_
  refine x_get C 4 rfl (ref := RX5) 0 10 (gM_M ad ct _) rfl in_X5_ticks_X5 (by decide) fl_X5_ticks_188 rfl rfl dX5_ticks_1 ?_
  exact hR _ _ _ _ dX5_ticks_4 h
abbrev rm_X5_gives : Room := { frames := 0, cells := 0, slots := 0, locals := 0 }
theorem in_X5_gives_X5 : ∀ w ∈ u_ws RX5 TX5 20, w ∈ wsX5_gives := by decide +kernel
theorem fl_X5_gives_62 : Cond.fieldLink RX5 62 RX5 (TX5 0).2.1 (TX5 0).2.2.1 ∈ wsX5_gives := by decide +kernel
theorem fl_X5_gives_16 : Cond.fieldLink RX5 16 RX5 (TX5 3).2.1 (TX5 3).2.2.1 ∈ wsX5_gives := by decide +kernel
set_option maxRecDepth 100000 in
set_option maxHeartbeats 4000000 in
theorem v_X5_gives_L2 {l : Launch} {D : va_G} {ad : Nat → Nat} {ct : Nat → ClassId} {E : XE}  {Q : ST → Prop} (C : XFix D (tysF ct) (wM ad ct) rm_X5_gives 3 E cX5_gives RX5 wsX5_gives) (x1 : Int32) (hR : RetV l D (tysF ct) (wM ad ct) rm_X5_gives 3 E cX5_gives Q) :
    ∀ (n : Nat) (x2 : Int32) (σ : ST), wp_X5_gives_L2 x1 Q n x2 σ → V l D (tysF ct) (wM ad ct) rm_X5_gives 3 E 2 [(0, .ref (ad 0)), (1, .int x1), (2, .int x2)] [] σ := by
  intro n
  induction n with
  | zero => intro x2 σ h; exact (h : False).elim
  | succ n ih =>
    intro x2 σ h
    unfold wp_X5_gives_L2 at h
    refine x_iload_n C 3 rfl 2 dX5_gives_2 rfl rfl ?_
    refine x_aload_n C 4 rfl 0 dX5_gives_3 rfl rfl ?_
    refine x_get C 7 rfl (ref := RX5) 0 0 (gM_M ad ct _) rfl in_X5_gives_X5 (by decide) fl_X5_gives_62 rfl rfl dX5_gives_4 ?_
    refine x_icmp_ge C 29 10 dX5_gives_7 (by decide) rfl (fun c7 => ?_) (fun c7 => ?_)
    · have h := h.1 c7
      exact hR _ _ _ dX5_gives_29 h
    · have h := h.2 c7
      refine x_aload_n C 11 rfl 0 dX5_gives_10 rfl rfl ?_
      refine x_get C 14 rfl (ref := RX5) 0 3 (gM_M ad ct _) rfl in_X5_gives_X5 (by decide) fl_X5_gives_16 rfl rfl dX5_gives_11 ?_
      refine x_iload_n C 15 rfl 2 dX5_gives_14 rfl rfl ?_
      refine x_iload_n C 16 rfl 1 dX5_gives_15 rfl rfl ?_
      refine x_iconst C 17 rfl 2 dX5_gives_16 rfl ?_
      refine x_iload_n C 18 rfl 2 dX5_gives_17 rfl rfl ?_
      refine x_imul C 19 rfl dX5_gives_18 ?_
      refine x_ishr C 20 rfl dX5_gives_19 ?_
      refine x_iconst C 21 rfl 3 dX5_gives_20 rfl ?_
      refine x_iand C 22 rfl dX5_gives_21 ?_
      have i1 := h.1
      have h := h.2
      obtain ⟨σ2, eσ2⟩ : ∃ z, z = sR σ 3 (Int32.toNatClampNeg x2) (((x1 : Int32) >>> (((2 * x2) : Int32) &&& 31)) &&& 3) := ⟨_, rfl⟩
      have h := h σ2 eσ2
      refine x_iast C 23 rfl (σ' := σ2) 3 0 (gM_M_wall ad ct _) rfl i1 (by rw [eσ2]; exact (sM_M_wall ad ct _)) dX5_gives_22 ?_
      refine x_iinc C 26 rfl 2 (x2 + 1) [(2, .int (x2 + 1)), (0, .ref (ad 0)), (1, .int x1)] dX5_gives_23 rfl rfl (by decide) rfl ?_
      refine x_goto C 2 dX5_gives_26 (by decide) ?_
      refine x_sub (lv' := [(0, .ref (ad 0)), (1, .int x1), (2, .int (x2 + 1))]) [1, 2, 0] rfl ?_
      exact ih _ _ h
set_option maxRecDepth 100000 in
set_option maxHeartbeats 4000000 in
theorem m_X5_gives (l : Launch) (D : va_G) (ad : Nat → Nat) (ct : Nat → ClassId) (x1 : Int32) (σ : ST) (Q : ST → Prop) (h : wp_X5_gives x1 σ Q) : CtV l D (tysF ct) (wM ad ct) yX5_gives wsX5_gives rm_X5_gives [.ref (ad 0), .int x1] σ Q := by
  refine CtV.of (wM_adr ad ct) (maxL := 3) [(0, .ref (ad 0)), (1, .int x1)] RX5 (by decide) rfl rfl (by show (lg_sl [.ref (ad 0), .int x1]).length ≤ 3; exact Nat.le_of_ble_eq_true rfl) rfl rfl rfl ?_
  intro E C hR
  unfold wp_X5_gives at h
  refine x_iconst C 1 rfl 0 dX5_gives_0 rfl ?_
  refine x_istore_n C 2 rfl [(2, .int 0), (0, .ref (ad 0)), (1, .int x1)] dX5_gives_1 rfl (by decide) rfl ?_
  refine x_sub (lv' := [(0, .ref (ad 0)), (1, .int x1), (2, .int 0)]) [1, 2, 0] rfl ?_
  obtain ⟨n3, h⟩ := h
  refine v_X5_gives_L2 C x1 hR n3 _ _ h
abbrev rm_X5_walls : Room := { frames := 22, cells := 0, slots := 0, locals := 551 }
theorem in_X5_walls_X5 : ∀ w ∈ u_ws RX5 TX5 20, w ∈ wsX5_walls := by decide +kernel
theorem fl_X5_walls_62 : Cond.fieldLink RX5 62 RX5 (TX5 0).2.1 (TX5 0).2.2.1 ∈ wsX5_walls := by decide +kernel
set_option maxRecDepth 100000 in
set_option maxHeartbeats 4000000 in
theorem v_X5_walls_L43 {l : Launch} {D : va_G} {ad : Nat → Nat} {ct : Nat → ClassId} {E : XE}  {Q : Int32 → ST → Prop} (C : XFix D (tysF ct) (wM ad ct) rm_X5_walls 7 E cX5_walls RX5 wsX5_walls) (x1 : Int32) (x2 : Int32) (x3 : Int32) (x4 : Int32) {K : Int32 → ST → Prop} (hK : ∀ (x5 : Int32) (σ : ST), K x5 σ → V l D (tysF ct) (wM ad ct) rm_X5_walls 7 E 105 [(0, .ref (ad 0)), (3, .int x3), (4, .int x4), (5, .int x5)] [] σ) (hR : RetI l D (tysF ct) (wM ad ct) rm_X5_walls 7 E cX5_walls Q) :
    ∀ (n : Nat) (x5 : Int32) (x6 : Int32) (σ : ST), wp_X5_walls_L43 x1 x2 x3 x4 K Q n x5 x6 σ → V l D (tysF ct) (wM ad ct) rm_X5_walls 7 E 43 [(0, .ref (ad 0)), (1, .int x1), (2, .int x2), (3, .int x3), (4, .int x4), (5, .int x5), (6, .int x6)] [] σ := by
  intro n
  induction n with
  | zero => intro x5 x6 σ h; exact (h : False).elim
  | succ n ih =>
    intro x5 x6 σ h
    unfold wp_X5_walls_L43 at h
    refine x_iload C 45 rfl 6 dX5_walls_43 rfl ?_
    refine x_iconst C 46 rfl 1 dX5_walls_45 rfl ?_
    refine x_iconst C 47 rfl 2 dX5_walls_46 rfl ?_
    refine x_aload_n C 48 rfl 0 dX5_walls_47 rfl rfl ?_
    refine x_get C 51 rfl (ref := RX5) 0 0 (gM_M ad ct _) rfl in_X5_walls_X5 (by decide) fl_X5_walls_62 rfl rfl dX5_walls_48 ?_
    refine x_imul C 52 rfl dX5_walls_51 ?_
    refine x_ishl C 53 rfl dX5_walls_52 ?_
    refine x_icmp_ge C 105 56 dX5_walls_53 (by decide) rfl (fun c53 => ?_) (fun c53 => ?_)
    · have h := h.1 c53
      refine x_sub (lv' := [(0, .ref (ad 0)), (3, .int x3), (4, .int x4), (5, .int x5)]) [0, 3, 4, 5] rfl ?_
      exact hK _ _ h
    · have h := h.2 c53
      refine x_iload C 58 rfl 5 dX5_walls_56 rfl ?_
      refine x_iconst C 59 rfl (-1) dX5_walls_58 rfl ?_
      refine x_icmp_eq C 80 62 dX5_walls_59 (by decide) rfl (fun c59 => ?_) (fun c59 => ?_)
      · have h := h.1 c59
        refine x_aload_n C 81 rfl 0 dX5_walls_80 rfl rfl ?_
        refine x_iload C 83 rfl 6 dX5_walls_81 rfl ?_
        refine x_cVV C 86 rfl (m_X5_gives l D ad ct _ _ _ h) (cwV 1 C.1.2.2.2.2 gX5_walls_X5_gives rfl rfl rfl (by decide +kernel) ⟨Nat.le_of_ble_eq_true rfl, Nat.le_of_ble_eq_true rfl⟩) ⟨0, 5, _, _, _, (gM_M ad ct _), rfl⟩ rfl rfl (Nat.le_of_ble_eq_true rfl) dX5_walls_83 ?_
        intro σ9 h
        refine x_aload_n C 87 rfl 0 dX5_walls_86 rfl rfl ?_
        refine x_iload_n C 88 rfl 2 dX5_walls_87 rfl rfl ?_
        refine x_cVI C 91 rfl (m_X5_letters l D ad ct _ _ _ h) (cwV 1 C.1.2.2.2.2 gX5_walls_X5_letters rfl rfl rfl (by decide +kernel) ⟨Nat.le_of_ble_eq_true rfl, Nat.le_of_ble_eq_true rfl⟩) ⟨0, 5, _, _, _, (gM_M ad ct _), rfl⟩ rfl rfl (Nat.le_of_ble_eq_true rfl) dX5_walls_88 ?_
        intro r11 σ10 h
        refine x_iload_n C 92 rfl 1 dX5_walls_91 rfl rfl ?_
        refine x_icmp_gt C 99 95 dX5_walls_92 (by decide) rfl (fun c92 => ?_) (fun c92 => ?_)
        · have h := h.1 c92
          refine x_iinc C 102 rfl 6 (x6 + 1) [(6, .int (x6 + 1)), (0, .ref (ad 0)), (1, .int x1), (2, .int x2), (3, .int x3), (4, .int x4), (5, .int x5)] dX5_walls_99 rfl rfl (by decide) rfl ?_
          refine x_goto C 43 dX5_walls_102 (by decide) ?_
          refine x_sub (lv' := [(0, .ref (ad 0)), (1, .int x1), (2, .int x2), (3, .int x3), (4, .int x4), (5, .int x5), (6, .int (x6 + 1))]) [1, 2, 3, 4, 5, 6, 0] rfl ?_
          exact ih _ _ _ h
        · have h := h.2 c92
          refine x_iload C 97 rfl 6 dX5_walls_95 rfl ?_
          refine x_istore C 99 rfl [(5, .int x6), (0, .ref (ad 0)), (1, .int x1), (2, .int x2), (3, .int x3), (4, .int x4), (6, .int x6)] dX5_walls_97 (by decide) rfl ?_
          refine x_iinc C 102 rfl 6 (x6 + 1) [(6, .int (x6 + 1)), (5, .int x6), (0, .ref (ad 0)), (1, .int x1), (2, .int x2), (3, .int x3), (4, .int x4)] dX5_walls_99 rfl rfl (by decide) rfl ?_
          refine x_goto C 43 dX5_walls_102 (by decide) ?_
          refine x_sub (lv' := [(0, .ref (ad 0)), (1, .int x1), (2, .int x2), (3, .int x3), (4, .int x4), (5, .int x6), (6, .int (x6 + 1))]) [2, 3, 4, 5, 6, 1, 0] rfl ?_
          exact ih _ _ _ h
      · have h := h.2 c59
        refine x_aload_n C 63 rfl 0 dX5_walls_62 rfl rfl ?_
        refine x_iload C 65 rfl 6 dX5_walls_63 rfl ?_
        refine x_cVI C 68 rfl (m_X5_costs l D ad ct _ _ _ h) (cwV 1 C.1.2.2.2.2 gX5_walls_X5_costs rfl rfl rfl (by decide +kernel) ⟨Nat.le_of_ble_eq_true rfl, Nat.le_of_ble_eq_true rfl⟩) ⟨0, 5, _, _, _, (gM_M ad ct _), rfl⟩ rfl rfl (Nat.le_of_ble_eq_true rfl) dX5_walls_65 ?_
        intro r13 σ12 h
        refine x_aload_n C 69 rfl 0 dX5_walls_68 rfl rfl ?_
        refine x_iload C 71 rfl 5 dX5_walls_69 rfl ?_
        refine x_cVI C 74 rfl (m_X5_costs l D ad ct _ _ _ h) (cwV 1 C.1.2.2.2.2 gX5_walls_X5_costs rfl rfl rfl (by decide +kernel) ⟨Nat.le_of_ble_eq_true rfl, Nat.le_of_ble_eq_true rfl⟩) ⟨0, 5, _, _, _, (gM_M ad ct _), rfl⟩ rfl rfl (Nat.le_of_ble_eq_true rfl) dX5_walls_71 ?_
        intro r15 σ14 h
        refine x_icmp_lt C 80 77 dX5_walls_74 (by decide) rfl (fun c74 => ?_) (fun c74 => ?_)
        · have h := h.1 c74
          refine x_aload_n C 81 rfl 0 dX5_walls_80 rfl rfl ?_
          refine x_iload C 83 rfl 6 dX5_walls_81 rfl ?_
          refine x_cVV C 86 rfl (m_X5_gives l D ad ct _ _ _ h) (cwV 1 C.1.2.2.2.2 gX5_walls_X5_gives rfl rfl rfl (by decide +kernel) ⟨Nat.le_of_ble_eq_true rfl, Nat.le_of_ble_eq_true rfl⟩) ⟨0, 5, _, _, _, (gM_M ad ct _), rfl⟩ rfl rfl (Nat.le_of_ble_eq_true rfl) dX5_walls_83 ?_
          intro σ16 h
          refine x_aload_n C 87 rfl 0 dX5_walls_86 rfl rfl ?_
          refine x_iload_n C 88 rfl 2 dX5_walls_87 rfl rfl ?_
          refine x_cVI C 91 rfl (m_X5_letters l D ad ct _ _ _ h) (cwV 1 C.1.2.2.2.2 gX5_walls_X5_letters rfl rfl rfl (by decide +kernel) ⟨Nat.le_of_ble_eq_true rfl, Nat.le_of_ble_eq_true rfl⟩) ⟨0, 5, _, _, _, (gM_M ad ct _), rfl⟩ rfl rfl (Nat.le_of_ble_eq_true rfl) dX5_walls_88 ?_
          intro r18 σ17 h
          refine x_iload_n C 92 rfl 1 dX5_walls_91 rfl rfl ?_
          refine x_icmp_gt C 99 95 dX5_walls_92 (by decide) rfl (fun c92 => ?_) (fun c92 => ?_)
          · have h := h.1 c92
            refine x_iinc C 102 rfl 6 (x6 + 1) [(6, .int (x6 + 1)), (0, .ref (ad 0)), (1, .int x1), (2, .int x2), (3, .int x3), (4, .int x4), (5, .int x5)] dX5_walls_99 rfl rfl (by decide) rfl ?_
            refine x_goto C 43 dX5_walls_102 (by decide) ?_
            refine x_sub (lv' := [(0, .ref (ad 0)), (1, .int x1), (2, .int x2), (3, .int x3), (4, .int x4), (5, .int x5), (6, .int (x6 + 1))]) [1, 2, 3, 4, 5, 6, 0] rfl ?_
            exact ih _ _ _ h
          · have h := h.2 c92
            refine x_iload C 97 rfl 6 dX5_walls_95 rfl ?_
            refine x_istore C 99 rfl [(5, .int x6), (0, .ref (ad 0)), (1, .int x1), (2, .int x2), (3, .int x3), (4, .int x4), (6, .int x6)] dX5_walls_97 (by decide) rfl ?_
            refine x_iinc C 102 rfl 6 (x6 + 1) [(6, .int (x6 + 1)), (5, .int x6), (0, .ref (ad 0)), (1, .int x1), (2, .int x2), (3, .int x3), (4, .int x4)] dX5_walls_99 rfl rfl (by decide) rfl ?_
            refine x_goto C 43 dX5_walls_102 (by decide) ?_
            refine x_sub (lv' := [(0, .ref (ad 0)), (1, .int x1), (2, .int x2), (3, .int x3), (4, .int x4), (5, .int x6), (6, .int (x6 + 1))]) [2, 3, 4, 5, 6, 1, 0] rfl ?_
            exact ih _ _ _ h
        · have h := h.2 c74
          refine x_goto C 99 dX5_walls_77 (by decide) ?_
          refine x_iinc C 102 rfl 6 (x6 + 1) [(6, .int (x6 + 1)), (0, .ref (ad 0)), (1, .int x1), (2, .int x2), (3, .int x3), (4, .int x4), (5, .int x5)] dX5_walls_99 rfl rfl (by decide) rfl ?_
          refine x_goto C 43 dX5_walls_102 (by decide) ?_
          refine x_sub (lv' := [(0, .ref (ad 0)), (1, .int x1), (2, .int x2), (3, .int x3), (4, .int x4), (5, .int x5), (6, .int (x6 + 1))]) [1, 2, 3, 4, 5, 6, 0] rfl ?_
          exact ih _ _ _ h
set_option maxRecDepth 100000 in
set_option maxHeartbeats 4000000 in
theorem m_X5_walls (l : Launch) (D : va_G) (ad : Nat → Nat) (ct : Nat → ClassId) (x1 : Int32) (x2 : Int32) (x3 : Int32) (σ : ST) (Q : Int32 → ST → Prop) (h : wp_X5_walls x1 x2 x3 σ Q) : CtI l D (tysF ct) (wM ad ct) yX5_walls wsX5_walls rm_X5_walls [.ref (ad 0), .int x1, .int x2, .int x3] σ Q := by
  refine CtI.of (wM_adr ad ct) (maxL := 7) [(0, .ref (ad 0)), (1, .int x1), (2, .int x2), (3, .int x3)] RX5 (by decide) rfl rfl (by show (lg_sl [.ref (ad 0), .int x1, .int x2, .int x3]).length ≤ 7; exact Nat.le_of_ble_eq_true rfl) rfl rfl rfl ?_
  intro E C hR
  unfold wp_X5_walls at h
  refine x_iload_n C 1 rfl 1 dX5_walls_0 rfl rfl ?_
  refine x_iconst C 2 rfl 1 dX5_walls_1 rfl ?_
  refine x_sipush C 5 rfl 4096 dX5_walls_2 rfl ?_
  refine x_cSI C 8 rfl (m_X5_isIn l D ad ct _ _ _ _ _ h) (va_cwS 3 C.1.2.2.2.2 gX5_walls_X5_isIn rfl rfl rfl (by decide +kernel) ⟨Nat.le_of_ble_eq_true rfl, Nat.le_of_ble_eq_true rfl⟩) rfl rfl (Nat.le_of_ble_eq_true rfl) dX5_walls_5 ?_
  intro r2 σ1 h
  refine x_if_eq C 29 11 dX5_walls_8 (by decide) rfl (fun c8 => ?_) (fun c8 => ?_)
  · have h := h.1 c8
    refine x_iconst C 30 rfl (-1) dX5_walls_29 rfl ?_
    exact hR _ _ _ _ dX5_walls_30 h
  · have h := h.2 c8
    refine x_iload_n C 12 rfl 2 dX5_walls_11 rfl rfl ?_
    refine x_iconst C 13 rfl 0 dX5_walls_12 rfl ?_
    refine x_iconst C 14 rfl 2 dX5_walls_13 rfl ?_
    refine x_cSI C 17 rfl (m_X5_isIn l D ad ct _ _ _ _ _ h) (va_cwS 3 C.1.2.2.2.2 gX5_walls_X5_isIn rfl rfl rfl (by decide +kernel) ⟨Nat.le_of_ble_eq_true rfl, Nat.le_of_ble_eq_true rfl⟩) rfl rfl (Nat.le_of_ble_eq_true rfl) dX5_walls_14 ?_
    intro r4 σ3 h
    refine x_if_eq C 29 20 dX5_walls_17 (by decide) rfl (fun c17 => ?_) (fun c17 => ?_)
    · have h := h.1 c17
      refine x_iconst C 30 rfl (-1) dX5_walls_29 rfl ?_
      exact hR _ _ _ _ dX5_walls_30 h
    · have h := h.2 c17
      refine x_iload_n C 21 rfl 3 dX5_walls_20 rfl rfl ?_
      refine x_iconst C 22 rfl 0 dX5_walls_21 rfl ?_
      refine x_iconst C 23 rfl 1 dX5_walls_22 rfl ?_
      refine x_cSI C 26 rfl (m_X5_isIn l D ad ct _ _ _ _ _ h) (va_cwS 3 C.1.2.2.2.2 gX5_walls_X5_isIn rfl rfl rfl (by decide +kernel) ⟨Nat.le_of_ble_eq_true rfl, Nat.le_of_ble_eq_true rfl⟩) rfl rfl (Nat.le_of_ble_eq_true rfl) dX5_walls_23 ?_
      intro r6 σ5 h
      refine x_if_ne C 31 29 dX5_walls_26 (by decide) rfl (fun c26 => ?_) (fun c26 => ?_)
      · have h := h.1 c26
        refine x_aload_n C 32 rfl 0 dX5_walls_31 rfl rfl ?_
        refine x_cVI C 35 rfl (m_X5_wallsNow l D ad ct _ _ h) (cwV 0 C.1.2.2.2.2 gX5_walls_X5_wallsNow rfl rfl rfl (by decide +kernel) ⟨Nat.le_of_ble_eq_true rfl, Nat.le_of_ble_eq_true rfl⟩) ⟨0, 5, _, _, _, (gM_M ad ct _), rfl⟩ rfl rfl (Nat.le_of_ble_eq_true rfl) dX5_walls_32 ?_
        intro r8 σ7 h
        refine x_istore C 37 rfl [(4, .int r8), (0, .ref (ad 0)), (1, .int x1), (2, .int x2), (3, .int x3)] dX5_walls_35 (by decide) rfl ?_
        refine x_iconst C 38 rfl (-1) dX5_walls_37 rfl ?_
        refine x_istore C 40 rfl [(5, .int (-1)), (4, .int r8), (0, .ref (ad 0)), (1, .int x1), (2, .int x2), (3, .int x3)] dX5_walls_38 (by decide) rfl ?_
        refine x_iconst C 41 rfl 0 dX5_walls_40 rfl ?_
        refine x_istore C 43 rfl [(6, .int 0), (5, .int (-1)), (4, .int r8), (0, .ref (ad 0)), (1, .int x1), (2, .int x2), (3, .int x3)] dX5_walls_41 (by decide) rfl ?_
        refine x_sub (lv' := [(0, .ref (ad 0)), (1, .int x1), (2, .int x2), (3, .int x3), (4, .int r8), (5, .int (-1)), (6, .int 0)]) [3, 4, 5, 6, 2, 1, 0] rfl ?_
        obtain ⟨n19, h⟩ := h
        refine v_X5_walls_L43 C x1 x2 x3 r8 ?_ hR n19 _ _ _ h
        · intro y5_20 σ21 h
          refine x_aload_n C 106 rfl 0 dX5_walls_105 rfl rfl ?_
          refine x_iload C 108 rfl 2 dX5_walls_106 rfl ?_
          refine x_cVV C 111 rfl (m_X5_gives l D ad ct _ _ _ h) (cwV 1 C.1.2.2.2.2 gX5_walls_X5_gives rfl rfl rfl (by decide +kernel) ⟨Nat.le_of_ble_eq_true rfl, Nat.le_of_ble_eq_true rfl⟩) ⟨0, 5, _, _, _, (gM_M ad ct _), rfl⟩ rfl rfl (Nat.le_of_ble_eq_true rfl) dX5_walls_108 ?_
          intro σ22 h
          refine x_iload C 113 rfl 3 dX5_walls_111 rfl ?_
          refine x_iconst C 114 rfl (-1) dX5_walls_113 rfl ?_
          refine x_icmp_ne C 121 117 dX5_walls_114 (by decide) rfl (fun c114 => ?_) (fun c114 => ?_)
          · have h := h.1 c114
            refine x_iload_n C 122 rfl 1 dX5_walls_121 rfl rfl ?_
            refine x_if_ne C 134 125 dX5_walls_122 (by decide) rfl (fun c122 => ?_) (fun c122 => ?_)
            · have h := h.1 c122
              refine x_iload C 136 rfl 3 dX5_walls_134 rfl ?_
              exact hR _ _ _ _ dX5_walls_136 h
            · have h := h.2 c122
              refine x_aload_n C 126 rfl 0 dX5_walls_125 rfl rfl ?_
              refine x_iload C 128 rfl 3 dX5_walls_126 rfl ?_
              refine x_cVI C 131 rfl (m_X5_costs l D ad ct _ _ _ h) (cwV 1 C.1.2.2.2.2 gX5_walls_X5_costs rfl rfl rfl (by decide +kernel) ⟨Nat.le_of_ble_eq_true rfl, Nat.le_of_ble_eq_true rfl⟩) ⟨0, 5, _, _, _, (gM_M ad ct _), rfl⟩ rfl rfl (Nat.le_of_ble_eq_true rfl) dX5_walls_128 ?_
              intro r24 σ23 h
              refine x_goto C 136 dX5_walls_131 (by decide) ?_
              exact hR _ _ _ _ dX5_walls_136 h
          · have h := h.2 c114
            refine x_iconst C 118 rfl (-1) dX5_walls_117 rfl ?_
            refine x_goto C 136 dX5_walls_118 (by decide) ?_
            exact hR _ _ _ _ dX5_walls_136 h
      · have h := h.2 c26
        refine x_iconst C 30 rfl (-1) dX5_walls_29 rfl ?_
        exact hR _ _ _ _ dX5_walls_30 h
abbrev rm_X5_give : Room := { frames := 1, cells := 0, slots := 0, locals := 22 }
set_option maxRecDepth 100000 in
set_option maxHeartbeats 4000000 in
theorem m_X5_give (l : Launch) (D : va_G) (ad : Nat → Nat) (ct : Nat → ClassId) (x1 : Int32) (σ : ST) (Q : Int32 → ST → Prop) (h : wp_X5_give x1 σ Q) : CtI l D (tysF ct) (wM ad ct) yX5_give wsX5_give rm_X5_give [.ref (ad 0), .int x1] σ Q := by
  refine CtI.ofZ (wM_adr ad ct) (maxL := 2) [(0, .ref (ad 0)), (1, .int x1)] RX5 (by decide) rfl rfl (by show (lg_sl [.ref (ad 0), .int x1]).length ≤ 2; exact Nat.le_of_ble_eq_true rfl) rfl rfl rfl ?_
  intro E C hR
  unfold wp_X5_give at h
  refine x_iload_n C 1 rfl 1 dX5_give_0 rfl rfl ?_
  refine x_iconst C 2 rfl 0 dX5_give_1 rfl ?_
  refine x_bipush C 4 rfl 63 dX5_give_2 rfl ?_
  refine x_cSI C 7 rfl (m_X5_isIn l D ad ct _ _ _ _ _ h) (va_cwS 3 C.1.2.2.2.2 gX5_give_X5_isIn rfl rfl rfl (by decide +kernel) ⟨Nat.le_of_ble_eq_true rfl, Nat.le_of_ble_eq_true rfl⟩) rfl rfl (Nat.le_of_ble_eq_true rfl) dX5_give_4 ?_
  intro r2 σ1 h
  refine x_if_ne C 12 10 dX5_give_7 (by decide) rfl (fun c7 => ?_) (fun c7 => ?_)
  · have h := h.1 c7
    refine x_aload_n C 13 rfl 0 dX5_give_12 rfl rfl ?_
    refine x_iload_n C 14 rfl 1 dX5_give_13 rfl rfl ?_
    refine x_cVV C 17 rfl (m_X5_gives l D ad ct _ _ _ h) (cwV 1 C.1.2.2.2.2 gX5_give_X5_gives rfl rfl rfl (by decide +kernel) ⟨Nat.le_of_ble_eq_true rfl, Nat.le_of_ble_eq_true rfl⟩) ⟨0, 5, _, _, _, (gM_M ad ct _), rfl⟩ rfl rfl (Nat.le_of_ble_eq_true rfl) dX5_give_14 ?_
    intro σ3 h
    refine x_iconst C 18 rfl 1 dX5_give_17 rfl ?_
    exact hR _ _ _ _ dX5_give_18 (by decide) h
  · have h := h.2 c7
    refine x_iconst C 11 rfl 0 dX5_give_10 rfl ?_
    exact hR _ _ _ _ dX5_give_11 (by decide) h
