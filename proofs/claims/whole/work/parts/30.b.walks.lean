abbrev rm_X1_met : Room := { frames := 1, cells := 0, slots := 0, locals := 22 }
theorem in_X1_met_X1 : ∀ w ∈ u_ws RX1 TX1 7, w ∈ wsX1_met := by decide +kernel
theorem fl_X1_met_9 : Cond.fieldLink RX1 9 RX1 (TX1 0).2.1 (TX1 0).2.2.1 ∈ wsX1_met := by decide +kernel
theorem fl_X1_met_24 : Cond.fieldLink RX1 24 RX1 (TX1 4).2.1 (TX1 4).2.2.1 ∈ wsX1_met := by decide +kernel
set_option maxRecDepth 100000 in
set_option maxHeartbeats 4000000 in
theorem m_X1_met (l : Launch) (D : va_G) (ad : Nat → Nat) (ct : Nat → ClassId) (x1 : Int32) (x2 : Int32) (x3 : Int32) (x4 : Int32) (σ : ST) (Q : Int32 → ST → Prop) (h : wp_X1_met x1 x2 x3 x4 σ Q) : CtI l D (tysF ct) (wC ad ct) yX1_met wsX1_met rm_X1_met [.ref (ad 10), .int x1, .int x2, .int x3, .int x4] σ Q := by
  refine CtI.of (wC_adr ad ct) (maxL := 5) [(0, .ref (ad 10)), (1, .int x1), (2, .int x2), (3, .int x3), (4, .int x4)] RX1 (by decide) rfl rfl (by show (lg_sl [.ref (ad 10), .int x1, .int x2, .int x3, .int x4]).length ≤ 5; exact Nat.le_of_ble_eq_true rfl) rfl rfl rfl ?_
  intro E C hR
  unfold wp_X1_met at h
  refine x_aload_n C 1 rfl 0 dX1_met_0 rfl rfl ?_
  refine x_iload_n C 2 rfl 1 dX1_met_1 rfl rfl ?_
  refine x_iload C 4 rfl 4 dX1_met_2 rfl ?_
  refine x_cVI C 7 rfl (m_X1_isCleaned l D ad ct _ _ _ _ h) (cwV 2 C.1.2.2.2.2 gX1_met_X1_isCleaned rfl rfl rfl (by decide +kernel) ⟨Nat.le_of_ble_eq_true rfl, Nat.le_of_ble_eq_true rfl⟩) ⟨10, 1, _, _, _, (gC_R ad ct _), rfl⟩ rfl rfl (Nat.le_of_ble_eq_true rfl) dX1_met_4 ?_
  intro r2 σ1 h
  refine x_if_eq C 17 10 dX1_met_7 (by decide) rfl (fun c7 => ?_) (fun c7 => ?_)
  · have h := h.1 c7
    refine x_iload_n C 18 rfl 3 dX1_met_17 rfl rfl ?_
    refine x_iconst C 19 rfl 3 dX1_met_18 rfl ?_
    refine x_icmp_lt C 26 22 dX1_met_19 (by decide) rfl (fun c19 => ?_) (fun c19 => ?_)
    · have h := h.1 c19
      refine x_aload_n C 27 rfl 0 dX1_met_26 rfl rfl ?_
      refine x_get C 30 rfl (ref := RX1) 10 0 (gC_R ad ct _) rfl in_X1_met_X1 (by decide) fl_X1_met_9 rfl rfl dX1_met_27 ?_
      refine x_iload_n C 31 rfl 1 dX1_met_30 rfl rfl ?_
      refine x_iload_n C 32 rfl 3 dX1_met_31 rfl rfl ?_
      refine x_cSI C 35 rfl (m_X1_place l D ad ct _ _ _ _ h) (va_cwS 2 C.1.2.2.2.2 gX1_met_X1_place rfl rfl rfl (by decide +kernel) ⟨Nat.le_of_ble_eq_true rfl, Nat.le_of_ble_eq_true rfl⟩) rfl rfl (Nat.le_of_ble_eq_true rfl) dX1_met_32 ?_
      intro r4 σ3 h
      refine x_iload_n C 36 rfl 2 dX1_met_35 rfl rfl ?_
      refine x_iadd C 37 rfl dX1_met_36 ?_
      have i5 := h.1
      have h := h.2
      refine x_iald C 38 rfl 11 0 (gC_R_sentTo ad ct _) rfl i5 dX1_met_37 ?_
      exact hR _ _ _ _ dX1_met_38 h
    · have h := h.2 c19
      refine x_iload_n C 23 rfl 2 dX1_met_22 rfl rfl ?_
      refine x_goto C 38 dX1_met_23 (by decide) ?_
      exact hR _ _ _ _ dX1_met_38 h
  · have h := h.2 c7
    refine x_aload_n C 11 rfl 0 dX1_met_10 rfl rfl ?_
    refine x_get C 14 rfl (ref := RX1) 10 4 (gC_R ad ct _) rfl in_X1_met_X1 (by decide) fl_X1_met_24 rfl rfl dX1_met_11 ?_
    refine x_iload_n C 15 rfl 1 dX1_met_14 rfl rfl ?_
    have i6 := h.1
    have h := h.2
    refine x_iald C 16 rfl 15 0 (gC_R_firsts ad ct _) rfl i6 dX1_met_15 ?_
    exact hR _ _ _ _ dX1_met_16 h
abbrev rm_X1_answer : Room := { frames := 1, cells := 0, slots := 0, locals := 21 }
theorem in_X1_answer_X1 : ∀ w ∈ u_ws RX1 TX1 7, w ∈ wsX1_answer := by decide +kernel
theorem fl_X1_answer_18 : Cond.fieldLink RX1 18 RX1 (TX1 2).2.1 (TX1 2).2.2.1 ∈ wsX1_answer := by decide +kernel
set_option maxRecDepth 100000 in
set_option maxHeartbeats 4000000 in
theorem m_X1_answer (l : Launch) (D : va_G) (ad : Nat → Nat) (ct : Nat → ClassId) (x1 : Int32) (x2 : Int32) (x3 : Int32) (σ : ST) (Q : Int32 → ST → Prop) (h : wp_X1_answer x1 x2 x3 σ Q) : CtI l D (tysF ct) (wC ad ct) yX1_answer wsX1_answer rm_X1_answer [.ref (ad 10), .int x1, .int x2, .int x3] σ Q := by
  refine CtI.of (wC_adr ad ct) (maxL := 4) [(0, .ref (ad 10)), (1, .int x1), (2, .int x2), (3, .int x3)] RX1 (by decide) rfl rfl (by show (lg_sl [.ref (ad 10), .int x1, .int x2, .int x3]).length ≤ 4; exact Nat.le_of_ble_eq_true rfl) rfl rfl rfl ?_
  intro E C hR
  unfold wp_X1_answer at h
  refine x_iload_n C 1 rfl 3 dX1_answer_0 rfl rfl ?_
  refine x_iconst C 2 rfl 3 dX1_answer_1 rfl ?_
  refine x_icmp_lt C 9 5 dX1_answer_2 (by decide) rfl (fun c2 => ?_) (fun c2 => ?_)
  · have h := h.1 c2
    refine x_aload_n C 10 rfl 0 dX1_answer_9 rfl rfl ?_
    refine x_get C 13 rfl (ref := RX1) 10 2 (gC_R ad ct _) rfl in_X1_answer_X1 (by decide) fl_X1_answer_18 rfl rfl dX1_answer_10 ?_
    refine x_iload_n C 14 rfl 1 dX1_answer_13 rfl rfl ?_
    refine x_iload_n C 15 rfl 3 dX1_answer_14 rfl rfl ?_
    refine x_cSI C 18 rfl (m_X1_place l D ad ct _ _ _ _ h) (va_cwS 2 C.1.2.2.2.2 gX1_answer_X1_place rfl rfl rfl (by decide +kernel) ⟨Nat.le_of_ble_eq_true rfl, Nat.le_of_ble_eq_true rfl⟩) rfl rfl (Nat.le_of_ble_eq_true rfl) dX1_answer_15 ?_
    intro r2 σ1 h
    refine x_iload_n C 19 rfl 2 dX1_answer_18 rfl rfl ?_
    refine x_iadd C 20 rfl dX1_answer_19 ?_
    have i3 := h.1
    have h := h.2
    refine x_iald C 21 rfl 13 0 (gC_R_heardAs ad ct _) rfl i3 dX1_answer_20 ?_
    exact hR _ _ _ _ dX1_answer_21 h
  · have h := h.2 c2
    refine x_iconst C 6 rfl 0 dX1_answer_5 rfl ?_
    refine x_goto C 21 dX1_answer_6 (by decide) ?_
    exact hR _ _ _ _ dX1_answer_21 h
abbrev rm_X0_number : Room := { frames := 0, cells := 0, slots := 0, locals := 0 }
set_option maxRecDepth 100000 in
set_option maxHeartbeats 4000000 in
theorem m_X0_number (l : Launch) (D : va_G) (ad : Nat → Nat) (ct : Nat → ClassId) (x0 : Int32) (x1 : Int32) (σ : ST) (Q : Int32 → ST → Prop) (h : wp_X0_number x0 x1 σ Q) : CtI l D (tysF ct) (wC ad ct) yX0_number wsX0_number rm_X0_number [.int x0, .int x1] σ Q := by
  refine CtI.of (wC_adr ad ct) (maxL := 2) [(0, .int x0), (1, .int x1)] RX0 (by decide) rfl rfl (by show (lg_sl [.int x0, .int x1]).length ≤ 2; exact Nat.le_of_ble_eq_true rfl) rfl rfl rfl ?_
  intro E C hR
  unfold wp_X0_number at h
  refine x_iload_n C 1 rfl 1 dX0_number_0 rfl rfl ?_
  refine x_iconst C 2 rfl 3 dX0_number_1 rfl ?_
  refine x_icmp_ge C 13 5 dX0_number_2 (by decide) rfl (fun c2 => ?_) (fun c2 => ?_)
  · have h := h.1 c2
    refine x_bipush C 15 rfl 9 dX0_number_13 rfl ?_
    exact hR _ _ _ _ dX0_number_15 h
  · have h := h.2 c2
    refine x_iconst C 6 rfl 3 dX0_number_5 rfl ?_
    refine x_iload_n C 7 rfl 0 dX0_number_6 rfl rfl ?_
    refine x_imul C 8 rfl dX0_number_7 ?_
    refine x_iload_n C 9 rfl 1 dX0_number_8 rfl rfl ?_
    refine x_iadd C 10 rfl dX0_number_9 ?_
    refine x_goto C 15 dX0_number_10 (by decide) ?_
    exact hR _ _ _ _ dX0_number_15 h
abbrev rm_X0_write : Room := { frames := 1, cells := 0, slots := 0, locals := 21 }
theorem in_X0_write_X0 : ∀ w ∈ u_ws RX0 TX0 8, w ∈ wsX0_write := by decide +kernel
theorem fl_X0_write_24 : Cond.fieldLink RX0 24 RX0 (TX0 4).2.1 (TX0 4).2.2.1 ∈ wsX0_write := by decide +kernel
theorem fl_X0_write_31 : Cond.fieldLink RX0 31 RX0 (TX0 6).2.1 (TX0 6).2.2.1 ∈ wsX0_write := by decide +kernel
theorem fl_X0_write_11 : Cond.fieldLink RX0 11 RX0 (TX0 0).2.1 (TX0 0).2.2.1 ∈ wsX0_write := by decide +kernel
theorem fl_X0_write_21 : Cond.fieldLink RX0 21 RX0 (TX0 3).2.1 (TX0 3).2.2.1 ∈ wsX0_write := by decide +kernel
theorem fl_X0_write_18 : Cond.fieldLink RX0 18 RX0 (TX0 2).2.1 (TX0 2).2.2.1 ∈ wsX0_write := by decide +kernel
set_option maxRecDepth 100000 in
set_option maxHeartbeats 4000000 in
theorem v_X0_write_L26 {l : Launch} {D : va_G} {ad : Nat → Nat} {ct : Nat → ClassId} {E : XE}  {Q : ST → Prop} (C : XFix D (tysF ct) (wC ad ct) rm_X0_write 7 E cX0_write RX0 wsX0_write) (k : Nat) (hk : k < 3) (x1 : Int32) (hR : RetV l D (tysF ct) (wC ad ct) rm_X0_write 7 E cX0_write Q) :
    ∀ (n : Nat) (x4 : Int32) (x5 : Int32) (x6 : Int32) (σ : ST), wp_X0_write_L26 k x1 Q n x4 x5 x6 σ → V l D (tysF ct) (wC ad ct) rm_X0_write 7 E 26 [(0, .ref (ad (16 + 6 * k))), (1, .int x1), (4, .int x4), (5, .int x5), (6, .int x6)] [] σ := by
  intro n
  induction n with
  | zero => intro x4 x5 x6 σ h; exact (h : False).elim
  | succ n ih =>
    intro x4 x5 x6 σ h
    unfold wp_X0_write_L26 at h
    refine x_iload C 28 rfl 4 dX0_write_26 rfl ?_
    refine x_if_lt C 156 31 dX0_write_28 (by decide) rfl (fun c28 => ?_) (fun c28 => ?_)
    · have h := h.1 c28
      exact hR _ _ _ dX0_write_156 h
    · have h := h.2 c28
      refine x_iload C 33 rfl 2 dX0_write_31 rfl ?_
      refine x_iconst C 34 rfl (-1) dX0_write_33 rfl ?_
      refine x_icmp_eq C 156 37 dX0_write_34 (by decide) rfl (fun c34 => ?_) (fun c34 => ?_)
      · have h := h.1 c34
        exact hR _ _ _ dX0_write_156 h
      · have h := h.2 c34
        refine x_aload_n C 38 rfl 0 dX0_write_37 rfl rfl ?_
        refine x_get C 41 rfl (ref := RX0) (16 + 6 * k) 0 (gC_P ad ct _ hk) rfl in_X0_write_X0 (by decide) fl_X0_write_11 rfl rfl dX0_write_38 ?_
        refine x_iconst C 42 rfl 5 dX0_write_41 rfl ?_
        refine x_iload C 44 rfl 4 dX0_write_42 rfl ?_
        refine x_imul C 45 rfl dX0_write_44 ?_
        refine x_iload_n C 46 rfl 1 dX0_write_45 rfl rfl ?_
        refine x_iload C 48 rfl 3 dX0_write_46 rfl ?_
        refine x_iconst C 49 rfl 4 dX0_write_48 rfl ?_
        refine x_ishr C 50 rfl dX0_write_49 ?_
        refine x_iconst C 51 rfl 3 dX0_write_50 rfl ?_
        refine x_iand C 52 rfl dX0_write_51 ?_
        refine x_cSI C 55 rfl (m_X0_number l D ad ct _ _ _ _ h) (va_cwS 2 C.1.2.2.2.2 gX0_write_X0_number rfl rfl rfl (by decide +kernel) ⟨Nat.le_of_ble_eq_true rfl, Nat.le_of_ble_eq_true rfl⟩) rfl rfl (Nat.le_of_ble_eq_true rfl) dX0_write_52 ?_
        intro r4 σ3 h
        have i5 := h.1
        have h := h.2
        obtain ⟨σ6, eσ6⟩ : ∃ z, z = sR σ3 (17 + 6 * k) (Int32.toNatClampNeg (5 * x6)) r4 := ⟨_, rfl⟩
        have h := h σ6 eσ6
        refine x_iast C 56 rfl (σ' := σ6) (17 + 6 * k) 0 (gC_P_rows ad ct _ hk) rfl i5 (by rw [eσ6]; exact (sC_P_rows ad ct _ hk)) dX0_write_55 ?_
        refine x_aload_n C 57 rfl 0 dX0_write_56 rfl rfl ?_
        refine x_get C 60 rfl (ref := RX0) (16 + 6 * k) 0 (gC_P ad ct _ hk) rfl in_X0_write_X0 (by decide) fl_X0_write_11 rfl rfl dX0_write_57 ?_
        refine x_iconst C 61 rfl 5 dX0_write_60 rfl ?_
        refine x_iload C 63 rfl 4 dX0_write_61 rfl ?_
        refine x_imul C 64 rfl dX0_write_63 ?_
        refine x_iconst C 65 rfl 1 dX0_write_64 rfl ?_
        refine x_iadd C 66 rfl dX0_write_65 ?_
        refine x_iload_n C 67 rfl 1 dX0_write_66 rfl rfl ?_
        refine x_iload C 69 rfl 3 dX0_write_67 rfl ?_
        refine x_iconst C 70 rfl 2 dX0_write_69 rfl ?_
        refine x_ishr C 71 rfl dX0_write_70 ?_
        refine x_iconst C 72 rfl 3 dX0_write_71 rfl ?_
        refine x_iand C 73 rfl dX0_write_72 ?_
        refine x_cSI C 76 rfl (m_X0_number l D ad ct _ _ _ _ h) (va_cwS 2 C.1.2.2.2.2 gX0_write_X0_number rfl rfl rfl (by decide +kernel) ⟨Nat.le_of_ble_eq_true rfl, Nat.le_of_ble_eq_true rfl⟩) rfl rfl (Nat.le_of_ble_eq_true rfl) dX0_write_73 ?_
        intro r8 σ7 h
        have i9 := h.1
        have h := h.2
        obtain ⟨σ10, eσ10⟩ : ∃ z, z = sR σ7 (17 + 6 * k) (Int32.toNatClampNeg ((5 * x6) + 1)) r8 := ⟨_, rfl⟩
        have h := h σ10 eσ10
        refine x_iast C 77 rfl (σ' := σ10) (17 + 6 * k) 0 (gC_P_rows ad ct _ hk) rfl i9 (by rw [eσ10]; exact (sC_P_rows ad ct _ hk)) dX0_write_76 ?_
        refine x_aload_n C 78 rfl 0 dX0_write_77 rfl rfl ?_
        refine x_get C 81 rfl (ref := RX0) (16 + 6 * k) 0 (gC_P ad ct _ hk) rfl in_X0_write_X0 (by decide) fl_X0_write_11 rfl rfl dX0_write_78 ?_
        refine x_iconst C 82 rfl 5 dX0_write_81 rfl ?_
        refine x_iload C 84 rfl 4 dX0_write_82 rfl ?_
        refine x_imul C 85 rfl dX0_write_84 ?_
        refine x_iconst C 86 rfl 2 dX0_write_85 rfl ?_
        refine x_iadd C 87 rfl dX0_write_86 ?_
        refine x_iload_n C 88 rfl 1 dX0_write_87 rfl rfl ?_
        refine x_iload C 90 rfl 3 dX0_write_88 rfl ?_
        refine x_iconst C 91 rfl 3 dX0_write_90 rfl ?_
        refine x_iand C 92 rfl dX0_write_91 ?_
        refine x_cSI C 95 rfl (m_X0_number l D ad ct _ _ _ _ h) (va_cwS 2 C.1.2.2.2.2 gX0_write_X0_number rfl rfl rfl (by decide +kernel) ⟨Nat.le_of_ble_eq_true rfl, Nat.le_of_ble_eq_true rfl⟩) rfl rfl (Nat.le_of_ble_eq_true rfl) dX0_write_92 ?_
        intro r12 σ11 h
        have i13 := h.1
        have h := h.2
        obtain ⟨σ14, eσ14⟩ : ∃ z, z = sR σ11 (17 + 6 * k) (Int32.toNatClampNeg ((5 * x6) + 2)) r12 := ⟨_, rfl⟩
        have h := h σ14 eσ14
        refine x_iast C 96 rfl (σ' := σ14) (17 + 6 * k) 0 (gC_P_rows ad ct _ hk) rfl i13 (by rw [eσ14]; exact (sC_P_rows ad ct _ hk)) dX0_write_95 ?_
        refine x_aload_n C 97 rfl 0 dX0_write_96 rfl rfl ?_
        refine x_get C 100 rfl (ref := RX0) (16 + 6 * k) 0 (gC_P ad ct _ hk) rfl in_X0_write_X0 (by decide) fl_X0_write_11 rfl rfl dX0_write_97 ?_
        refine x_iconst C 101 rfl 5 dX0_write_100 rfl ?_
        refine x_iload C 103 rfl 4 dX0_write_101 rfl ?_
        refine x_imul C 104 rfl dX0_write_103 ?_
        refine x_iconst C 105 rfl 3 dX0_write_104 rfl ?_
        refine x_iadd C 106 rfl dX0_write_105 ?_
        refine x_iload C 108 rfl 3 dX0_write_106 rfl ?_
        refine x_bipush C 110 rfl 6 dX0_write_108 rfl ?_
        refine x_ishr C 111 rfl dX0_write_110 ?_
        refine x_iconst C 112 rfl 3 dX0_write_111 rfl ?_
        refine x_iand C 113 rfl dX0_write_112 ?_
        have i15 := h.1
        have h := h.2
        obtain ⟨σ16, eσ16⟩ : ∃ z, z = sR σ14 (17 + 6 * k) (Int32.toNatClampNeg ((5 * x6) + 3)) (((x5 : Int32) >>> ((6 : Int32) &&& 31)) &&& 3) := ⟨_, rfl⟩
        have h := h σ16 eσ16
        refine x_iast C 114 rfl (σ' := σ16) (17 + 6 * k) 0 (gC_P_rows ad ct _ hk) rfl i15 (by rw [eσ16]; exact (sC_P_rows ad ct _ hk)) dX0_write_113 ?_
        refine x_aload_n C 115 rfl 0 dX0_write_114 rfl rfl ?_
        refine x_get C 118 rfl (ref := RX0) (16 + 6 * k) 0 (gC_P ad ct _ hk) rfl in_X0_write_X0 (by decide) fl_X0_write_11 rfl rfl dX0_write_115 ?_
        refine x_iconst C 119 rfl 5 dX0_write_118 rfl ?_
        refine x_iload C 121 rfl 4 dX0_write_119 rfl ?_
        refine x_imul C 122 rfl dX0_write_121 ?_
        refine x_iconst C 123 rfl 4 dX0_write_122 rfl ?_
        refine x_iadd C 124 rfl dX0_write_123 ?_
        refine x_iload C 126 rfl 3 dX0_write_124 rfl ?_
        refine x_bipush C 128 rfl 8 dX0_write_126 rfl ?_
        refine x_ishr C 129 rfl dX0_write_128 ?_
        refine x_iconst C 130 rfl 3 dX0_write_129 rfl ?_
        refine x_iand C 131 rfl dX0_write_130 ?_
        have i17 := h.1
        have h := h.2
        obtain ⟨σ18, eσ18⟩ : ∃ z, z = sR σ16 (17 + 6 * k) (Int32.toNatClampNeg ((5 * x6) + 4)) (((x5 : Int32) >>> ((8 : Int32) &&& 31)) &&& 3) := ⟨_, rfl⟩
        have h := h σ18 eσ18
        refine x_iast C 132 rfl (σ' := σ18) (17 + 6 * k) 0 (gC_P_rows ad ct _ hk) rfl i17 (by rw [eσ18]; exact (sC_P_rows ad ct _ hk)) dX0_write_131 ?_
        refine x_aload_n C 133 rfl 0 dX0_write_132 rfl rfl ?_
        refine x_get C 136 rfl (ref := RX0) (16 + 6 * k) 3 (gC_P ad ct _ hk) rfl in_X0_write_X0 (by decide) fl_X0_write_21 rfl rfl dX0_write_133 ?_
        refine x_iload C 138 rfl 2 dX0_write_136 rfl ?_
        have i19 := h.1
        have h := h.2
        refine x_iald C 139 rfl (20 + 6 * k) 0 (gC_P_edge ad ct _ hk) rfl i19 dX0_write_138 ?_
        refine x_ni (fun w20 ew20 => ?_)
        have h := h w20 ew20
        refine x_istore C 141 rfl [(5, .int w20), (0, .ref (ad (16 + 6 * k))), (1, .int x1), (4, .int x4), (6, .int x6)] dX0_write_139 (by decide) rfl ?_
        refine x_aload_n C 142 rfl 1 dX0_write_141 rfl rfl ?_
        refine x_get C 145 rfl (ref := RX0) (16 + 6 * k) 2 (gC_P ad ct _ hk) rfl in_X0_write_X0 (by decide) fl_X0_write_18 rfl rfl dX0_write_142 ?_
        refine x_iload C 147 rfl 3 dX0_write_145 rfl ?_
        refine x_iald C 148 rfl (19 + 6 * k) 0 (gC_P_before ad ct _ hk) rfl i19 dX0_write_147 ?_
        refine x_ni (fun w21 ew21 => ?_)
        have h := h w21 ew21
        refine x_istore C 150 rfl [(4, .int w21), (5, .int w20), (0, .ref (ad (16 + 6 * k))), (1, .int x1), (6, .int x6)] dX0_write_148 (by decide) rfl ?_
        refine x_iinc C 153 rfl 4 (x6 + (-1)) [(6, .int (x6 + (-1))), (4, .int w21), (5, .int w20), (0, .ref (ad (16 + 6 * k))), (1, .int x1)] dX0_write_150 rfl rfl (by decide) rfl ?_
        refine x_goto C 26 dX0_write_153 (by decide) ?_
        refine x_sub (lv' := [(0, .ref (ad (16 + 6 * k))), (1, .int x1), (4, .int w21), (5, .int w20), (6, .int (x6 + (-1)))]) [3, 4, 1, 2, 0] rfl ?_
        exact ih _ _ _ _ h
set_option maxRecDepth 100000 in
set_option maxHeartbeats 4000000 in
theorem m_X0_write (l : Launch) (D : va_G) (ad : Nat → Nat) (ct : Nat → ClassId) (k : Nat) (hk : k < 3) (x1 : Int32) (x2 : Int32) (x3 : Int32) (σ : ST) (Q : ST → Prop) (h : wp_X0_write k x1 x2 x3 σ Q) : CtV l D (tysF ct) (wC ad ct) yX0_write wsX0_write rm_X0_write [.ref (ad (16 + 6 * k)), .int x1, .int x2, .int x3] σ Q := by
  refine CtV.of (wC_adr ad ct) (maxL := 7) [(0, .ref (ad (16 + 6 * k))), (1, .int x1), (2, .int x2), (3, .int x3)] RX0 (by decide) rfl rfl (by show (lg_sl [.ref (ad (16 + 6 * k)), .int x1, .int x2, .int x3]).length ≤ 7; exact Nat.le_of_ble_eq_true rfl) rfl rfl rfl ?_
  intro E C hR
  unfold wp_X0_write at h
  refine x_aload_n C 1 rfl 0 dX0_write_0 rfl rfl ?_
  refine x_aload_n C 2 rfl 0 dX0_write_1 rfl rfl ?_
  refine x_get C 5 rfl (ref := RX0) (16 + 6 * k) 4 (gC_P ad ct _ hk) rfl in_X0_write_X0 (by decide) fl_X0_write_24 rfl rfl dX0_write_2 ?_
  refine x_iload_n C 6 rfl 2 dX0_write_5 rfl rfl ?_
  have i1 := h.1
  have h := h.2
  refine x_iald C 7 rfl (21 + 6 * k) 0 (gC_P_depth ad ct _ hk) rfl i1 dX0_write_6 ?_
  refine x_iconst C 8 rfl 1 dX0_write_7 rfl ?_
  refine x_iadd C 9 rfl dX0_write_8 ?_
  obtain ⟨σ2, eσ2⟩ : ∃ z, z = sI σ (16 + 6 * k) 6 ((σ.2.2.1 (21 + 6 * k) (Int32.toNatClampNeg x2)) + 1) := ⟨_, rfl⟩
  have h := h σ2 eσ2
  refine x_put C 12 rfl (ref := RX0) (ty := .int) (σ' := σ2) (16 + 6 * k) 6 (gC_P ad ct _ hk) rfl in_X0_write_X0 tyX0 tyX0_ok nmX0 (by decide) fl_X0_write_31 rfl rfl (by decide +kernel) rfl rfl (by show 6 < 8; decide) (by rw [eσ2]; exact (sC_P_length ad ct _ hk)) dX0_write_9 ?_
  refine x_iload_n C 13 rfl 2 dX0_write_12 rfl rfl ?_
  refine x_istore C 15 rfl [(4, .int x2), (0, .ref (ad (16 + 6 * k))), (1, .int x1), (2, .int x2), (3, .int x3)] dX0_write_13 (by decide) rfl ?_
  refine x_iload_n C 16 rfl 4 dX0_write_15 rfl rfl ?_
  refine x_istore C 18 rfl [(5, .int x3), (4, .int x2), (0, .ref (ad (16 + 6 * k))), (1, .int x1), (2, .int x2), (3, .int x3)] dX0_write_16 (by decide) rfl ?_
  refine x_aload_n C 19 rfl 2 dX0_write_18 rfl rfl ?_
  refine x_get C 22 rfl (ref := RX0) (16 + 6 * k) 6 (gC_P ad ct _ hk) rfl in_X0_write_X0 (by decide) fl_X0_write_31 rfl rfl dX0_write_19 ?_
  refine x_iconst C 23 rfl 1 dX0_write_22 rfl ?_
  refine x_isub C 24 rfl dX0_write_23 ?_
  refine x_istore C 26 rfl [(6, .int ((σ2.1 (16 + 6 * k) 6) - 1)), (5, .int x3), (4, .int x2), (0, .ref (ad (16 + 6 * k))), (1, .int x1), (2, .int x2), (3, .int x3)] dX0_write_24 (by decide) rfl ?_
  refine x_sub (lv' := [(0, .ref (ad (16 + 6 * k))), (1, .int x1), (4, .int x2), (5, .int x3), (6, .int ((σ2.1 (16 + 6 * k) 6) - 1))]) [3, 4, 2, 1, 0] rfl ?_
  obtain ⟨n22, h⟩ := h
  refine v_X0_write_L26 C k hk x1 hR n22 _ _ _ _ h
abbrev rm_X1_left : Room := { frames := 1, cells := 0, slots := 0, locals := 21 }
theorem in_X1_left_X1 : ∀ w ∈ u_ws RX1 TX1 7, w ∈ wsX1_left := by decide +kernel
theorem fl_X1_left_15 : Cond.fieldLink RX1 15 RX1 (TX1 1).2.1 (TX1 1).2.2.1 ∈ wsX1_left := by decide +kernel
set_option maxRecDepth 100000 in
set_option maxHeartbeats 4000000 in
theorem m_X1_left (l : Launch) (D : va_G) (ad : Nat → Nat) (ct : Nat → ClassId) (x1 : Int32) (x2 : Int32) (x3 : Int32) (σ : ST) (Q : Int32 → ST → Prop) (h : wp_X1_left x1 x2 x3 σ Q) : CtI l D (tysF ct) (wC ad ct) yX1_left wsX1_left rm_X1_left [.ref (ad 10), .int x1, .int x2, .int x3] σ Q := by
  refine CtI.of (wC_adr ad ct) (maxL := 4) [(0, .ref (ad 10)), (1, .int x1), (2, .int x2), (3, .int x3)] RX1 (by decide) rfl rfl (by show (lg_sl [.ref (ad 10), .int x1, .int x2, .int x3]).length ≤ 4; exact Nat.le_of_ble_eq_true rfl) rfl rfl rfl ?_
  intro E C hR
  unfold wp_X1_left at h
  refine x_iload_n C 1 rfl 3 dX1_left_0 rfl rfl ?_
  refine x_iconst C 2 rfl 3 dX1_left_1 rfl ?_
  refine x_icmp_lt C 9 5 dX1_left_2 (by decide) rfl (fun c2 => ?_) (fun c2 => ?_)
  · have h := h.1 c2
    refine x_aload_n C 10 rfl 0 dX1_left_9 rfl rfl ?_
    refine x_get C 13 rfl (ref := RX1) 10 1 (gC_R ad ct _) rfl in_X1_left_X1 (by decide) fl_X1_left_15 rfl rfl dX1_left_10 ?_
    refine x_iload_n C 14 rfl 1 dX1_left_13 rfl rfl ?_
    refine x_iload_n C 15 rfl 3 dX1_left_14 rfl rfl ?_
    refine x_cSI C 18 rfl (m_X1_place l D ad ct _ _ _ _ h) (va_cwS 2 C.1.2.2.2.2 gX1_left_X1_place rfl rfl rfl (by decide +kernel) ⟨Nat.le_of_ble_eq_true rfl, Nat.le_of_ble_eq_true rfl⟩) rfl rfl (Nat.le_of_ble_eq_true rfl) dX1_left_15 ?_
    intro r2 σ1 h
    refine x_iload_n C 19 rfl 2 dX1_left_18 rfl rfl ?_
    refine x_iadd C 20 rfl dX1_left_19 ?_
    have i3 := h.1
    have h := h.2
    refine x_iald C 21 rfl 12 0 (gC_R_heardTo ad ct _) rfl i3 dX1_left_20 ?_
    exact hR _ _ _ _ dX1_left_21 h
  · have h := h.2 c2
    refine x_iload_n C 6 rfl 2 dX1_left_5 rfl rfl ?_
    refine x_goto C 21 dX1_left_6 (by decide) ?_
    exact hR _ _ _ _ dX1_left_21 h
abbrev rm_X1_period : Room := { frames := 0, cells := 0, slots := 0, locals := 0 }
theorem in_X1_period_X1 : ∀ w ∈ u_ws RX1 TX1 7, w ∈ wsX1_period := by decide +kernel
theorem fl_X1_period_21 : Cond.fieldLink RX1 21 RX1 (TX1 3).2.1 (TX1 3).2.2.1 ∈ wsX1_period := by decide +kernel
set_option maxRecDepth 100000 in
set_option maxHeartbeats 4000000 in
theorem m_X1_period (l : Launch) (D : va_G) (ad : Nat → Nat) (ct : Nat → ClassId) (x1 : Int32) (σ : ST) (Q : Int32 → ST → Prop) (h : wp_X1_period x1 σ Q) : CtI l D (tysF ct) (wC ad ct) yX1_period wsX1_period rm_X1_period [.ref (ad 10), .int x1] σ Q := by
  refine CtI.of (wC_adr ad ct) (maxL := 2) [(0, .ref (ad 10)), (1, .int x1)] RX1 (by decide) rfl rfl (by show (lg_sl [.ref (ad 10), .int x1]).length ≤ 2; exact Nat.le_of_ble_eq_true rfl) rfl rfl rfl ?_
  intro E C hR
  unfold wp_X1_period at h
  refine x_aload_n C 1 rfl 0 dX1_period_0 rfl rfl ?_
  refine x_get C 4 rfl (ref := RX1) 10 3 (gC_R ad ct _) rfl in_X1_period_X1 (by decide) fl_X1_period_21 rfl rfl dX1_period_1 ?_
  refine x_iload_n C 5 rfl 1 dX1_period_4 rfl rfl ?_
  have i1 := h.1
  have h := h.2
  refine x_iald C 6 rfl 14 0 (gC_R_cleanEach ad ct _) rfl i1 dX1_period_5 ?_
  refine x_if_le C 18 9 dX1_period_6 (by decide) rfl (fun c6 => ?_) (fun c6 => ?_)
  · have h := h.1 c6
    refine x_iconst C 19 rfl 1 dX1_period_18 rfl ?_
    exact hR _ _ _ _ dX1_period_19 h
  · have h := h.2 c6
    refine x_aload_n C 10 rfl 0 dX1_period_9 rfl rfl ?_
    refine x_get C 13 rfl (ref := RX1) 10 3 (gC_R ad ct _) rfl in_X1_period_X1 (by decide) fl_X1_period_21 rfl rfl dX1_period_10 ?_
    refine x_iload_n C 14 rfl 1 dX1_period_13 rfl rfl ?_
    refine x_iald C 15 rfl 14 0 (gC_R_cleanEach ad ct _) rfl i1 dX1_period_14 ?_
    refine x_goto C 19 dX1_period_15 (by decide) ?_
    exact hR _ _ _ _ dX1_period_19 h
abbrev rm_X0_goOn : Room := { frames := 2, cells := 0, slots := 0, locals := 47 }
theorem in_X0_goOn_X0 : ∀ w ∈ u_ws RX0 TX0 8, w ∈ wsX0_goOn := by decide +kernel
theorem fl_X0_goOn_31 : Cond.fieldLink RX0 31 RX0 (TX0 6).2.1 (TX0 6).2.2.1 ∈ wsX0_goOn := by decide +kernel
set_option maxRecDepth 100000 in
set_option maxHeartbeats 4000000 in
theorem v_X0_goOn_L8 {l : Launch} {D : va_G} {ad : Nat → Nat} {ct : Nat → ClassId} {E : XE}  {Q : ST → Prop} (C : XFix D (tysF ct) (wC ad ct) rm_X0_goOn 12 E cX0_goOn RX0 wsX0_goOn) (k : Nat) (hk : k < 3) (x2 : Int32) (x3 : Int32) (x4 : Int32) (hR : RetV l D (tysF ct) (wC ad ct) rm_X0_goOn 12 E cX0_goOn Q) :
    ∀ (n : Nat) (x5 : Int32) (σ : ST), wp_X0_goOn_L8 k x2 x3 x4 Q n x5 σ → V l D (tysF ct) (wC ad ct) rm_X0_goOn 12 E 8 [(0, .ref (ad (16 + 6 * k))), (1, .ref (ad 10)), (2, .int x2), (3, .int x3), (4, .int x4), (5, .int x5)] [] σ := by
  intro n
  induction n with
  | zero => intro x5 σ h; exact (h : False).elim
  | succ n ih =>
    intro x5 σ h
    unfold wp_X0_goOn_L8 at h
    refine x_iload C 10 rfl 5 dX0_goOn_8 rfl ?_
    refine x_bipush C 12 rfl 64 dX0_goOn_10 rfl ?_
    refine x_icmp_ge C 164 15 dX0_goOn_12 (by decide) rfl (fun c12 => ?_) (fun c12 => ?_)
    · have h := h.1 c12
      exact hR _ _ _ dX0_goOn_164 h
    · have h := h.2 c12
      refine x_aload_n C 16 rfl 0 dX0_goOn_15 rfl rfl ?_
      refine x_get C 19 rfl (ref := RX0) (16 + 6 * k) 6 (gC_P ad ct _ hk) rfl in_X0_goOn_X0 (by decide) fl_X0_goOn_31 rfl rfl dX0_goOn_16 ?_
      refine x_if_ne C 164 22 dX0_goOn_19 (by decide) rfl (fun c19 => ?_) (fun c19 => ?_)
      · have h := h.1 c19
        exact hR _ _ _ dX0_goOn_164 h
      · have h := h.2 c19
        refine x_iload C 24 rfl 5 dX0_goOn_22 rfl ?_
        refine x_iconst C 25 rfl 3 dX0_goOn_24 rfl ?_
        refine x_iand C 26 rfl dX0_goOn_25 ?_
        refine x_istore C 28 rfl [(6, .int (x5 &&& 3)), (0, .ref (ad (16 + 6 * k))), (1, .ref (ad 10)), (2, .int x2), (3, .int x3), (4, .int x4), (5, .int x5)] dX0_goOn_26 (by decide) rfl ?_
        refine x_aload_n C 29 rfl 2 dX0_goOn_28 rfl rfl ?_
        refine x_iload_n C 30 rfl 3 dX0_goOn_29 rfl rfl ?_
        refine x_iload_n C 31 rfl 4 dX0_goOn_30 rfl rfl ?_
        refine x_iconst C 32 rfl 4 dX0_goOn_31 rfl ?_
        refine x_ishr C 33 rfl dX0_goOn_32 ?_
        refine x_iload C 35 rfl 6 dX0_goOn_33 rfl ?_
        refine x_iconst C 36 rfl 4 dX0_goOn_35 rfl ?_
        refine x_ishr C 37 rfl dX0_goOn_36 ?_
        refine x_iload C 39 rfl 5 dX0_goOn_37 rfl ?_
        refine x_cVI C 42 rfl (m_X1_met l D ad ct _ _ _ _ _ _ h) (cwV 4 C.1.2.2.2.2 gX0_goOn_X1_met rfl rfl rfl (by decide +kernel) ⟨Nat.le_of_ble_eq_true rfl, Nat.le_of_ble_eq_true rfl⟩) ⟨10, 1, _, _, _, (gC_R ad ct _), rfl⟩ rfl rfl (Nat.le_of_ble_eq_true rfl) dX0_goOn_39 ?_
        intro r2 σ1 h
        refine x_istore C 44 rfl [(7, .int r2), (6, .int (x5 &&& 3)), (0, .ref (ad (16 + 6 * k))), (1, .ref (ad 10)), (2, .int x2), (3, .int x3), (4, .int x4), (5, .int x5)] dX0_goOn_42 (by decide) rfl ?_
        refine x_aload_n C 45 rfl 3 dX0_goOn_44 rfl rfl ?_
        refine x_iload_n C 46 rfl 4 dX0_goOn_45 rfl rfl ?_
        refine x_iload_n C 47 rfl 5 dX0_goOn_46 rfl rfl ?_
        refine x_iconst C 48 rfl 2 dX0_goOn_47 rfl ?_
        refine x_ishr C 49 rfl dX0_goOn_48 ?_
        refine x_iconst C 50 rfl 3 dX0_goOn_49 rfl ?_
        refine x_iand C 51 rfl dX0_goOn_50 ?_
        refine x_iload C 53 rfl 7 dX0_goOn_51 rfl ?_
        refine x_iconst C 54 rfl 2 dX0_goOn_53 rfl ?_
        refine x_ishr C 55 rfl dX0_goOn_54 ?_
        refine x_iconst C 56 rfl 3 dX0_goOn_55 rfl ?_
        refine x_iand C 57 rfl dX0_goOn_56 ?_
        refine x_iload C 59 rfl 6 dX0_goOn_57 rfl ?_
        refine x_cVI C 62 rfl (m_X1_met l D ad ct _ _ _ _ _ _ h) (cwV 4 C.1.2.2.2.2 gX0_goOn_X1_met rfl rfl rfl (by decide +kernel) ⟨Nat.le_of_ble_eq_true rfl, Nat.le_of_ble_eq_true rfl⟩) ⟨10, 1, _, _, _, (gC_R ad ct _), rfl⟩ rfl rfl (Nat.le_of_ble_eq_true rfl) dX0_goOn_59 ?_
        intro r4 σ3 h
        refine x_istore C 64 rfl [(8, .int r4), (7, .int r2), (6, .int (x5 &&& 3)), (0, .ref (ad (16 + 6 * k))), (1, .ref (ad 10)), (2, .int x2), (3, .int x3), (4, .int x4), (5, .int x5)] dX0_goOn_62 (by decide) rfl ?_
        refine x_aload_n C 65 rfl 4 dX0_goOn_64 rfl rfl ?_
        refine x_iload_n C 66 rfl 5 dX0_goOn_65 rfl rfl ?_
        refine x_iload C 68 rfl 1 dX0_goOn_66 rfl ?_
        refine x_iload C 70 rfl 2 dX0_goOn_68 rfl ?_
        refine x_cVI C 73 rfl (m_X1_answer l D ad ct _ _ _ _ _ h) (cwV 3 C.1.2.2.2.2 gX0_goOn_X1_answer rfl rfl rfl (by decide +kernel) ⟨Nat.le_of_ble_eq_true rfl, Nat.le_of_ble_eq_true rfl⟩) ⟨10, 1, _, _, _, (gC_R ad ct _), rfl⟩ rfl rfl (Nat.le_of_ble_eq_true rfl) dX0_goOn_70 ?_
        intro r6 σ5 h
        refine x_istore C 75 rfl [(9, .int r6), (8, .int r4), (7, .int r2), (6, .int (x5 &&& 3)), (0, .ref (ad (16 + 6 * k))), (1, .ref (ad 10)), (2, .int x2), (3, .int x3), (4, .int x4), (5, .int x5)] dX0_goOn_73 (by decide) rfl ?_
        refine x_aload_n C 76 rfl 5 dX0_goOn_75 rfl rfl ?_
        refine x_iload_n C 77 rfl 6 dX0_goOn_76 rfl rfl ?_
        refine x_iload C 79 rfl 1 dX0_goOn_77 rfl ?_
        refine x_iload C 81 rfl 3 dX0_goOn_79 rfl ?_
        refine x_cVI C 84 rfl (m_X1_answer l D ad ct _ _ _ _ _ h) (cwV 3 C.1.2.2.2.2 gX0_goOn_X1_answer rfl rfl rfl (by decide +kernel) ⟨Nat.le_of_ble_eq_true rfl, Nat.le_of_ble_eq_true rfl⟩) ⟨10, 1, _, _, _, (gC_R ad ct _), rfl⟩ rfl rfl (Nat.le_of_ble_eq_true rfl) dX0_goOn_81 ?_
        intro r8 σ7 h
        refine x_istore C 86 rfl [(10, .int r8), (9, .int r6), (8, .int r4), (7, .int r2), (6, .int (x5 &&& 3)), (0, .ref (ad (16 + 6 * k))), (1, .ref (ad 10)), (2, .int x2), (3, .int x3), (4, .int x4), (5, .int x5)] dX0_goOn_84 (by decide) rfl ?_
        refine x_iload C 88 rfl 10 dX0_goOn_86 rfl ?_
        refine x_iload C 90 rfl 1 dX0_goOn_88 rfl ?_
        refine x_bipush C 92 rfl 6 dX0_goOn_90 rfl ?_
        refine x_ishl C 93 rfl dX0_goOn_92 ?_
        refine x_ior C 94 rfl dX0_goOn_93 ?_
        refine x_iload C 96 rfl 0 dX0_goOn_94 rfl ?_
        refine x_bipush C 98 rfl 8 dX0_goOn_96 rfl ?_
        refine x_ishl C 99 rfl dX0_goOn_98 ?_
        refine x_ior C 100 rfl dX0_goOn_99 ?_
        refine x_ni (fun w9 ew9 => ?_)
        have h := h w9 ew9
        refine x_istore C 102 rfl [(11, .int w9), (10, .int r8), (9, .int r6), (8, .int r4), (7, .int r2), (6, .int (x5 &&& 3)), (0, .ref (ad (16 + 6 * k))), (1, .ref (ad 10)), (2, .int x2), (3, .int x3), (4, .int x4), (5, .int x5)] dX0_goOn_100 (by decide) rfl ?_
        refine x_iload C 104 rfl 2 dX0_goOn_102 rfl ?_
        refine x_iload C 106 rfl 1 dX0_goOn_104 rfl ?_
        refine x_icmp_eq C 120 109 dX0_goOn_106 (by decide) rfl (fun c106 => ?_) (fun c106 => ?_)
        · have h := h.1 c106
          refine x_aload_n C 121 rfl 6 dX0_goOn_120 rfl rfl ?_
          refine x_aload_n C 122 rfl 7 dX0_goOn_121 rfl rfl ?_
          refine x_iload_n C 123 rfl 8 dX0_goOn_122 rfl rfl ?_
          refine x_iload C 125 rfl 4 dX0_goOn_123 rfl ?_
          refine x_iload C 127 rfl 5 dX0_goOn_125 rfl ?_
          refine x_cVI C 130 rfl (m_X1_left l D ad ct _ _ _ _ _ h) (cwV 3 C.1.2.2.2.2 gX0_goOn_X1_left rfl rfl rfl (by decide +kernel) ⟨Nat.le_of_ble_eq_true rfl, Nat.le_of_ble_eq_true rfl⟩) ⟨10, 1, _, _, _, (gC_R ad ct _), rfl⟩ rfl rfl (Nat.le_of_ble_eq_true rfl) dX0_goOn_127 ?_
          intro r11 σ10 h
          refine x_aload_n C 131 rfl 7 dX0_goOn_130 rfl rfl ?_
          refine x_iload_n C 132 rfl 8 dX0_goOn_131 rfl rfl ?_
          refine x_iload C 134 rfl 3 dX0_goOn_132 rfl ?_
          refine x_iload C 136 rfl 5 dX0_goOn_134 rfl ?_
          refine x_cVI C 139 rfl (m_X1_left l D ad ct _ _ _ _ _ h) (cwV 3 C.1.2.2.2.2 gX0_goOn_X1_left rfl rfl rfl (by decide +kernel) ⟨Nat.le_of_ble_eq_true rfl, Nat.le_of_ble_eq_true rfl⟩) ⟨10, 1, _, _, _, (gC_R ad ct _), rfl⟩ rfl rfl (Nat.le_of_ble_eq_true rfl) dX0_goOn_136 ?_
          intro r13 σ12 h
          refine x_iload C 141 rfl 10 dX0_goOn_139 rfl ?_
          refine x_iconst C 142 rfl 1 dX0_goOn_141 rfl ?_
          refine x_iadd C 143 rfl dX0_goOn_142 ?_
          refine x_aload_n C 144 rfl 7 dX0_goOn_143 rfl rfl ?_
          refine x_iload_n C 145 rfl 8 dX0_goOn_144 rfl rfl ?_
          refine x_cVI C 148 rfl (m_X1_period l D ad ct _ _ _ h) (cwV 1 C.1.2.2.2.2 gX0_goOn_X1_period rfl rfl rfl (by decide +kernel) ⟨Nat.le_of_ble_eq_true rfl, Nat.le_of_ble_eq_true rfl⟩) ⟨10, 1, _, _, _, (gC_R ad ct _), rfl⟩ rfl rfl (Nat.le_of_ble_eq_true rfl) dX0_goOn_145 ?_
          intro r15 σ14 h
          have z16 := h.1
          have h := h.2
          refine x_irem C 149 rfl dX0_goOn_148 z16 ?_
          refine x_cSI C 152 rfl (m_X0_node l D ad ct _ _ _ _ _ h) (va_cwS 3 C.1.2.2.2.2 gX0_goOn_X0_node rfl rfl rfl (by decide +kernel) ⟨Nat.le_of_ble_eq_true rfl, Nat.le_of_ble_eq_true rfl⟩) rfl rfl (Nat.le_of_ble_eq_true rfl) dX0_goOn_149 ?_
          intro r18 σ17 h
          refine x_iload_n C 153 rfl 9 dX0_goOn_152 rfl rfl ?_
          refine x_iload C 155 rfl 0 dX0_goOn_153 rfl ?_
          refine x_cVV C 158 rfl (m_X0_reach l D ad ct k hk _ _ _ _ _ h) (cwV 3 C.1.2.2.2.2 gX0_goOn_X0_reach rfl rfl rfl (by decide +kernel) ⟨Nat.le_of_ble_eq_true rfl, Nat.le_of_ble_eq_true rfl⟩) ⟨(16 + 6 * k), 0, _, _, _, (gC_P ad ct _ hk), rfl⟩ rfl rfl (Nat.le_of_ble_eq_true rfl) dX0_goOn_155 ?_
          intro σ19 h
          refine x_iinc C 161 rfl 11 (x5 + 1) [(5, .int (x5 + 1)), (11, .int w9), (10, .int r8), (9, .int r6), (8, .int r4), (7, .int r2), (6, .int (x5 &&& 3)), (0, .ref (ad (16 + 6 * k))), (1, .ref (ad 10)), (2, .int x2), (3, .int x3), (4, .int x4)] dX0_goOn_158 rfl rfl (by decide) rfl ?_
          refine x_goto C 8 dX0_goOn_161 (by decide) ?_
          refine x_sub (lv' := [(0, .ref (ad (16 + 6 * k))), (1, .ref (ad 10)), (2, .int x2), (3, .int x3), (4, .int x4), (5, .int (x5 + 1))]) [7, 8, 9, 10, 11, 0] rfl ?_
          exact ih _ _ h
        · have h := h.2 c106
          refine x_aload_n C 110 rfl 6 dX0_goOn_109 rfl rfl ?_
          refine x_iload_n C 111 rfl 8 dX0_goOn_110 rfl rfl ?_
          refine x_iload_n C 112 rfl 9 dX0_goOn_111 rfl rfl ?_
          refine x_iload C 114 rfl 0 dX0_goOn_112 rfl ?_
          refine x_cVV C 117 rfl (m_X0_write l D ad ct k hk _ _ _ _ _ h) (cwV 3 C.1.2.2.2.2 gX0_goOn_X0_write rfl rfl rfl (by decide +kernel) ⟨Nat.le_of_ble_eq_true rfl, Nat.le_of_ble_eq_true rfl⟩) ⟨(16 + 6 * k), 0, _, _, _, (gC_P ad ct _ hk), rfl⟩ rfl rfl (Nat.le_of_ble_eq_true rfl) dX0_goOn_114 ?_
          intro σ20 h
          refine x_goto C 158 dX0_goOn_117 (by decide) ?_
          refine x_iinc C 161 rfl 11 (x5 + 1) [(5, .int (x5 + 1)), (11, .int w9), (10, .int r8), (9, .int r6), (8, .int r4), (7, .int r2), (6, .int (x5 &&& 3)), (0, .ref (ad (16 + 6 * k))), (1, .ref (ad 10)), (2, .int x2), (3, .int x3), (4, .int x4)] dX0_goOn_158 rfl rfl (by decide) rfl ?_
          refine x_goto C 8 dX0_goOn_161 (by decide) ?_
          refine x_sub (lv' := [(0, .ref (ad (16 + 6 * k))), (1, .ref (ad 10)), (2, .int x2), (3, .int x3), (4, .int x4), (5, .int (x5 + 1))]) [7, 8, 9, 10, 11, 0] rfl ?_
          exact ih _ _ h
set_option maxRecDepth 100000 in
set_option maxHeartbeats 4000000 in
theorem m_X0_goOn (l : Launch) (D : va_G) (ad : Nat → Nat) (ct : Nat → ClassId) (k : Nat) (hk : k < 3) (x2 : Int32) (x3 : Int32) (σ : ST) (Q : ST → Prop) (h : wp_X0_goOn k x2 x3 σ Q) : CtV l D (tysF ct) (wC ad ct) yX0_goOn wsX0_goOn rm_X0_goOn [.ref (ad (16 + 6 * k)), .ref (ad 10), .int x2, .int x3] σ Q := by
  refine CtV.of (wC_adr ad ct) (maxL := 12) [(0, .ref (ad (16 + 6 * k))), (1, .ref (ad 10)), (2, .int x2), (3, .int x3)] RX0 (by decide) rfl rfl (by show (lg_sl [.ref (ad (16 + 6 * k)), .ref (ad 10), .int x2, .int x3]).length ≤ 12; exact Nat.le_of_ble_eq_true rfl) rfl rfl rfl ?_
  intro E C hR
  unfold wp_X0_goOn at h
  refine x_iload_n C 1 rfl 3 dX0_goOn_0 rfl rfl ?_
  refine x_iconst C 2 rfl 3 dX0_goOn_1 rfl ?_
  refine x_iand C 3 rfl dX0_goOn_2 ?_
  refine x_istore C 5 rfl [(4, .int (x3 &&& 3)), (0, .ref (ad (16 + 6 * k))), (1, .ref (ad 10)), (2, .int x2), (3, .int x3)] dX0_goOn_3 (by decide) rfl ?_
  refine x_iconst C 6 rfl 0 dX0_goOn_5 rfl ?_
  refine x_istore C 8 rfl [(5, .int 0), (4, .int (x3 &&& 3)), (0, .ref (ad (16 + 6 * k))), (1, .ref (ad 10)), (2, .int x2), (3, .int x3)] dX0_goOn_6 (by decide) rfl ?_
  refine x_sub (lv' := [(0, .ref (ad (16 + 6 * k))), (1, .ref (ad 10)), (2, .int x2), (3, .int x3), (4, .int (x3 &&& 3)), (5, .int 0)]) [2, 3, 4, 5, 1, 0] rfl ?_
  obtain ⟨n21, h⟩ := h
  refine v_X0_goOn_L8 C k hk x2 x3 (x3 &&& 3) hR n21 _ _ h
abbrev rm_X0_find : Room := { frames := 3, cells := 0, slots := 0, locals := 78 }
theorem in_X0_find_X0 : ∀ w ∈ u_ws RX0 TX0 8, w ∈ wsX0_find := by decide +kernel
theorem fl_X0_find_31 : Cond.fieldLink RX0 31 RX0 (TX0 6).2.1 (TX0 6).2.2.1 ∈ wsX0_find := by decide +kernel
theorem fl_X0_find_34 : Cond.fieldLink RX0 34 RX0 (TX0 5).2.1 (TX0 5).2.2.1 ∈ wsX0_find := by decide +kernel
theorem fl_X0_find_24 : Cond.fieldLink RX0 24 RX0 (TX0 4).2.1 (TX0 4).2.2.1 ∈ wsX0_find := by decide +kernel
theorem in_X0_find_X1 : ∀ w ∈ u_ws RX1 TX1 7, w ∈ wsX0_find := by decide +kernel
theorem fl_X0_find_15 : Cond.fieldLink RX0 15 RX0 (TX0 1).2.1 (TX0 1).2.2.1 ∈ wsX0_find := by decide +kernel
set_option maxRecDepth 100000 in
set_option maxHeartbeats 4000000 in
theorem v_X0_find_L42 {l : Launch} {D : va_G} {ad : Nat → Nat} {ct : Nat → ClassId} {E : XE}  {Q : ST → Prop} (C : XFix D (tysF ct) (wC ad ct) rm_X0_find 4 E cX0_find RX0 wsX0_find) (k : Nat) (hk : k < 3) (x2 : Int32) (hR : RetV l D (tysF ct) (wC ad ct) rm_X0_find 4 E cX0_find Q) :
    ∀ (n : Nat) (x3 : Int32) (σ : ST), wp_X0_find_L42 k x2 Q n x3 σ → V l D (tysF ct) (wC ad ct) rm_X0_find 4 E 42 [(0, .ref (ad (16 + 6 * k))), (1, .ref (ad 10)), (2, .int x2), (3, .int x3)] [] σ := by
  intro n
  induction n with
  | zero => intro x3 σ h; exact (h : False).elim
  | succ n ih =>
    intro x3 σ h
    unfold wp_X0_find_L42 at h
    refine x_iload_n C 43 rfl 3 dX0_find_42 rfl rfl ?_
    refine x_aload_n C 44 rfl 0 dX0_find_43 rfl rfl ?_
    refine x_get C 47 rfl (ref := RX0) (16 + 6 * k) 5 (gC_P ad ct _ hk) rfl in_X0_find_X0 (by decide) fl_X0_find_34 rfl rfl dX0_find_44 ?_
    refine x_icmp_ge C 75 50 dX0_find_47 (by decide) rfl (fun c47 => ?_) (fun c47 => ?_)
    · have h := h.1 c47
      exact hR _ _ _ dX0_find_75 h
    · have h := h.2 c47
      refine x_aload_n C 51 rfl 0 dX0_find_50 rfl rfl ?_
      refine x_get C 54 rfl (ref := RX0) (16 + 6 * k) 6 (gC_P ad ct _ hk) rfl in_X0_find_X0 (by decide) fl_X0_find_31 rfl rfl dX0_find_51 ?_
      refine x_if_ne C 75 57 dX0_find_54 (by decide) rfl (fun c54 => ?_) (fun c54 => ?_)
      · have h := h.1 c54
        exact hR _ _ _ dX0_find_75 h
      · have h := h.2 c54
        refine x_aload_n C 58 rfl 0 dX0_find_57 rfl rfl ?_
        refine x_aload_n C 59 rfl 1 dX0_find_58 rfl rfl ?_
        refine x_iload_n C 60 rfl 2 dX0_find_59 rfl rfl ?_
        refine x_aload_n C 61 rfl 0 dX0_find_60 rfl rfl ?_
        refine x_get C 64 rfl (ref := RX0) (16 + 6 * k) 1 (gC_P ad ct _ hk) rfl in_X0_find_X0 (by decide) fl_X0_find_15 rfl rfl dX0_find_61 ?_
        refine x_iload_n C 65 rfl 3 dX0_find_64 rfl rfl ?_
        have i8 := h.1
        have h := h.2
        refine x_iald C 66 rfl (18 + 6 * k) 0 (gC_P_queue ad ct _ hk) rfl i8 dX0_find_65 ?_
        refine x_cVV C 69 rfl (m_X0_goOn l D ad ct k hk _ _ _ _ h) (cwV 3 C.1.2.2.2.2 gX0_find_X0_goOn rfl rfl rfl (by decide +kernel) ⟨Nat.le_of_ble_eq_true rfl, Nat.le_of_ble_eq_true rfl⟩) ⟨(16 + 6 * k), 0, _, _, _, (gC_P ad ct _ hk), rfl⟩ rfl rfl (Nat.le_of_ble_eq_true rfl) dX0_find_66 ?_
        intro σ9 h
        refine x_iinc C 72 rfl 3 (x3 + 1) [(3, .int (x3 + 1)), (0, .ref (ad (16 + 6 * k))), (1, .ref (ad 10)), (2, .int x2)] dX0_find_69 rfl rfl (by decide) rfl ?_
        refine x_goto C 42 dX0_find_72 (by decide) ?_
        refine x_sub (lv' := [(0, .ref (ad (16 + 6 * k))), (1, .ref (ad 10)), (2, .int x2), (3, .int (x3 + 1))]) [1, 2, 3, 0] rfl ?_
        exact ih _ _ h
set_option maxRecDepth 100000 in
set_option maxHeartbeats 4000000 in
theorem m_X0_find (l : Launch) (D : va_G) (ad : Nat → Nat) (ct : Nat → ClassId) (k : Nat) (hk : k < 3) (x2 : Int32) (σ : ST) (Q : ST → Prop) (h : wp_X0_find k x2 σ Q) : CtV l D (tysF ct) (wC ad ct) yX0_find wsX0_find rm_X0_find [.ref (ad (16 + 6 * k)), .ref (ad 10), .int x2] σ Q := by
  refine CtV.of (wC_adr ad ct) (maxL := 4) [(0, .ref (ad (16 + 6 * k))), (1, .ref (ad 10)), (2, .int x2)] RX0 (by decide) rfl rfl (by show (lg_sl [.ref (ad (16 + 6 * k)), .ref (ad 10), .int x2]).length ≤ 4; exact Nat.le_of_ble_eq_true rfl) rfl rfl rfl ?_
  intro E C hR
  unfold wp_X0_find at h
  refine x_aload_n C 1 rfl 0 dX0_find_0 rfl rfl ?_
  refine x_iconst C 2 rfl 0 dX0_find_1 rfl ?_
  obtain ⟨σ1, eσ1⟩ : ∃ z, z = sI σ (16 + 6 * k) 6 0 := ⟨_, rfl⟩
  have h := h σ1 eσ1
  refine x_put C 5 rfl (ref := RX0) (ty := .int) (σ' := σ1) (16 + 6 * k) 6 (gC_P ad ct _ hk) rfl in_X0_find_X0 tyX0 tyX0_ok nmX0 (by decide) fl_X0_find_31 rfl rfl (by decide +kernel) rfl rfl (by show 6 < 8; decide) (by rw [eσ1]; exact (sC_P_length ad ct _ hk)) dX0_find_2 ?_
  refine x_aload_n C 6 rfl 0 dX0_find_5 rfl rfl ?_
  refine x_iconst C 7 rfl 0 dX0_find_6 rfl ?_
  obtain ⟨σ2, eσ2⟩ : ∃ z, z = sI σ1 (16 + 6 * k) 5 0 := ⟨_, rfl⟩
  have h := h σ2 eσ2
  refine x_put C 10 rfl (ref := RX0) (ty := .int) (σ' := σ2) (16 + 6 * k) 5 (gC_P ad ct _ hk) rfl in_X0_find_X0 tyX0 tyX0_ok nmX0 (by decide) fl_X0_find_34 rfl rfl (by decide +kernel) rfl rfl (by show 5 < 8; decide) (by rw [eσ2]; exact (sC_P_queued ad ct _ hk)) dX0_find_7 ?_
  refine x_aload_n C 11 rfl 0 dX0_find_10 rfl rfl ?_
  refine x_get C 14 rfl (ref := RX0) (16 + 6 * k) 4 (gC_P ad ct _ hk) rfl in_X0_find_X0 (by decide) fl_X0_find_24 rfl rfl dX0_find_11 ?_
  refine x_iconst C 15 rfl (-1) dX0_find_14 rfl ?_
  refine x_cSV C 18 rfl (m_J7_fill_53178 l D ad ct (21 + 6 * k) 64 (by decide) (fun σ => gC_P_depth ad ct σ hk) (fun σ i x => sC_P_depth ad ct σ hk) _ _ _ h) (va_cwS 2 C.1.2.2.2.2 gX0_find_J7_fill_53178 rfl rfl rfl (by decide +kernel) ⟨Nat.le_of_ble_eq_true rfl, Nat.le_of_ble_eq_true rfl⟩) rfl rfl (Nat.le_of_ble_eq_true rfl) dX0_find_15 ?_
  intro σ3 h
  refine x_aload_n C 19 rfl 0 dX0_find_18 rfl rfl ?_
  refine x_aload_n C 20 rfl 1 dX0_find_19 rfl rfl ?_
  refine x_getN C 23 rfl (ref := RX1) 10 4 (gC_R ad ct _) rfl in_X0_find_X1 (by decide) C.2.2.2.2.2.2.2.2.2.2.2.2 rfl rfl dX0_find_20 ?_
  refine x_iload_n C 24 rfl 2 dX0_find_23 rfl rfl ?_
  have i4 := h.1
  have h := h.2
  refine x_iald C 25 rfl 15 0 (gC_R_firsts ad ct _) rfl i4 dX0_find_24 ?_
  refine x_aload_n C 26 rfl 1 dX0_find_25 rfl rfl ?_
  refine x_getN C 29 rfl (ref := RX1) 10 4 (gC_R ad ct _) rfl in_X0_find_X1 (by decide) C.2.2.2.2.2.2.2.2.2.2.2.2 rfl rfl dX0_find_26 ?_
  refine x_iload_n C 30 rfl 2 dX0_find_29 rfl rfl ?_
  refine x_iald C 31 rfl 15 0 (gC_R_firsts ad ct _) rfl i4 dX0_find_30 ?_
  refine x_iconst C 32 rfl 0 dX0_find_31 rfl ?_
  refine x_cSI C 35 rfl (m_X0_node l D ad ct _ _ _ _ _ h) (va_cwS 3 C.1.2.2.2.2 gX0_find_X0_node rfl rfl rfl (by decide +kernel) ⟨Nat.le_of_ble_eq_true rfl, Nat.le_of_ble_eq_true rfl⟩) rfl rfl (Nat.le_of_ble_eq_true rfl) dX0_find_32 ?_
  intro r6 σ5 h
  refine x_iconst C 36 rfl (-1) dX0_find_35 rfl ?_
  refine x_iconst C 37 rfl 0 dX0_find_36 rfl ?_
  refine x_cVV C 40 rfl (m_X0_reach l D ad ct k hk _ _ _ _ _ h) (cwV 3 C.1.2.2.2.2 gX0_find_X0_reach rfl rfl rfl (by decide +kernel) ⟨Nat.le_of_ble_eq_true rfl, Nat.le_of_ble_eq_true rfl⟩) ⟨(16 + 6 * k), 0, _, _, _, (gC_P ad ct _ hk), rfl⟩ rfl rfl (Nat.le_of_ble_eq_true rfl) dX0_find_37 ?_
  intro σ7 h
  refine x_iconst C 41 rfl 0 dX0_find_40 rfl ?_
  refine x_istore_n C 42 rfl [(3, .int 0), (0, .ref (ad (16 + 6 * k))), (1, .ref (ad 10)), (2, .int x2)] dX0_find_41 rfl (by decide) rfl ?_
  refine x_sub (lv' := [(0, .ref (ad (16 + 6 * k))), (1, .ref (ad 10)), (2, .int x2), (3, .int 0)]) [1, 2, 3, 0] rfl ?_
  obtain ⟨n10, h⟩ := h
  refine v_X0_find_L42 C k hk x2 hR n10 _ _ h
abbrev rm_X4_pairOf : Room := { frames := 5, cells := 0, slots := 0, locals := 127 }
theorem in_X4_pairOf_X4 : ∀ w ∈ u_ws RX4 TX4 7, w ∈ wsX4_pairOf := by decide +kernel
theorem fl_X4_pairOf_17 : Cond.fieldLink RX4 17 RX4 (TX4 1).2.1 (TX4 1).2.2.1 ∈ wsX4_pairOf := by decide +kernel
theorem in_X4_pairOf_X0 : ∀ w ∈ u_ws RX0 TX0 8, w ∈ wsX4_pairOf := by decide +kernel
theorem fl_X4_pairOf_154 : Cond.fieldLink RX4 154 RX0 (TX0 7).2.1 (TX0 7).2.2.1 ∈ wsX4_pairOf := by decide +kernel
theorem fl_X4_pairOf_43 : Cond.fieldLink RX4 43 RX4 (TX4 6).2.1 (TX4 6).2.2.1 ∈ wsX4_pairOf := by decide +kernel
theorem fl_X4_pairOf_30 : Cond.fieldLink RX4 30 RX4 (TX4 3).2.1 (TX4 3).2.2.1 ∈ wsX4_pairOf := by decide +kernel
theorem fl_X4_pairOf_11 : Cond.fieldLink RX4 11 RX4 (TX4 0).2.1 (TX4 0).2.2.1 ∈ wsX4_pairOf := by decide +kernel
theorem fl_X4_pairOf_39 : Cond.fieldLink RX4 39 RX4 (TX4 4).2.1 (TX4 4).2.2.1 ∈ wsX4_pairOf := by decide +kernel
set_option maxRecDepth 100000 in
set_option maxHeartbeats 4000000 in
theorem m_X4_pairOf (l : Launch) (D : va_G) (ad : Nat → Nat) (ct : Nat → ClassId) (x1 : Int32) (σ : ST) (Q : Nat → ST → Prop) (h : wp_X4_pairOf x1 σ Q) : CtA l D (tysF ct) (wC ad ct) ad yX4_pairOf wsX4_pairOf rm_X4_pairOf [.ref (ad 0), .int x1] σ Q := by
  refine CtA.of (wC_adr ad ct) (maxL := 3) [(0, .ref (ad 0)), (1, .int x1)] RX4 (by decide) rfl rfl (by show (lg_sl [.ref (ad 0), .int x1]).length ≤ 3; exact Nat.le_of_ble_eq_true rfl) rfl rfl rfl ?_
  intro E C hR
  unfold wp_X4_pairOf at h
  refine x_aload_n C 1 rfl 0 dX4_pairOf_0 rfl rfl ?_
  refine x_get C 4 rfl (ref := RX4) 0 1 (gC_J ad ct _) rfl in_X4_pairOf_X4 (by decide) fl_X4_pairOf_17 rfl rfl dX4_pairOf_1 ?_
  refine x_iload_n C 5 rfl 1 dX4_pairOf_4 rfl rfl ?_
  have i1 := h.1
  have h := h.2
  have hk2 : (Int32.toNatClampNeg x1) < 3 := Nat.not_le.mp fun q => i1 (Or.inr q)
  refine x_aald C 6 rfl (q := ad (16 + 6 * (Int32.toNatClampNeg x1))) 2 3 (gC_J_pairs ad ct _) rfl i1 rfl dX4_pairOf_5 ?_
  refine x_astore_n C 7 rfl [(2, .ref (ad (16 + 6 * (Int32.toNatClampNeg x1)))), (0, .ref (ad 0)), (1, .int x1)] dX4_pairOf_6 rfl (by decide) rfl ?_
  refine x_aload_n C 8 rfl 0 dX4_pairOf_7 rfl rfl ?_
  refine x_get C 11 rfl (ref := RX0) (16 + 6 * (Int32.toNatClampNeg x1)) 7 (gC_P ad ct _ hk2) rfl in_X4_pairOf_X0 (by decide) fl_X4_pairOf_154 rfl rfl dX4_pairOf_8 ?_
  refine x_aload_n C 12 rfl 1 dX4_pairOf_11 rfl rfl ?_
  refine x_get C 15 rfl (ref := RX4) 0 6 (gC_J ad ct _) rfl in_X4_pairOf_X4 (by decide) fl_X4_pairOf_43 rfl rfl dX4_pairOf_12 ?_
  refine x_icmp_eq C 54 18 dX4_pairOf_15 (by decide) rfl (fun c15 => ?_) (fun c15 => ?_)
  · have h := h.1 c15
    refine x_aload_n C 55 rfl 0 dX4_pairOf_54 rfl rfl ?_
    exact hR _ _ _ _ dX4_pairOf_55 h
  · have h := h.2 c15
    refine x_aload_n C 19 rfl 1 dX4_pairOf_18 rfl rfl ?_
    refine x_get C 22 rfl (ref := RX4) 0 3 (gC_J ad ct _) rfl in_X4_pairOf_X4 (by decide) fl_X4_pairOf_30 rfl rfl dX4_pairOf_19 ?_
    refine x_aload_n C 23 rfl 1 dX4_pairOf_22 rfl rfl ?_
    refine x_get C 26 rfl (ref := RX4) 0 0 (gC_J ad ct _) rfl in_X4_pairOf_X4 (by decide) fl_X4_pairOf_11 rfl rfl dX4_pairOf_23 ?_
    refine x_aload_n C 27 rfl 1 dX4_pairOf_26 rfl rfl ?_
    refine x_get C 30 rfl (ref := RX4) 0 4 (gC_J ad ct _) rfl in_X4_pairOf_X4 (by decide) fl_X4_pairOf_39 rfl rfl dX4_pairOf_27 ?_
    refine x_aload_n C 31 rfl 1 dX4_pairOf_30 rfl rfl ?_
    refine x_cVI C 34 rfl (m_X4_wallsNow l D ad ct _ _ h) (cwV 0 C.1.2.2.2.2 gX4_pairOf_X4_wallsNow rfl rfl rfl (by decide +kernel) ⟨Nat.le_of_ble_eq_true rfl, Nat.le_of_ble_eq_true rfl⟩) ⟨0, 4, _, _, _, (gC_J ad ct _), rfl⟩ rfl rfl (Nat.le_of_ble_eq_true rfl) dX4_pairOf_31 ?_
    intro r4 σ3 h
    refine x_cVV C 37 rfl (m_X1_build l D ad ct _ _ _ _ h) (cwV 3 C.1.2.2.2.2 gX4_pairOf_X1_build rfl rfl rfl (by decide +kernel) ⟨Nat.le_of_ble_eq_true rfl, Nat.le_of_ble_eq_true rfl⟩) ⟨10, 1, _, _, _, (gC_R ad ct _), rfl⟩ rfl rfl (Nat.le_of_ble_eq_true rfl) dX4_pairOf_34 ?_
    intro σ5 h
    refine x_aload_n C 38 rfl 0 dX4_pairOf_37 rfl rfl ?_
    refine x_aload_n C 39 rfl 1 dX4_pairOf_38 rfl rfl ?_
    refine x_get C 42 rfl (ref := RX4) 0 3 (gC_J ad ct _) rfl in_X4_pairOf_X4 (by decide) fl_X4_pairOf_30 rfl rfl dX4_pairOf_39 ?_
    refine x_iload_n C 43 rfl 2 dX4_pairOf_42 rfl rfl ?_
    refine x_cVV C 46 rfl (m_X0_find l D ad ct (Int32.toNatClampNeg x1) hk2 _ _ _ h) (cwV 2 C.1.2.2.2.2 gX4_pairOf_X0_find rfl rfl rfl (by decide +kernel) ⟨Nat.le_of_ble_eq_true rfl, Nat.le_of_ble_eq_true rfl⟩) ⟨(16 + 6 * (Int32.toNatClampNeg x1)), 0, _, _, _, (gC_P ad ct _ hk2), rfl⟩ rfl rfl (Nat.le_of_ble_eq_true rfl) dX4_pairOf_43 ?_
    intro σ6 h
    refine x_aload_n C 47 rfl 0 dX4_pairOf_46 rfl rfl ?_
    refine x_aload_n C 48 rfl 1 dX4_pairOf_47 rfl rfl ?_
    refine x_get C 51 rfl (ref := RX4) 0 6 (gC_J ad ct _) rfl in_X4_pairOf_X4 (by decide) fl_X4_pairOf_43 rfl rfl dX4_pairOf_48 ?_
    obtain ⟨σ7, eσ7⟩ : ∃ z, z = sI σ6 (16 + 6 * (Int32.toNatClampNeg x1)) 7 (σ6.1 0 6) := ⟨_, rfl⟩
    have h := h σ7 eσ7
    refine x_put C 54 rfl (ref := RX0) (ty := .int) (σ' := σ7) (16 + 6 * (Int32.toNatClampNeg x1)) 7 (gC_P ad ct _ hk2) rfl in_X4_pairOf_X0 tyX0 tyX0_ok nmX0 (by decide) fl_X4_pairOf_154 rfl rfl (by decide +kernel) rfl rfl (by show 7 < 8; decide) (by rw [eσ7]; exact (sC_P_asOf ad ct _ hk2)) dX4_pairOf_51 ?_
    refine x_aload_n C 55 rfl 0 dX4_pairOf_54 rfl rfl ?_
    exact hR _ _ _ _ dX4_pairOf_55 h
abbrev rm_X4_countSilent : Room := { frames := 6, cells := 0, slots := 0, locals := 149 }
theorem in_X4_countSilent_X4 : ∀ w ∈ u_ws RX4 TX4 7, w ∈ wsX4_countSilent := by decide +kernel
theorem fl_X4_countSilent_39 : Cond.fieldLink RX4 39 RX4 (TX4 4).2.1 (TX4 4).2.2.1 ∈ wsX4_countSilent := by decide +kernel
theorem in_X4_countSilent_X0 : ∀ w ∈ u_ws RX0 TX0 8, w ∈ wsX4_countSilent := by decide +kernel
theorem fl_X4_countSilent_106 : Cond.fieldLink RX4 106 RX0 (TX0 6).2.1 (TX0 6).2.2.1 ∈ wsX4_countSilent := by decide +kernel
set_option maxRecDepth 100000 in
set_option maxHeartbeats 4000000 in
theorem v_X4_countSilent_L4 {l : Launch} {D : va_G} {ad : Nat → Nat} {ct : Nat → ClassId} {E : XE}  {Q : Int32 → ST → Prop} (C : XFix D (tysF ct) (wC ad ct) rm_X4_countSilent 3 E cX4_countSilent RX4 wsX4_countSilent) (hR : RetI l D (tysF ct) (wC ad ct) rm_X4_countSilent 3 E cX4_countSilent Q) :
    ∀ (n : Nat) (x1 : Int32) (x2 : Int32) (σ : ST), wp_X4_countSilent_L4 Q n x1 x2 σ → V l D (tysF ct) (wC ad ct) rm_X4_countSilent 3 E 4 [(0, .ref (ad 0)), (1, .int x1), (2, .int x2)] [] σ := by
  intro n
  induction n with
  | zero => intro x1 x2 σ h; exact (h : False).elim
  | succ n ih =>
    intro x1 x2 σ h
    unfold wp_X4_countSilent_L4 at h
    refine x_iload_n C 5 rfl 2 dX4_countSilent_4 rfl rfl ?_
    refine x_aload_n C 6 rfl 0 dX4_countSilent_5 rfl rfl ?_
    refine x_get C 9 rfl (ref := RX4) 0 4 (gC_J ad ct _) rfl in_X4_countSilent_X4 (by decide) fl_X4_countSilent_39 rfl rfl dX4_countSilent_6 ?_
    refine x_icmp_ge C 37 12 dX4_countSilent_9 (by decide) rfl (fun c9 => ?_) (fun c9 => ?_)
    · have h := h.1 c9
      refine x_iload_n C 38 rfl 1 dX4_countSilent_37 rfl rfl ?_
      exact hR _ _ _ _ dX4_countSilent_38 h
    · have h := h.2 c9
      refine x_iload_n C 13 rfl 1 dX4_countSilent_12 rfl rfl ?_
      refine x_aload_n C 14 rfl 0 dX4_countSilent_13 rfl rfl ?_
      refine x_iload_n C 15 rfl 2 dX4_countSilent_14 rfl rfl ?_
      refine x_cVA C 18 rfl (m_X4_pairOf l D ad ct _ _ _ h) (cwV 1 C.1.2.2.2.2 gX4_countSilent_X4_pairOf rfl rfl rfl (by decide +kernel) ⟨Nat.le_of_ble_eq_true rfl, Nat.le_of_ble_eq_true rfl⟩) ⟨0, 4, _, _, _, (gC_J ad ct _), rfl⟩ rfl rfl (Nat.le_of_ble_eq_true rfl) dX4_countSilent_15 ?_
      intro r2 σ1 h
      obtain ⟨kk3, hk4, he, h⟩ := h
      subst he
      refine x_get C 21 rfl (ref := RX0) (16 + 6 * kk3) 6 (gC_P ad ct _ hk4) rfl in_X4_countSilent_X0 (by decide) fl_X4_countSilent_106 rfl rfl dX4_countSilent_18 ?_
      refine x_if_ne C 28 24 dX4_countSilent_21 (by decide) rfl (fun c21 => ?_) (fun c21 => ?_)
      · have h := h.1 c21
        refine x_iconst C 29 rfl 0 dX4_countSilent_28 rfl ?_
        refine x_iadd C 30 rfl dX4_countSilent_29 ?_
        refine x_istore_n C 31 rfl [(1, .int (x1 + 0)), (0, .ref (ad 0)), (2, .int x2)] dX4_countSilent_30 rfl (by decide) rfl ?_
        refine x_iinc C 34 rfl 2 (x2 + 1) [(2, .int (x2 + 1)), (1, .int (x1 + 0)), (0, .ref (ad 0))] dX4_countSilent_31 rfl rfl (by decide) rfl ?_
        refine x_goto C 4 dX4_countSilent_34 (by decide) ?_
        refine x_sub (lv' := [(0, .ref (ad 0)), (1, .int (x1 + 0)), (2, .int (x2 + 1))]) [2, 1, 0] rfl ?_
        exact ih _ _ _ h
      · have h := h.2 c21
        refine x_iconst C 25 rfl 1 dX4_countSilent_24 rfl ?_
        refine x_goto C 29 dX4_countSilent_25 (by decide) ?_
        refine x_iadd C 30 rfl dX4_countSilent_29 ?_
        refine x_istore_n C 31 rfl [(1, .int (x1 + 1)), (0, .ref (ad 0)), (2, .int x2)] dX4_countSilent_30 rfl (by decide) rfl ?_
        refine x_iinc C 34 rfl 2 (x2 + 1) [(2, .int (x2 + 1)), (1, .int (x1 + 1)), (0, .ref (ad 0))] dX4_countSilent_31 rfl rfl (by decide) rfl ?_
        refine x_goto C 4 dX4_countSilent_34 (by decide) ?_
        refine x_sub (lv' := [(0, .ref (ad 0)), (1, .int (x1 + 1)), (2, .int (x2 + 1))]) [2, 1, 0] rfl ?_
        exact ih _ _ _ h
set_option maxRecDepth 100000 in
set_option maxHeartbeats 4000000 in
theorem m_X4_countSilent (l : Launch) (D : va_G) (ad : Nat → Nat) (ct : Nat → ClassId) (σ : ST) (Q : Int32 → ST → Prop) (h : wp_X4_countSilent σ Q) : CtI l D (tysF ct) (wC ad ct) yX4_countSilent wsX4_countSilent rm_X4_countSilent [.ref (ad 0)] σ Q := by
  refine CtI.of (wC_adr ad ct) (maxL := 3) [(0, .ref (ad 0))] RX4 (by decide) rfl rfl (by show (lg_sl [.ref (ad 0)]).length ≤ 3; exact Nat.le_of_ble_eq_true rfl) rfl rfl rfl ?_
  intro E C hR
  unfold wp_X4_countSilent at h
  refine x_iconst C 1 rfl 0 dX4_countSilent_0 rfl ?_
  refine x_istore_n C 2 rfl [(1, .int 0), (0, .ref (ad 0))] dX4_countSilent_1 rfl (by decide) rfl ?_
  refine x_iconst C 3 rfl 0 dX4_countSilent_2 rfl ?_
  refine x_istore_n C 4 rfl [(2, .int 0), (1, .int 0), (0, .ref (ad 0))] dX4_countSilent_3 rfl (by decide) rfl ?_
  refine x_sub (lv' := [(0, .ref (ad 0)), (1, .int 0), (2, .int 0)]) [2, 1, 0] rfl ?_
  obtain ⟨n5, h⟩ := h
  refine v_X4_countSilent_L4 C hR n5 _ _ _ h
abbrev rm_X4_sumOf : Room := { frames := 1, cells := 0, slots := 0, locals := 21 }
theorem in_X4_sumOf_X4 : ∀ w ∈ u_ws RX4 TX4 7, w ∈ wsX4_sumOf := by decide +kernel
theorem fl_X4_sumOf_39 : Cond.fieldLink RX4 39 RX4 (TX4 4).2.1 (TX4 4).2.2.1 ∈ wsX4_sumOf := by decide +kernel
theorem fl_X4_sumOf_11 : Cond.fieldLink RX4 11 RX4 (TX4 0).2.1 (TX4 0).2.2.1 ∈ wsX4_sumOf := by decide +kernel
theorem in_X4_sumOf_X2 : ∀ w ∈ u_ws RX2 TX2 9, w ∈ wsX4_sumOf := by decide +kernel
theorem fl_X4_sumOf_65 : Cond.fieldLink RX4 65 RX2 (TX2 0).2.1 (TX2 0).2.2.1 ∈ wsX4_sumOf := by decide +kernel
set_option maxRecDepth 100000 in
set_option maxHeartbeats 4000000 in
theorem v_X4_sumOf_L4 {l : Launch} {D : va_G} {ad : Nat → Nat} {ct : Nat → ClassId} {E : XE}  {Q : Int32 → ST → Prop} (C : XFix D (tysF ct) (wC ad ct) rm_X4_sumOf 4 E cX4_sumOf RX4 wsX4_sumOf) (x1 : Int32) (hR : RetI l D (tysF ct) (wC ad ct) rm_X4_sumOf 4 E cX4_sumOf Q) :
    ∀ (n : Nat) (x2 : Int32) (x3 : Int32) (σ : ST), wp_X4_sumOf_L4 x1 Q n x2 x3 σ → V l D (tysF ct) (wC ad ct) rm_X4_sumOf 4 E 4 [(0, .ref (ad 0)), (1, .int x1), (2, .int x2), (3, .int x3)] [] σ := by
  intro n
  induction n with
  | zero => intro x2 x3 σ h; exact (h : False).elim
  | succ n ih =>
    intro x2 x3 σ h
    unfold wp_X4_sumOf_L4 at h
    refine x_iload_n C 5 rfl 3 dX4_sumOf_4 rfl rfl ?_
    refine x_aload_n C 6 rfl 0 dX4_sumOf_5 rfl rfl ?_
    refine x_get C 9 rfl (ref := RX4) 0 4 (gC_J ad ct _) rfl in_X4_sumOf_X4 (by decide) fl_X4_sumOf_39 rfl rfl dX4_sumOf_6 ?_
    refine x_icmp_ge C 36 12 dX4_sumOf_9 (by decide) rfl (fun c9 => ?_) (fun c9 => ?_)
    · have h := h.1 c9
      refine x_iload_n C 37 rfl 2 dX4_sumOf_36 rfl rfl ?_
      exact hR _ _ _ _ dX4_sumOf_37 h
    · have h := h.2 c9
      refine x_iload_n C 13 rfl 2 dX4_sumOf_12 rfl rfl ?_
      refine x_aload_n C 14 rfl 0 dX4_sumOf_13 rfl rfl ?_
      refine x_get C 17 rfl (ref := RX4) 0 0 (gC_J ad ct _) rfl in_X4_sumOf_X4 (by decide) fl_X4_sumOf_11 rfl rfl dX4_sumOf_14 ?_
      refine x_iload_n C 18 rfl 3 dX4_sumOf_17 rfl rfl ?_
      have i1 := h.1
      have h := h.2
      have hk2 : (Int32.toNatClampNeg x3) < 3 := Nat.not_le.mp fun q => i1 (Or.inr q)
      refine x_aald C 19 rfl (q := ad (4 + 2 * (Int32.toNatClampNeg x3))) 1 2 (gC_J_things ad ct _) rfl i1 rfl dX4_sumOf_18 ?_
      refine x_get C 22 rfl (ref := RX2) (4 + 2 * (Int32.toNatClampNeg x3)) 0 (gC_T ad ct _ hk2) rfl in_X4_sumOf_X2 (by decide) fl_X4_sumOf_65 rfl rfl dX4_sumOf_19 ?_
      refine x_iload_n C 23 rfl 1 dX4_sumOf_22 rfl rfl ?_
      refine x_iload_n C 24 rfl 3 dX4_sumOf_23 rfl rfl ?_
      refine x_cSI C 27 rfl (m_X4_wallIn l D ad ct _ _ _ _ h) (va_cwS 2 C.1.2.2.2.2 gX4_sumOf_X4_wallIn rfl rfl rfl (by decide +kernel) ⟨Nat.le_of_ble_eq_true rfl, Nat.le_of_ble_eq_true rfl⟩) rfl rfl (Nat.le_of_ble_eq_true rfl) dX4_sumOf_24 ?_
      intro r4 σ3 h
      have i5 := h.1
      have h := h.2
      refine x_iald C 28 rfl (5 + 2 * (Int32.toNatClampNeg x3)) 0 (gC_T_prices ad ct _ hk2) rfl i5 dX4_sumOf_27 ?_
      refine x_iadd C 29 rfl dX4_sumOf_28 ?_
      refine x_ni (fun w6 ew6 => ?_)
      have h := h w6 ew6
      refine x_istore_n C 30 rfl [(2, .int w6), (0, .ref (ad 0)), (1, .int x1), (3, .int x3)] dX4_sumOf_29 rfl (by decide) rfl ?_
      refine x_iinc C 33 rfl 3 (x3 + 1) [(3, .int (x3 + 1)), (2, .int w6), (0, .ref (ad 0)), (1, .int x1)] dX4_sumOf_30 rfl rfl (by decide) rfl ?_
      refine x_goto C 4 dX4_sumOf_33 (by decide) ?_
      refine x_sub (lv' := [(0, .ref (ad 0)), (1, .int x1), (2, .int w6), (3, .int (x3 + 1))]) [2, 3, 1, 0] rfl ?_
      exact ih _ _ _ h
set_option maxRecDepth 100000 in
set_option maxHeartbeats 4000000 in
theorem m_X4_sumOf (l : Launch) (D : va_G) (ad : Nat → Nat) (ct : Nat → ClassId) (x1 : Int32) (σ : ST) (Q : Int32 → ST → Prop) (h : wp_X4_sumOf x1 σ Q) : CtI l D (tysF ct) (wC ad ct) yX4_sumOf wsX4_sumOf rm_X4_sumOf [.ref (ad 0), .int x1] σ Q := by
  refine CtI.of (wC_adr ad ct) (maxL := 4) [(0, .ref (ad 0)), (1, .int x1)] RX4 (by decide) rfl rfl (by show (lg_sl [.ref (ad 0), .int x1]).length ≤ 4; exact Nat.le_of_ble_eq_true rfl) rfl rfl rfl ?_
  intro E C hR
  unfold wp_X4_sumOf at h
  refine x_iconst C 1 rfl 0 dX4_sumOf_0 rfl ?_
  refine x_istore_n C 2 rfl [(2, .int 0), (0, .ref (ad 0)), (1, .int x1)] dX4_sumOf_1 rfl (by decide) rfl ?_
  refine x_iconst C 3 rfl 0 dX4_sumOf_2 rfl ?_
  refine x_istore_n C 4 rfl [(3, .int 0), (2, .int 0), (0, .ref (ad 0)), (1, .int x1)] dX4_sumOf_3 rfl (by decide) rfl ?_
  refine x_sub (lv' := [(0, .ref (ad 0)), (1, .int x1), (2, .int 0), (3, .int 0)]) [2, 3, 1, 0] rfl ?_
  obtain ⟨n7, h⟩ := h
  refine v_X4_sumOf_L4 C x1 hR n7 _ _ _ h
abbrev rm_X4_look : Room := { frames := 7, cells := 0, slots := 0, locals := 171 }
theorem in_X4_look_X4 : ∀ w ∈ u_ws RX4 TX4 7, w ∈ wsX4_look := by decide +kernel
theorem fl_X4_look_39 : Cond.fieldLink RX4 39 RX4 (TX4 4).2.1 (TX4 4).2.2.1 ∈ wsX4_look := by decide +kernel
set_option maxRecDepth 100000 in
set_option maxHeartbeats 4000000 in
theorem m_X4_look (l : Launch) (D : va_G) (ad : Nat → Nat) (ct : Nat → ClassId) (x1 : Int32) (σ : ST) (Q : Int32 → ST → Prop) (h : wp_X4_look x1 σ Q) : CtI l D (tysF ct) (wC ad ct) yX4_look wsX4_look rm_X4_look [.ref (ad 0), .int x1] σ Q := by
  refine CtI.of (wC_adr ad ct) (maxL := 2) [(0, .ref (ad 0)), (1, .int x1)] RX4 (by decide) rfl rfl (by show (lg_sl [.ref (ad 0), .int x1]).length ≤ 2; exact Nat.le_of_ble_eq_true rfl) rfl rfl rfl ?_
  intro E C hR
  unfold wp_X4_look at h
  refine x_iload_n C 1 rfl 1 dX4_look_0 rfl rfl ?_
  by_cases t1_0 : x1 = 0
  · have h := h.1 t1_0
    refine x_top t1_0 ?_
    refine x_tsIn C 32 31 dX4_look_1 (by decide) (by decide) (by decide) (by decide) ?_
    refine x_aload_n C 33 rfl 0 dX4_look_32 rfl rfl ?_
    refine x_get C 36 rfl (ref := RX4) 0 4 (gC_J ad ct _) rfl in_X4_look_X4 (by decide) fl_X4_look_39 rfl rfl dX4_look_33 ?_
    exact hR _ _ _ _ dX4_look_36 h
  · have h := h.2 t1_0
    by_cases t1_1 : x1 = 1
    · have h := h.1 t1_1
      refine x_top t1_1 ?_
      refine x_tsIn C 37 36 dX4_look_1 (by decide) (by decide) (by decide) (by decide) ?_
      refine x_aload_n C 38 rfl 0 dX4_look_37 rfl rfl ?_
      refine x_cVI C 41 rfl (m_X4_countSilent l D ad ct _ _ h) (cwV 0 C.1.2.2.2.2 gX4_look_X4_countSilent rfl rfl rfl (by decide +kernel) ⟨Nat.le_of_ble_eq_true rfl, Nat.le_of_ble_eq_true rfl⟩) ⟨0, 4, _, _, _, (gC_J ad ct _), rfl⟩ rfl rfl (Nat.le_of_ble_eq_true rfl) dX4_look_38 ?_
      intro r2 σ1 h
      exact hR _ _ _ _ dX4_look_41 h
    · have h := h.2 t1_1
      by_cases t1_2 : x1 = 2
      · have h := h.1 t1_2
        refine x_top t1_2 ?_
        refine x_tsIn C 42 41 dX4_look_1 (by decide) (by decide) (by decide) (by decide) ?_
        refine x_aload_n C 43 rfl 0 dX4_look_42 rfl rfl ?_
        refine x_aload_n C 44 rfl 0 dX4_look_43 rfl rfl ?_
        refine x_cVI C 47 rfl (m_X4_wallsNow l D ad ct _ _ h) (cwV 0 C.1.2.2.2.2 gX4_look_X4_wallsNow rfl rfl rfl (by decide +kernel) ⟨Nat.le_of_ble_eq_true rfl, Nat.le_of_ble_eq_true rfl⟩) ⟨0, 4, _, _, _, (gC_J ad ct _), rfl⟩ rfl rfl (Nat.le_of_ble_eq_true rfl) dX4_look_44 ?_
        intro r4 σ3 h
        refine x_cVI C 50 rfl (m_X4_sumOf l D ad ct _ _ _ h) (cwV 1 C.1.2.2.2.2 gX4_look_X4_sumOf rfl rfl rfl (by decide +kernel) ⟨Nat.le_of_ble_eq_true rfl, Nat.le_of_ble_eq_true rfl⟩) ⟨0, 4, _, _, _, (gC_J ad ct _), rfl⟩ rfl rfl (Nat.le_of_ble_eq_true rfl) dX4_look_47 ?_
        intro r6 σ5 h
        exact hR _ _ _ _ dX4_look_50 h
      · have h := h.2 t1_2
        by_cases t1_3 : x1 = 3
        · have h := h.1 t1_3
          refine x_top t1_3 ?_
          refine x_tsIn C 51 50 dX4_look_1 (by decide) (by decide) (by decide) (by decide) ?_
          refine x_aload_n C 52 rfl 0 dX4_look_51 rfl rfl ?_
          refine x_cVI C 55 rfl (m_X4_wallsNow l D ad ct _ _ h) (cwV 0 C.1.2.2.2.2 gX4_look_X4_wallsNow rfl rfl rfl (by decide +kernel) ⟨Nat.le_of_ble_eq_true rfl, Nat.le_of_ble_eq_true rfl⟩) ⟨0, 4, _, _, _, (gC_J ad ct _), rfl⟩ rfl rfl (Nat.le_of_ble_eq_true rfl) dX4_look_52 ?_
          intro r8 σ7 h
          exact hR _ _ _ _ dX4_look_55 h
        · have h := h.2 t1_3
          refine x_tsOut C 56 dX4_look_1 (by have a0 := tne t1_0 (k := 0) (by decide); have a1 := tne t1_1 (k := 1) (by decide); have a2 := tne t1_2 (k := 2) (by decide); have a3 := tne t1_3 (k := 3) (by decide); omega) (by decide) ?_
          refine x_iconst C 57 rfl (-1) dX4_look_56 rfl ?_
          exact hR _ _ _ _ dX4_look_57 h
abbrev rm_X4_of : Room := { frames := 1, cells := 0, slots := 0, locals := 21 }
theorem in_X4_of_X4 : ∀ w ∈ u_ws RX4 TX4 7, w ∈ wsX4_of := by decide +kernel
theorem fl_X4_of_11 : Cond.fieldLink RX4 11 RX4 (TX4 0).2.1 (TX4 0).2.2.1 ∈ wsX4_of := by decide +kernel
theorem in_X4_of_X2 : ∀ w ∈ u_ws RX2 TX2 9, w ∈ wsX4_of := by decide +kernel
theorem fl_X4_of_80 : Cond.fieldLink RX4 80 RX2 (TX2 1).2.1 (TX2 1).2.2.1 ∈ wsX4_of := by decide +kernel
theorem fl_X4_of_83 : Cond.fieldLink RX4 83 RX2 (TX2 2).2.1 (TX2 2).2.2.1 ∈ wsX4_of := by decide +kernel
theorem fl_X4_of_58 : Cond.fieldLink RX4 58 RX2 (TX2 3).2.1 (TX2 3).2.2.1 ∈ wsX4_of := by decide +kernel
theorem fl_X4_of_86 : Cond.fieldLink RX4 86 RX2 (TX2 4).2.1 (TX2 4).2.2.1 ∈ wsX4_of := by decide +kernel
theorem fl_X4_of_89 : Cond.fieldLink RX4 89 RX2 (TX2 5).2.1 (TX2 5).2.2.1 ∈ wsX4_of := by decide +kernel
set_option maxRecDepth 100000 in
set_option maxHeartbeats 4000000 in
theorem m_X4_of (l : Launch) (D : va_G) (ad : Nat → Nat) (ct : Nat → ClassId) (x1 : Int32) (x2 : Int32) (σ : ST) (Q : Int32 → ST → Prop) (h : wp_X4_of x1 x2 σ Q) : CtI l D (tysF ct) (wC ad ct) yX4_of wsX4_of rm_X4_of [.ref (ad 0), .int x1, .int x2] σ Q := by
  refine CtI.of (wC_adr ad ct) (maxL := 3) [(0, .ref (ad 0)), (1, .int x1), (2, .int x2)] RX4 (by decide) rfl rfl (by show (lg_sl [.ref (ad 0), .int x1, .int x2]).length ≤ 3; exact Nat.le_of_ble_eq_true rfl) rfl rfl rfl ?_
  intro E C hR
  unfold wp_X4_of at h
  refine x_aload_n C 1 rfl 0 dX4_of_0 rfl rfl ?_
  refine x_iload_n C 2 rfl 1 dX4_of_1 rfl rfl ?_
  refine x_cVI C 5 rfl (m_X4_isThing l D ad ct _ _ _ h) (cwV 1 C.1.2.2.2.2 gX4_of_X4_isThing rfl rfl rfl (by decide +kernel) ⟨Nat.le_of_ble_eq_true rfl, Nat.le_of_ble_eq_true rfl⟩) ⟨0, 4, _, _, _, (gC_J ad ct _), rfl⟩ rfl rfl (Nat.le_of_ble_eq_true rfl) dX4_of_2 ?_
  intro r2 σ1 h
  refine x_if_ne C 10 8 dX4_of_5 (by decide) rfl (fun c5 => ?_) (fun c5 => ?_)
  · have h := h.1 c5
    refine x_iload_n C 11 rfl 2 dX4_of_10 rfl rfl ?_
    by_cases t11_0 : x2 = 0
    · have h := h.1 t11_0
      refine x_top t11_0 ?_
      refine x_tsIn C 44 33 dX4_of_11 (by decide) (by decide) (by decide) (by decide) ?_
      refine x_aload_n C 45 rfl 0 dX4_of_44 rfl rfl ?_
      refine x_get C 48 rfl (ref := RX4) 0 0 (gC_J ad ct _) rfl in_X4_of_X4 (by decide) fl_X4_of_11 rfl rfl dX4_of_45 ?_
      refine x_iload_n C 49 rfl 1 dX4_of_48 rfl rfl ?_
      have i3 := h.1
      have h := h.2
      have hk4 : (Int32.toNatClampNeg x1) < 3 := Nat.not_le.mp fun q => i3 (Or.inr q)
      refine x_aald C 50 rfl (q := ad (4 + 2 * (Int32.toNatClampNeg x1))) 1 2 (gC_J_things ad ct _) rfl i3 rfl dX4_of_49 ?_
      refine x_get C 53 rfl (ref := RX2) (4 + 2 * (Int32.toNatClampNeg x1)) 1 (gC_T ad ct _ hk4) rfl in_X4_of_X2 (by decide) fl_X4_of_80 rfl rfl dX4_of_50 ?_
      exact hR _ _ _ _ dX4_of_53 h
    · have h := h.2 t11_0
      by_cases t11_1 : x2 = 1
      · have h := h.1 t11_1
        refine x_top t11_1 ?_
        refine x_tsIn C 54 43 dX4_of_11 (by decide) (by decide) (by decide) (by decide) ?_
        refine x_aload_n C 55 rfl 0 dX4_of_54 rfl rfl ?_
        refine x_get C 58 rfl (ref := RX4) 0 0 (gC_J ad ct _) rfl in_X4_of_X4 (by decide) fl_X4_of_11 rfl rfl dX4_of_55 ?_
        refine x_iload_n C 59 rfl 1 dX4_of_58 rfl rfl ?_
        have i5 := h.1
        have h := h.2
        have hk6 : (Int32.toNatClampNeg x1) < 3 := Nat.not_le.mp fun q => i5 (Or.inr q)
        refine x_aald C 60 rfl (q := ad (4 + 2 * (Int32.toNatClampNeg x1))) 1 2 (gC_J_things ad ct _) rfl i5 rfl dX4_of_59 ?_
        refine x_get C 63 rfl (ref := RX2) (4 + 2 * (Int32.toNatClampNeg x1)) 2 (gC_T ad ct _ hk6) rfl in_X4_of_X2 (by decide) fl_X4_of_83 rfl rfl dX4_of_60 ?_
        exact hR _ _ _ _ dX4_of_63 h
      · have h := h.2 t11_1
        by_cases t11_2 : x2 = 2
        · have h := h.1 t11_2
          refine x_top t11_2 ?_
          refine x_tsIn C 64 53 dX4_of_11 (by decide) (by decide) (by decide) (by decide) ?_
          refine x_aload_n C 65 rfl 0 dX4_of_64 rfl rfl ?_
          refine x_get C 68 rfl (ref := RX4) 0 0 (gC_J ad ct _) rfl in_X4_of_X4 (by decide) fl_X4_of_11 rfl rfl dX4_of_65 ?_
          refine x_iload_n C 69 rfl 1 dX4_of_68 rfl rfl ?_
          have i7 := h.1
          have h := h.2
          have hk8 : (Int32.toNatClampNeg x1) < 3 := Nat.not_le.mp fun q => i7 (Or.inr q)
          refine x_aald C 70 rfl (q := ad (4 + 2 * (Int32.toNatClampNeg x1))) 1 2 (gC_J_things ad ct _) rfl i7 rfl dX4_of_69 ?_
          refine x_get C 73 rfl (ref := RX2) (4 + 2 * (Int32.toNatClampNeg x1)) 3 (gC_T ad ct _ hk8) rfl in_X4_of_X2 (by decide) fl_X4_of_58 rfl rfl dX4_of_70 ?_
          exact hR _ _ _ _ dX4_of_73 h
        · have h := h.2 t11_2
          by_cases t11_3 : x2 = 3
          · have h := h.1 t11_3
            refine x_top t11_3 ?_
            refine x_tsIn C 74 63 dX4_of_11 (by decide) (by decide) (by decide) (by decide) ?_
            refine x_aload_n C 75 rfl 0 dX4_of_74 rfl rfl ?_
            refine x_get C 78 rfl (ref := RX4) 0 0 (gC_J ad ct _) rfl in_X4_of_X4 (by decide) fl_X4_of_11 rfl rfl dX4_of_75 ?_
            refine x_iload_n C 79 rfl 1 dX4_of_78 rfl rfl ?_
            have i9 := h.1
            have h := h.2
            have hk10 : (Int32.toNatClampNeg x1) < 3 := Nat.not_le.mp fun q => i9 (Or.inr q)
            refine x_aald C 80 rfl (q := ad (4 + 2 * (Int32.toNatClampNeg x1))) 1 2 (gC_J_things ad ct _) rfl i9 rfl dX4_of_79 ?_
            refine x_get C 83 rfl (ref := RX2) (4 + 2 * (Int32.toNatClampNeg x1)) 4 (gC_T ad ct _ hk10) rfl in_X4_of_X2 (by decide) fl_X4_of_86 rfl rfl dX4_of_80 ?_
            exact hR _ _ _ _ dX4_of_83 h
          · have h := h.2 t11_3
            by_cases t11_4 : x2 = 4
            · have h := h.1 t11_4
              refine x_top t11_4 ?_
              refine x_tsIn C 84 73 dX4_of_11 (by decide) (by decide) (by decide) (by decide) ?_
              refine x_aload_n C 85 rfl 0 dX4_of_84 rfl rfl ?_
              refine x_get C 88 rfl (ref := RX4) 0 0 (gC_J ad ct _) rfl in_X4_of_X4 (by decide) fl_X4_of_11 rfl rfl dX4_of_85 ?_
              refine x_iload_n C 89 rfl 1 dX4_of_88 rfl rfl ?_
              have i11 := h.1
              have h := h.2
              have hk12 : (Int32.toNatClampNeg x1) < 3 := Nat.not_le.mp fun q => i11 (Or.inr q)
              refine x_aald C 90 rfl (q := ad (4 + 2 * (Int32.toNatClampNeg x1))) 1 2 (gC_J_things ad ct _) rfl i11 rfl dX4_of_89 ?_
              refine x_get C 93 rfl (ref := RX2) (4 + 2 * (Int32.toNatClampNeg x1)) 5 (gC_T ad ct _ hk12) rfl in_X4_of_X2 (by decide) fl_X4_of_89 rfl rfl dX4_of_90 ?_
              exact hR _ _ _ _ dX4_of_93 h
            · have h := h.2 t11_4
              refine x_tsOut C 94 dX4_of_11 (by have a0 := tne t11_0 (k := 0) (by decide); have a1 := tne t11_1 (k := 1) (by decide); have a2 := tne t11_2 (k := 2) (by decide); have a3 := tne t11_3 (k := 3) (by decide); have a4 := tne t11_4 (k := 4) (by decide); omega) (by decide) ?_
              refine x_iconst C 95 rfl (-1) dX4_of_94 rfl ?_
              exact hR _ _ _ _ dX4_of_95 h
  · have h := h.2 c5
    refine x_iconst C 9 rfl (-1) dX4_of_8 rfl ?_
    exact hR _ _ _ _ dX4_of_9 h
abbrev rm_X4_does : Room := { frames := 3, cells := 0, slots := 0, locals := 76 }
theorem in_X4_does_X4 : ∀ w ∈ u_ws RX4 TX4 7, w ∈ wsX4_does := by decide +kernel
theorem fl_X4_does_11 : Cond.fieldLink RX4 11 RX4 (TX4 0).2.1 (TX4 0).2.2.1 ∈ wsX4_does := by decide +kernel
theorem in_X4_does_X2 : ∀ w ∈ u_ws RX2 TX2 9, w ∈ wsX4_does := by decide +kernel
theorem fl_X4_does_80 : Cond.fieldLink RX4 80 RX2 (TX2 1).2.1 (TX2 1).2.2.1 ∈ wsX4_does := by decide +kernel
set_option maxRecDepth 100000 in
set_option maxHeartbeats 4000000 in
theorem m_X4_does (l : Launch) (D : va_G) (ad : Nat → Nat) (ct : Nat → ClassId) (x1 : Int32) (x2 : Int32) (x3 : Int32) (x4 : Int32) (x5 : Int32) (σ : ST) (Q : Int32 → ST → Prop) (h : wp_X4_does x1 x2 x3 x4 x5 σ Q) : CtI l D (tysF ct) (wC ad ct) yX4_does wsX4_does rm_X4_does [.ref (ad 0), .int x1, .int x2, .int x3, .int x4, .int x5] σ Q := by
  refine CtI.of (wC_adr ad ct) (maxL := 6) [(0, .ref (ad 0)), (1, .int x1), (2, .int x2), (3, .int x3), (4, .int x4), (5, .int x5)] RX4 (by decide) rfl rfl (by show (lg_sl [.ref (ad 0), .int x1, .int x2, .int x3, .int x4, .int x5]).length ≤ 6; exact Nat.le_of_ble_eq_true rfl) rfl rfl rfl ?_
  intro E C hR
  unfold wp_X4_does at h
  refine x_aload_n C 1 rfl 0 dX4_does_0 rfl rfl ?_
  refine x_iload_n C 2 rfl 1 dX4_does_1 rfl rfl ?_
  refine x_cVI C 5 rfl (m_X4_isThing l D ad ct _ _ _ h) (cwV 1 C.1.2.2.2.2 gX4_does_X4_isThing rfl rfl rfl (by decide +kernel) ⟨Nat.le_of_ble_eq_true rfl, Nat.le_of_ble_eq_true rfl⟩) ⟨0, 4, _, _, _, (gC_J ad ct _), rfl⟩ rfl rfl (Nat.le_of_ble_eq_true rfl) dX4_does_2 ?_
  intro r2 σ1 h
  refine x_if_eq C 28 8 dX4_does_5 (by decide) rfl (fun c5 => ?_) (fun c5 => ?_)
  · have h := h.1 c5
    refine x_iconst C 29 rfl (-1) dX4_does_28 rfl ?_
    exact hR _ _ _ _ dX4_does_29 h
  · have h := h.2 c5
    refine x_iload_n C 9 rfl 2 dX4_does_8 rfl rfl ?_
    refine x_if_lt C 28 12 dX4_does_9 (by decide) rfl (fun c9 => ?_) (fun c9 => ?_)
    · have h := h.1 c9
      refine x_iconst C 29 rfl (-1) dX4_does_28 rfl ?_
      exact hR _ _ _ _ dX4_does_29 h
    · have h := h.2 c9
      refine x_iload_n C 13 rfl 2 dX4_does_12 rfl rfl ?_
      refine x_iconst C 14 rfl 1 dX4_does_13 rfl ?_
      refine x_icmp_gt C 28 17 dX4_does_14 (by decide) rfl (fun c14 => ?_) (fun c14 => ?_)
      · have h := h.1 c14
        refine x_iconst C 29 rfl (-1) dX4_does_28 rfl ?_
        exact hR _ _ _ _ dX4_does_29 h
      · have h := h.2 c14
        refine x_iload C 19 rfl 4 dX4_does_17 rfl ?_
        refine x_if_lt C 28 22 dX4_does_19 (by decide) rfl (fun c19 => ?_) (fun c19 => ?_)
        · have h := h.1 c19
          refine x_iconst C 29 rfl (-1) dX4_does_28 rfl ?_
          exact hR _ _ _ _ dX4_does_29 h
        · have h := h.2 c19
          refine x_iload C 24 rfl 4 dX4_does_22 rfl ?_
          refine x_iconst C 25 rfl 3 dX4_does_24 rfl ?_
          refine x_icmp_lt C 30 28 dX4_does_25 (by decide) rfl (fun c25 => ?_) (fun c25 => ?_)
          · have h := h.1 c25
            refine x_aload_n C 31 rfl 0 dX4_does_30 rfl rfl ?_
            refine x_get C 34 rfl (ref := RX4) 0 0 (gC_J ad ct _) rfl in_X4_does_X4 (by decide) fl_X4_does_11 rfl rfl dX4_does_31 ?_
            refine x_iload_n C 35 rfl 1 dX4_does_34 rfl rfl ?_
            have i3 := h.1
            have h := h.2
            have hk4 : (Int32.toNatClampNeg x1) < 3 := Nat.not_le.mp fun q => i3 (Or.inr q)
            refine x_aald C 36 rfl (q := ad (4 + 2 * (Int32.toNatClampNeg x1))) 1 2 (gC_J_things ad ct _) rfl i3 rfl dX4_does_35 ?_
            refine x_get C 39 rfl (ref := RX2) (4 + 2 * (Int32.toNatClampNeg x1)) 1 (gC_T ad ct _ hk4) rfl in_X4_does_X2 (by decide) fl_X4_does_80 rfl rfl dX4_does_36 ?_
            refine x_iload_n C 40 rfl 3 dX4_does_39 rfl rfl ?_
            refine x_cSI C 43 rfl (m_X4_canBe l D ad ct _ _ _ _ h) (va_cwS 2 C.1.2.2.2.2 gX4_does_X4_canBe rfl rfl rfl (by decide +kernel) ⟨Nat.le_of_ble_eq_true rfl, Nat.le_of_ble_eq_true rfl⟩) rfl rfl (Nat.le_of_ble_eq_true rfl) dX4_does_40 ?_
            intro r6 σ5 h
            refine x_if_eq C 57 46 dX4_does_43 (by decide) rfl (fun c43 => ?_) (fun c43 => ?_)
            · have h := h.1 c43
              refine x_iconst C 58 rfl (-1) dX4_does_57 rfl ?_
              exact hR _ _ _ _ dX4_does_58 h
            · have h := h.2 c43
              refine x_iload C 48 rfl 5 dX4_does_46 rfl ?_
              refine x_if_lt C 57 51 dX4_does_48 (by decide) rfl (fun c48 => ?_) (fun c48 => ?_)
              · have h := h.1 c48
                refine x_iconst C 58 rfl (-1) dX4_does_57 rfl ?_
                exact hR _ _ _ _ dX4_does_58 h
              · have h := h.2 c48
                refine x_iload C 53 rfl 5 dX4_does_51 rfl ?_
                refine x_iconst C 54 rfl 1 dX4_does_53 rfl ?_
                refine x_icmp_le C 59 57 dX4_does_54 (by decide) rfl (fun c54 => ?_) (fun c54 => ?_)
                · have h := h.1 c54
                  refine x_iload C 61 rfl 5 dX4_does_59 rfl ?_
                  refine x_if_ne C 80 64 dX4_does_61 (by decide) rfl (fun c61 => ?_) (fun c61 => ?_)
                  · have h := h.1 c61
                    refine x_aload_n C 81 rfl 0 dX4_does_80 rfl rfl ?_
                    refine x_get C 84 rfl (ref := RX4) 0 0 (gC_J ad ct _) rfl in_X4_does_X4 (by decide) fl_X4_does_11 rfl rfl dX4_does_81 ?_
                    refine x_iload_n C 85 rfl 1 dX4_does_84 rfl rfl ?_
                    have hk7 : (Int32.toNatClampNeg x1) < 3 := Nat.not_le.mp fun q => i3 (Or.inr q)
                    refine x_aald C 86 rfl (q := ad (4 + 2 * (Int32.toNatClampNeg x1))) 1 2 (gC_J_things ad ct _) rfl i3 rfl dX4_does_85 ?_
                    refine x_iload_n C 87 rfl 2 dX4_does_86 rfl rfl ?_
                    refine x_iload_n C 88 rfl 3 dX4_does_87 rfl rfl ?_
                    refine x_iload C 90 rfl 4 dX4_does_88 rfl ?_
                    refine x_cVI C 93 rfl (m_X2_answer l D ad ct (Int32.toNatClampNeg x1) hk7 _ _ _ _ _ h) (cwV 3 C.1.2.2.2.2 gX4_does_X2_answer rfl rfl rfl (by decide +kernel) ⟨Nat.le_of_ble_eq_true rfl, Nat.le_of_ble_eq_true rfl⟩) ⟨(4 + 2 * (Int32.toNatClampNeg x1)), 2, _, _, _, (gC_T ad ct _ hk7), rfl⟩ rfl rfl (Nat.le_of_ble_eq_true rfl) dX4_does_90 ?_
                    intro r9 σ8 h
                    exact hR _ _ _ _ dX4_does_93 h
                  · have h := h.2 c61
                    refine x_aload_n C 65 rfl 0 dX4_does_64 rfl rfl ?_
                    refine x_get C 68 rfl (ref := RX4) 0 0 (gC_J ad ct _) rfl in_X4_does_X4 (by decide) fl_X4_does_11 rfl rfl dX4_does_65 ?_
                    refine x_iload_n C 69 rfl 1 dX4_does_68 rfl rfl ?_
                    have hk10 : (Int32.toNatClampNeg x1) < 3 := Nat.not_le.mp fun q => i3 (Or.inr q)
                    refine x_aald C 70 rfl (q := ad (4 + 2 * (Int32.toNatClampNeg x1))) 1 2 (gC_J_things ad ct _) rfl i3 rfl dX4_does_69 ?_
                    refine x_iload_n C 71 rfl 2 dX4_does_70 rfl rfl ?_
                    refine x_iload_n C 72 rfl 3 dX4_does_71 rfl rfl ?_
                    refine x_iload C 74 rfl 4 dX4_does_72 rfl ?_
                    refine x_cVI C 77 rfl (m_X2_next l D ad ct (Int32.toNatClampNeg x1) hk10 _ _ _ _ _ h) (cwV 3 C.1.2.2.2.2 gX4_does_X2_next rfl rfl rfl (by decide +kernel) ⟨Nat.le_of_ble_eq_true rfl, Nat.le_of_ble_eq_true rfl⟩) ⟨(4 + 2 * (Int32.toNatClampNeg x1)), 2, _, _, _, (gC_T ad ct _ hk10), rfl⟩ rfl rfl (Nat.le_of_ble_eq_true rfl) dX4_does_74 ?_
                    intro r12 σ11 h
                    refine x_goto C 93 dX4_does_77 (by decide) ?_
                    exact hR _ _ _ _ dX4_does_93 h
                · have h := h.2 c54
                  refine x_iconst C 58 rfl (-1) dX4_does_57 rfl ?_
                  exact hR _ _ _ _ dX4_does_58 h
          · have h := h.2 c25
            refine x_iconst C 29 rfl (-1) dX4_does_28 rfl ?_
            exact hR _ _ _ _ dX4_does_29 h
abbrev rm_X4_silent : Room := { frames := 6, cells := 0, slots := 0, locals := 149 }
theorem in_X4_silent_X0 : ∀ w ∈ u_ws RX0 TX0 8, w ∈ wsX4_silent := by decide +kernel
theorem fl_X4_silent_106 : Cond.fieldLink RX4 106 RX0 (TX0 6).2.1 (TX0 6).2.2.1 ∈ wsX4_silent := by decide +kernel
set_option maxRecDepth 100000 in
set_option maxHeartbeats 4000000 in
theorem m_X4_silent (l : Launch) (D : va_G) (ad : Nat → Nat) (ct : Nat → ClassId) (x1 : Int32) (σ : ST) (Q : Int32 → ST → Prop) (h : wp_X4_silent x1 σ Q) : CtI l D (tysF ct) (wC ad ct) yX4_silent wsX4_silent rm_X4_silent [.ref (ad 0), .int x1] σ Q := by
  refine CtI.of (wC_adr ad ct) (maxL := 2) [(0, .ref (ad 0)), (1, .int x1)] RX4 (by decide) rfl rfl (by show (lg_sl [.ref (ad 0), .int x1]).length ≤ 2; exact Nat.le_of_ble_eq_true rfl) rfl rfl rfl ?_
  intro E C hR
  unfold wp_X4_silent at h
  refine x_aload_n C 1 rfl 0 dX4_silent_0 rfl rfl ?_
  refine x_iload_n C 2 rfl 1 dX4_silent_1 rfl rfl ?_
  refine x_cVI C 5 rfl (m_X4_isThing l D ad ct _ _ _ h) (cwV 1 C.1.2.2.2.2 gX4_silent_X4_isThing rfl rfl rfl (by decide +kernel) ⟨Nat.le_of_ble_eq_true rfl, Nat.le_of_ble_eq_true rfl⟩) ⟨0, 4, _, _, _, (gC_J ad ct _), rfl⟩ rfl rfl (Nat.le_of_ble_eq_true rfl) dX4_silent_2 ?_
  intro r2 σ1 h
  refine x_if_ne C 10 8 dX4_silent_5 (by decide) rfl (fun c5 => ?_) (fun c5 => ?_)
  · have h := h.1 c5
    refine x_aload_n C 11 rfl 0 dX4_silent_10 rfl rfl ?_
    refine x_iload_n C 12 rfl 1 dX4_silent_11 rfl rfl ?_
    refine x_cVA C 15 rfl (m_X4_pairOf l D ad ct _ _ _ h) (cwV 1 C.1.2.2.2.2 gX4_silent_X4_pairOf rfl rfl rfl (by decide +kernel) ⟨Nat.le_of_ble_eq_true rfl, Nat.le_of_ble_eq_true rfl⟩) ⟨0, 4, _, _, _, (gC_J ad ct _), rfl⟩ rfl rfl (Nat.le_of_ble_eq_true rfl) dX4_silent_12 ?_
    intro r4 σ3 h
    obtain ⟨kk5, hk6, he, h⟩ := h
    subst he
    refine x_get C 18 rfl (ref := RX0) (16 + 6 * kk5) 6 (gC_P ad ct _ hk6) rfl in_X4_silent_X0 (by decide) fl_X4_silent_106 rfl rfl dX4_silent_15 ?_
    refine x_if_ne C 25 21 dX4_silent_18 (by decide) rfl (fun c18 => ?_) (fun c18 => ?_)
    · have h := h.1 c18
      refine x_iconst C 26 rfl 0 dX4_silent_25 rfl ?_
      exact hR _ _ _ _ dX4_silent_26 h
    · have h := h.2 c18
      refine x_iconst C 22 rfl 1 dX4_silent_21 rfl ?_
      refine x_goto C 26 dX4_silent_22 (by decide) ?_
      exact hR _ _ _ _ dX4_silent_26 h
  · have h := h.2 c5
    refine x_iconst C 9 rfl (-1) dX4_silent_8 rfl ?_
    exact hR _ _ _ _ dX4_silent_9 h
abbrev rm_X4_shown : Room := { frames := 6, cells := 0, slots := 0, locals := 149 }
theorem in_X4_shown_X0 : ∀ w ∈ u_ws RX0 TX0 8, w ∈ wsX4_shown := by decide +kernel
theorem fl_X4_shown_106 : Cond.fieldLink RX4 106 RX0 (TX0 6).2.1 (TX0 6).2.2.1 ∈ wsX4_shown := by decide +kernel
set_option maxRecDepth 100000 in
set_option maxHeartbeats 4000000 in
theorem m_X4_shown (l : Launch) (D : va_G) (ad : Nat → Nat) (ct : Nat → ClassId) (x1 : Int32) (σ : ST) (Q : Int32 → ST → Prop) (h : wp_X4_shown x1 σ Q) : CtI l D (tysF ct) (wC ad ct) yX4_shown wsX4_shown rm_X4_shown [.ref (ad 0), .int x1] σ Q := by
  refine CtI.of (wC_adr ad ct) (maxL := 2) [(0, .ref (ad 0)), (1, .int x1)] RX4 (by decide) rfl rfl (by show (lg_sl [.ref (ad 0), .int x1]).length ≤ 2; exact Nat.le_of_ble_eq_true rfl) rfl rfl rfl ?_
  intro E C hR
  unfold wp_X4_shown at h
  refine x_aload_n C 1 rfl 0 dX4_shown_0 rfl rfl ?_
  refine x_iload_n C 2 rfl 1 dX4_shown_1 rfl rfl ?_
  refine x_cVI C 5 rfl (m_X4_isThing l D ad ct _ _ _ h) (cwV 1 C.1.2.2.2.2 gX4_shown_X4_isThing rfl rfl rfl (by decide +kernel) ⟨Nat.le_of_ble_eq_true rfl, Nat.le_of_ble_eq_true rfl⟩) ⟨0, 4, _, _, _, (gC_J ad ct _), rfl⟩ rfl rfl (Nat.le_of_ble_eq_true rfl) dX4_shown_2 ?_
  intro r2 σ1 h
  refine x_if_eq C 19 8 dX4_shown_5 (by decide) rfl (fun c5 => ?_) (fun c5 => ?_)
  · have h := h.1 c5
    refine x_iconst C 20 rfl (-1) dX4_shown_19 rfl ?_
    exact hR _ _ _ _ dX4_shown_20 h
  · have h := h.2 c5
    refine x_aload_n C 9 rfl 0 dX4_shown_8 rfl rfl ?_
    refine x_iload_n C 10 rfl 1 dX4_shown_9 rfl rfl ?_
    refine x_cVA C 13 rfl (m_X4_pairOf l D ad ct _ _ _ h) (cwV 1 C.1.2.2.2.2 gX4_shown_X4_pairOf rfl rfl rfl (by decide +kernel) ⟨Nat.le_of_ble_eq_true rfl, Nat.le_of_ble_eq_true rfl⟩) ⟨0, 4, _, _, _, (gC_J ad ct _), rfl⟩ rfl rfl (Nat.le_of_ble_eq_true rfl) dX4_shown_10 ?_
    intro r4 σ3 h
    obtain ⟨kk5, hk6, he, h⟩ := h
    subst he
    refine x_get C 16 rfl (ref := RX0) (16 + 6 * kk5) 6 (gC_P ad ct _ hk6) rfl in_X4_shown_X0 (by decide) fl_X4_shown_106 rfl rfl dX4_shown_13 ?_
    refine x_if_ne C 21 19 dX4_shown_16 (by decide) rfl (fun c16 => ?_) (fun c16 => ?_)
    · have h := h.1 c16
      refine x_aload_n C 22 rfl 0 dX4_shown_21 rfl rfl ?_
      refine x_iload_n C 23 rfl 1 dX4_shown_22 rfl rfl ?_
      refine x_cVA C 26 rfl (m_X4_pairOf l D ad ct _ _ _ h) (cwV 1 C.1.2.2.2.2 gX4_shown_X4_pairOf rfl rfl rfl (by decide +kernel) ⟨Nat.le_of_ble_eq_true rfl, Nat.le_of_ble_eq_true rfl⟩) ⟨0, 4, _, _, _, (gC_J ad ct _), rfl⟩ rfl rfl (Nat.le_of_ble_eq_true rfl) dX4_shown_23 ?_
      intro r8 σ7 h
      obtain ⟨kk9, hk10, he, h⟩ := h
      subst he
      refine x_get C 29 rfl (ref := RX0) (16 + 6 * kk9) 6 (gC_P ad ct _ hk10) rfl in_X4_shown_X0 (by decide) fl_X4_shown_106 rfl rfl dX4_shown_26 ?_
      exact hR _ _ _ _ dX4_shown_29 h
    · have h := h.2 c16
      refine x_iconst C 20 rfl (-1) dX4_shown_19 rfl ?_
      exact hR _ _ _ _ dX4_shown_20 h
abbrev rm_X4_show : Room := { frames := 6, cells := 0, slots := 0, locals := 149 }
theorem in_X4_show_X0 : ∀ w ∈ u_ws RX0 TX0 8, w ∈ wsX4_show := by decide +kernel
theorem fl_X4_show_106 : Cond.fieldLink RX4 106 RX0 (TX0 6).2.1 (TX0 6).2.2.1 ∈ wsX4_show := by decide +kernel
theorem fl_X4_show_109 : Cond.fieldLink RX4 109 RX0 (TX0 0).2.1 (TX0 0).2.2.1 ∈ wsX4_show := by decide +kernel
set_option maxRecDepth 100000 in
set_option maxHeartbeats 4000000 in
theorem m_X4_show (l : Launch) (D : va_G) (ad : Nat → Nat) (ct : Nat → ClassId) (x1 : Int32) (x2 : Int32) (x3 : Int32) (σ : ST) (Q : Int32 → ST → Prop) (h : wp_X4_show x1 x2 x3 σ Q) : CtI l D (tysF ct) (wC ad ct) yX4_show wsX4_show rm_X4_show [.ref (ad 0), .int x1, .int x2, .int x3] σ Q := by
  refine CtI.of (wC_adr ad ct) (maxL := 4) [(0, .ref (ad 0)), (1, .int x1), (2, .int x2), (3, .int x3)] RX4 (by decide) rfl rfl (by show (lg_sl [.ref (ad 0), .int x1, .int x2, .int x3]).length ≤ 4; exact Nat.le_of_ble_eq_true rfl) rfl rfl rfl ?_
  intro E C hR
  unfold wp_X4_show at h
  refine x_aload_n C 1 rfl 0 dX4_show_0 rfl rfl ?_
  refine x_iload_n C 2 rfl 1 dX4_show_1 rfl rfl ?_
  refine x_cVI C 5 rfl (m_X4_isThing l D ad ct _ _ _ h) (cwV 1 C.1.2.2.2.2 gX4_show_X4_isThing rfl rfl rfl (by decide +kernel) ⟨Nat.le_of_ble_eq_true rfl, Nat.le_of_ble_eq_true rfl⟩) ⟨0, 4, _, _, _, (gC_J ad ct _), rfl⟩ rfl rfl (Nat.le_of_ble_eq_true rfl) dX4_show_2 ?_
  intro r2 σ1 h
  refine x_if_eq C 33 8 dX4_show_5 (by decide) rfl (fun c5 => ?_) (fun c5 => ?_)
  · have h := h.1 c5
    refine x_iconst C 34 rfl (-1) dX4_show_33 rfl ?_
    exact hR _ _ _ _ dX4_show_34 h
  · have h := h.2 c5
    refine x_iload_n C 9 rfl 2 dX4_show_8 rfl rfl ?_
    refine x_if_lt C 33 12 dX4_show_9 (by decide) rfl (fun c9 => ?_) (fun c9 => ?_)
    · have h := h.1 c9
      refine x_iconst C 34 rfl (-1) dX4_show_33 rfl ?_
      exact hR _ _ _ _ dX4_show_34 h
    · have h := h.2 c9
      refine x_iload_n C 13 rfl 2 dX4_show_12 rfl rfl ?_
      refine x_aload_n C 14 rfl 0 dX4_show_13 rfl rfl ?_
      refine x_iload_n C 15 rfl 1 dX4_show_14 rfl rfl ?_
      refine x_cVA C 18 rfl (m_X4_pairOf l D ad ct _ _ _ h) (cwV 1 C.1.2.2.2.2 gX4_show_X4_pairOf rfl rfl rfl (by decide +kernel) ⟨Nat.le_of_ble_eq_true rfl, Nat.le_of_ble_eq_true rfl⟩) ⟨0, 4, _, _, _, (gC_J ad ct _), rfl⟩ rfl rfl (Nat.le_of_ble_eq_true rfl) dX4_show_15 ?_
      intro r4 σ3 h
      obtain ⟨kk5, hk6, he, h⟩ := h
      subst he
      refine x_get C 21 rfl (ref := RX0) (16 + 6 * kk5) 6 (gC_P ad ct _ hk6) rfl in_X4_show_X0 (by decide) fl_X4_show_106 rfl rfl dX4_show_18 ?_
      refine x_icmp_ge C 33 24 dX4_show_21 (by decide) rfl (fun c21 => ?_) (fun c21 => ?_)
      · have h := h.1 c21
        refine x_iconst C 34 rfl (-1) dX4_show_33 rfl ?_
        exact hR _ _ _ _ dX4_show_34 h
      · have h := h.2 c21
        refine x_iload_n C 25 rfl 3 dX4_show_24 rfl rfl ?_
        refine x_if_lt C 33 28 dX4_show_25 (by decide) rfl (fun c25 => ?_) (fun c25 => ?_)
        · have h := h.1 c25
          refine x_iconst C 34 rfl (-1) dX4_show_33 rfl ?_
          exact hR _ _ _ _ dX4_show_34 h
        · have h := h.2 c25
          refine x_iload_n C 29 rfl 3 dX4_show_28 rfl rfl ?_
          refine x_iconst C 30 rfl 5 dX4_show_29 rfl ?_
          refine x_icmp_lt C 35 33 dX4_show_30 (by decide) rfl (fun c30 => ?_) (fun c30 => ?_)
          · have h := h.1 c30
            refine x_aload_n C 36 rfl 0 dX4_show_35 rfl rfl ?_
            refine x_iload_n C 37 rfl 1 dX4_show_36 rfl rfl ?_
            refine x_cVA C 40 rfl (m_X4_pairOf l D ad ct _ _ _ h) (cwV 1 C.1.2.2.2.2 gX4_show_X4_pairOf rfl rfl rfl (by decide +kernel) ⟨Nat.le_of_ble_eq_true rfl, Nat.le_of_ble_eq_true rfl⟩) ⟨0, 4, _, _, _, (gC_J ad ct _), rfl⟩ rfl rfl (Nat.le_of_ble_eq_true rfl) dX4_show_37 ?_
            intro r8 σ7 h
            obtain ⟨kk9, hk10, he, h⟩ := h
            subst he
            refine x_get C 43 rfl (ref := RX0) (16 + 6 * kk9) 0 (gC_P ad ct _ hk10) rfl in_X4_show_X0 (by decide) fl_X4_show_109 rfl rfl dX4_show_40 ?_
            refine x_iconst C 44 rfl 5 dX4_show_43 rfl ?_
            refine x_iload_n C 45 rfl 2 dX4_show_44 rfl rfl ?_
            refine x_imul C 46 rfl dX4_show_45 ?_
            refine x_iload_n C 47 rfl 3 dX4_show_46 rfl rfl ?_
            refine x_iadd C 48 rfl dX4_show_47 ?_
            have i11 := h.1
            have h := h.2
            refine x_iald C 49 rfl (17 + 6 * kk9) 0 (gC_P_rows ad ct _ hk10) rfl i11 dX4_show_48 ?_
            exact hR _ _ _ _ dX4_show_49 h
          · have h := h.2 c30
            refine x_iconst C 34 rfl (-1) dX4_show_33 rfl ?_
            exact hR _ _ _ _ dX4_show_34 h
abbrev rm_X3_place : Room := { frames := 0, cells := 0, slots := 0, locals := 0 }
set_option maxRecDepth 100000 in
set_option maxHeartbeats 4000000 in
theorem m_X3_place (l : Launch) (D : va_G) (ad : Nat → Nat) (ct : Nat → ClassId) (x0 : Int32) (x1 : Int32) (σ : ST) (Q : Int32 → ST → Prop) (h : wp_X3_place x0 x1 σ Q) : CtI l D (tysF ct) (wC ad ct) yX3_place wsX3_place rm_X3_place [.int x0, .int x1] σ Q := by
  refine CtI.of (wC_adr ad ct) (maxL := 2) [(0, .int x0), (1, .int x1)] RX3 (by decide) rfl rfl (by show (lg_sl [.int x0, .int x1]).length ≤ 2; exact Nat.le_of_ble_eq_true rfl) rfl rfl rfl ?_
  intro E C hR
  unfold wp_X3_place at h
  refine x_iconst C 1 rfl 3 dX3_place_0 rfl ?_
  refine x_iconst C 2 rfl 3 dX3_place_1 rfl ?_
  refine x_iload_n C 3 rfl 0 dX3_place_2 rfl rfl ?_
  refine x_imul C 4 rfl dX3_place_3 ?_
  refine x_iload_n C 5 rfl 1 dX3_place_4 rfl rfl ?_
  refine x_iadd C 6 rfl dX3_place_5 ?_
  refine x_imul C 7 rfl dX3_place_6 ?_
  exact hR _ _ _ _ dX3_place_7 h
abbrev rm_X3_addLetter : Room := { frames := 1, cells := 0, slots := 0, locals := 21 }
theorem in_X3_addLetter_X3 : ∀ w ∈ u_ws RX3 TX3 6, w ∈ wsX3_addLetter := by decide +kernel
theorem fl_X3_addLetter_54 : Cond.fieldLink RX3 54 RX3 (TX3 4).2.1 (TX3 4).2.2.1 ∈ wsX3_addLetter := by decide +kernel
theorem fl_X3_addLetter_25 : Cond.fieldLink RX3 25 RX3 (TX3 3).2.1 (TX3 3).2.2.1 ∈ wsX3_addLetter := by decide +kernel
theorem fl_X3_addLetter_11 : Cond.fieldLink RX3 11 RX3 (TX3 0).2.1 (TX3 0).2.2.1 ∈ wsX3_addLetter := by decide +kernel
theorem fl_X3_addLetter_15 : Cond.fieldLink RX3 15 RX3 (TX3 1).2.1 (TX3 1).2.2.1 ∈ wsX3_addLetter := by decide +kernel
theorem fl_X3_addLetter_18 : Cond.fieldLink RX3 18 RX3 (TX3 2).2.1 (TX3 2).2.2.1 ∈ wsX3_addLetter := by decide +kernel
set_option maxRecDepth 100000 in
set_option maxHeartbeats 4000000 in
theorem v_X3_addLetter_L12 {l : Launch} {D : va_G} {ad : Nat → Nat} {ct : Nat → ClassId} {E : XE}  {Q : ST → Prop} (C : XFix D (tysF ct) (wC ad ct) rm_X3_addLetter 2 E cX3_addLetter RX3 wsX3_addLetter) (k : Nat) (hk : k < 4) {K : ST → Prop} (hK : ∀ (σ : ST), K σ → V l D (tysF ct) (wC ad ct) rm_X3_addLetter 2 E 66 [(0, .ref (ad (34 + 4 * k)))] [] σ) (hR : RetV l D (tysF ct) (wC ad ct) rm_X3_addLetter 2 E cX3_addLetter Q) :
    ∀ (n : Nat) (x1 : Int32) (σ : ST), wp_X3_addLetter_L12 k K Q n x1 σ → V l D (tysF ct) (wC ad ct) rm_X3_addLetter 2 E 12 [(0, .ref (ad (34 + 4 * k))), (1, .int x1)] [] σ := by
  intro n
  induction n with
  | zero => intro x1 σ h; exact (h : False).elim
  | succ n ih =>
    intro x1 σ h
    unfold wp_X3_addLetter_L12 at h
    refine x_iload_n C 13 rfl 1 dX3_addLetter_12 rfl rfl ?_
    refine x_aload_n C 14 rfl 0 dX3_addLetter_13 rfl rfl ?_
    refine x_get C 17 rfl (ref := RX3) (34 + 4 * k) 3 (gC_H ad ct _ hk) rfl in_X3_addLetter_X3 (by decide) fl_X3_addLetter_25 rfl rfl dX3_addLetter_14 ?_
    refine x_icmp_ge C 66 20 dX3_addLetter_17 (by decide) rfl (fun c17 => ?_) (fun c17 => ?_)
    · have h := h.1 c17
      refine x_sub (lv' := [(0, .ref (ad (34 + 4 * k)))]) [0] rfl ?_
      exact hK  _ h
    · have h := h.2 c17
      refine x_aload_n C 21 rfl 0 dX3_addLetter_20 rfl rfl ?_
      refine x_get C 24 rfl (ref := RX3) (34 + 4 * k) 0 (gC_H ad ct _ hk) rfl in_X3_addLetter_X3 (by decide) fl_X3_addLetter_11 rfl rfl dX3_addLetter_21 ?_
      refine x_aload_n C 25 rfl 0 dX3_addLetter_24 rfl rfl ?_
      refine x_get C 28 rfl (ref := RX3) (34 + 4 * k) 4 (gC_H ad ct _ hk) rfl in_X3_addLetter_X3 (by decide) fl_X3_addLetter_54 rfl rfl dX3_addLetter_25 ?_
      refine x_iload_n C 29 rfl 1 dX3_addLetter_28 rfl rfl ?_
      refine x_cSI C 32 rfl (m_X3_place l D ad ct _ _ _ _ h) (va_cwS 2 C.1.2.2.2.2 gX3_addLetter_X3_place rfl rfl rfl (by decide +kernel) ⟨Nat.le_of_ble_eq_true rfl, Nat.le_of_ble_eq_true rfl⟩) rfl rfl (Nat.le_of_ble_eq_true rfl) dX3_addLetter_29 ?_
      intro r2 σ1 h
      refine x_aload_n C 33 rfl 0 dX3_addLetter_32 rfl rfl ?_
      refine x_get C 36 rfl (ref := RX3) (34 + 4 * k) 1 (gC_H ad ct _ hk) rfl in_X3_addLetter_X3 (by decide) fl_X3_addLetter_15 rfl rfl dX3_addLetter_33 ?_
      refine x_iload_n C 37 rfl 1 dX3_addLetter_36 rfl rfl ?_
      have i3 := h.1
      have h := h.2
      refine x_iald C 38 rfl (36 + 4 * k) 0 (gC_H_acts ad ct _ hk) rfl i3 dX3_addLetter_37 ?_
      have i4 := h.1
      have h := h.2
      obtain ⟨σ5, eσ5⟩ : ∃ z, z = sR σ1 (35 + 4 * k) (Int32.toNatClampNeg r2) (σ1.2.2.1 (36 + 4 * k) (Int32.toNatClampNeg x1)) := ⟨_, rfl⟩
      have h := h σ5 eσ5
      refine x_iast C 39 rfl (σ' := σ5) (35 + 4 * k) 0 (gC_H_rows ad ct _ hk) rfl i4 (by rw [eσ5]; exact (sC_H_rows ad ct _ hk)) dX3_addLetter_38 ?_
      refine x_aload_n C 40 rfl 0 dX3_addLetter_39 rfl rfl ?_
      refine x_get C 43 rfl (ref := RX3) (34 + 4 * k) 0 (gC_H ad ct _ hk) rfl in_X3_addLetter_X3 (by decide) fl_X3_addLetter_11 rfl rfl dX3_addLetter_40 ?_
      refine x_aload_n C 44 rfl 0 dX3_addLetter_43 rfl rfl ?_
      refine x_get C 47 rfl (ref := RX3) (34 + 4 * k) 4 (gC_H ad ct _ hk) rfl in_X3_addLetter_X3 (by decide) fl_X3_addLetter_54 rfl rfl dX3_addLetter_44 ?_
      refine x_iload_n C 48 rfl 1 dX3_addLetter_47 rfl rfl ?_
      refine x_cSI C 51 rfl (m_X3_place l D ad ct _ _ _ _ h) (va_cwS 2 C.1.2.2.2.2 gX3_addLetter_X3_place rfl rfl rfl (by decide +kernel) ⟨Nat.le_of_ble_eq_true rfl, Nat.le_of_ble_eq_true rfl⟩) rfl rfl (Nat.le_of_ble_eq_true rfl) dX3_addLetter_48 ?_
      intro r7 σ6 h
      refine x_iconst C 52 rfl 1 dX3_addLetter_51 rfl ?_
      refine x_iadd C 53 rfl dX3_addLetter_52 ?_
      refine x_aload_n C 54 rfl 0 dX3_addLetter_53 rfl rfl ?_
      refine x_get C 57 rfl (ref := RX3) (34 + 4 * k) 2 (gC_H ad ct _ hk) rfl in_X3_addLetter_X3 (by decide) fl_X3_addLetter_18 rfl rfl dX3_addLetter_54 ?_
      refine x_iload_n C 58 rfl 1 dX3_addLetter_57 rfl rfl ?_
      refine x_iald C 59 rfl (37 + 4 * k) 0 (gC_H_answers ad ct _ hk) rfl i3 dX3_addLetter_58 ?_
      have i8 := h.1
      have h := h.2
      obtain ⟨σ9, eσ9⟩ : ∃ z, z = sR σ6 (35 + 4 * k) (Int32.toNatClampNeg (r7 + 1)) (σ6.2.2.1 (37 + 4 * k) (Int32.toNatClampNeg x1)) := ⟨_, rfl⟩
      have h := h σ9 eσ9
      refine x_iast C 60 rfl (σ' := σ9) (35 + 4 * k) 0 (gC_H_rows ad ct _ hk) rfl i8 (by rw [eσ9]; exact (sC_H_rows ad ct _ hk)) dX3_addLetter_59 ?_
      refine x_iinc C 63 rfl 1 (x1 + 1) [(1, .int (x1 + 1)), (0, .ref (ad (34 + 4 * k)))] dX3_addLetter_60 rfl rfl (by decide) rfl ?_
      refine x_goto C 12 dX3_addLetter_63 (by decide) ?_
      refine x_sub (lv' := [(0, .ref (ad (34 + 4 * k))), (1, .int (x1 + 1))]) [1, 0] rfl ?_
      exact ih _ _ h
set_option maxRecDepth 100000 in
set_option maxHeartbeats 4000000 in
theorem m_X3_addLetter (l : Launch) (D : va_G) (ad : Nat → Nat) (ct : Nat → ClassId) (k : Nat) (hk : k < 4) (σ : ST) (Q : ST → Prop) (h : wp_X3_addLetter k σ Q) : CtV l D (tysF ct) (wC ad ct) yX3_addLetter wsX3_addLetter rm_X3_addLetter [.ref (ad (34 + 4 * k))] σ Q := by
  refine CtV.of (wC_adr ad ct) (maxL := 2) [(0, .ref (ad (34 + 4 * k)))] RX3 (by decide) rfl rfl (by show (lg_sl [.ref (ad (34 + 4 * k))]).length ≤ 2; exact Nat.le_of_ble_eq_true rfl) rfl rfl rfl ?_
  intro E C hR
  unfold wp_X3_addLetter at h
  refine x_aload_n C 1 rfl 0 dX3_addLetter_0 rfl rfl ?_
  refine x_get C 4 rfl (ref := RX3) (34 + 4 * k) 4 (gC_H ad ct _ hk) rfl in_X3_addLetter_X3 (by decide) fl_X3_addLetter_54 rfl rfl dX3_addLetter_1 ?_
  refine x_bipush C 6 rfl 64 dX3_addLetter_4 rfl ?_
  refine x_icmp_lt C 10 9 dX3_addLetter_6 (by decide) rfl (fun c6 => ?_) (fun c6 => ?_)
  · have h := h.1 c6
    refine x_iconst C 11 rfl 0 dX3_addLetter_10 rfl ?_
    refine x_istore_n C 12 rfl [(1, .int 0), (0, .ref (ad (34 + 4 * k)))] dX3_addLetter_11 rfl (by decide) rfl ?_
    refine x_sub (lv' := [(0, .ref (ad (34 + 4 * k))), (1, .int 0)]) [1, 0] rfl ?_
    obtain ⟨n10, h⟩ := h
    refine v_X3_addLetter_L12 C k hk ?_ hR n10 _ _ h
    · intro σ11 h
      refine x_aload_n C 67 rfl 0 dX3_addLetter_66 rfl rfl ?_
      refine x_dup C 68 rfl dX3_addLetter_67 rfl ?_
      refine x_get C 71 rfl (ref := RX3) (34 + 4 * k) 4 (gC_H ad ct _ hk) rfl in_X3_addLetter_X3 (by decide) fl_X3_addLetter_54 rfl rfl dX3_addLetter_68 ?_
      refine x_iconst C 72 rfl 1 dX3_addLetter_71 rfl ?_
      refine x_iadd C 73 rfl dX3_addLetter_72 ?_
      obtain ⟨σ12, eσ12⟩ : ∃ z, z = sI σ11 (34 + 4 * k) 4 ((σ11.1 (34 + 4 * k) 4) + 1) := ⟨_, rfl⟩
      have h := h σ12 eσ12
      refine x_put C 76 rfl (ref := RX3) (ty := .int) (σ' := σ12) (34 + 4 * k) 4 (gC_H ad ct _ hk) rfl in_X3_addLetter_X3 tyX3 tyX3_ok nmX3 (by decide) fl_X3_addLetter_54 rfl rfl (by decide +kernel) rfl rfl (by show 4 < 6; decide) (by rw [eσ12]; exact (sC_H_many ad ct _ hk)) dX3_addLetter_73 ?_
      exact hR _ _ _ dX3_addLetter_76 h
  · have h := h.2 c6
    exact hR _ _ _ dX3_addLetter_9 h
abbrev rm_X1_moved : Room := { frames := 0, cells := 0, slots := 0, locals := 0 }
theorem lc_X1_moved_81 : Cond.constantLong RX1 81 (65535) ∈ wsX1_moved := by decide +kernel
theorem lc_X1_moved_79 : Cond.constantLong RX1 79 (4222189076152335) ∈ wsX1_moved := by decide +kernel
theorem lc_X1_moved_77 : Cond.constantLong RX1 77 (1229782938247303441) ∈ wsX1_moved := by decide +kernel
set_option maxRecDepth 100000 in
set_option maxHeartbeats 4000000 in
theorem m_X1_moved (l : Launch) (D : va_G) (ad : Nat → Nat) (ct : Nat → ClassId) (x0 : Int64) (x2 : Int32) (x3 : Int32) (x4 : Int32) (σ : ST) (Q : Int64 → ST → Prop) (h : wp_X1_moved x0 x2 x3 x4 σ Q) : CtL l D (tysF ct) (wC ad ct) yX1_moved wsX1_moved rm_X1_moved [.long x0, .int x2, .int x3, .int x4] σ Q := by
  refine CtL.of (wC_adr ad ct) (maxL := 7) [(0, .long x0), (2, .int x2), (3, .int x3), (4, .int x4)] RX1 (by decide) rfl rfl (by show (lg_sl [.long x0, .int x2, .int x3, .int x4]).length ≤ 7; exact Nat.le_of_ble_eq_true rfl) rfl rfl rfl ?_
  intro E C hR
  unfold wp_X1_moved at h
  refine x_iload_n C 1 rfl 1 dX1_moved_0 rfl rfl ?_
  refine x_if_ne C 10 4 dX1_moved_1 (by decide) rfl (fun c1 => ?_) (fun c1 => ?_)
  · have h := h.1 c1
    refine x_iload_n C 11 rfl 1 dX1_moved_10 rfl rfl ?_
    refine x_iconst C 12 rfl 1 dX1_moved_11 rfl ?_
    refine x_icmp_ne C 21 15 dX1_moved_12 (by decide) rfl (fun c12 => ?_) (fun c12 => ?_)
    · have h := h.1 c12
      refine x_ldc2 C 24 rfl 65535 lc_X1_moved_81 dX1_moved_21 ?_
      refine x_lstore C 26 rfl [(5, .long 65535), (0, .long x0), (2, .int x2), (3, .int x3), (4, .int x4)] dX1_moved_24 (by decide) rfl ?_
      refine x_lload_n C 27 rfl 1 dX1_moved_26 rfl rfl ?_
      refine x_iload_n C 28 rfl 3 dX1_moved_27 rfl rfl ?_
      refine x_iconst C 29 rfl 2 dX1_moved_28 rfl ?_
      refine x_iload_n C 30 rfl 2 dX1_moved_29 rfl rfl ?_
      refine x_imul C 31 rfl dX1_moved_30 ?_
      refine x_ishl C 32 rfl dX1_moved_31 ?_
      refine x_lushr C 33 rfl dX1_moved_32 ?_
      refine x_lload C 35 rfl 0 dX1_moved_33 rfl ?_
      refine x_land C 36 rfl dX1_moved_35 ?_
      refine x_iload C 38 rfl 4 dX1_moved_36 rfl ?_
      refine x_iconst C 39 rfl 2 dX1_moved_38 rfl ?_
      refine x_iload_n C 40 rfl 2 dX1_moved_39 rfl rfl ?_
      refine x_imul C 41 rfl dX1_moved_40 ?_
      refine x_ishl C 42 rfl dX1_moved_41 ?_
      refine x_lshl C 43 rfl dX1_moved_42 ?_
      exact hR _ _ _ _ dX1_moved_43 h
    · have h := h.2 c12
      refine x_ldc2 C 18 rfl 4222189076152335 lc_X1_moved_79 dX1_moved_15 ?_
      refine x_goto C 24 dX1_moved_18 (by decide) ?_
      refine x_lstore C 26 rfl [(5, .long 4222189076152335), (0, .long x0), (2, .int x2), (3, .int x3), (4, .int x4)] dX1_moved_24 (by decide) rfl ?_
      refine x_lload_n C 27 rfl 1 dX1_moved_26 rfl rfl ?_
      refine x_iload_n C 28 rfl 3 dX1_moved_27 rfl rfl ?_
      refine x_iconst C 29 rfl 2 dX1_moved_28 rfl ?_
      refine x_iload_n C 30 rfl 2 dX1_moved_29 rfl rfl ?_
      refine x_imul C 31 rfl dX1_moved_30 ?_
      refine x_ishl C 32 rfl dX1_moved_31 ?_
      refine x_lushr C 33 rfl dX1_moved_32 ?_
      refine x_lload C 35 rfl 0 dX1_moved_33 rfl ?_
      refine x_land C 36 rfl dX1_moved_35 ?_
      refine x_iload C 38 rfl 4 dX1_moved_36 rfl ?_
      refine x_iconst C 39 rfl 2 dX1_moved_38 rfl ?_
      refine x_iload_n C 40 rfl 2 dX1_moved_39 rfl rfl ?_
      refine x_imul C 41 rfl dX1_moved_40 ?_
      refine x_ishl C 42 rfl dX1_moved_41 ?_
      refine x_lshl C 43 rfl dX1_moved_42 ?_
      exact hR _ _ _ _ dX1_moved_43 h
  · have h := h.2 c1
    refine x_ldc2 C 7 rfl 1229782938247303441 lc_X1_moved_77 dX1_moved_4 ?_
    refine x_goto C 24 dX1_moved_7 (by decide) ?_
    refine x_lstore C 26 rfl [(5, .long 1229782938247303441), (0, .long x0), (2, .int x2), (3, .int x3), (4, .int x4)] dX1_moved_24 (by decide) rfl ?_
    refine x_lload_n C 27 rfl 1 dX1_moved_26 rfl rfl ?_
    refine x_iload_n C 28 rfl 3 dX1_moved_27 rfl rfl ?_
    refine x_iconst C 29 rfl 2 dX1_moved_28 rfl ?_
    refine x_iload_n C 30 rfl 2 dX1_moved_29 rfl rfl ?_
    refine x_imul C 31 rfl dX1_moved_30 ?_
    refine x_ishl C 32 rfl dX1_moved_31 ?_
    refine x_lushr C 33 rfl dX1_moved_32 ?_
    refine x_lload C 35 rfl 0 dX1_moved_33 rfl ?_
    refine x_land C 36 rfl dX1_moved_35 ?_
    refine x_iload C 38 rfl 4 dX1_moved_36 rfl ?_
    refine x_iconst C 39 rfl 2 dX1_moved_38 rfl ?_
    refine x_iload_n C 40 rfl 2 dX1_moved_39 rfl rfl ?_
    refine x_imul C 41 rfl dX1_moved_40 ?_
    refine x_ishl C 42 rfl dX1_moved_41 ?_
    refine x_lshl C 43 rfl dX1_moved_42 ?_
    exact hR _ _ _ _ dX1_moved_43 h
abbrev rm_X1_sent : Room := { frames := 1, cells := 0, slots := 0, locals := 26 }
theorem in_X1_sent_X1 : ∀ w ∈ u_ws RX1 TX1 7, w ∈ wsX1_sent := by decide +kernel
theorem fl_X1_sent_27 : Cond.fieldLink RX1 27 RX1 (TX1 5).2.1 (TX1 5).2.2.1 ∈ wsX1_sent := by decide +kernel
theorem fl_X1_sent_9 : Cond.fieldLink RX1 9 RX1 (TX1 0).2.1 (TX1 0).2.2.1 ∈ wsX1_sent := by decide +kernel
theorem fl_X1_sent_24 : Cond.fieldLink RX1 24 RX1 (TX1 4).2.1 (TX1 4).2.2.1 ∈ wsX1_sent := by decide +kernel
set_option maxRecDepth 100000 in
set_option maxHeartbeats 4000000 in
theorem v_X1_sent_L34 {l : Launch} {D : va_G} {ad : Nat → Nat} {ct : Nat → ClassId} {E : XE}  {Q : Int64 → ST → Prop} (C : XFix D (tysF ct) (wC ad ct) rm_X1_sent 12 E cX1_sent RX1 wsX1_sent) (x1 : Int64) (x4 : Int32) (x5 : Int32) (x8 : Int32) {K : Int64 → ST → Prop} (hK : ∀ (x6 : Int64) (σ : ST), K x6 σ → V l D (tysF ct) (wC ad ct) rm_X1_sent 12 E 73 [(0, .ref (ad 10)), (1, .long x1), (4, .int x4), (5, .int x5), (6, .long x6), (8, .int x8)] [] σ) (hR : RetL l D (tysF ct) (wC ad ct) rm_X1_sent 12 E cX1_sent Q) :
    ∀ (n : Nat) (x6 : Int64) (x9 : Int32) (σ : ST), wp_X1_sent_L34 x1 x4 x5 x8 K Q n x6 x9 σ → V l D (tysF ct) (wC ad ct) rm_X1_sent 12 E 34 [(0, .ref (ad 10)), (1, .long x1), (4, .int x4), (5, .int x5), (6, .long x6), (8, .int x8), (9, .int x9)] [] σ := by
  intro n
  induction n with
  | zero => intro x6 x9 σ h; exact (h : False).elim
  | succ n ih =>
    intro x6 x9 σ h
    unfold wp_X1_sent_L34 at h
    refine x_iload C 36 rfl 6 dX1_sent_34 rfl ?_
    refine x_iconst C 37 rfl 4 dX1_sent_36 rfl ?_
    refine x_icmp_ge C 73 40 dX1_sent_37 (by decide) rfl (fun c37 => ?_) (fun c37 => ?_)
    · have h := h.1 c37
      refine x_sub (lv' := [(0, .ref (ad 10)), (1, .long x1), (4, .int x4), (5, .int x5), (6, .long x6), (8, .int x8)]) [0, 1, 2, 3, 4, 5] rfl ?_
      exact hK _ _ h
    · have h := h.2 c37
      refine x_lload C 42 rfl 4 dX1_sent_40 rfl ?_
      refine x_lload_n C 43 rfl 1 dX1_sent_42 rfl rfl ?_
      refine x_iload C 45 rfl 5 dX1_sent_43 rfl ?_
      refine x_iconst C 46 rfl 3 dX1_sent_45 rfl ?_
      refine x_idiv C 47 rfl dX1_sent_46 (by decide) ?_
      refine x_iload C 49 rfl 6 dX1_sent_47 rfl ?_
      refine x_aload_n C 50 rfl 0 dX1_sent_49 rfl rfl ?_
      refine x_get C 53 rfl (ref := RX1) 10 0 (gC_R ad ct _) rfl in_X1_sent_X1 (by decide) fl_X1_sent_9 rfl rfl dX1_sent_50 ?_
      refine x_iconst C 54 rfl 4 dX1_sent_53 rfl ?_
      refine x_iload C 56 rfl 5 dX1_sent_54 rfl ?_
      refine x_imul C 57 rfl dX1_sent_56 ?_
      refine x_iload C 59 rfl 6 dX1_sent_57 rfl ?_
      refine x_iadd C 60 rfl dX1_sent_59 ?_
      have i1 := h.1
      have h := h.2
      refine x_iald C 61 rfl 11 0 (gC_R_sentTo ad ct _) rfl i1 dX1_sent_60 ?_
      refine x_cSL C 64 rfl (m_X1_moved l D ad ct _ _ _ _ _ _ h) (va_cwS 4 C.1.2.2.2.2 gX1_sent_X1_moved rfl rfl rfl (by decide +kernel) ⟨Nat.le_of_ble_eq_true rfl, Nat.le_of_ble_eq_true rfl⟩) rfl rfl (Nat.le_of_ble_eq_true rfl) dX1_sent_61 ?_
      intro r3 σ2 h
      refine x_lor C 65 rfl dX1_sent_64 ?_
      refine x_lstore C 67 rfl [(6, .long (x6 ||| r3)), (0, .ref (ad 10)), (1, .long x1), (4, .int x4), (5, .int x5), (8, .int x8), (9, .int x9)] dX1_sent_65 (by decide) rfl ?_
      refine x_iinc C 70 rfl 6 (x9 + 1) [(9, .int (x9 + 1)), (6, .long (x6 ||| r3)), (0, .ref (ad 10)), (1, .long x1), (4, .int x4), (5, .int x5), (8, .int x8)] dX1_sent_67 rfl rfl (by decide) rfl ?_
      refine x_goto C 34 dX1_sent_70 (by decide) ?_
      refine x_sub (lv' := [(0, .ref (ad 10)), (1, .long x1), (4, .int x4), (5, .int x5), (6, .long (x6 ||| r3)), (8, .int x8), (9, .int (x9 + 1))]) [2, 3, 4, 5, 1, 6, 0] rfl ?_
      exact ih _ _ _ h
set_option maxRecDepth 100000 in
set_option maxHeartbeats 4000000 in
theorem v_X1_sent_L6 {l : Launch} {D : va_G} {ad : Nat → Nat} {ct : Nat → ClassId} {E : XE}  {Q : Int64 → ST → Prop} (C : XFix D (tysF ct) (wC ad ct) rm_X1_sent 12 E cX1_sent RX1 wsX1_sent) (x1 : Int64) (x4 : Int32) (x5 : Int32) {K : Int64 → ST → Prop} (hK : ∀ (x6 : Int64) (σ : ST), K x6 σ → V l D (tysF ct) (wC ad ct) rm_X1_sent 12 E 79 [(0, .ref (ad 10)), (5, .int x5), (6, .long x6)] [] σ) (hR : RetL l D (tysF ct) (wC ad ct) rm_X1_sent 12 E cX1_sent Q) :
    ∀ (n : Nat) (x6 : Int64) (x8 : Int32) (σ : ST), wp_X1_sent_L6 x1 x4 x5 K Q n x6 x8 σ → V l D (tysF ct) (wC ad ct) rm_X1_sent 12 E 6 [(0, .ref (ad 10)), (1, .long x1), (4, .int x4), (5, .int x5), (6, .long x6), (8, .int x8)] [] σ := by
  intro n
  induction n with
  | zero => intro x6 x8 σ h; exact (h : False).elim
  | succ n ih =>
    intro x6 x8 σ h
    unfold wp_X1_sent_L6 at h
    refine x_iload C 8 rfl 5 dX1_sent_6 rfl ?_
    refine x_iload C 10 rfl 2 dX1_sent_8 rfl ?_
    refine x_icmp_gt C 79 13 dX1_sent_10 (by decide) rfl (fun c10 => ?_) (fun c10 => ?_)
    · have h := h.1 c10
      refine x_sub (lv' := [(0, .ref (ad 10)), (5, .int x5), (6, .long x6)]) [0, 3, 4] rfl ?_
      exact hK _ _ h
    · have h := h.2 c10
      refine x_iload C 15 rfl 5 dX1_sent_13 rfl ?_
      refine x_aload_n C 16 rfl 0 dX1_sent_15 rfl rfl ?_
      refine x_get C 19 rfl (ref := RX1) 10 5 (gC_R ad ct _) rfl in_X1_sent_X1 (by decide) fl_X1_sent_27 rfl rfl dX1_sent_16 ?_
      refine x_icmp_lt C 31 22 dX1_sent_19 (by decide) rfl (fun c19 => ?_) (fun c19 => ?_)
      · have h := h.1 c19
        refine x_iconst C 32 rfl 0 dX1_sent_31 rfl ?_
        refine x_istore C 34 rfl [(9, .int 0), (0, .ref (ad 10)), (1, .long x1), (4, .int x4), (5, .int x5), (6, .long x6), (8, .int x8)] dX1_sent_32 (by decide) rfl ?_
        refine x_sub (lv' := [(0, .ref (ad 10)), (1, .long x1), (4, .int x4), (5, .int x5), (6, .long x6), (8, .int x8), (9, .int 0)]) [1, 2, 3, 4, 5, 6, 0] rfl ?_
        obtain ⟨n4, h⟩ := h
        refine v_X1_sent_L34 C x1 x4 x5 x8 ?_ hR n4 _ _ _ h
        · intro y6_5 σ6 h
          refine x_iinc C 76 rfl 5 (x8 + 1) [(8, .int (x8 + 1)), (0, .ref (ad 10)), (1, .long x1), (4, .int x4), (5, .int x5), (6, .long y6_5)] dX1_sent_73 rfl rfl (by decide) rfl ?_
          refine x_goto C 6 dX1_sent_76 (by decide) ?_
          refine x_sub (lv' := [(0, .ref (ad 10)), (1, .long x1), (4, .int x4), (5, .int x5), (6, .long y6_5), (8, .int (x8 + 1))]) [1, 2, 3, 4, 5, 0] rfl ?_
          exact ih _ _ _ h
      · have h := h.2 c19
        refine x_lload C 24 rfl 4 dX1_sent_22 rfl ?_
        refine x_lload_n C 25 rfl 1 dX1_sent_24 rfl rfl ?_
        refine x_lor C 26 rfl dX1_sent_25 ?_
        refine x_lstore C 28 rfl [(6, .long (x6 ||| x1)), (0, .ref (ad 10)), (1, .long x1), (4, .int x4), (5, .int x5), (8, .int x8)] dX1_sent_26 (by decide) rfl ?_
        refine x_goto C 73 dX1_sent_28 (by decide) ?_
        refine x_iinc C 76 rfl 5 (x8 + 1) [(8, .int (x8 + 1)), (6, .long (x6 ||| x1)), (0, .ref (ad 10)), (1, .long x1), (4, .int x4), (5, .int x5)] dX1_sent_73 rfl rfl (by decide) rfl ?_
        refine x_goto C 6 dX1_sent_76 (by decide) ?_
        refine x_sub (lv' := [(0, .ref (ad 10)), (1, .long x1), (4, .int x4), (5, .int x5), (6, .long (x6 ||| x1)), (8, .int (x8 + 1))]) [2, 3, 4, 5, 1, 0] rfl ?_
        exact ih _ _ _ h
set_option maxRecDepth 100000 in
set_option maxHeartbeats 4000000 in
theorem v_X1_sent_L117 {l : Launch} {D : va_G} {ad : Nat → Nat} {ct : Nat → ClassId} {E : XE}  {Q : Int64 → ST → Prop} (C : XFix D (tysF ct) (wC ad ct) rm_X1_sent 12 E cX1_sent RX1 wsX1_sent) (x5 : Int32) (x8 : Int32) (x9 : Int64) {K : Int64 → ST → Prop} (hK : ∀ (x6 : Int64) (σ : ST), K x6 σ → V l D (tysF ct) (wC ad ct) rm_X1_sent 12 E 150 [(0, .ref (ad 10)), (5, .int x5), (6, .long x6), (8, .int x8)] [] σ) (hR : RetL l D (tysF ct) (wC ad ct) rm_X1_sent 12 E cX1_sent Q) :
    ∀ (n : Nat) (x6 : Int64) (x11 : Int32) (σ : ST), wp_X1_sent_L117 x5 x8 x9 K Q n x6 x11 σ → V l D (tysF ct) (wC ad ct) rm_X1_sent 12 E 117 [(0, .ref (ad 10)), (5, .int x5), (6, .long x6), (8, .int x8), (9, .long x9), (11, .int x11)] [] σ := by
  intro n
  induction n with
  | zero => intro x6 x11 σ h; exact (h : False).elim
  | succ n ih =>
    intro x6 x11 σ h
    unfold wp_X1_sent_L117 at h
    refine x_iload C 119 rfl 5 dX1_sent_117 rfl ?_
    refine x_iconst C 120 rfl 4 dX1_sent_119 rfl ?_
    refine x_icmp_ge C 150 123 dX1_sent_120 (by decide) rfl (fun c120 => ?_) (fun c120 => ?_)
    · have h := h.1 c120
      refine x_sub (lv' := [(0, .ref (ad 10)), (5, .int x5), (6, .long x6), (8, .int x8)]) [0, 1, 2, 3] rfl ?_
      exact hK _ _ h
    · have h := h.2 c120
      refine x_lload C 125 rfl 2 dX1_sent_123 rfl ?_
      refine x_lload C 127 rfl 4 dX1_sent_125 rfl ?_
      refine x_iload C 129 rfl 3 dX1_sent_127 rfl ?_
      refine x_iload C 131 rfl 5 dX1_sent_129 rfl ?_
      refine x_aload_n C 132 rfl 0 dX1_sent_131 rfl rfl ?_
      refine x_get C 135 rfl (ref := RX1) 10 4 (gC_R ad ct _) rfl in_X1_sent_X1 (by decide) fl_X1_sent_24 rfl rfl dX1_sent_132 ?_
      refine x_iload C 137 rfl 3 dX1_sent_135 rfl ?_
      have i12 := h.1
      have h := h.2
      refine x_iald C 138 rfl 15 0 (gC_R_firsts ad ct _) rfl i12 dX1_sent_137 ?_
      refine x_cSL C 141 rfl (m_X1_moved l D ad ct _ _ _ _ _ _ h) (va_cwS 4 C.1.2.2.2.2 gX1_sent_X1_moved rfl rfl rfl (by decide +kernel) ⟨Nat.le_of_ble_eq_true rfl, Nat.le_of_ble_eq_true rfl⟩) rfl rfl (Nat.le_of_ble_eq_true rfl) dX1_sent_138 ?_
      intro r14 σ13 h
      refine x_lor C 142 rfl dX1_sent_141 ?_
      refine x_lstore C 144 rfl [(6, .long (x6 ||| r14)), (0, .ref (ad 10)), (5, .int x5), (8, .int x8), (9, .long x9), (11, .int x11)] dX1_sent_142 (by decide) rfl ?_
      refine x_iinc C 147 rfl 5 (x11 + 1) [(11, .int (x11 + 1)), (6, .long (x6 ||| r14)), (0, .ref (ad 10)), (5, .int x5), (8, .int x8), (9, .long x9)] dX1_sent_144 rfl rfl (by decide) rfl ?_
      refine x_goto C 117 dX1_sent_147 (by decide) ?_
      refine x_sub (lv' := [(0, .ref (ad 10)), (5, .int x5), (6, .long (x6 ||| r14)), (8, .int x8), (9, .long x9), (11, .int (x11 + 1))]) [2, 3, 1, 4, 5, 0] rfl ?_
      exact ih _ _ _ h
set_option maxRecDepth 100000 in
set_option maxHeartbeats 4000000 in
theorem v_X1_sent_L82 {l : Launch} {D : va_G} {ad : Nat → Nat} {ct : Nat → ClassId} {E : XE}  {Q : Int64 → ST → Prop} (C : XFix D (tysF ct) (wC ad ct) rm_X1_sent 12 E cX1_sent RX1 wsX1_sent) (x5 : Int32) (hR : RetL l D (tysF ct) (wC ad ct) rm_X1_sent 12 E cX1_sent Q) :
    ∀ (n : Nat) (x6 : Int64) (x8 : Int32) (σ : ST), wp_X1_sent_L82 x5 Q n x6 x8 σ → V l D (tysF ct) (wC ad ct) rm_X1_sent 12 E 82 [(0, .ref (ad 10)), (5, .int x5), (6, .long x6), (8, .int x8)] [] σ := by
  intro n
  induction n with
  | zero => intro x6 x8 σ h; exact (h : False).elim
  | succ n ih =>
    intro x6 x8 σ h
    unfold wp_X1_sent_L82 at h
    refine x_iload C 84 rfl 3 dX1_sent_82 rfl ?_
    refine x_iconst C 85 rfl 3 dX1_sent_84 rfl ?_
    refine x_imul C 86 rfl dX1_sent_85 ?_
    refine x_aload_n C 87 rfl 0 dX1_sent_86 rfl rfl ?_
    refine x_get C 90 rfl (ref := RX1) 10 5 (gC_R ad ct _) rfl in_X1_sent_X1 (by decide) fl_X1_sent_27 rfl rfl dX1_sent_87 ?_
    refine x_icmp_ge C 156 93 dX1_sent_90 (by decide) rfl (fun c90 => ?_) (fun c90 => ?_)
    · have h := h.1 c90
      refine x_lload C 158 rfl 2 dX1_sent_156 rfl ?_
      exact hR _ _ _ _ dX1_sent_158 h
    · have h := h.2 c90
      refine x_aload_n C 94 rfl 0 dX1_sent_93 rfl rfl ?_
      refine x_iload C 96 rfl 3 dX1_sent_94 rfl ?_
      refine x_iload C 98 rfl 1 dX1_sent_96 rfl ?_
      refine x_cVI C 101 rfl (m_X1_isCleaned l D ad ct _ _ _ _ h) (cwV 2 C.1.2.2.2.2 gX1_sent_X1_isCleaned rfl rfl rfl (by decide +kernel) ⟨Nat.le_of_ble_eq_true rfl, Nat.le_of_ble_eq_true rfl⟩) ⟨10, 1, _, _, _, (gC_R ad ct _), rfl⟩ rfl rfl (Nat.le_of_ble_eq_true rfl) dX1_sent_98 ?_
      intro r11 σ10 h
      refine x_if_ne C 107 104 dX1_sent_101 (by decide) rfl (fun c101 => ?_) (fun c101 => ?_)
      · have h := h.1 c101
        refine x_lload C 109 rfl 2 dX1_sent_107 rfl ?_
        refine x_lstore C 111 rfl [(9, .long x6), (0, .ref (ad 10)), (5, .int x5), (6, .long x6), (8, .int x8)] dX1_sent_109 (by decide) rfl ?_
        refine x_lconst C 112 rfl 0 dX1_sent_111 rfl ?_
        refine x_lstore C 114 rfl [(6, .long 0), (9, .long x6), (0, .ref (ad 10)), (5, .int x5), (8, .int x8)] dX1_sent_112 (by decide) rfl ?_
        refine x_iconst C 115 rfl 0 dX1_sent_114 rfl ?_
        refine x_istore C 117 rfl [(11, .int 0), (6, .long 0), (9, .long x6), (0, .ref (ad 10)), (5, .int x5), (8, .int x8)] dX1_sent_115 (by decide) rfl ?_
        refine x_sub (lv' := [(0, .ref (ad 10)), (5, .int x5), (6, .long 0), (8, .int x8), (9, .long x6), (11, .int 0)]) [3, 4, 1, 5, 2, 0] rfl ?_
        obtain ⟨n15, h⟩ := h
        refine v_X1_sent_L117 C x5 x8 x6 ?_ hR n15 _ _ _ h
        · intro y6_16 σ17 h
          refine x_iinc C 153 rfl 3 (x8 + 1) [(8, .int (x8 + 1)), (0, .ref (ad 10)), (5, .int x5), (6, .long y6_16)] dX1_sent_150 rfl rfl (by decide) rfl ?_
          refine x_goto C 82 dX1_sent_153 (by decide) ?_
          refine x_sub (lv' := [(0, .ref (ad 10)), (5, .int x5), (6, .long y6_16), (8, .int (x8 + 1))]) [1, 2, 3, 0] rfl ?_
          exact ih _ _ _ h
      · have h := h.2 c101
        refine x_goto C 150 dX1_sent_104 (by decide) ?_
        refine x_iinc C 153 rfl 3 (x8 + 1) [(8, .int (x8 + 1)), (0, .ref (ad 10)), (5, .int x5), (6, .long x6)] dX1_sent_150 rfl rfl (by decide) rfl ?_
        refine x_goto C 82 dX1_sent_153 (by decide) ?_
        refine x_sub (lv' := [(0, .ref (ad 10)), (5, .int x5), (6, .long x6), (8, .int (x8 + 1))]) [1, 2, 3, 0] rfl ?_
        exact ih _ _ _ h
set_option maxRecDepth 100000 in
set_option maxHeartbeats 4000000 in
theorem m_X1_sent (l : Launch) (D : va_G) (ad : Nat → Nat) (ct : Nat → ClassId) (x1 : Int64) (x3 : Int32) (x4 : Int32) (x5 : Int32) (σ : ST) (Q : Int64 → ST → Prop) (h : wp_X1_sent x1 x3 x4 x5 σ Q) : CtL l D (tysF ct) (wC ad ct) yX1_sent wsX1_sent rm_X1_sent [.ref (ad 10), .long x1, .int x3, .int x4, .int x5] σ Q := by
  refine CtL.of (wC_adr ad ct) (maxL := 12) [(0, .ref (ad 10)), (1, .long x1), (3, .int x3), (4, .int x4), (5, .int x5)] RX1 (by decide) rfl rfl (by show (lg_sl [.ref (ad 10), .long x1, .int x3, .int x4, .int x5]).length ≤ 12; exact Nat.le_of_ble_eq_true rfl) rfl rfl rfl ?_
  intro E C hR
  unfold wp_X1_sent at h
  refine x_lconst C 1 rfl 0 dX1_sent_0 rfl ?_
  refine x_lstore C 3 rfl [(6, .long 0), (0, .ref (ad 10)), (1, .long x1), (3, .int x3), (4, .int x4), (5, .int x5)] dX1_sent_1 (by decide) rfl ?_
  refine x_iload_n C 4 rfl 3 dX1_sent_3 rfl rfl ?_
  refine x_istore C 6 rfl [(8, .int x3), (6, .long 0), (0, .ref (ad 10)), (1, .long x1), (3, .int x3), (4, .int x4), (5, .int x5)] dX1_sent_4 (by decide) rfl ?_
  refine x_sub (lv' := [(0, .ref (ad 10)), (1, .long x1), (4, .int x4), (5, .int x5), (6, .long 0), (8, .int x3)]) [2, 3, 5, 6, 1, 0] rfl ?_
  obtain ⟨n7, h⟩ := h
  refine v_X1_sent_L6 C x1 x4 x5 ?_ hR n7 _ _ _ h
  · intro y6_8 σ9 h
    refine x_iconst C 80 rfl 0 dX1_sent_79 rfl ?_
    refine x_istore C 82 rfl [(8, .int 0), (0, .ref (ad 10)), (5, .int x5), (6, .long y6_8)] dX1_sent_80 (by decide) rfl ?_
    refine x_sub (lv' := [(0, .ref (ad 10)), (5, .int x5), (6, .long y6_8), (8, .int 0)]) [1, 2, 3, 0] rfl ?_
    obtain ⟨n18, h⟩ := h
    refine v_X1_sent_L82 C x5 hR n18 _ _ _ h
abbrev rm_X1_answers : Room := { frames := 1, cells := 0, slots := 0, locals := 26 }
theorem in_X1_answers_X1 : ∀ w ∈ u_ws RX1 TX1 7, w ∈ wsX1_answers := by decide +kernel
theorem fl_X1_answers_27 : Cond.fieldLink RX1 27 RX1 (TX1 5).2.1 (TX1 5).2.2.1 ∈ wsX1_answers := by decide +kernel
theorem fl_X1_answers_18 : Cond.fieldLink RX1 18 RX1 (TX1 2).2.1 (TX1 2).2.2.1 ∈ wsX1_answers := by decide +kernel
set_option maxRecDepth 100000 in
set_option maxHeartbeats 4000000 in
theorem v_X1_answers_L16 {l : Launch} {D : va_G} {ad : Nat → Nat} {ct : Nat → ClassId} {E : XE}  {Q : Int32 → ST → Prop} (C : XFix D (tysF ct) (wC ad ct) rm_X1_answers 6 E cX1_answers RX1 wsX1_answers) (x1 : Int64) (x3 : Int32) (hR : RetI l D (tysF ct) (wC ad ct) rm_X1_answers 6 E cX1_answers Q) :
    ∀ (n : Nat) (x4 : Int32) (x5 : Int32) (σ : ST), wp_X1_answers_L16 x1 x3 Q n x4 x5 σ → V l D (tysF ct) (wC ad ct) rm_X1_answers 6 E 16 [(0, .ref (ad 10)), (1, .long x1), (3, .int x3), (4, .int x4), (5, .int x5)] [] σ := by
  intro n
  induction n with
  | zero => intro x4 x5 σ h; exact (h : False).elim
  | succ n ih =>
    intro x4 x5 σ h
    unfold wp_X1_answers_L16 at h
    refine x_iload C 18 rfl 4 dX1_answers_16 rfl ?_
    refine x_iconst C 19 rfl 4 dX1_answers_18 rfl ?_
    refine x_icmp_ge C 61 22 dX1_answers_19 (by decide) rfl (fun c19 => ?_) (fun c19 => ?_)
    · have h := h.1 c19
      refine x_iload C 63 rfl 3 dX1_answers_61 rfl ?_
      exact hR _ _ _ _ dX1_answers_63 h
    · have h := h.2 c19
      refine x_lload_n C 23 rfl 1 dX1_answers_22 rfl rfl ?_
      refine x_iload_n C 24 rfl 2 dX1_answers_23 rfl rfl ?_
      refine x_iconst C 25 rfl 3 dX1_answers_24 rfl ?_
      refine x_idiv C 26 rfl dX1_answers_25 (by decide) ?_
      refine x_iload C 28 rfl 4 dX1_answers_26 rfl ?_
      refine x_iconst C 29 rfl 0 dX1_answers_28 rfl ?_
      refine x_cSL C 32 rfl (m_X1_moved l D ad ct _ _ _ _ _ _ h) (va_cwS 4 C.1.2.2.2.2 gX1_answers_X1_moved rfl rfl rfl (by decide +kernel) ⟨Nat.le_of_ble_eq_true rfl, Nat.le_of_ble_eq_true rfl⟩) rfl rfl (Nat.le_of_ble_eq_true rfl) dX1_answers_29 ?_
      intro r2 σ1 h
      refine x_lconst C 33 rfl 0 dX1_answers_32 rfl ?_
      refine x_lcmp C 34 rfl dX1_answers_33 ?_
      refine x_if_eq C 55 37 dX1_answers_34 (by decide) rfl (fun c34 => ?_) (fun c34 => ?_)
      · have h := h.1 c34
        refine x_iinc C 58 rfl 4 (x5 + 1) [(5, .int (x5 + 1)), (0, .ref (ad 10)), (1, .long x1), (3, .int x3), (4, .int x4)] dX1_answers_55 rfl rfl (by decide) rfl ?_
        refine x_goto C 16 dX1_answers_58 (by decide) ?_
        refine x_sub (lv' := [(0, .ref (ad 10)), (1, .long x1), (3, .int x3), (4, .int x4), (5, .int (x5 + 1))]) [1, 2, 3, 4, 0] rfl ?_
        exact ih _ _ _ h
      · have h := h.2 c34
        refine x_iload C 39 rfl 3 dX1_answers_37 rfl ?_
        refine x_iconst C 40 rfl 1 dX1_answers_39 rfl ?_
        refine x_aload_n C 41 rfl 0 dX1_answers_40 rfl rfl ?_
        refine x_get C 44 rfl (ref := RX1) 10 2 (gC_R ad ct _) rfl in_X1_answers_X1 (by decide) fl_X1_answers_18 rfl rfl dX1_answers_41 ?_
        refine x_iconst C 45 rfl 4 dX1_answers_44 rfl ?_
        refine x_iload_n C 46 rfl 2 dX1_answers_45 rfl rfl ?_
        refine x_imul C 47 rfl dX1_answers_46 ?_
        refine x_iload C 49 rfl 4 dX1_answers_47 rfl ?_
        refine x_iadd C 50 rfl dX1_answers_49 ?_
        have i3 := h.1
        have h := h.2
        refine x_iald C 51 rfl 13 0 (gC_R_heardAs ad ct _) rfl i3 dX1_answers_50 ?_
        refine x_ishl C 52 rfl dX1_answers_51 ?_
        refine x_ior C 53 rfl dX1_answers_52 ?_
        refine x_ni (fun w4 ew4 => ?_)
        have h := h w4 ew4
        refine x_istore C 55 rfl [(4, .int w4), (0, .ref (ad 10)), (1, .long x1), (3, .int x3), (5, .int x5)] dX1_answers_53 (by decide) rfl ?_
        refine x_iinc C 58 rfl 4 (x5 + 1) [(5, .int (x5 + 1)), (4, .int w4), (0, .ref (ad 10)), (1, .long x1), (3, .int x3)] dX1_answers_55 rfl rfl (by decide) rfl ?_
        refine x_goto C 16 dX1_answers_58 (by decide) ?_
        refine x_sub (lv' := [(0, .ref (ad 10)), (1, .long x1), (3, .int x3), (4, .int w4), (5, .int (x5 + 1))]) [2, 3, 4, 1, 0] rfl ?_
        exact ih _ _ _ h
set_option maxRecDepth 100000 in
set_option maxHeartbeats 4000000 in
theorem m_X1_answers (l : Launch) (D : va_G) (ad : Nat → Nat) (ct : Nat → ClassId) (x1 : Int64) (x3 : Int32) (σ : ST) (Q : Int32 → ST → Prop) (h : wp_X1_answers x1 x3 σ Q) : CtI l D (tysF ct) (wC ad ct) yX1_answers wsX1_answers rm_X1_answers [.ref (ad 10), .long x1, .int x3] σ Q := by
  refine CtI.of (wC_adr ad ct) (maxL := 6) [(0, .ref (ad 10)), (1, .long x1), (3, .int x3)] RX1 (by decide) rfl rfl (by show (lg_sl [.ref (ad 10), .long x1, .int x3]).length ≤ 6; exact Nat.le_of_ble_eq_true rfl) rfl rfl rfl ?_
  intro E C hR
  unfold wp_X1_answers at h
  refine x_iload_n C 1 rfl 2 dX1_answers_0 rfl rfl ?_
  refine x_aload_n C 2 rfl 0 dX1_answers_1 rfl rfl ?_
  refine x_get C 5 rfl (ref := RX1) 10 5 (gC_R ad ct _) rfl in_X1_answers_X1 (by decide) fl_X1_answers_27 rfl rfl dX1_answers_2 ?_
  refine x_icmp_lt C 10 8 dX1_answers_5 (by decide) rfl (fun c5 => ?_) (fun c5 => ?_)
  · have h := h.1 c5
    refine x_iconst C 11 rfl 0 dX1_answers_10 rfl ?_
    refine x_istore C 13 rfl [(4, .int 0), (0, .ref (ad 10)), (1, .long x1), (3, .int x3)] dX1_answers_11 (by decide) rfl ?_
    refine x_iconst C 14 rfl 0 dX1_answers_13 rfl ?_
    refine x_istore C 16 rfl [(5, .int 0), (4, .int 0), (0, .ref (ad 10)), (1, .long x1), (3, .int x3)] dX1_answers_14 (by decide) rfl ?_
    refine x_sub (lv' := [(0, .ref (ad 10)), (1, .long x1), (3, .int x3), (4, .int 0), (5, .int 0)]) [2, 3, 4, 1, 0] rfl ?_
    obtain ⟨n5, h⟩ := h
    refine v_X1_answers_L16 C x1 x3 hR n5 _ _ _ h
  · have h := h.2 c5
    refine x_iconst C 9 rfl 1 dX1_answers_8 rfl ?_
    exact hR _ _ _ _ dX1_answers_9 h
