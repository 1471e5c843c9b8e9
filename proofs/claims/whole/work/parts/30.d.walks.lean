abbrev rm_X4_give : Room := { frames := 1, cells := 0, slots := 0, locals := 21 }
theorem in_X4_give_X4 : ∀ w ∈ u_ws RX4 TX4 7, w ∈ wsX4_give := by decide +kernel
theorem fl_X4_give_39 : Cond.fieldLink RX4 39 RX4 (TX4 4).2.1 (TX4 4).2.2.1 ∈ wsX4_give := by decide +kernel
theorem fl_X4_give_11 : Cond.fieldLink RX4 11 RX4 (TX4 0).2.1 (TX4 0).2.2.1 ∈ wsX4_give := by decide +kernel
theorem in_X4_give_X2 : ∀ w ∈ u_ws RX2 TX2 9, w ∈ wsX4_give := by decide +kernel
theorem fl_X4_give_58 : Cond.fieldLink RX4 58 RX2 (TX2 3).2.1 (TX2 3).2.2.1 ∈ wsX4_give := by decide +kernel
theorem fl_X4_give_43 : Cond.fieldLink RX4 43 RX4 (TX4 6).2.1 (TX4 6).2.2.1 ∈ wsX4_give := by decide +kernel
set_option maxRecDepth 100000 in
set_option maxHeartbeats 4000000 in
theorem v_X4_give_L14 {l : Launch} {D : va_G} {ad : Nat → Nat} {ct : Nat → ClassId} {E : XE}  {Q : Int32 → ST → Prop} (C : XFix D (tysF ct) (wC ad ct) rm_X4_give 3 E cX4_give RX4 wsX4_give) (x1 : Int32) {K : ST → Prop} (hK : ∀ (σ : ST), K σ → V l D (tysF ct) (wC ad ct) rm_X4_give 3 E 42 [(0, .ref (ad 0))] [] σ) (hR : RetZ l D (tysF ct) (wC ad ct) rm_X4_give 3 E cX4_give Q) :
    ∀ (n : Nat) (x2 : Int32) (σ : ST), wp_X4_give_L14 x1 K Q n x2 σ → V l D (tysF ct) (wC ad ct) rm_X4_give 3 E 14 [(0, .ref (ad 0)), (1, .int x1), (2, .int x2)] [] σ := by
  intro n
  induction n with
  | zero => intro x2 σ h; exact (h : False).elim
  | succ n ih =>
    intro x2 σ h
    unfold wp_X4_give_L14 at h
    refine x_iload_n C 15 rfl 2 dX4_give_14 rfl rfl ?_
    refine x_aload_n C 16 rfl 0 dX4_give_15 rfl rfl ?_
    refine x_get C 19 rfl (ref := RX4) 0 4 (gC_J ad ct _) rfl in_X4_give_X4 (by decide) fl_X4_give_39 rfl rfl dX4_give_16 ?_
    refine x_icmp_ge C 42 22 dX4_give_19 (by decide) rfl (fun c19 => ?_) (fun c19 => ?_)
    · have h := h.1 c19
      refine x_sub (lv' := [(0, .ref (ad 0))]) [0] rfl ?_
      exact hK  _ h
    · have h := h.2 c19
      refine x_aload_n C 23 rfl 0 dX4_give_22 rfl rfl ?_
      refine x_get C 26 rfl (ref := RX4) 0 0 (gC_J ad ct _) rfl in_X4_give_X4 (by decide) fl_X4_give_11 rfl rfl dX4_give_23 ?_
      refine x_iload_n C 27 rfl 2 dX4_give_26 rfl rfl ?_
      have i1 := h.1
      have h := h.2
      have hk2 : (Int32.toNatClampNeg x2) < 3 := Nat.not_le.mp fun q => i1 (Or.inr q)
      refine x_aald C 28 rfl (q := ad (4 + 2 * (Int32.toNatClampNeg x2))) 1 2 (gC_J_things ad ct _) rfl i1 rfl dX4_give_27 ?_
      refine x_iload_n C 29 rfl 1 dX4_give_28 rfl rfl ?_
      refine x_iload_n C 30 rfl 2 dX4_give_29 rfl rfl ?_
      refine x_cSI C 33 rfl (m_X4_wallIn l D ad ct _ _ _ _ h) (va_cwS 2 C.1.2.2.2.2 gX4_give_X4_wallIn rfl rfl rfl (by decide +kernel) ⟨Nat.le_of_ble_eq_true rfl, Nat.le_of_ble_eq_true rfl⟩) rfl rfl (Nat.le_of_ble_eq_true rfl) dX4_give_30 ?_
      intro r4 σ3 h
      obtain ⟨σ5, eσ5⟩ : ∃ z, z = sI σ3 (4 + 2 * (Int32.toNatClampNeg x2)) 3 r4 := ⟨_, rfl⟩
      have h := h σ5 eσ5
      refine x_put C 36 rfl (ref := RX2) (ty := .int) (σ' := σ5) (4 + 2 * (Int32.toNatClampNeg x2)) 3 (gC_T ad ct _ hk2) rfl in_X4_give_X2 tyX2 tyX2_ok nmX2 (by decide) fl_X4_give_58 rfl rfl (by decide +kernel) rfl rfl (by show 3 < 9; decide) (by rw [eσ5]; exact (sC_T_wall ad ct _ hk2)) dX4_give_33 ?_
      refine x_iinc C 39 rfl 2 (x2 + 1) [(2, .int (x2 + 1)), (0, .ref (ad 0)), (1, .int x1)] dX4_give_36 rfl rfl (by decide) rfl ?_
      refine x_goto C 14 dX4_give_39 (by decide) ?_
      refine x_sub (lv' := [(0, .ref (ad 0)), (1, .int x1), (2, .int (x2 + 1))]) [1, 2, 0] rfl ?_
      exact ih _ _ h
set_option maxRecDepth 100000 in
set_option maxHeartbeats 4000000 in
theorem m_X4_give (l : Launch) (D : va_G) (ad : Nat → Nat) (ct : Nat → ClassId) (x1 : Int32) (σ : ST) (Q : Int32 → ST → Prop) (h : wp_X4_give x1 σ Q) : CtI l D (tysF ct) (wC ad ct) yX4_give wsX4_give rm_X4_give [.ref (ad 0), .int x1] σ Q := by
  refine CtI.ofZ (wC_adr ad ct) (maxL := 3) [(0, .ref (ad 0)), (1, .int x1)] RX4 (by decide) rfl rfl (by show (lg_sl [.ref (ad 0), .int x1]).length ≤ 3; exact Nat.le_of_ble_eq_true rfl) rfl rfl rfl ?_
  intro E C hR
  unfold wp_X4_give at h
  refine x_iload_n C 1 rfl 1 dX4_give_0 rfl rfl ?_
  refine x_if_lt C 10 4 dX4_give_1 (by decide) rfl (fun c1 => ?_) (fun c1 => ?_)
  · have h := h.1 c1
    refine x_iconst C 11 rfl 0 dX4_give_10 rfl ?_
    exact hR _ _ _ _ dX4_give_11 (by decide) h
  · have h := h.2 c1
    refine x_iload_n C 5 rfl 1 dX4_give_4 rfl rfl ?_
    refine x_bipush C 7 rfl 64 dX4_give_5 rfl ?_
    refine x_icmp_lt C 12 10 dX4_give_7 (by decide) rfl (fun c7 => ?_) (fun c7 => ?_)
    · have h := h.1 c7
      refine x_iconst C 13 rfl 0 dX4_give_12 rfl ?_
      refine x_istore_n C 14 rfl [(2, .int 0), (0, .ref (ad 0)), (1, .int x1)] dX4_give_13 rfl (by decide) rfl ?_
      refine x_sub (lv' := [(0, .ref (ad 0)), (1, .int x1), (2, .int 0)]) [1, 2, 0] rfl ?_
      obtain ⟨n6, h⟩ := h
      refine v_X4_give_L14 C x1 ?_ hR n6 _ _ h
      · intro σ7 h
        refine x_aload_n C 43 rfl 0 dX4_give_42 rfl rfl ?_
        refine x_dup C 44 rfl dX4_give_43 rfl ?_
        refine x_get C 47 rfl (ref := RX4) 0 6 (gC_J ad ct _) rfl in_X4_give_X4 (by decide) fl_X4_give_43 rfl rfl dX4_give_44 ?_
        refine x_iconst C 48 rfl 1 dX4_give_47 rfl ?_
        refine x_iadd C 49 rfl dX4_give_48 ?_
        obtain ⟨σ8, eσ8⟩ : ∃ z, z = sI σ7 0 6 ((σ7.1 0 6) + 1) := ⟨_, rfl⟩
        have h := h σ8 eσ8
        refine x_put C 52 rfl (ref := RX4) (ty := .int) (σ' := σ8) 0 6 (gC_J ad ct _) rfl in_X4_give_X4 tyX4 tyX4_ok nmX4 (by decide) fl_X4_give_43 rfl rfl (by decide +kernel) rfl rfl (by show 6 < 7; decide) (by rw [eσ8]; exact (sC_J_changes ad ct _)) dX4_give_49 ?_
        refine x_iconst C 53 rfl 1 dX4_give_52 rfl ?_
        exact hR _ _ _ _ dX4_give_53 (by decide) h
    · have h := h.2 c7
      refine x_iconst C 11 rfl 0 dX4_give_10 rfl ?_
      exact hR _ _ _ _ dX4_give_11 (by decide) h
abbrev rm_X5_isIn : Room := { frames := 0, cells := 0, slots := 0, locals := 0 }
set_option maxRecDepth 100000 in
set_option maxHeartbeats 4000000 in
theorem m_X5_isIn (l : Launch) (D : va_G) (ad : Nat → Nat) (ct : Nat → ClassId) (x0 : Int32) (x1 : Int32) (x2 : Int32) (σ : ST) (Q : Int32 → ST → Prop) (h : wp_X5_isIn x0 x1 x2 σ Q) : CtI l D (tysF ct) (wM ad ct) yX5_isIn wsX5_isIn rm_X5_isIn [.int x0, .int x1, .int x2] σ Q := by
  refine CtI.ofZ (wM_adr ad ct) (maxL := 3) [(0, .int x0), (1, .int x1), (2, .int x2)] RX5 (by decide) rfl rfl (by show (lg_sl [.int x0, .int x1, .int x2]).length ≤ 3; exact Nat.le_of_ble_eq_true rfl) rfl rfl rfl ?_
  intro E C hR
  unfold wp_X5_isIn at h
  refine x_iload_n C 1 rfl 0 dX5_isIn_0 rfl rfl ?_
  refine x_iload_n C 2 rfl 1 dX5_isIn_1 rfl rfl ?_
  refine x_icmp_lt C 14 5 dX5_isIn_2 (by decide) rfl (fun c2 => ?_) (fun c2 => ?_)
  · have h := h.1 c2
    refine x_iconst C 15 rfl 0 dX5_isIn_14 rfl ?_
    exact hR _ _ _ _ dX5_isIn_15 (by decide) h
  · have h := h.2 c2
    refine x_iload_n C 6 rfl 0 dX5_isIn_5 rfl rfl ?_
    refine x_iload_n C 7 rfl 2 dX5_isIn_6 rfl rfl ?_
    refine x_icmp_gt C 14 10 dX5_isIn_7 (by decide) rfl (fun c7 => ?_) (fun c7 => ?_)
    · have h := h.1 c7
      refine x_iconst C 15 rfl 0 dX5_isIn_14 rfl ?_
      exact hR _ _ _ _ dX5_isIn_15 (by decide) h
    · have h := h.2 c7
      refine x_iconst C 11 rfl 1 dX5_isIn_10 rfl ?_
      refine x_goto C 15 dX5_isIn_11 (by decide) ?_
      exact hR _ _ _ _ dX5_isIn_15 (by decide) h
abbrev rm_X5_isThing : Room := { frames := 1, cells := 0, slots := 0, locals := 22 }
theorem in_X5_isThing_X5 : ∀ w ∈ u_ws RX5 TX5 20, w ∈ wsX5_isThing := by decide +kernel
theorem fl_X5_isThing_62 : Cond.fieldLink RX5 62 RX5 (TX5 0).2.1 (TX5 0).2.2.1 ∈ wsX5_isThing := by decide +kernel
set_option maxRecDepth 100000 in
set_option maxHeartbeats 4000000 in
theorem m_X5_isThing (l : Launch) (D : va_G) (ad : Nat → Nat) (ct : Nat → ClassId) (x1 : Int32) (σ : ST) (Q : Int32 → ST → Prop) (h : wp_X5_isThing x1 σ Q) : CtI l D (tysF ct) (wM ad ct) yX5_isThing wsX5_isThing rm_X5_isThing [.ref (ad 0), .int x1] σ Q := by
  refine CtI.ofZ (wM_adr ad ct) (maxL := 2) [(0, .ref (ad 0)), (1, .int x1)] RX5 (by decide) rfl rfl (by show (lg_sl [.ref (ad 0), .int x1]).length ≤ 2; exact Nat.le_of_ble_eq_true rfl) rfl rfl rfl ?_
  intro E C hR
  unfold wp_X5_isThing at h
  refine x_iload_n C 1 rfl 1 dX5_isThing_0 rfl rfl ?_
  refine x_iconst C 2 rfl 0 dX5_isThing_1 rfl ?_
  refine x_aload_n C 3 rfl 0 dX5_isThing_2 rfl rfl ?_
  refine x_get C 6 rfl (ref := RX5) 0 0 (gM_M ad ct _) rfl in_X5_isThing_X5 (by decide) fl_X5_isThing_62 rfl rfl dX5_isThing_3 ?_
  refine x_iconst C 7 rfl 1 dX5_isThing_6 rfl ?_
  refine x_isub C 8 rfl dX5_isThing_7 ?_
  refine x_cSI C 11 rfl (m_X5_isIn l D ad ct _ _ _ _ _ h) (va_cwS 3 C.1.2.2.2.2 gX5_isThing_X5_isIn rfl rfl rfl (by decide +kernel) ⟨Nat.le_of_ble_eq_true rfl, Nat.le_of_ble_eq_true rfl⟩) rfl rfl (Nat.le_of_ble_eq_true rfl) dX5_isThing_8 ?_
  intro r2 σ1 h
  exact hR _ _ _ _ dX5_isThing_11 h.1 h.2
abbrev rm_X5_clear : Room := { frames := 0, cells := 0, slots := 0, locals := 0 }
theorem in_X5_clear_X5 : ∀ w ∈ u_ws RX5 TX5 20, w ∈ wsX5_clear := by decide +kernel
theorem fl_X5_clear_62 : Cond.fieldLink RX5 62 RX5 (TX5 0).2.1 (TX5 0).2.2.1 ∈ wsX5_clear := by decide +kernel
set_option maxRecDepth 100000 in
set_option maxHeartbeats 4000000 in
theorem m_X5_clear (l : Launch) (D : va_G) (ad : Nat → Nat) (ct : Nat → ClassId) (σ : ST) (Q : ST → Prop) (h : wp_X5_clear σ Q) : CtV l D (tysF ct) (wM ad ct) yX5_clear wsX5_clear rm_X5_clear [.ref (ad 0)] σ Q := by
  refine CtV.of (wM_adr ad ct) (maxL := 1) [(0, .ref (ad 0))] RX5 (by decide) rfl rfl (by show (lg_sl [.ref (ad 0)]).length ≤ 1; exact Nat.le_of_ble_eq_true rfl) rfl rfl rfl ?_
  intro E C hR
  unfold wp_X5_clear at h
  refine x_aload_n C 1 rfl 0 dX5_clear_0 rfl rfl ?_
  refine x_iconst C 2 rfl 0 dX5_clear_1 rfl ?_
  obtain ⟨σ1, eσ1⟩ : ∃ z, z = sI σ 0 0 0 := ⟨_, rfl⟩
  have h := h σ1 eσ1
  refine x_put C 5 rfl (ref := RX5) (ty := .int) (σ' := σ1) 0 0 (gM_M ad ct _) rfl in_X5_clear_X5 tyX5 tyX5_ok nmX5 (by decide) fl_X5_clear_62 rfl rfl (by decide +kernel) rfl rfl (by show 0 < 20; decide) (by rw [eσ1]; exact (sM_M_many ad ct _)) dX5_clear_2 ?_
  exact hR _ _ _ dX5_clear_5 h
abbrev rm_X5_comes : Room := { frames := 0, cells := 0, slots := 0, locals := 0 }
theorem in_X5_comes_X5 : ∀ w ∈ u_ws RX5 TX5 20, w ∈ wsX5_comes := by decide +kernel
theorem fl_X5_comes_62 : Cond.fieldLink RX5 62 RX5 (TX5 0).2.1 (TX5 0).2.2.1 ∈ wsX5_comes := by decide +kernel
theorem fl_X5_comes_7 : Cond.fieldLink RX5 7 RX5 (TX5 1).2.1 (TX5 1).2.2.1 ∈ wsX5_comes := by decide +kernel
theorem fl_X5_comes_13 : Cond.fieldLink RX5 13 RX5 (TX5 2).2.1 (TX5 2).2.2.1 ∈ wsX5_comes := by decide +kernel
theorem fl_X5_comes_16 : Cond.fieldLink RX5 16 RX5 (TX5 3).2.1 (TX5 3).2.2.1 ∈ wsX5_comes := by decide +kernel
theorem fl_X5_comes_19 : Cond.fieldLink RX5 19 RX5 (TX5 4).2.1 (TX5 4).2.2.1 ∈ wsX5_comes := by decide +kernel
theorem fl_X5_comes_22 : Cond.fieldLink RX5 22 RX5 (TX5 5).2.1 (TX5 5).2.2.1 ∈ wsX5_comes := by decide +kernel
theorem fl_X5_comes_25 : Cond.fieldLink RX5 25 RX5 (TX5 6).2.1 (TX5 6).2.2.1 ∈ wsX5_comes := by decide +kernel
theorem fl_X5_comes_28 : Cond.fieldLink RX5 28 RX5 (TX5 7).2.1 (TX5 7).2.2.1 ∈ wsX5_comes := by decide +kernel
set_option maxRecDepth 100000 in
set_option maxHeartbeats 4000000 in
theorem v_X5_comes_L53 {l : Launch} {D : va_G} {ad : Nat → Nat} {ct : Nat → ClassId} {E : XE}  {Q : Int32 → ST → Prop} (C : XFix D (tysF ct) (wM ad ct) rm_X5_comes 5 E cX5_comes RX5 wsX5_comes) (x2 : Int32) (x3 : Int32) {K : ST → Prop} (hK : ∀ (σ : ST), K σ → V l D (tysF ct) (wM ad ct) rm_X5_comes 5 E 86 [(0, .ref (ad 0)), (2, .int x2), (3, .int x3)] [] σ) (hR : RetI l D (tysF ct) (wM ad ct) rm_X5_comes 5 E cX5_comes Q) :
    ∀ (n : Nat) (x4 : Int32) (σ : ST), wp_X5_comes_L53 x2 x3 K Q n x4 σ → V l D (tysF ct) (wM ad ct) rm_X5_comes 5 E 53 [(0, .ref (ad 0)), (2, .int x2), (3, .int x3), (4, .int x4)] [] σ := by
  intro n
  induction n with
  | zero => intro x4 σ h; exact (h : False).elim
  | succ n ih =>
    intro x4 σ h
    unfold wp_X5_comes_L53 at h
    refine x_iload C 55 rfl 3 dX5_comes_53 rfl ?_
    refine x_iconst C 56 rfl 4 dX5_comes_55 rfl ?_
    refine x_icmp_ge C 86 59 dX5_comes_56 (by decide) rfl (fun c56 => ?_) (fun c56 => ?_)
    · have h := h.1 c56
      refine x_sub (lv' := [(0, .ref (ad 0)), (2, .int x2), (3, .int x3)]) [0, 1, 2] rfl ?_
      exact hK  _ h
    · have h := h.2 c56
      refine x_aload_n C 60 rfl 0 dX5_comes_59 rfl rfl ?_
      refine x_get C 63 rfl (ref := RX5) 0 6 (gM_M ad ct _) rfl in_X5_comes_X5 (by decide) fl_X5_comes_25 rfl rfl dX5_comes_60 ?_
      refine x_iconst C 64 rfl 4 dX5_comes_63 rfl ?_
      refine x_iload_n C 65 rfl 2 dX5_comes_64 rfl rfl ?_
      refine x_imul C 66 rfl dX5_comes_65 ?_
      refine x_iload C 68 rfl 3 dX5_comes_66 rfl ?_
      refine x_iadd C 69 rfl dX5_comes_68 ?_
      refine x_iload C 71 rfl 3 dX5_comes_69 rfl ?_
      refine x_if_ne C 78 74 dX5_comes_71 (by decide) rfl (fun c71 => ?_) (fun c71 => ?_)
      · have h := h.1 c71
        refine x_iconst C 79 rfl 1 dX5_comes_78 rfl ?_
        have i8 := h.1
        have h := h.2
        obtain ⟨σ9, eσ9⟩ : ∃ z, z = sR σ 6 (Int32.toNatClampNeg ((4 * x3) + x4)) 1 := ⟨_, rfl⟩
        have h := h σ9 eσ9
        refine x_iast C 80 rfl (σ' := σ9) 6 0 (gM_M_price ad ct _) rfl i8 (by rw [eσ9]; exact (sM_M_price ad ct _)) dX5_comes_79 ?_
        refine x_iinc C 83 rfl 3 (x4 + 1) [(4, .int (x4 + 1)), (0, .ref (ad 0)), (2, .int x2), (3, .int x3)] dX5_comes_80 rfl rfl (by decide) rfl ?_
        refine x_goto C 53 dX5_comes_83 (by decide) ?_
        refine x_sub (lv' := [(0, .ref (ad 0)), (2, .int x2), (3, .int x3), (4, .int (x4 + 1))]) [1, 2, 3, 0] rfl ?_
        exact ih _ _ h
      · have h := h.2 c71
        refine x_iconst C 75 rfl 0 dX5_comes_74 rfl ?_
        refine x_goto C 79 dX5_comes_75 (by decide) ?_
        have i10 := h.1
        have h := h.2
        obtain ⟨σ11, eσ11⟩ : ∃ z, z = sR σ 6 (Int32.toNatClampNeg ((4 * x3) + x4)) 0 := ⟨_, rfl⟩
        have h := h σ11 eσ11
        refine x_iast C 80 rfl (σ' := σ11) 6 0 (gM_M_price ad ct _) rfl i10 (by rw [eσ11]; exact (sM_M_price ad ct _)) dX5_comes_79 ?_
        refine x_iinc C 83 rfl 3 (x4 + 1) [(4, .int (x4 + 1)), (0, .ref (ad 0)), (2, .int x2), (3, .int x3)] dX5_comes_80 rfl rfl (by decide) rfl ?_
        refine x_goto C 53 dX5_comes_83 (by decide) ?_
        refine x_sub (lv' := [(0, .ref (ad 0)), (2, .int x2), (3, .int x3), (4, .int (x4 + 1))]) [1, 2, 3, 0] rfl ?_
        exact ih _ _ h
set_option maxRecDepth 100000 in
set_option maxHeartbeats 4000000 in
theorem m_X5_comes (l : Launch) (D : va_G) (ad : Nat → Nat) (ct : Nat → ClassId) (x1 : Int32) (x2 : Int32) (σ : ST) (Q : Int32 → ST → Prop) (h : wp_X5_comes x1 x2 σ Q) : CtI l D (tysF ct) (wM ad ct) yX5_comes wsX5_comes rm_X5_comes [.ref (ad 0), .int x1, .int x2] σ Q := by
  refine CtI.of (wM_adr ad ct) (maxL := 5) [(0, .ref (ad 0)), (1, .int x1), (2, .int x2)] RX5 (by decide) rfl rfl (by show (lg_sl [.ref (ad 0), .int x1, .int x2]).length ≤ 5; exact Nat.le_of_ble_eq_true rfl) rfl rfl rfl ?_
  intro E C hR
  unfold wp_X5_comes at h
  refine x_aload_n C 1 rfl 0 dX5_comes_0 rfl rfl ?_
  refine x_get C 4 rfl (ref := RX5) 0 0 (gM_M ad ct _) rfl in_X5_comes_X5 (by decide) fl_X5_comes_62 rfl rfl dX5_comes_1 ?_
  refine x_istore_n C 5 rfl [(3, .int (σ.1 0 0)), (0, .ref (ad 0)), (1, .int x1), (2, .int x2)] dX5_comes_4 rfl (by decide) rfl ?_
  refine x_aload_n C 6 rfl 1 dX5_comes_5 rfl rfl ?_
  refine x_dup C 7 rfl dX5_comes_6 rfl ?_
  refine x_get C 10 rfl (ref := RX5) 0 0 (gM_M ad ct _) rfl in_X5_comes_X5 (by decide) fl_X5_comes_62 rfl rfl dX5_comes_7 ?_
  refine x_iconst C 11 rfl 1 dX5_comes_10 rfl ?_
  refine x_iadd C 12 rfl dX5_comes_11 ?_
  obtain ⟨σ1, eσ1⟩ : ∃ z, z = sI σ 0 0 ((σ.1 0 0) + 1) := ⟨_, rfl⟩
  have h := h σ1 eσ1
  refine x_put C 15 rfl (ref := RX5) (ty := .int) (σ' := σ1) 0 0 (gM_M ad ct _) rfl in_X5_comes_X5 tyX5 tyX5_ok nmX5 (by decide) fl_X5_comes_62 rfl rfl (by decide +kernel) rfl rfl (by show 0 < 20; decide) (by rw [eσ1]; exact (sM_M_many ad ct _)) dX5_comes_12 ?_
  refine x_aload_n C 16 rfl 1 dX5_comes_15 rfl rfl ?_
  refine x_get C 19 rfl (ref := RX5) 0 1 (gM_M ad ct _) rfl in_X5_comes_X5 (by decide) fl_X5_comes_7 rfl rfl dX5_comes_16 ?_
  refine x_iload_n C 20 rfl 0 dX5_comes_19 rfl rfl ?_
  refine x_iload_n C 21 rfl 2 dX5_comes_20 rfl rfl ?_
  have i2 := h.1
  have h := h.2
  obtain ⟨σ3, eσ3⟩ : ∃ z, z = sR σ1 1 (Int32.toNatClampNeg (σ.1 0 0)) x1 := ⟨_, rfl⟩
  have h := h σ3 eσ3
  refine x_iast C 22 rfl (σ' := σ3) 1 0 (gM_M_kind ad ct _) rfl i2 (by rw [eσ3]; exact (sM_M_kind ad ct _)) dX5_comes_21 ?_
  refine x_aload_n C 23 rfl 1 dX5_comes_22 rfl rfl ?_
  refine x_get C 26 rfl (ref := RX5) 0 2 (gM_M ad ct _) rfl in_X5_comes_X5 (by decide) fl_X5_comes_13 rfl rfl dX5_comes_23 ?_
  refine x_iload_n C 27 rfl 0 dX5_comes_26 rfl rfl ?_
  refine x_iload_n C 28 rfl 3 dX5_comes_27 rfl rfl ?_
  obtain ⟨σ4, eσ4⟩ : ∃ z, z = sR σ3 2 (Int32.toNatClampNeg (σ.1 0 0)) x2 := ⟨_, rfl⟩
  have h := h σ4 eσ4
  refine x_iast C 29 rfl (σ' := σ4) 2 0 (gM_M_first ad ct _) rfl i2 (by rw [eσ4]; exact (sM_M_first ad ct _)) dX5_comes_28 ?_
  refine x_aload_n C 30 rfl 1 dX5_comes_29 rfl rfl ?_
  refine x_get C 33 rfl (ref := RX5) 0 3 (gM_M ad ct _) rfl in_X5_comes_X5 (by decide) fl_X5_comes_16 rfl rfl dX5_comes_30 ?_
  refine x_iload_n C 34 rfl 0 dX5_comes_33 rfl rfl ?_
  refine x_iconst C 35 rfl 0 dX5_comes_34 rfl ?_
  obtain ⟨σ5, eσ5⟩ : ∃ z, z = sR σ4 3 (Int32.toNatClampNeg (σ.1 0 0)) 0 := ⟨_, rfl⟩
  have h := h σ5 eσ5
  refine x_iast C 36 rfl (σ' := σ5) 3 0 (gM_M_wall ad ct _) rfl i2 (by rw [eσ5]; exact (sM_M_wall ad ct _)) dX5_comes_35 ?_
  refine x_aload_n C 37 rfl 1 dX5_comes_36 rfl rfl ?_
  refine x_get C 40 rfl (ref := RX5) 0 4 (gM_M ad ct _) rfl in_X5_comes_X5 (by decide) fl_X5_comes_19 rfl rfl dX5_comes_37 ?_
  refine x_iload_n C 41 rfl 0 dX5_comes_40 rfl rfl ?_
  refine x_iconst C 42 rfl 1 dX5_comes_41 rfl ?_
  obtain ⟨σ6, eσ6⟩ : ∃ z, z = sR σ5 4 (Int32.toNatClampNeg (σ.1 0 0)) 1 := ⟨_, rfl⟩
  have h := h σ6 eσ6
  refine x_iast C 43 rfl (σ' := σ6) 4 0 (gM_M_clean ad ct _) rfl i2 (by rw [eσ6]; exact (sM_M_clean ad ct _)) dX5_comes_42 ?_
  refine x_aload_n C 44 rfl 1 dX5_comes_43 rfl rfl ?_
  refine x_get C 47 rfl (ref := RX5) 0 5 (gM_M ad ct _) rfl in_X5_comes_X5 (by decide) fl_X5_comes_22 rfl rfl dX5_comes_44 ?_
  refine x_iload_n C 48 rfl 0 dX5_comes_47 rfl rfl ?_
  refine x_iconst C 49 rfl 0 dX5_comes_48 rfl ?_
  obtain ⟨σ7, eσ7⟩ : ∃ z, z = sR σ6 5 (Int32.toNatClampNeg (σ.1 0 0)) 0 := ⟨_, rfl⟩
  have h := h σ7 eσ7
  refine x_iast C 50 rfl (σ' := σ7) 5 0 (gM_M_pad ad ct _) rfl i2 (by rw [eσ7]; exact (sM_M_pad ad ct _)) dX5_comes_49 ?_
  refine x_iconst C 51 rfl 0 dX5_comes_50 rfl ?_
  refine x_istore C 53 rfl [(4, .int 0), (3, .int (σ.1 0 0)), (0, .ref (ad 0)), (1, .int x1), (2, .int x2)] dX5_comes_51 (by decide) rfl ?_
  refine x_sub (lv' := [(0, .ref (ad 0)), (2, .int x2), (3, .int (σ.1 0 0)), (4, .int 0)]) [2, 4, 1, 0] rfl ?_
  obtain ⟨n12, h⟩ := h
  refine v_X5_comes_L53 C x2 (σ.1 0 0) ?_ hR n12 _ _ h
  · intro σ13 h
    refine x_aload_n C 87 rfl 0 dX5_comes_86 rfl rfl ?_
    refine x_get C 90 rfl (ref := RX5) 0 7 (gM_M ad ct _) rfl in_X5_comes_X5 (by decide) fl_X5_comes_28 rfl rfl dX5_comes_87 ?_
    refine x_iload_n C 91 rfl 2 dX5_comes_90 rfl rfl ?_
    refine x_iload_n C 92 rfl 1 dX5_comes_91 rfl rfl ?_
    obtain ⟨σ14, eσ14⟩ : ∃ z, z = sR σ13 7 (Int32.toNatClampNeg (σ.1 0 0)) x2 := ⟨_, rfl⟩
    have h := h σ14 eσ14
    refine x_iast C 93 rfl (σ' := σ14) 7 0 (gM_M_state ad ct _) rfl i2 (by rw [eσ14]; exact (sM_M_state ad ct _)) dX5_comes_92 ?_
    refine x_iload_n C 94 rfl 2 dX5_comes_93 rfl rfl ?_
    exact hR _ _ _ _ dX5_comes_94 h
abbrev rm_X5_thing : Room := { frames := 1, cells := 0, slots := 0, locals := 24 }
theorem in_X5_thing_X5 : ∀ w ∈ u_ws RX5 TX5 20, w ∈ wsX5_thing := by decide +kernel
theorem fl_X5_thing_62 : Cond.fieldLink RX5 62 RX5 (TX5 0).2.1 (TX5 0).2.2.1 ∈ wsX5_thing := by decide +kernel
set_option maxRecDepth 100000 in
set_option maxHeartbeats 4000000 in
theorem m_X5_thing (l : Launch) (D : va_G) (ad : Nat → Nat) (ct : Nat → ClassId) (x1 : Int32) (x2 : Int32) (σ : ST) (Q : Int32 → ST → Prop) (h : wp_X5_thing x1 x2 σ Q) : CtI l D (tysF ct) (wM ad ct) yX5_thing wsX5_thing rm_X5_thing [.ref (ad 0), .int x1, .int x2] σ Q := by
  refine CtI.of (wM_adr ad ct) (maxL := 4) [(0, .ref (ad 0)), (1, .int x1), (2, .int x2)] RX5 (by decide) rfl rfl (by show (lg_sl [.ref (ad 0), .int x1, .int x2]).length ≤ 4; exact Nat.le_of_ble_eq_true rfl) rfl rfl rfl ?_
  intro E C hR
  unfold wp_X5_thing at h
  refine x_iload_n C 1 rfl 1 dX5_thing_0 rfl rfl ?_
  refine x_if_eq C 9 4 dX5_thing_1 (by decide) rfl (fun c1 => ?_) (fun c1 => ?_)
  · have h := h.1 c1
    refine x_iconst C 10 rfl 1 dX5_thing_9 rfl ?_
    refine x_goto C 14 dX5_thing_10 (by decide) ?_
    refine x_istore_n C 15 rfl [(3, .int 1), (0, .ref (ad 0)), (1, .int x1), (2, .int x2)] dX5_thing_14 rfl (by decide) rfl ?_
    refine x_iload_n C 16 rfl 2 dX5_thing_15 rfl rfl ?_
    refine x_iconst C 17 rfl 0 dX5_thing_16 rfl ?_
    refine x_iconst C 18 rfl 3 dX5_thing_17 rfl ?_
    refine x_cSI C 21 rfl (m_X5_isIn l D ad ct _ _ _ _ _ h) (va_cwS 3 C.1.2.2.2.2 gX5_thing_X5_isIn rfl rfl rfl (by decide +kernel) ⟨Nat.le_of_ble_eq_true rfl, Nat.le_of_ble_eq_true rfl⟩) rfl rfl (Nat.le_of_ble_eq_true rfl) dX5_thing_18 ?_
    intro r2 σ1 h
    refine x_if_eq C 49 24 dX5_thing_21 (by decide) rfl (fun c21 => ?_) (fun c21 => ?_)
    · have h := h.1 c21
      refine x_iconst C 50 rfl (-1) dX5_thing_49 rfl ?_
      exact hR _ _ _ _ dX5_thing_50 h
    · have h := h.2 c21
      refine x_iload_n C 25 rfl 3 dX5_thing_24 rfl rfl ?_
      refine x_iconst C 26 rfl 0 dX5_thing_25 rfl ?_
      refine x_iload_n C 27 rfl 0 dX5_thing_26 rfl rfl ?_
      refine x_if_eq C 34 30 dX5_thing_27 (by decide) rfl (fun q => absurd q (by decide)) (fun _ => ?_)
      refine x_iconst C 31 rfl 2 dX5_thing_30 rfl ?_
      refine x_goto C 35 dX5_thing_31 (by decide) ?_
      refine x_cSI C 38 rfl (m_X5_isIn l D ad ct _ _ _ _ _ h) (va_cwS 3 C.1.2.2.2.2 gX5_thing_X5_isIn rfl rfl rfl (by decide +kernel) ⟨Nat.le_of_ble_eq_true rfl, Nat.le_of_ble_eq_true rfl⟩) rfl rfl (Nat.le_of_ble_eq_true rfl) dX5_thing_35 ?_
      intro r4 σ3 h
      refine x_if_eq C 49 41 dX5_thing_38 (by decide) rfl (fun c38 => ?_) (fun c38 => ?_)
      · have h := h.1 c38
        refine x_iconst C 50 rfl (-1) dX5_thing_49 rfl ?_
        exact hR _ _ _ _ dX5_thing_50 h
      · have h := h.2 c38
        refine x_aload_n C 42 rfl 1 dX5_thing_41 rfl rfl ?_
        refine x_get C 45 rfl (ref := RX5) 0 0 (gM_M ad ct _) rfl in_X5_thing_X5 (by decide) fl_X5_thing_62 rfl rfl dX5_thing_42 ?_
        refine x_iconst C 46 rfl 3 dX5_thing_45 rfl ?_
        refine x_icmp_ne C 51 49 dX5_thing_46 (by decide) rfl (fun c46 => ?_) (fun c46 => ?_)
        · have h := h.1 c46
          refine x_aload_n C 52 rfl 1 dX5_thing_51 rfl rfl ?_
          refine x_iload_n C 53 rfl 2 dX5_thing_52 rfl rfl ?_
          refine x_iload_n C 54 rfl 3 dX5_thing_53 rfl rfl ?_
          refine x_cVI C 57 rfl (m_X5_comes l D ad ct _ _ _ _ h) (cwV 2 C.1.2.2.2.2 gX5_thing_X5_comes rfl rfl rfl (by decide +kernel) ⟨Nat.le_of_ble_eq_true rfl, Nat.le_of_ble_eq_true rfl⟩) ⟨0, 5, _, _, _, (gM_M ad ct _), rfl⟩ rfl rfl (Nat.le_of_ble_eq_true rfl) dX5_thing_54 ?_
          intro r6 σ5 h
          exact hR _ _ _ _ dX5_thing_57 h
        · have h := h.2 c46
          refine x_iconst C 50 rfl (-1) dX5_thing_49 rfl ?_
          exact hR _ _ _ _ dX5_thing_50 h
  · have h := h.2 c1
    refine x_iload_n C 5 rfl 1 dX5_thing_4 rfl rfl ?_
    refine x_iconst C 6 rfl 2 dX5_thing_5 rfl ?_
    refine x_icmp_ne C 13 9 dX5_thing_6 (by decide) rfl (fun c6 => ?_) (fun c6 => ?_)
    · have h := h.1 c6
      refine x_iconst C 14 rfl 0 dX5_thing_13 rfl ?_
      refine x_istore_n C 15 rfl [(3, .int 0), (0, .ref (ad 0)), (1, .int x1), (2, .int x2)] dX5_thing_14 rfl (by decide) rfl ?_
      refine x_iload_n C 16 rfl 2 dX5_thing_15 rfl rfl ?_
      refine x_iconst C 17 rfl 0 dX5_thing_16 rfl ?_
      refine x_iconst C 18 rfl 3 dX5_thing_17 rfl ?_
      refine x_cSI C 21 rfl (m_X5_isIn l D ad ct _ _ _ _ _ h) (va_cwS 3 C.1.2.2.2.2 gX5_thing_X5_isIn rfl rfl rfl (by decide +kernel) ⟨Nat.le_of_ble_eq_true rfl, Nat.le_of_ble_eq_true rfl⟩) rfl rfl (Nat.le_of_ble_eq_true rfl) dX5_thing_18 ?_
      intro r8 σ7 h
      refine x_if_eq C 49 24 dX5_thing_21 (by decide) rfl (fun c21 => ?_) (fun c21 => ?_)
      · have h := h.1 c21
        refine x_iconst C 50 rfl (-1) dX5_thing_49 rfl ?_
        exact hR _ _ _ _ dX5_thing_50 h
      · have h := h.2 c21
        refine x_iload_n C 25 rfl 3 dX5_thing_24 rfl rfl ?_
        refine x_iconst C 26 rfl 0 dX5_thing_25 rfl ?_
        refine x_iload_n C 27 rfl 0 dX5_thing_26 rfl rfl ?_
        refine x_if_eq C 34 30 dX5_thing_27 (by decide) rfl (fun _ => ?_) (fun q => absurd q (by decide))
        refine x_iconst C 35 rfl 3 dX5_thing_34 rfl ?_
        refine x_cSI C 38 rfl (m_X5_isIn l D ad ct _ _ _ _ _ h) (va_cwS 3 C.1.2.2.2.2 gX5_thing_X5_isIn rfl rfl rfl (by decide +kernel) ⟨Nat.le_of_ble_eq_true rfl, Nat.le_of_ble_eq_true rfl⟩) rfl rfl (Nat.le_of_ble_eq_true rfl) dX5_thing_35 ?_
        intro r10 σ9 h
        refine x_if_eq C 49 41 dX5_thing_38 (by decide) rfl (fun c38 => ?_) (fun c38 => ?_)
        · have h := h.1 c38
          refine x_iconst C 50 rfl (-1) dX5_thing_49 rfl ?_
          exact hR _ _ _ _ dX5_thing_50 h
        · have h := h.2 c38
          refine x_aload_n C 42 rfl 1 dX5_thing_41 rfl rfl ?_
          refine x_get C 45 rfl (ref := RX5) 0 0 (gM_M ad ct _) rfl in_X5_thing_X5 (by decide) fl_X5_thing_62 rfl rfl dX5_thing_42 ?_
          refine x_iconst C 46 rfl 3 dX5_thing_45 rfl ?_
          refine x_icmp_ne C 51 49 dX5_thing_46 (by decide) rfl (fun c46 => ?_) (fun c46 => ?_)
          · have h := h.1 c46
            refine x_aload_n C 52 rfl 1 dX5_thing_51 rfl rfl ?_
            refine x_iload_n C 53 rfl 2 dX5_thing_52 rfl rfl ?_
            refine x_iload_n C 54 rfl 3 dX5_thing_53 rfl rfl ?_
            refine x_cVI C 57 rfl (m_X5_comes l D ad ct _ _ _ _ h) (cwV 2 C.1.2.2.2.2 gX5_thing_X5_comes rfl rfl rfl (by decide +kernel) ⟨Nat.le_of_ble_eq_true rfl, Nat.le_of_ble_eq_true rfl⟩) ⟨0, 5, _, _, _, (gM_M ad ct _), rfl⟩ rfl rfl (Nat.le_of_ble_eq_true rfl) dX5_thing_54 ?_
            intro r12 σ11 h
            exact hR _ _ _ _ dX5_thing_57 h
          · have h := h.2 c46
            refine x_iconst C 50 rfl (-1) dX5_thing_49 rfl ?_
            exact hR _ _ _ _ dX5_thing_50 h
    · have h := h.2 c6
      refine x_iconst C 10 rfl 1 dX5_thing_9 rfl ?_
      refine x_goto C 14 dX5_thing_10 (by decide) ?_
      refine x_istore_n C 15 rfl [(3, .int 1), (0, .ref (ad 0)), (1, .int x1), (2, .int x2)] dX5_thing_14 rfl (by decide) rfl ?_
      refine x_iload_n C 16 rfl 2 dX5_thing_15 rfl rfl ?_
      refine x_iconst C 17 rfl 0 dX5_thing_16 rfl ?_
      refine x_iconst C 18 rfl 3 dX5_thing_17 rfl ?_
      refine x_cSI C 21 rfl (m_X5_isIn l D ad ct _ _ _ _ _ h) (va_cwS 3 C.1.2.2.2.2 gX5_thing_X5_isIn rfl rfl rfl (by decide +kernel) ⟨Nat.le_of_ble_eq_true rfl, Nat.le_of_ble_eq_true rfl⟩) rfl rfl (Nat.le_of_ble_eq_true rfl) dX5_thing_18 ?_
      intro r14 σ13 h
      refine x_if_eq C 49 24 dX5_thing_21 (by decide) rfl (fun c21 => ?_) (fun c21 => ?_)
      · have h := h.1 c21
        refine x_iconst C 50 rfl (-1) dX5_thing_49 rfl ?_
        exact hR _ _ _ _ dX5_thing_50 h
      · have h := h.2 c21
        refine x_iload_n C 25 rfl 3 dX5_thing_24 rfl rfl ?_
        refine x_iconst C 26 rfl 0 dX5_thing_25 rfl ?_
        refine x_iload_n C 27 rfl 0 dX5_thing_26 rfl rfl ?_
        refine x_if_eq C 34 30 dX5_thing_27 (by decide) rfl (fun q => absurd q (by decide)) (fun _ => ?_)
        refine x_iconst C 31 rfl 2 dX5_thing_30 rfl ?_
        refine x_goto C 35 dX5_thing_31 (by decide) ?_
        refine x_cSI C 38 rfl (m_X5_isIn l D ad ct _ _ _ _ _ h) (va_cwS 3 C.1.2.2.2.2 gX5_thing_X5_isIn rfl rfl rfl (by decide +kernel) ⟨Nat.le_of_ble_eq_true rfl, Nat.le_of_ble_eq_true rfl⟩) rfl rfl (Nat.le_of_ble_eq_true rfl) dX5_thing_35 ?_
        intro r16 σ15 h
        refine x_if_eq C 49 41 dX5_thing_38 (by decide) rfl (fun c38 => ?_) (fun c38 => ?_)
        · have h := h.1 c38
          refine x_iconst C 50 rfl (-1) dX5_thing_49 rfl ?_
          exact hR _ _ _ _ dX5_thing_50 h
        · have h := h.2 c38
          refine x_aload_n C 42 rfl 1 dX5_thing_41 rfl rfl ?_
          refine x_get C 45 rfl (ref := RX5) 0 0 (gM_M ad ct _) rfl in_X5_thing_X5 (by decide) fl_X5_thing_62 rfl rfl dX5_thing_42 ?_
          refine x_iconst C 46 rfl 3 dX5_thing_45 rfl ?_
          refine x_icmp_ne C 51 49 dX5_thing_46 (by decide) rfl (fun c46 => ?_) (fun c46 => ?_)
          · have h := h.1 c46
            refine x_aload_n C 52 rfl 1 dX5_thing_51 rfl rfl ?_
            refine x_iload_n C 53 rfl 2 dX5_thing_52 rfl rfl ?_
            refine x_iload_n C 54 rfl 3 dX5_thing_53 rfl rfl ?_
            refine x_cVI C 57 rfl (m_X5_comes l D ad ct _ _ _ _ h) (cwV 2 C.1.2.2.2.2 gX5_thing_X5_comes rfl rfl rfl (by decide +kernel) ⟨Nat.le_of_ble_eq_true rfl, Nat.le_of_ble_eq_true rfl⟩) ⟨0, 5, _, _, _, (gM_M ad ct _), rfl⟩ rfl rfl (Nat.le_of_ble_eq_true rfl) dX5_thing_54 ?_
            intro r18 σ17 h
            exact hR _ _ _ _ dX5_thing_57 h
          · have h := h.2 c46
            refine x_iconst C 50 rfl (-1) dX5_thing_49 rfl ?_
            exact hR _ _ _ _ dX5_thing_50 h
abbrev rm_X5_table : Room := { frames := 1, cells := 0, slots := 0, locals := 24 }
theorem in_X5_table_X5 : ∀ w ∈ u_ws RX5 TX5 20, w ∈ wsX5_table := by decide +kernel
theorem fl_X5_table_62 : Cond.fieldLink RX5 62 RX5 (TX5 0).2.1 (TX5 0).2.2.1 ∈ wsX5_table := by decide +kernel
theorem fl_X5_table_31 : Cond.fieldLink RX5 31 RX5 (TX5 8).2.1 (TX5 8).2.2.1 ∈ wsX5_table := by decide +kernel
theorem fl_X5_table_35 : Cond.fieldLink RX5 35 RX5 (TX5 9).2.1 (TX5 9).2.2.1 ∈ wsX5_table := by decide +kernel
set_option maxRecDepth 100000 in
set_option maxHeartbeats 4000000 in
theorem m_X5_table (l : Launch) (D : va_G) (ad : Nat → Nat) (ct : Nat → ClassId) (x1 : Int32) (x2 : Int64) (x4 : Int64) (σ : ST) (Q : Int32 → ST → Prop) (h : wp_X5_table x1 x2 x4 σ Q) : CtI l D (tysF ct) (wM ad ct) yX5_table wsX5_table rm_X5_table [.ref (ad 0), .int x1, .long x2, .long x4] σ Q := by
  refine CtI.of (wM_adr ad ct) (maxL := 7) [(0, .ref (ad 0)), (1, .int x1), (2, .long x2), (4, .long x4)] RX5 (by decide) rfl rfl (by show (lg_sl [.ref (ad 0), .int x1, .long x2, .long x4]).length ≤ 7; exact Nat.le_of_ble_eq_true rfl) rfl rfl rfl ?_
  intro E C hR
  unfold wp_X5_table at h
  refine x_iload_n C 1 rfl 1 dX5_table_0 rfl rfl ?_
  refine x_iconst C 2 rfl 0 dX5_table_1 rfl ?_
  refine x_iconst C 3 rfl 3 dX5_table_2 rfl ?_
  refine x_cSI C 6 rfl (m_X5_isIn l D ad ct _ _ _ _ _ h) (va_cwS 3 C.1.2.2.2.2 gX5_table_X5_isIn rfl rfl rfl (by decide +kernel) ⟨Nat.le_of_ble_eq_true rfl, Nat.le_of_ble_eq_true rfl⟩) rfl rfl (Nat.le_of_ble_eq_true rfl) dX5_table_3 ?_
  intro r2 σ1 h
  refine x_if_eq C 17 9 dX5_table_6 (by decide) rfl (fun c6 => ?_) (fun c6 => ?_)
  · have h := h.1 c6
    refine x_iconst C 18 rfl (-1) dX5_table_17 rfl ?_
    exact hR _ _ _ _ dX5_table_18 h
  · have h := h.2 c6
    refine x_aload_n C 10 rfl 0 dX5_table_9 rfl rfl ?_
    refine x_get C 13 rfl (ref := RX5) 0 0 (gM_M ad ct _) rfl in_X5_table_X5 (by decide) fl_X5_table_62 rfl rfl dX5_table_10 ?_
    refine x_iconst C 14 rfl 3 dX5_table_13 rfl ?_
    refine x_icmp_ne C 19 17 dX5_table_14 (by decide) rfl (fun c14 => ?_) (fun c14 => ?_)
    · have h := h.1 c14
      refine x_aload_n C 20 rfl 0 dX5_table_19 rfl rfl ?_
      refine x_iconst C 21 rfl 4 dX5_table_20 rfl ?_
      refine x_iload_n C 22 rfl 1 dX5_table_21 rfl rfl ?_
      refine x_cVI C 25 rfl (m_X5_comes l D ad ct _ _ _ _ h) (cwV 2 C.1.2.2.2.2 gX5_table_X5_comes rfl rfl rfl (by decide +kernel) ⟨Nat.le_of_ble_eq_true rfl, Nat.le_of_ble_eq_true rfl⟩) ⟨0, 5, _, _, _, (gM_M ad ct _), rfl⟩ rfl rfl (Nat.le_of_ble_eq_true rfl) dX5_table_22 ?_
      intro r4 σ3 h
      refine x_istore C 27 rfl [(6, .int r4), (0, .ref (ad 0)), (1, .int x1), (2, .long x2), (4, .long x4)] dX5_table_25 (by decide) rfl ?_
      refine x_aload_n C 28 rfl 1 dX5_table_27 rfl rfl ?_
      refine x_get C 31 rfl (ref := RX5) 0 8 (gM_M ad ct _) rfl in_X5_table_X5 (by decide) fl_X5_table_31 rfl rfl dX5_table_28 ?_
      refine x_iload C 33 rfl 0 dX5_table_31 rfl ?_
      refine x_lload_n C 34 rfl 3 dX5_table_33 rfl rfl ?_
      have i5 := h.1
      have h := h.2
      obtain ⟨σ6, eσ6⟩ : ∃ z, z = sJ σ3 8 (Int32.toNatClampNeg r4) x2 := ⟨_, rfl⟩
      have h := h σ6 eσ6
      refine x_last C 35 rfl (σ' := σ6) 8 1 (gM_M_nextOf ad ct _) rfl i5 (by rw [eσ6]; exact (sM_M_nextOf ad ct _)) dX5_table_34 ?_
      refine x_aload_n C 36 rfl 1 dX5_table_35 rfl rfl ?_
      refine x_get C 39 rfl (ref := RX5) 0 9 (gM_M ad ct _) rfl in_X5_table_X5 (by decide) fl_X5_table_35 rfl rfl dX5_table_36 ?_
      refine x_iload C 41 rfl 0 dX5_table_39 rfl ?_
      refine x_lload C 43 rfl 4 dX5_table_41 rfl ?_
      obtain ⟨σ7, eσ7⟩ : ∃ z, z = sJ σ6 9 (Int32.toNatClampNeg r4) x4 := ⟨_, rfl⟩
      have h := h σ7 eσ7
      refine x_last C 44 rfl (σ' := σ7) 9 1 (gM_M_answerOf ad ct _) rfl i5 (by rw [eσ7]; exact (sM_M_answerOf ad ct _)) dX5_table_43 ?_
      refine x_iload C 46 rfl 0 dX5_table_44 rfl ?_
      exact hR _ _ _ _ dX5_table_46 h
    · have h := h.2 c14
      refine x_iconst C 18 rfl (-1) dX5_table_17 rfl ?_
      exact hR _ _ _ _ dX5_table_18 h
abbrev rm_X5_isBy : Room := { frames := 1, cells := 0, slots := 0, locals := 22 }
set_option maxRecDepth 100000 in
set_option maxHeartbeats 4000000 in
theorem m_X5_isBy (l : Launch) (D : va_G) (ad : Nat → Nat) (ct : Nat → ClassId) (x0 : Int32) (x1 : Int32) (σ : ST) (Q : Int32 → ST → Prop) (h : wp_X5_isBy x0 x1 σ Q) : CtI l D (tysF ct) (wM ad ct) yX5_isBy wsX5_isBy rm_X5_isBy [.int x0, .int x1] σ Q := by
  refine CtI.ofZ (wM_adr ad ct) (maxL := 2) [(0, .int x0), (1, .int x1)] RX5 (by decide) rfl rfl (by show (lg_sl [.int x0, .int x1]).length ≤ 2; exact Nat.le_of_ble_eq_true rfl) rfl rfl rfl ?_
  intro E C hR
  unfold wp_X5_isBy at h
  refine x_iload_n C 1 rfl 0 dX5_isBy_0 rfl rfl ?_
  refine x_iconst C 2 rfl 1 dX5_isBy_1 rfl ?_
  refine x_icmp_ne C 14 5 dX5_isBy_2 (by decide) rfl (fun c2 => ?_) (fun c2 => ?_)
  · have h := h.1 c2
    refine x_iload_n C 15 rfl 1 dX5_isBy_14 rfl rfl ?_
    refine x_iconst C 16 rfl 0 dX5_isBy_15 rfl ?_
    refine x_iconst C 17 rfl 3 dX5_isBy_16 rfl ?_
    refine x_cSI C 20 rfl (m_X5_isIn l D ad ct _ _ _ _ _ h) (va_cwS 3 C.1.2.2.2.2 gX5_isBy_X5_isIn rfl rfl rfl (by decide +kernel) ⟨Nat.le_of_ble_eq_true rfl, Nat.le_of_ble_eq_true rfl⟩) rfl rfl (Nat.le_of_ble_eq_true rfl) dX5_isBy_17 ?_
    intro r2 σ1 h
    exact hR _ _ _ _ dX5_isBy_20 h.1 h.2
  · have h := h.2 c2
    refine x_iload_n C 6 rfl 1 dX5_isBy_5 rfl rfl ?_
    refine x_iconst C 7 rfl 1 dX5_isBy_6 rfl ?_
    refine x_iconst C 8 rfl 4 dX5_isBy_7 rfl ?_
    refine x_cSI C 11 rfl (m_X5_isIn l D ad ct _ _ _ _ _ h) (va_cwS 3 C.1.2.2.2.2 gX5_isBy_X5_isIn rfl rfl rfl (by decide +kernel) ⟨Nat.le_of_ble_eq_true rfl, Nat.le_of_ble_eq_true rfl⟩) rfl rfl (Nat.le_of_ble_eq_true rfl) dX5_isBy_8 ?_
    intro r4 σ3 h
    refine x_goto C 20 dX5_isBy_11 (by decide) ?_
    exact hR _ _ _ _ dX5_isBy_20 h.1 h.2
abbrev rm_X5_wall : Room := { frames := 2, cells := 0, slots := 0, locals := 43 }
theorem in_X5_wall_X5 : ∀ w ∈ u_ws RX5 TX5 20, w ∈ wsX5_wall := by decide +kernel
theorem fl_X5_wall_16 : Cond.fieldLink RX5 16 RX5 (TX5 3).2.1 (TX5 3).2.2.1 ∈ wsX5_wall := by decide +kernel
theorem fl_X5_wall_22 : Cond.fieldLink RX5 22 RX5 (TX5 5).2.1 (TX5 5).2.2.1 ∈ wsX5_wall := by decide +kernel
theorem fl_X5_wall_19 : Cond.fieldLink RX5 19 RX5 (TX5 4).2.1 (TX5 4).2.2.1 ∈ wsX5_wall := by decide +kernel
set_option maxRecDepth 100000 in
set_option maxHeartbeats 4000000 in
theorem m_X5_wall (l : Launch) (D : va_G) (ad : Nat → Nat) (ct : Nat → ClassId) (x1 : Int32) (x2 : Int32) (x3 : Int32) (σ : ST) (Q : Int32 → ST → Prop) (h : wp_X5_wall x1 x2 x3 σ Q) : CtI l D (tysF ct) (wM ad ct) yX5_wall wsX5_wall rm_X5_wall [.ref (ad 0), .int x1, .int x2, .int x3] σ Q := by
  refine CtI.ofZ (wM_adr ad ct) (maxL := 4) [(0, .ref (ad 0)), (1, .int x1), (2, .int x2), (3, .int x3)] RX5 (by decide) rfl rfl (by show (lg_sl [.ref (ad 0), .int x1, .int x2, .int x3]).length ≤ 4; exact Nat.le_of_ble_eq_true rfl) rfl rfl rfl ?_
  intro E C hR
  unfold wp_X5_wall at h
  refine x_aload_n C 1 rfl 0 dX5_wall_0 rfl rfl ?_
  refine x_iload_n C 2 rfl 1 dX5_wall_1 rfl rfl ?_
  refine x_cVI C 5 rfl (m_X5_isThing l D ad ct _ _ _ h) (cwV 1 C.1.2.2.2.2 gX5_wall_X5_isThing rfl rfl rfl (by decide +kernel) ⟨Nat.le_of_ble_eq_true rfl, Nat.le_of_ble_eq_true rfl⟩) ⟨0, 5, _, _, _, (gM_M ad ct _), rfl⟩ rfl rfl (Nat.le_of_ble_eq_true rfl) dX5_wall_2 ?_
  intro r2 σ1 h
  refine x_if_eq C 35 8 dX5_wall_5 (by decide) rfl (fun c5 => ?_) (fun c5 => ?_)
  · have h := h.1 c5
    refine x_iconst C 36 rfl 0 dX5_wall_35 rfl ?_
    exact hR _ _ _ _ dX5_wall_36 (by decide) h
  · have h := h.2 c5
    refine x_iload_n C 9 rfl 2 dX5_wall_8 rfl rfl ?_
    refine x_iconst C 10 rfl 0 dX5_wall_9 rfl ?_
    refine x_iconst C 11 rfl 3 dX5_wall_10 rfl ?_
    refine x_cSI C 14 rfl (m_X5_isIn l D ad ct _ _ _ _ _ h) (va_cwS 3 C.1.2.2.2.2 gX5_wall_X5_isIn rfl rfl rfl (by decide +kernel) ⟨Nat.le_of_ble_eq_true rfl, Nat.le_of_ble_eq_true rfl⟩) rfl rfl (Nat.le_of_ble_eq_true rfl) dX5_wall_11 ?_
    intro r4 σ3 h
    refine x_if_eq C 35 17 dX5_wall_14 (by decide) rfl (fun c14 => ?_) (fun c14 => ?_)
    · have h := h.1 c14
      refine x_iconst C 36 rfl 0 dX5_wall_35 rfl ?_
      exact hR _ _ _ _ dX5_wall_36 (by decide) h
    · have h := h.2 c14
      refine x_iload_n C 18 rfl 2 dX5_wall_17 rfl rfl ?_
      refine x_iconst C 19 rfl 1 dX5_wall_18 rfl ?_
      refine x_icmp_eq C 27 22 dX5_wall_19 (by decide) rfl (fun c19 => ?_) (fun c19 => ?_)
      · have h := h.1 c19
        refine x_iload_n C 28 rfl 2 dX5_wall_27 rfl rfl ?_
        refine x_iload_n C 29 rfl 3 dX5_wall_28 rfl rfl ?_
        refine x_cSI C 32 rfl (m_X5_isBy l D ad ct _ _ _ _ h) (va_cwS 2 C.1.2.2.2.2 gX5_wall_X5_isBy rfl rfl rfl (by decide +kernel) ⟨Nat.le_of_ble_eq_true rfl, Nat.le_of_ble_eq_true rfl⟩) rfl rfl (Nat.le_of_ble_eq_true rfl) dX5_wall_29 ?_
        intro r6 σ5 h
        refine x_if_ne C 37 35 dX5_wall_32 (by decide) rfl (fun c32 => ?_) (fun c32 => ?_)
        · have h := h.1 c32
          refine x_aload_n C 38 rfl 0 dX5_wall_37 rfl rfl ?_
          refine x_get C 41 rfl (ref := RX5) 0 3 (gM_M ad ct _) rfl in_X5_wall_X5 (by decide) fl_X5_wall_16 rfl rfl dX5_wall_38 ?_
          refine x_iload_n C 42 rfl 1 dX5_wall_41 rfl rfl ?_
          refine x_iload_n C 43 rfl 2 dX5_wall_42 rfl rfl ?_
          have i7 := h.1
          have h := h.2
          obtain ⟨σ8, eσ8⟩ : ∃ z, z = sR σ5 3 (Int32.toNatClampNeg x1) x2 := ⟨_, rfl⟩
          have h := h σ8 eσ8
          refine x_iast C 44 rfl (σ' := σ8) 3 0 (gM_M_wall ad ct _) rfl i7 (by rw [eσ8]; exact (sM_M_wall ad ct _)) dX5_wall_43 ?_
          refine x_iload_n C 45 rfl 2 dX5_wall_44 rfl rfl ?_
          refine x_iconst C 46 rfl 1 dX5_wall_45 rfl ?_
          refine x_icmp_ne C 56 49 dX5_wall_46 (by decide) rfl (fun c46 => ?_) (fun c46 => ?_)
          · have h := h.1 c46
            refine x_iload_n C 57 rfl 2 dX5_wall_56 rfl rfl ?_
            refine x_iconst C 58 rfl 3 dX5_wall_57 rfl ?_
            refine x_icmp_ne C 68 61 dX5_wall_58 (by decide) rfl (fun c58 => ?_) (fun c58 => ?_)
            · have h := h.1 c58
              refine x_iconst C 69 rfl 1 dX5_wall_68 rfl ?_
              exact hR _ _ _ _ dX5_wall_69 (by decide) h
            · have h := h.2 c58
              refine x_aload_n C 62 rfl 0 dX5_wall_61 rfl rfl ?_
              refine x_get C 65 rfl (ref := RX5) 0 5 (gM_M ad ct _) rfl in_X5_wall_X5 (by decide) fl_X5_wall_22 rfl rfl dX5_wall_62 ?_
              refine x_iload_n C 66 rfl 1 dX5_wall_65 rfl rfl ?_
              refine x_iload_n C 67 rfl 3 dX5_wall_66 rfl rfl ?_
              obtain ⟨σ9, eσ9⟩ : ∃ z, z = sR σ8 5 (Int32.toNatClampNeg x1) x3 := ⟨_, rfl⟩
              have h := h σ9 eσ9
              refine x_iast C 68 rfl (σ' := σ9) 5 0 (gM_M_pad ad ct _) rfl i7 (by rw [eσ9]; exact (sM_M_pad ad ct _)) dX5_wall_67 ?_
              refine x_iconst C 69 rfl 1 dX5_wall_68 rfl ?_
              exact hR _ _ _ _ dX5_wall_69 (by decide) h
          · have h := h.2 c46
            refine x_aload_n C 50 rfl 0 dX5_wall_49 rfl rfl ?_
            refine x_get C 53 rfl (ref := RX5) 0 4 (gM_M ad ct _) rfl in_X5_wall_X5 (by decide) fl_X5_wall_19 rfl rfl dX5_wall_50 ?_
            refine x_iload_n C 54 rfl 1 dX5_wall_53 rfl rfl ?_
            refine x_iload_n C 55 rfl 3 dX5_wall_54 rfl rfl ?_
            obtain ⟨σ10, eσ10⟩ : ∃ z, z = sR σ8 4 (Int32.toNatClampNeg x1) x3 := ⟨_, rfl⟩
            have h := h σ10 eσ10
            refine x_iast C 56 rfl (σ' := σ10) 4 0 (gM_M_clean ad ct _) rfl i7 (by rw [eσ10]; exact (sM_M_clean ad ct _)) dX5_wall_55 ?_
            refine x_iload_n C 57 rfl 2 dX5_wall_56 rfl rfl ?_
            refine x_iconst C 58 rfl 3 dX5_wall_57 rfl ?_
            refine x_icmp_ne C 68 61 dX5_wall_58 (by decide) rfl (fun c58 => ?_) (fun c58 => ?_)
            · have h := h.1 c58
              refine x_iconst C 69 rfl 1 dX5_wall_68 rfl ?_
              exact hR _ _ _ _ dX5_wall_69 (by decide) h
            · have h := h.2 c58
              refine x_aload_n C 62 rfl 0 dX5_wall_61 rfl rfl ?_
              refine x_get C 65 rfl (ref := RX5) 0 5 (gM_M ad ct _) rfl in_X5_wall_X5 (by decide) fl_X5_wall_22 rfl rfl dX5_wall_62 ?_
              refine x_iload_n C 66 rfl 1 dX5_wall_65 rfl rfl ?_
              refine x_iload_n C 67 rfl 3 dX5_wall_66 rfl rfl ?_
              obtain ⟨σ11, eσ11⟩ : ∃ z, z = sR σ10 5 (Int32.toNatClampNeg x1) x3 := ⟨_, rfl⟩
              have h := h σ11 eσ11
              refine x_iast C 68 rfl (σ' := σ11) 5 0 (gM_M_pad ad ct _) rfl i7 (by rw [eσ11]; exact (sM_M_pad ad ct _)) dX5_wall_67 ?_
              refine x_iconst C 69 rfl 1 dX5_wall_68 rfl ?_
              exact hR _ _ _ _ dX5_wall_69 (by decide) h
        · have h := h.2 c32
          refine x_iconst C 36 rfl 0 dX5_wall_35 rfl ?_
          exact hR _ _ _ _ dX5_wall_36 (by decide) h
      · have h := h.2 c19
        refine x_iload_n C 23 rfl 2 dX5_wall_22 rfl rfl ?_
        refine x_iconst C 24 rfl 3 dX5_wall_23 rfl ?_
        refine x_icmp_ne C 37 27 dX5_wall_24 (by decide) rfl (fun c24 => ?_) (fun c24 => ?_)
        · have h := h.1 c24
          refine x_aload_n C 38 rfl 0 dX5_wall_37 rfl rfl ?_
          refine x_get C 41 rfl (ref := RX5) 0 3 (gM_M ad ct _) rfl in_X5_wall_X5 (by decide) fl_X5_wall_16 rfl rfl dX5_wall_38 ?_
          refine x_iload_n C 42 rfl 1 dX5_wall_41 rfl rfl ?_
          refine x_iload_n C 43 rfl 2 dX5_wall_42 rfl rfl ?_
          have i12 := h.1
          have h := h.2
          obtain ⟨σ13, eσ13⟩ : ∃ z, z = sR σ3 3 (Int32.toNatClampNeg x1) x2 := ⟨_, rfl⟩
          have h := h σ13 eσ13
          refine x_iast C 44 rfl (σ' := σ13) 3 0 (gM_M_wall ad ct _) rfl i12 (by rw [eσ13]; exact (sM_M_wall ad ct _)) dX5_wall_43 ?_
          refine x_iload_n C 45 rfl 2 dX5_wall_44 rfl rfl ?_
          refine x_iconst C 46 rfl 1 dX5_wall_45 rfl ?_
          refine x_icmp_ne C 56 49 dX5_wall_46 (by decide) rfl (fun c46 => ?_) (fun c46 => ?_)
          · have h := h.1 c46
            refine x_iload_n C 57 rfl 2 dX5_wall_56 rfl rfl ?_
            refine x_iconst C 58 rfl 3 dX5_wall_57 rfl ?_
            refine x_icmp_ne C 68 61 dX5_wall_58 (by decide) rfl (fun c58 => ?_) (fun c58 => ?_)
            · have h := h.1 c58
              refine x_iconst C 69 rfl 1 dX5_wall_68 rfl ?_
              exact hR _ _ _ _ dX5_wall_69 (by decide) h
            · have h := h.2 c58
              refine x_aload_n C 62 rfl 0 dX5_wall_61 rfl rfl ?_
              refine x_get C 65 rfl (ref := RX5) 0 5 (gM_M ad ct _) rfl in_X5_wall_X5 (by decide) fl_X5_wall_22 rfl rfl dX5_wall_62 ?_
              refine x_iload_n C 66 rfl 1 dX5_wall_65 rfl rfl ?_
              refine x_iload_n C 67 rfl 3 dX5_wall_66 rfl rfl ?_
              obtain ⟨σ14, eσ14⟩ : ∃ z, z = sR σ13 5 (Int32.toNatClampNeg x1) x3 := ⟨_, rfl⟩
              have h := h σ14 eσ14
              refine x_iast C 68 rfl (σ' := σ14) 5 0 (gM_M_pad ad ct _) rfl i12 (by rw [eσ14]; exact (sM_M_pad ad ct _)) dX5_wall_67 ?_
              refine x_iconst C 69 rfl 1 dX5_wall_68 rfl ?_
              exact hR _ _ _ _ dX5_wall_69 (by decide) h
          · have h := h.2 c46
            refine x_aload_n C 50 rfl 0 dX5_wall_49 rfl rfl ?_
            refine x_get C 53 rfl (ref := RX5) 0 4 (gM_M ad ct _) rfl in_X5_wall_X5 (by decide) fl_X5_wall_19 rfl rfl dX5_wall_50 ?_
            refine x_iload_n C 54 rfl 1 dX5_wall_53 rfl rfl ?_
            refine x_iload_n C 55 rfl 3 dX5_wall_54 rfl rfl ?_
            obtain ⟨σ15, eσ15⟩ : ∃ z, z = sR σ13 4 (Int32.toNatClampNeg x1) x3 := ⟨_, rfl⟩
            have h := h σ15 eσ15
            refine x_iast C 56 rfl (σ' := σ15) 4 0 (gM_M_clean ad ct _) rfl i12 (by rw [eσ15]; exact (sM_M_clean ad ct _)) dX5_wall_55 ?_
            refine x_iload_n C 57 rfl 2 dX5_wall_56 rfl rfl ?_
            refine x_iconst C 58 rfl 3 dX5_wall_57 rfl ?_
            refine x_icmp_ne C 68 61 dX5_wall_58 (by decide) rfl (fun c58 => ?_) (fun c58 => ?_)
            · have h := h.1 c58
              refine x_iconst C 69 rfl 1 dX5_wall_68 rfl ?_
              exact hR _ _ _ _ dX5_wall_69 (by decide) h
            · have h := h.2 c58
              refine x_aload_n C 62 rfl 0 dX5_wall_61 rfl rfl ?_
              refine x_get C 65 rfl (ref := RX5) 0 5 (gM_M ad ct _) rfl in_X5_wall_X5 (by decide) fl_X5_wall_22 rfl rfl dX5_wall_62 ?_
              refine x_iload_n C 66 rfl 1 dX5_wall_65 rfl rfl ?_
              refine x_iload_n C 67 rfl 3 dX5_wall_66 rfl rfl ?_
              obtain ⟨σ16, eσ16⟩ : ∃ z, z = sR σ15 5 (Int32.toNatClampNeg x1) x3 := ⟨_, rfl⟩
              have h := h σ16 eσ16
              refine x_iast C 68 rfl (σ' := σ16) 5 0 (gM_M_pad ad ct _) rfl i12 (by rw [eσ16]; exact (sM_M_pad ad ct _)) dX5_wall_67 ?_
              refine x_iconst C 69 rfl 1 dX5_wall_68 rfl ?_
              exact hR _ _ _ _ dX5_wall_69 (by decide) h
        · have h := h.2 c24
          refine x_iload_n C 28 rfl 2 dX5_wall_27 rfl rfl ?_
          refine x_iload_n C 29 rfl 3 dX5_wall_28 rfl rfl ?_
          refine x_cSI C 32 rfl (m_X5_isBy l D ad ct _ _ _ _ h) (va_cwS 2 C.1.2.2.2.2 gX5_wall_X5_isBy rfl rfl rfl (by decide +kernel) ⟨Nat.le_of_ble_eq_true rfl, Nat.le_of_ble_eq_true rfl⟩) rfl rfl (Nat.le_of_ble_eq_true rfl) dX5_wall_29 ?_
          intro r18 σ17 h
          refine x_if_ne C 37 35 dX5_wall_32 (by decide) rfl (fun c32 => ?_) (fun c32 => ?_)
          · have h := h.1 c32
            refine x_aload_n C 38 rfl 0 dX5_wall_37 rfl rfl ?_
            refine x_get C 41 rfl (ref := RX5) 0 3 (gM_M ad ct _) rfl in_X5_wall_X5 (by decide) fl_X5_wall_16 rfl rfl dX5_wall_38 ?_
            refine x_iload_n C 42 rfl 1 dX5_wall_41 rfl rfl ?_
            refine x_iload_n C 43 rfl 2 dX5_wall_42 rfl rfl ?_
            have i19 := h.1
            have h := h.2
            obtain ⟨σ20, eσ20⟩ : ∃ z, z = sR σ17 3 (Int32.toNatClampNeg x1) x2 := ⟨_, rfl⟩
            have h := h σ20 eσ20
            refine x_iast C 44 rfl (σ' := σ20) 3 0 (gM_M_wall ad ct _) rfl i19 (by rw [eσ20]; exact (sM_M_wall ad ct _)) dX5_wall_43 ?_
            refine x_iload_n C 45 rfl 2 dX5_wall_44 rfl rfl ?_
            refine x_iconst C 46 rfl 1 dX5_wall_45 rfl ?_
            refine x_icmp_ne C 56 49 dX5_wall_46 (by decide) rfl (fun c46 => ?_) (fun c46 => ?_)
            · have h := h.1 c46
              refine x_iload_n C 57 rfl 2 dX5_wall_56 rfl rfl ?_
              refine x_iconst C 58 rfl 3 dX5_wall_57 rfl ?_
              refine x_icmp_ne C 68 61 dX5_wall_58 (by decide) rfl (fun c58 => ?_) (fun c58 => ?_)
              · have h := h.1 c58
                refine x_iconst C 69 rfl 1 dX5_wall_68 rfl ?_
                exact hR _ _ _ _ dX5_wall_69 (by decide) h
              · have h := h.2 c58
                refine x_aload_n C 62 rfl 0 dX5_wall_61 rfl rfl ?_
                refine x_get C 65 rfl (ref := RX5) 0 5 (gM_M ad ct _) rfl in_X5_wall_X5 (by decide) fl_X5_wall_22 rfl rfl dX5_wall_62 ?_
                refine x_iload_n C 66 rfl 1 dX5_wall_65 rfl rfl ?_
                refine x_iload_n C 67 rfl 3 dX5_wall_66 rfl rfl ?_
                obtain ⟨σ21, eσ21⟩ : ∃ z, z = sR σ20 5 (Int32.toNatClampNeg x1) x3 := ⟨_, rfl⟩
                have h := h σ21 eσ21
                refine x_iast C 68 rfl (σ' := σ21) 5 0 (gM_M_pad ad ct _) rfl i19 (by rw [eσ21]; exact (sM_M_pad ad ct _)) dX5_wall_67 ?_
                refine x_iconst C 69 rfl 1 dX5_wall_68 rfl ?_
                exact hR _ _ _ _ dX5_wall_69 (by decide) h
            · have h := h.2 c46
              refine x_aload_n C 50 rfl 0 dX5_wall_49 rfl rfl ?_
              refine x_get C 53 rfl (ref := RX5) 0 4 (gM_M ad ct _) rfl in_X5_wall_X5 (by decide) fl_X5_wall_19 rfl rfl dX5_wall_50 ?_
              refine x_iload_n C 54 rfl 1 dX5_wall_53 rfl rfl ?_
              refine x_iload_n C 55 rfl 3 dX5_wall_54 rfl rfl ?_
              obtain ⟨σ22, eσ22⟩ : ∃ z, z = sR σ20 4 (Int32.toNatClampNeg x1) x3 := ⟨_, rfl⟩
              have h := h σ22 eσ22
              refine x_iast C 56 rfl (σ' := σ22) 4 0 (gM_M_clean ad ct _) rfl i19 (by rw [eσ22]; exact (sM_M_clean ad ct _)) dX5_wall_55 ?_
              refine x_iload_n C 57 rfl 2 dX5_wall_56 rfl rfl ?_
              refine x_iconst C 58 rfl 3 dX5_wall_57 rfl ?_
              refine x_icmp_ne C 68 61 dX5_wall_58 (by decide) rfl (fun c58 => ?_) (fun c58 => ?_)
              · have h := h.1 c58
                refine x_iconst C 69 rfl 1 dX5_wall_68 rfl ?_
                exact hR _ _ _ _ dX5_wall_69 (by decide) h
              · have h := h.2 c58
                refine x_aload_n C 62 rfl 0 dX5_wall_61 rfl rfl ?_
                refine x_get C 65 rfl (ref := RX5) 0 5 (gM_M ad ct _) rfl in_X5_wall_X5 (by decide) fl_X5_wall_22 rfl rfl dX5_wall_62 ?_
                refine x_iload_n C 66 rfl 1 dX5_wall_65 rfl rfl ?_
                refine x_iload_n C 67 rfl 3 dX5_wall_66 rfl rfl ?_
                obtain ⟨σ23, eσ23⟩ : ∃ z, z = sR σ22 5 (Int32.toNatClampNeg x1) x3 := ⟨_, rfl⟩
                have h := h σ23 eσ23
                refine x_iast C 68 rfl (σ' := σ23) 5 0 (gM_M_pad ad ct _) rfl i19 (by rw [eσ23]; exact (sM_M_pad ad ct _)) dX5_wall_67 ?_
                refine x_iconst C 69 rfl 1 dX5_wall_68 rfl ?_
                exact hR _ _ _ _ dX5_wall_69 (by decide) h
          · have h := h.2 c32
            refine x_iconst C 36 rfl 0 dX5_wall_35 rfl ?_
            exact hR _ _ _ _ dX5_wall_36 (by decide) h
abbrev rm_X5_set : Room := { frames := 2, cells := 0, slots := 0, locals := 43 }
theorem in_X5_set_X5 : ∀ w ∈ u_ws RX5 TX5 20, w ∈ wsX5_set := by decide +kernel
theorem fl_X5_set_22 : Cond.fieldLink RX5 22 RX5 (TX5 5).2.1 (TX5 5).2.2.1 ∈ wsX5_set := by decide +kernel
theorem fl_X5_set_19 : Cond.fieldLink RX5 19 RX5 (TX5 4).2.1 (TX5 4).2.2.1 ∈ wsX5_set := by decide +kernel
set_option maxRecDepth 100000 in
set_option maxHeartbeats 4000000 in
theorem m_X5_set (l : Launch) (D : va_G) (ad : Nat → Nat) (ct : Nat → ClassId) (x1 : Int32) (x2 : Int32) (x3 : Int32) (σ : ST) (Q : Int32 → ST → Prop) (h : wp_X5_set x1 x2 x3 σ Q) : CtI l D (tysF ct) (wM ad ct) yX5_set wsX5_set rm_X5_set [.ref (ad 0), .int x1, .int x2, .int x3] σ Q := by
  refine CtI.ofZ (wM_adr ad ct) (maxL := 4) [(0, .ref (ad 0)), (1, .int x1), (2, .int x2), (3, .int x3)] RX5 (by decide) rfl rfl (by show (lg_sl [.ref (ad 0), .int x1, .int x2, .int x3]).length ≤ 4; exact Nat.le_of_ble_eq_true rfl) rfl rfl rfl ?_
  intro E C hR
  unfold wp_X5_set at h
  refine x_aload_n C 1 rfl 0 dX5_set_0 rfl rfl ?_
  refine x_iload_n C 2 rfl 1 dX5_set_1 rfl rfl ?_
  refine x_cVI C 5 rfl (m_X5_isThing l D ad ct _ _ _ h) (cwV 1 C.1.2.2.2.2 gX5_set_X5_isThing rfl rfl rfl (by decide +kernel) ⟨Nat.le_of_ble_eq_true rfl, Nat.le_of_ble_eq_true rfl⟩) ⟨0, 5, _, _, _, (gM_M ad ct _), rfl⟩ rfl rfl (Nat.le_of_ble_eq_true rfl) dX5_set_2 ?_
  intro r2 σ1 h
  refine x_if_eq C 26 8 dX5_set_5 (by decide) rfl (fun c5 => ?_) (fun c5 => ?_)
  · have h := h.1 c5
    refine x_iconst C 27 rfl 0 dX5_set_26 rfl ?_
    exact hR _ _ _ _ dX5_set_27 (by decide) h
  · have h := h.2 c5
    refine x_iload_n C 9 rfl 2 dX5_set_8 rfl rfl ?_
    refine x_iconst C 10 rfl 1 dX5_set_9 rfl ?_
    refine x_icmp_eq C 18 13 dX5_set_10 (by decide) rfl (fun c10 => ?_) (fun c10 => ?_)
    · have h := h.1 c10
      refine x_iload_n C 19 rfl 2 dX5_set_18 rfl rfl ?_
      refine x_iload_n C 20 rfl 3 dX5_set_19 rfl rfl ?_
      refine x_cSI C 23 rfl (m_X5_isBy l D ad ct _ _ _ _ h) (va_cwS 2 C.1.2.2.2.2 gX5_set_X5_isBy rfl rfl rfl (by decide +kernel) ⟨Nat.le_of_ble_eq_true rfl, Nat.le_of_ble_eq_true rfl⟩) rfl rfl (Nat.le_of_ble_eq_true rfl) dX5_set_20 ?_
      intro r4 σ3 h
      refine x_if_ne C 28 26 dX5_set_23 (by decide) rfl (fun c23 => ?_) (fun c23 => ?_)
      · have h := h.1 c23
        refine x_iload_n C 29 rfl 2 dX5_set_28 rfl rfl ?_
        refine x_iconst C 30 rfl 1 dX5_set_29 rfl ?_
        refine x_icmp_ne C 43 33 dX5_set_30 (by decide) rfl (fun c30 => ?_) (fun c30 => ?_)
        · have h := h.1 c30
          refine x_aload_n C 44 rfl 0 dX5_set_43 rfl rfl ?_
          refine x_get C 47 rfl (ref := RX5) 0 5 (gM_M ad ct _) rfl in_X5_set_X5 (by decide) fl_X5_set_22 rfl rfl dX5_set_44 ?_
          refine x_iload_n C 48 rfl 1 dX5_set_47 rfl rfl ?_
          refine x_iload_n C 49 rfl 3 dX5_set_48 rfl rfl ?_
          have i5 := h.1
          have h := h.2
          obtain ⟨σ6, eσ6⟩ : ∃ z, z = sR σ3 5 (Int32.toNatClampNeg x1) x3 := ⟨_, rfl⟩
          have h := h σ6 eσ6
          refine x_iast C 50 rfl (σ' := σ6) 5 0 (gM_M_pad ad ct _) rfl i5 (by rw [eσ6]; exact (sM_M_pad ad ct _)) dX5_set_49 ?_
          refine x_iconst C 51 rfl 1 dX5_set_50 rfl ?_
          exact hR _ _ _ _ dX5_set_51 (by decide) h
        · have h := h.2 c30
          refine x_aload_n C 34 rfl 0 dX5_set_33 rfl rfl ?_
          refine x_get C 37 rfl (ref := RX5) 0 4 (gM_M ad ct _) rfl in_X5_set_X5 (by decide) fl_X5_set_19 rfl rfl dX5_set_34 ?_
          refine x_iload_n C 38 rfl 1 dX5_set_37 rfl rfl ?_
          refine x_iload_n C 39 rfl 3 dX5_set_38 rfl rfl ?_
          have i7 := h.1
          have h := h.2
          obtain ⟨σ8, eσ8⟩ : ∃ z, z = sR σ3 4 (Int32.toNatClampNeg x1) x3 := ⟨_, rfl⟩
          have h := h σ8 eσ8
          refine x_iast C 40 rfl (σ' := σ8) 4 0 (gM_M_clean ad ct _) rfl i7 (by rw [eσ8]; exact (sM_M_clean ad ct _)) dX5_set_39 ?_
          refine x_goto C 50 dX5_set_40 (by decide) ?_
          refine x_iconst C 51 rfl 1 dX5_set_50 rfl ?_
          exact hR _ _ _ _ dX5_set_51 (by decide) h
      · have h := h.2 c23
        refine x_iconst C 27 rfl 0 dX5_set_26 rfl ?_
        exact hR _ _ _ _ dX5_set_27 (by decide) h
    · have h := h.2 c10
      refine x_iload_n C 14 rfl 2 dX5_set_13 rfl rfl ?_
      refine x_iconst C 15 rfl 3 dX5_set_14 rfl ?_
      refine x_icmp_ne C 26 18 dX5_set_15 (by decide) rfl (fun c15 => ?_) (fun c15 => ?_)
      · have h := h.1 c15
        refine x_iconst C 27 rfl 0 dX5_set_26 rfl ?_
        exact hR _ _ _ _ dX5_set_27 (by decide) h
      · have h := h.2 c15
        refine x_iload_n C 19 rfl 2 dX5_set_18 rfl rfl ?_
        refine x_iload_n C 20 rfl 3 dX5_set_19 rfl rfl ?_
        refine x_cSI C 23 rfl (m_X5_isBy l D ad ct _ _ _ _ h) (va_cwS 2 C.1.2.2.2.2 gX5_set_X5_isBy rfl rfl rfl (by decide +kernel) ⟨Nat.le_of_ble_eq_true rfl, Nat.le_of_ble_eq_true rfl⟩) rfl rfl (Nat.le_of_ble_eq_true rfl) dX5_set_20 ?_
        intro r10 σ9 h
        refine x_if_ne C 28 26 dX5_set_23 (by decide) rfl (fun c23 => ?_) (fun c23 => ?_)
        · have h := h.1 c23
          refine x_iload_n C 29 rfl 2 dX5_set_28 rfl rfl ?_
          refine x_iconst C 30 rfl 1 dX5_set_29 rfl ?_
          refine x_icmp_ne C 43 33 dX5_set_30 (by decide) rfl (fun c30 => ?_) (fun c30 => ?_)
          · have h := h.1 c30
            refine x_aload_n C 44 rfl 0 dX5_set_43 rfl rfl ?_
            refine x_get C 47 rfl (ref := RX5) 0 5 (gM_M ad ct _) rfl in_X5_set_X5 (by decide) fl_X5_set_22 rfl rfl dX5_set_44 ?_
            refine x_iload_n C 48 rfl 1 dX5_set_47 rfl rfl ?_
            refine x_iload_n C 49 rfl 3 dX5_set_48 rfl rfl ?_
            have i11 := h.1
            have h := h.2
            obtain ⟨σ12, eσ12⟩ : ∃ z, z = sR σ9 5 (Int32.toNatClampNeg x1) x3 := ⟨_, rfl⟩
            have h := h σ12 eσ12
            refine x_iast C 50 rfl (σ' := σ12) 5 0 (gM_M_pad ad ct _) rfl i11 (by rw [eσ12]; exact (sM_M_pad ad ct _)) dX5_set_49 ?_
            refine x_iconst C 51 rfl 1 dX5_set_50 rfl ?_
            exact hR _ _ _ _ dX5_set_51 (by decide) h
          · have h := h.2 c30
            refine x_aload_n C 34 rfl 0 dX5_set_33 rfl rfl ?_
            refine x_get C 37 rfl (ref := RX5) 0 4 (gM_M ad ct _) rfl in_X5_set_X5 (by decide) fl_X5_set_19 rfl rfl dX5_set_34 ?_
            refine x_iload_n C 38 rfl 1 dX5_set_37 rfl rfl ?_
            refine x_iload_n C 39 rfl 3 dX5_set_38 rfl rfl ?_
            have i13 := h.1
            have h := h.2
            obtain ⟨σ14, eσ14⟩ : ∃ z, z = sR σ9 4 (Int32.toNatClampNeg x1) x3 := ⟨_, rfl⟩
            have h := h σ14 eσ14
            refine x_iast C 40 rfl (σ' := σ14) 4 0 (gM_M_clean ad ct _) rfl i13 (by rw [eσ14]; exact (sM_M_clean ad ct _)) dX5_set_39 ?_
            refine x_goto C 50 dX5_set_40 (by decide) ?_
            refine x_iconst C 51 rfl 1 dX5_set_50 rfl ?_
            exact hR _ _ _ _ dX5_set_51 (by decide) h
        · have h := h.2 c23
          refine x_iconst C 27 rfl 0 dX5_set_26 rfl ?_
          exact hR _ _ _ _ dX5_set_27 (by decide) h
abbrev rm_X5_price : Room := { frames := 2, cells := 0, slots := 0, locals := 43 }
theorem in_X5_price_X5 : ∀ w ∈ u_ws RX5 TX5 20, w ∈ wsX5_price := by decide +kernel
theorem fl_X5_price_25 : Cond.fieldLink RX5 25 RX5 (TX5 6).2.1 (TX5 6).2.2.1 ∈ wsX5_price := by decide +kernel
set_option maxRecDepth 100000 in
set_option maxHeartbeats 4000000 in
theorem m_X5_price (l : Launch) (D : va_G) (ad : Nat → Nat) (ct : Nat → ClassId) (x1 : Int32) (x2 : Int32) (x3 : Int32) (σ : ST) (Q : Int32 → ST → Prop) (h : wp_X5_price x1 x2 x3 σ Q) : CtI l D (tysF ct) (wM ad ct) yX5_price wsX5_price rm_X5_price [.ref (ad 0), .int x1, .int x2, .int x3] σ Q := by
  refine CtI.ofZ (wM_adr ad ct) (maxL := 4) [(0, .ref (ad 0)), (1, .int x1), (2, .int x2), (3, .int x3)] RX5 (by decide) rfl rfl (by show (lg_sl [.ref (ad 0), .int x1, .int x2, .int x3]).length ≤ 4; exact Nat.le_of_ble_eq_true rfl) rfl rfl rfl ?_
  intro E C hR
  unfold wp_X5_price at h
  refine x_aload_n C 1 rfl 0 dX5_price_0 rfl rfl ?_
  refine x_iload_n C 2 rfl 1 dX5_price_1 rfl rfl ?_
  refine x_cVI C 5 rfl (m_X5_isThing l D ad ct _ _ _ h) (cwV 1 C.1.2.2.2.2 gX5_price_X5_isThing rfl rfl rfl (by decide +kernel) ⟨Nat.le_of_ble_eq_true rfl, Nat.le_of_ble_eq_true rfl⟩) ⟨0, 5, _, _, _, (gM_M ad ct _), rfl⟩ rfl rfl (Nat.le_of_ble_eq_true rfl) dX5_price_2 ?_
  intro r2 σ1 h
  refine x_if_eq C 27 8 dX5_price_5 (by decide) rfl (fun c5 => ?_) (fun c5 => ?_)
  · have h := h.1 c5
    refine x_iconst C 28 rfl 0 dX5_price_27 rfl ?_
    exact hR _ _ _ _ dX5_price_28 (by decide) h
  · have h := h.2 c5
    refine x_iload_n C 9 rfl 2 dX5_price_8 rfl rfl ?_
    refine x_iconst C 10 rfl 1 dX5_price_9 rfl ?_
    refine x_iconst C 11 rfl 3 dX5_price_10 rfl ?_
    refine x_cSI C 14 rfl (m_X5_isIn l D ad ct _ _ _ _ _ h) (va_cwS 3 C.1.2.2.2.2 gX5_price_X5_isIn rfl rfl rfl (by decide +kernel) ⟨Nat.le_of_ble_eq_true rfl, Nat.le_of_ble_eq_true rfl⟩) rfl rfl (Nat.le_of_ble_eq_true rfl) dX5_price_11 ?_
    intro r4 σ3 h
    refine x_if_eq C 27 17 dX5_price_14 (by decide) rfl (fun c14 => ?_) (fun c14 => ?_)
    · have h := h.1 c14
      refine x_iconst C 28 rfl 0 dX5_price_27 rfl ?_
      exact hR _ _ _ _ dX5_price_28 (by decide) h
    · have h := h.2 c14
      refine x_iload_n C 18 rfl 3 dX5_price_17 rfl rfl ?_
      refine x_iconst C 19 rfl 0 dX5_price_18 rfl ?_
      refine x_bipush C 21 rfl 99 dX5_price_19 rfl ?_
      refine x_cSI C 24 rfl (m_X5_isIn l D ad ct _ _ _ _ _ h) (va_cwS 3 C.1.2.2.2.2 gX5_price_X5_isIn rfl rfl rfl (by decide +kernel) ⟨Nat.le_of_ble_eq_true rfl, Nat.le_of_ble_eq_true rfl⟩) rfl rfl (Nat.le_of_ble_eq_true rfl) dX5_price_21 ?_
      intro r6 σ5 h
      refine x_if_ne C 29 27 dX5_price_24 (by decide) rfl (fun c24 => ?_) (fun c24 => ?_)
      · have h := h.1 c24
        refine x_aload_n C 30 rfl 0 dX5_price_29 rfl rfl ?_
        refine x_get C 33 rfl (ref := RX5) 0 6 (gM_M ad ct _) rfl in_X5_price_X5 (by decide) fl_X5_price_25 rfl rfl dX5_price_30 ?_
        refine x_iconst C 34 rfl 4 dX5_price_33 rfl ?_
        refine x_iload_n C 35 rfl 1 dX5_price_34 rfl rfl ?_
        refine x_imul C 36 rfl dX5_price_35 ?_
        refine x_iload_n C 37 rfl 2 dX5_price_36 rfl rfl ?_
        refine x_iadd C 38 rfl dX5_price_37 ?_
        refine x_iload_n C 39 rfl 3 dX5_price_38 rfl rfl ?_
        have i7 := h.1
        have h := h.2
        obtain ⟨σ8, eσ8⟩ : ∃ z, z = sR σ5 6 (Int32.toNatClampNeg ((4 * x1) + x2)) x3 := ⟨_, rfl⟩
        have h := h σ8 eσ8
        refine x_iast C 40 rfl (σ' := σ8) 6 0 (gM_M_price ad ct _) rfl i7 (by rw [eσ8]; exact (sM_M_price ad ct _)) dX5_price_39 ?_
        refine x_iconst C 41 rfl 1 dX5_price_40 rfl ?_
        exact hR _ _ _ _ dX5_price_41 (by decide) h
      · have h := h.2 c24
        refine x_iconst C 28 rfl 0 dX5_price_27 rfl ?_
        exact hR _ _ _ _ dX5_price_28 (by decide) h
abbrev rm_X5_wallsNow : Room := { frames := 0, cells := 0, slots := 0, locals := 0 }
theorem in_X5_wallsNow_X5 : ∀ w ∈ u_ws RX5 TX5 20, w ∈ wsX5_wallsNow := by decide +kernel
theorem fl_X5_wallsNow_62 : Cond.fieldLink RX5 62 RX5 (TX5 0).2.1 (TX5 0).2.2.1 ∈ wsX5_wallsNow := by decide +kernel
theorem fl_X5_wallsNow_16 : Cond.fieldLink RX5 16 RX5 (TX5 3).2.1 (TX5 3).2.2.1 ∈ wsX5_wallsNow := by decide +kernel
set_option maxRecDepth 100000 in
set_option maxHeartbeats 4000000 in
theorem v_X5_wallsNow_L4 {l : Launch} {D : va_G} {ad : Nat → Nat} {ct : Nat → ClassId} {E : XE}  {Q : Int32 → ST → Prop} (C : XFix D (tysF ct) (wM ad ct) rm_X5_wallsNow 3 E cX5_wallsNow RX5 wsX5_wallsNow) (hR : RetI l D (tysF ct) (wM ad ct) rm_X5_wallsNow 3 E cX5_wallsNow Q) :
    ∀ (n : Nat) (x1 : Int32) (x2 : Int32) (σ : ST), wp_X5_wallsNow_L4 Q n x1 x2 σ → V l D (tysF ct) (wM ad ct) rm_X5_wallsNow 3 E 4 [(0, .ref (ad 0)), (1, .int x1), (2, .int x2)] [] σ := by
  intro n
  induction n with
  | zero => intro x1 x2 σ h; exact (h : False).elim
  | succ n ih =>
    intro x1 x2 σ h
    unfold wp_X5_wallsNow_L4 at h
    refine x_iload_n C 5 rfl 2 dX5_wallsNow_4 rfl rfl ?_
    refine x_aload_n C 6 rfl 0 dX5_wallsNow_5 rfl rfl ?_
    refine x_get C 9 rfl (ref := RX5) 0 0 (gM_M ad ct _) rfl in_X5_wallsNow_X5 (by decide) fl_X5_wallsNow_62 rfl rfl dX5_wallsNow_6 ?_
    refine x_icmp_ge C 31 12 dX5_wallsNow_9 (by decide) rfl (fun c9 => ?_) (fun c9 => ?_)
    · have h := h.1 c9
      refine x_iload_n C 32 rfl 1 dX5_wallsNow_31 rfl rfl ?_
      exact hR _ _ _ _ dX5_wallsNow_32 h
    · have h := h.2 c9
      refine x_iload_n C 13 rfl 1 dX5_wallsNow_12 rfl rfl ?_
      refine x_aload_n C 14 rfl 0 dX5_wallsNow_13 rfl rfl ?_
      refine x_get C 17 rfl (ref := RX5) 0 3 (gM_M ad ct _) rfl in_X5_wallsNow_X5 (by decide) fl_X5_wallsNow_16 rfl rfl dX5_wallsNow_14 ?_
      refine x_iload_n C 18 rfl 2 dX5_wallsNow_17 rfl rfl ?_
      have i1 := h.1
      have h := h.2
      refine x_iald C 19 rfl 3 0 (gM_M_wall ad ct _) rfl i1 dX5_wallsNow_18 ?_
      refine x_iconst C 20 rfl 2 dX5_wallsNow_19 rfl ?_
      refine x_iload_n C 21 rfl 2 dX5_wallsNow_20 rfl rfl ?_
      refine x_imul C 22 rfl dX5_wallsNow_21 ?_
      refine x_ishl C 23 rfl dX5_wallsNow_22 ?_
      refine x_ior C 24 rfl dX5_wallsNow_23 ?_
      refine x_ni (fun w2 ew2 => ?_)
      have h := h w2 ew2
      refine x_istore_n C 25 rfl [(1, .int w2), (0, .ref (ad 0)), (2, .int x2)] dX5_wallsNow_24 rfl (by decide) rfl ?_
      refine x_iinc C 28 rfl 2 (x2 + 1) [(2, .int (x2 + 1)), (1, .int w2), (0, .ref (ad 0))] dX5_wallsNow_25 rfl rfl (by decide) rfl ?_
      refine x_goto C 4 dX5_wallsNow_28 (by decide) ?_
      refine x_sub (lv' := [(0, .ref (ad 0)), (1, .int w2), (2, .int (x2 + 1))]) [2, 1, 0] rfl ?_
      exact ih _ _ _ h
set_option maxRecDepth 100000 in
set_option maxHeartbeats 4000000 in
theorem m_X5_wallsNow (l : Launch) (D : va_G) (ad : Nat → Nat) (ct : Nat → ClassId) (σ : ST) (Q : Int32 → ST → Prop) (h : wp_X5_wallsNow σ Q) : CtI l D (tysF ct) (wM ad ct) yX5_wallsNow wsX5_wallsNow rm_X5_wallsNow [.ref (ad 0)] σ Q := by
  refine CtI.of (wM_adr ad ct) (maxL := 3) [(0, .ref (ad 0))] RX5 (by decide) rfl rfl (by show (lg_sl [.ref (ad 0)]).length ≤ 3; exact Nat.le_of_ble_eq_true rfl) rfl rfl rfl ?_
  intro E C hR
  unfold wp_X5_wallsNow at h
  refine x_iconst C 1 rfl 0 dX5_wallsNow_0 rfl ?_
  refine x_istore_n C 2 rfl [(1, .int 0), (0, .ref (ad 0))] dX5_wallsNow_1 rfl (by decide) rfl ?_
  refine x_iconst C 3 rfl 0 dX5_wallsNow_2 rfl ?_
  refine x_istore_n C 4 rfl [(2, .int 0), (1, .int 0), (0, .ref (ad 0))] dX5_wallsNow_3 rfl (by decide) rfl ?_
  refine x_sub (lv' := [(0, .ref (ad 0)), (1, .int 0), (2, .int 0)]) [2, 1, 0] rfl ?_
  obtain ⟨n3, h⟩ := h
  refine v_X5_wallsNow_L4 C hR n3 _ _ _ h
abbrev rm_X5_costs : Room := { frames := 0, cells := 0, slots := 0, locals := 0 }
theorem in_X5_costs_X5 : ∀ w ∈ u_ws RX5 TX5 20, w ∈ wsX5_costs := by decide +kernel
theorem fl_X5_costs_62 : Cond.fieldLink RX5 62 RX5 (TX5 0).2.1 (TX5 0).2.2.1 ∈ wsX5_costs := by decide +kernel
theorem fl_X5_costs_25 : Cond.fieldLink RX5 25 RX5 (TX5 6).2.1 (TX5 6).2.2.1 ∈ wsX5_costs := by decide +kernel
set_option maxRecDepth 100000 in
set_option maxHeartbeats 4000000 in
theorem v_X5_costs_L4 {l : Launch} {D : va_G} {ad : Nat → Nat} {ct : Nat → ClassId} {E : XE}  {Q : Int32 → ST → Prop} (C : XFix D (tysF ct) (wM ad ct) rm_X5_costs 4 E cX5_costs RX5 wsX5_costs) (x1 : Int32) (hR : RetI l D (tysF ct) (wM ad ct) rm_X5_costs 4 E cX5_costs Q) :
    ∀ (n : Nat) (x2 : Int32) (x3 : Int32) (σ : ST), wp_X5_costs_L4 x1 Q n x2 x3 σ → V l D (tysF ct) (wM ad ct) rm_X5_costs 4 E 4 [(0, .ref (ad 0)), (1, .int x1), (2, .int x2), (3, .int x3)] [] σ := by
  intro n
  induction n with
  | zero => intro x2 x3 σ h; exact (h : False).elim
  | succ n ih =>
    intro x2 x3 σ h
    unfold wp_X5_costs_L4 at h
    refine x_iload_n C 5 rfl 3 dX5_costs_4 rfl rfl ?_
    refine x_aload_n C 6 rfl 0 dX5_costs_5 rfl rfl ?_
    refine x_get C 9 rfl (ref := RX5) 0 0 (gM_M ad ct _) rfl in_X5_costs_X5 (by decide) fl_X5_costs_62 rfl rfl dX5_costs_6 ?_
    refine x_icmp_ge C 37 12 dX5_costs_9 (by decide) rfl (fun c9 => ?_) (fun c9 => ?_)
    · have h := h.1 c9
      refine x_iload_n C 38 rfl 2 dX5_costs_37 rfl rfl ?_
      exact hR _ _ _ _ dX5_costs_38 h
    · have h := h.2 c9
      refine x_iload_n C 13 rfl 2 dX5_costs_12 rfl rfl ?_
      refine x_aload_n C 14 rfl 0 dX5_costs_13 rfl rfl ?_
      refine x_get C 17 rfl (ref := RX5) 0 6 (gM_M ad ct _) rfl in_X5_costs_X5 (by decide) fl_X5_costs_25 rfl rfl dX5_costs_14 ?_
      refine x_iconst C 18 rfl 4 dX5_costs_17 rfl ?_
      refine x_iload_n C 19 rfl 3 dX5_costs_18 rfl rfl ?_
      refine x_imul C 20 rfl dX5_costs_19 ?_
      refine x_iload_n C 21 rfl 1 dX5_costs_20 rfl rfl ?_
      refine x_iconst C 22 rfl 2 dX5_costs_21 rfl ?_
      refine x_iload_n C 23 rfl 3 dX5_costs_22 rfl rfl ?_
      refine x_imul C 24 rfl dX5_costs_23 ?_
      refine x_ishr C 25 rfl dX5_costs_24 ?_
      refine x_iconst C 26 rfl 3 dX5_costs_25 rfl ?_
      refine x_iand C 27 rfl dX5_costs_26 ?_
      refine x_iadd C 28 rfl dX5_costs_27 ?_
      have i1 := h.1
      have h := h.2
      refine x_iald C 29 rfl 6 0 (gM_M_price ad ct _) rfl i1 dX5_costs_28 ?_
      refine x_iadd C 30 rfl dX5_costs_29 ?_
      refine x_ni (fun w2 ew2 => ?_)
      have h := h w2 ew2
      refine x_istore_n C 31 rfl [(2, .int w2), (0, .ref (ad 0)), (1, .int x1), (3, .int x3)] dX5_costs_30 rfl (by decide) rfl ?_
      refine x_iinc C 34 rfl 3 (x3 + 1) [(3, .int (x3 + 1)), (2, .int w2), (0, .ref (ad 0)), (1, .int x1)] dX5_costs_31 rfl rfl (by decide) rfl ?_
      refine x_goto C 4 dX5_costs_34 (by decide) ?_
      refine x_sub (lv' := [(0, .ref (ad 0)), (1, .int x1), (2, .int w2), (3, .int (x3 + 1))]) [2, 3, 1, 0] rfl ?_
      exact ih _ _ _ h
set_option maxRecDepth 100000 in
set_option maxHeartbeats 4000000 in
theorem m_X5_costs (l : Launch) (D : va_G) (ad : Nat → Nat) (ct : Nat → ClassId) (x1 : Int32) (σ : ST) (Q : Int32 → ST → Prop) (h : wp_X5_costs x1 σ Q) : CtI l D (tysF ct) (wM ad ct) yX5_costs wsX5_costs rm_X5_costs [.ref (ad 0), .int x1] σ Q := by
  refine CtI.of (wM_adr ad ct) (maxL := 4) [(0, .ref (ad 0)), (1, .int x1)] RX5 (by decide) rfl rfl (by show (lg_sl [.ref (ad 0), .int x1]).length ≤ 4; exact Nat.le_of_ble_eq_true rfl) rfl rfl rfl ?_
  intro E C hR
  unfold wp_X5_costs at h
  refine x_iconst C 1 rfl 0 dX5_costs_0 rfl ?_
  refine x_istore_n C 2 rfl [(2, .int 0), (0, .ref (ad 0)), (1, .int x1)] dX5_costs_1 rfl (by decide) rfl ?_
  refine x_iconst C 3 rfl 0 dX5_costs_2 rfl ?_
  refine x_istore_n C 4 rfl [(3, .int 0), (2, .int 0), (0, .ref (ad 0)), (1, .int x1)] dX5_costs_3 rfl (by decide) rfl ?_
  refine x_sub (lv' := [(0, .ref (ad 0)), (1, .int x1), (2, .int 0), (3, .int 0)]) [2, 3, 1, 0] rfl ?_
  obtain ⟨n3, h⟩ := h
  refine v_X5_costs_L4 C x1 hR n3 _ _ _ h
abbrev rm_X5_phases : Room := { frames := 0, cells := 0, slots := 0, locals := 0 }
theorem in_X5_phases_X5 : ∀ w ∈ u_ws RX5 TX5 20, w ∈ wsX5_phases := by decide +kernel
theorem fl_X5_phases_16 : Cond.fieldLink RX5 16 RX5 (TX5 3).2.1 (TX5 3).2.2.1 ∈ wsX5_phases := by decide +kernel
theorem fl_X5_phases_19 : Cond.fieldLink RX5 19 RX5 (TX5 4).2.1 (TX5 4).2.2.1 ∈ wsX5_phases := by decide +kernel
set_option maxRecDepth 100000 in
set_option maxHeartbeats 4000000 in
theorem m_X5_phases (l : Launch) (D : va_G) (ad : Nat → Nat) (ct : Nat → ClassId) (x1 : Int32) (σ : ST) (Q : Int32 → ST → Prop) (h : wp_X5_phases x1 σ Q) : CtI l D (tysF ct) (wM ad ct) yX5_phases wsX5_phases rm_X5_phases [.ref (ad 0), .int x1] σ Q := by
  refine CtI.of (wM_adr ad ct) (maxL := 2) [(0, .ref (ad 0)), (1, .int x1)] RX5 (by decide) rfl rfl (by show (lg_sl [.ref (ad 0), .int x1]).length ≤ 2; exact Nat.le_of_ble_eq_true rfl) rfl rfl rfl ?_
  intro E C hR
  unfold wp_X5_phases at h
  refine x_aload_n C 1 rfl 0 dX5_phases_0 rfl rfl ?_
  refine x_get C 4 rfl (ref := RX5) 0 3 (gM_M ad ct _) rfl in_X5_phases_X5 (by decide) fl_X5_phases_16 rfl rfl dX5_phases_1 ?_
  refine x_iload_n C 5 rfl 1 dX5_phases_4 rfl rfl ?_
  have i1 := h.1
  have h := h.2
  refine x_iald C 6 rfl 3 0 (gM_M_wall ad ct _) rfl i1 dX5_phases_5 ?_
  refine x_iconst C 7 rfl 1 dX5_phases_6 rfl ?_
  refine x_icmp_ne C 19 10 dX5_phases_7 (by decide) rfl (fun c7 => ?_) (fun c7 => ?_)
  · have h := h.1 c7
    refine x_iconst C 20 rfl 1 dX5_phases_19 rfl ?_
    exact hR _ _ _ _ dX5_phases_20 h
  · have h := h.2 c7
    refine x_aload_n C 11 rfl 0 dX5_phases_10 rfl rfl ?_
    refine x_get C 14 rfl (ref := RX5) 0 4 (gM_M ad ct _) rfl in_X5_phases_X5 (by decide) fl_X5_phases_19 rfl rfl dX5_phases_11 ?_
    refine x_iload_n C 15 rfl 1 dX5_phases_14 rfl rfl ?_
    refine x_iald C 16 rfl 4 0 (gM_M_clean ad ct _) rfl i1 dX5_phases_15 ?_
    refine x_goto C 20 dX5_phases_16 (by decide) ?_
    exact hR _ _ _ _ dX5_phases_20 h
abbrev rm_X5_act : Room := { frames := 0, cells := 0, slots := 0, locals := 0 }
theorem in_X5_act_X5 : ∀ w ∈ u_ws RX5 TX5 20, w ∈ wsX5_act := by decide +kernel
theorem fl_X5_act_7 : Cond.fieldLink RX5 7 RX5 (TX5 1).2.1 (TX5 1).2.2.1 ∈ wsX5_act := by decide +kernel
theorem fl_X5_act_31 : Cond.fieldLink RX5 31 RX5 (TX5 8).2.1 (TX5 8).2.2.1 ∈ wsX5_act := by decide +kernel
theorem lc_X5_act_93 : Cond.constantLong RX5 93 (3) ∈ wsX5_act := by decide +kernel
theorem fl_X5_act_35 : Cond.fieldLink RX5 35 RX5 (TX5 9).2.1 (TX5 9).2.2.1 ∈ wsX5_act := by decide +kernel
set_option maxRecDepth 100000 in
set_option maxHeartbeats 4000000 in
theorem m_X5_act (l : Launch) (D : va_G) (ad : Nat → Nat) (ct : Nat → ClassId) (x1 : Int32) (x2 : Int32) (x3 : Int32) (x4 : Int32) (σ : ST) (Q : Int32 → ST → Prop) (h : wp_X5_act x1 x2 x3 x4 σ Q) : CtI l D (tysF ct) (wM ad ct) yX5_act wsX5_act rm_X5_act [.ref (ad 0), .int x1, .int x2, .int x3, .int x4] σ Q := by
  refine CtI.of (wM_adr ad ct) (maxL := 6) [(0, .ref (ad 0)), (1, .int x1), (2, .int x2), (3, .int x3), (4, .int x4)] RX5 (by decide) rfl rfl (by show (lg_sl [.ref (ad 0), .int x1, .int x2, .int x3, .int x4]).length ≤ 6; exact Nat.le_of_ble_eq_true rfl) rfl rfl rfl ?_
  intro E C hR
  unfold wp_X5_act at h
  refine x_aload_n C 1 rfl 0 dX5_act_0 rfl rfl ?_
  refine x_get C 4 rfl (ref := RX5) 0 1 (gM_M ad ct _) rfl in_X5_act_X5 (by decide) fl_X5_act_7 rfl rfl dX5_act_1 ?_
  refine x_iload_n C 5 rfl 1 dX5_act_4 rfl rfl ?_
  have i1 := h.1
  have h := h.2
  refine x_iald C 6 rfl 1 0 (gM_M_kind ad ct _) rfl i1 dX5_act_5 ?_
  refine x_iconst C 7 rfl 4 dX5_act_6 rfl ?_
  refine x_icmp_ne C 57 10 dX5_act_7 (by decide) rfl (fun c7 => ?_) (fun c7 => ?_)
  · have h := h.1 c7
    refine x_iload C 59 rfl 4 dX5_act_57 rfl ?_
    refine x_iconst C 60 rfl 2 dX5_act_59 rfl ?_
    refine x_icmp_ne C 65 63 dX5_act_60 (by decide) rfl (fun c60 => ?_) (fun c60 => ?_)
    · have h := h.1 c60
      refine x_aload_n C 66 rfl 0 dX5_act_65 rfl rfl ?_
      refine x_get C 69 rfl (ref := RX5) 0 1 (gM_M ad ct _) rfl in_X5_act_X5 (by decide) fl_X5_act_7 rfl rfl dX5_act_66 ?_
      refine x_iload_n C 70 rfl 1 dX5_act_69 rfl rfl ?_
      refine x_iald C 71 rfl 1 0 (gM_M_kind ad ct _) rfl i1 dX5_act_70 ?_
      by_cases t71_0 : (σ.2.2.1 1 (Int32.toNatClampNeg x1)) = 0
      · have h := h.1 t71_0
        refine x_top t71_0 ?_
        refine x_tsIn C 96 25 dX5_act_71 (by decide) (by decide) (by decide) (by decide) ?_
        refine x_iload C 98 rfl 4 dX5_act_96 rfl ?_
        refine x_iconst C 99 rfl 1 dX5_act_98 rfl ?_
        refine x_icmp_ne C 106 102 dX5_act_99 (by decide) rfl (fun c99 => ?_) (fun c99 => ?_)
        · have h := h.1 c99
          refine x_iload_n C 107 rfl 3 dX5_act_106 rfl rfl ?_
          refine x_iload_n C 108 rfl 2 dX5_act_107 rfl rfl ?_
          refine x_iconst C 109 rfl 1 dX5_act_108 rfl ?_
          refine x_iadd C 110 rfl dX5_act_109 ?_
          refine x_icmp_ne C 117 113 dX5_act_110 (by decide) rfl (fun c110 => ?_) (fun c110 => ?_)
          · have h := h.1 c110
            refine x_iload_n C 118 rfl 2 dX5_act_117 rfl rfl ?_
            refine x_iconst C 119 rfl 1 dX5_act_118 rfl ?_
            refine x_iadd C 120 rfl dX5_act_119 ?_
            refine x_iconst C 121 rfl 4 dX5_act_120 rfl ?_
            refine x_iadd C 122 rfl dX5_act_121 ?_
            exact hR _ _ _ _ dX5_act_122 h
          · have h := h.2 c110
            refine x_iload_n C 114 rfl 3 dX5_act_113 rfl rfl ?_
            refine x_goto C 122 dX5_act_114 (by decide) ?_
            exact hR _ _ _ _ dX5_act_122 h
        · have h := h.2 c99
          refine x_iconst C 103 rfl 0 dX5_act_102 rfl ?_
          refine x_goto C 122 dX5_act_103 (by decide) ?_
          exact hR _ _ _ _ dX5_act_122 h
      · have h := h.2 t71_0
        by_cases t71_1 : (σ.2.2.1 1 (Int32.toNatClampNeg x1)) = 1
        · have h := h.1 t71_1
          refine x_top t71_1 ?_
          refine x_tsIn C 123 52 dX5_act_71 (by decide) (by decide) (by decide) (by decide) ?_
          refine x_iload C 125 rfl 4 dX5_act_123 rfl ?_
          refine x_if_ne C 145 128 dX5_act_125 (by decide) rfl (fun c125 => ?_) (fun c125 => ?_)
          · have h := h.1 c125
            refine x_iload_n C 146 rfl 3 dX5_act_145 rfl rfl ?_
            refine x_if_ne C 155 149 dX5_act_146 (by decide) rfl (fun c146 => ?_) (fun c146 => ?_)
            · have h := h.1 c146
              refine x_iload_n C 156 rfl 3 dX5_act_155 rfl rfl ?_
              refine x_iconst C 157 rfl 1 dX5_act_156 rfl ?_
              refine x_isub C 158 rfl dX5_act_157 ?_
              exact hR _ _ _ _ dX5_act_158 h
            · have h := h.2 c146
              refine x_iload_n C 150 rfl 3 dX5_act_149 rfl rfl ?_
              refine x_iconst C 151 rfl 4 dX5_act_150 rfl ?_
              refine x_iadd C 152 rfl dX5_act_151 ?_
              refine x_goto C 158 dX5_act_152 (by decide) ?_
              exact hR _ _ _ _ dX5_act_158 h
          · have h := h.2 c125
            refine x_iload_n C 129 rfl 3 dX5_act_128 rfl rfl ?_
            refine x_iconst C 130 rfl 3 dX5_act_129 rfl ?_
            refine x_icmp_ne C 139 133 dX5_act_130 (by decide) rfl (fun c130 => ?_) (fun c130 => ?_)
            · have h := h.1 c130
              refine x_iload_n C 140 rfl 3 dX5_act_139 rfl rfl ?_
              refine x_iconst C 141 rfl 1 dX5_act_140 rfl ?_
              refine x_iadd C 142 rfl dX5_act_141 ?_
              refine x_goto C 158 dX5_act_142 (by decide) ?_
              exact hR _ _ _ _ dX5_act_158 h
            · have h := h.2 c130
              refine x_iload_n C 134 rfl 3 dX5_act_133 rfl rfl ?_
              refine x_iconst C 135 rfl 4 dX5_act_134 rfl ?_
              refine x_iadd C 136 rfl dX5_act_135 ?_
              refine x_goto C 158 dX5_act_136 (by decide) ?_
              exact hR _ _ _ _ dX5_act_158 h
        · have h := h.2 t71_1
          by_cases t71_2 : (σ.2.2.1 1 (Int32.toNatClampNeg x1)) = 2
          · have h := h.1 t71_2
            refine x_top t71_2 ?_
            refine x_tsIn C 159 88 dX5_act_71 (by decide) (by decide) (by decide) (by decide) ?_
            refine x_iload C 161 rfl 4 dX5_act_159 rfl ?_
            refine x_if_ne C 185 164 dX5_act_161 (by decide) rfl (fun c161 => ?_) (fun c161 => ?_)
            · have h := h.1 c161
              refine x_iload_n C 186 rfl 3 dX5_act_185 rfl rfl ?_
              refine x_iload_n C 187 rfl 2 dX5_act_186 rfl rfl ?_
              refine x_iconst C 188 rfl 1 dX5_act_187 rfl ?_
              refine x_iadd C 189 rfl dX5_act_188 ?_
              refine x_icmp_ne C 196 192 dX5_act_189 (by decide) rfl (fun c189 => ?_) (fun c189 => ?_)
              · have h := h.1 c189
                refine x_iload_n C 197 rfl 3 dX5_act_196 rfl rfl ?_
                refine x_iconst C 198 rfl 4 dX5_act_197 rfl ?_
                refine x_iadd C 199 rfl dX5_act_198 ?_
                exact hR _ _ _ _ dX5_act_199 h
              · have h := h.2 c189
                refine x_iconst C 193 rfl 0 dX5_act_192 rfl ?_
                refine x_goto C 199 dX5_act_193 (by decide) ?_
                exact hR _ _ _ _ dX5_act_199 h
            · have h := h.2 c161
              refine x_iload_n C 165 rfl 3 dX5_act_164 rfl rfl ?_
              refine x_if_eq C 175 168 dX5_act_165 (by decide) rfl (fun c165 => ?_) (fun c165 => ?_)
              · have h := h.1 c165
                refine x_iload_n C 176 rfl 2 dX5_act_175 rfl rfl ?_
                refine x_iconst C 177 rfl 1 dX5_act_176 rfl ?_
                refine x_iadd C 178 rfl dX5_act_177 ?_
                refine x_goto C 184 dX5_act_178 (by decide) ?_
                exact hR _ _ _ _ dX5_act_184 h
              · have h := h.2 c165
                refine x_iload_n C 169 rfl 3 dX5_act_168 rfl rfl ?_
                refine x_iload_n C 170 rfl 2 dX5_act_169 rfl rfl ?_
                refine x_iconst C 171 rfl 1 dX5_act_170 rfl ?_
                refine x_iadd C 172 rfl dX5_act_171 ?_
                refine x_icmp_ne C 181 175 dX5_act_172 (by decide) rfl (fun c172 => ?_) (fun c172 => ?_)
                · have h := h.1 c172
                  refine x_iload_n C 182 rfl 3 dX5_act_181 rfl rfl ?_
                  refine x_iconst C 183 rfl 4 dX5_act_182 rfl ?_
                  refine x_iadd C 184 rfl dX5_act_183 ?_
                  exact hR _ _ _ _ dX5_act_184 h
                · have h := h.2 c172
                  refine x_iload_n C 176 rfl 2 dX5_act_175 rfl rfl ?_
                  refine x_iconst C 177 rfl 1 dX5_act_176 rfl ?_
                  refine x_iadd C 178 rfl dX5_act_177 ?_
                  refine x_goto C 184 dX5_act_178 (by decide) ?_
                  exact hR _ _ _ _ dX5_act_184 h
          · have h := h.2 t71_2
            refine x_tsOut C 200 dX5_act_71 (by have a0 := tne t71_0 (k := 0) (by decide); have a1 := tne t71_1 (k := 1) (by decide); have a2 := tne t71_2 (k := 2) (by decide); omega) (by decide) ?_
            refine x_iload C 202 rfl 4 dX5_act_200 rfl ?_
            refine x_if_ne C 213 205 dX5_act_202 (by decide) rfl (fun c202 => ?_) (fun c202 => ?_)
            · have h := h.1 c202
              refine x_iload_n C 214 rfl 3 dX5_act_213 rfl rfl ?_
              refine x_iconst C 215 rfl 1 dX5_act_214 rfl ?_
              refine x_iadd C 216 rfl dX5_act_215 ?_
              refine x_iconst C 217 rfl 4 dX5_act_216 rfl ?_
              refine x_irem C 218 rfl dX5_act_217 (by decide) ?_
              exact hR _ _ _ _ dX5_act_218 h
            · have h := h.2 c202
              refine x_iload_n C 206 rfl 3 dX5_act_205 rfl rfl ?_
              refine x_iconst C 207 rfl 4 dX5_act_206 rfl ?_
              refine x_iload_n C 208 rfl 3 dX5_act_207 rfl rfl ?_
              refine x_imul C 209 rfl dX5_act_208 ?_
              refine x_iadd C 210 rfl dX5_act_209 ?_
              refine x_goto C 218 dX5_act_210 (by decide) ?_
              exact hR _ _ _ _ dX5_act_218 h
    · have h := h.2 c60
      refine x_iload_n C 64 rfl 3 dX5_act_63 rfl rfl ?_
      exact hR _ _ _ _ dX5_act_64 h
  · have h := h.2 c7
    refine x_iconst C 11 rfl 2 dX5_act_10 rfl ?_
    refine x_bipush C 13 rfl 12 dX5_act_11 rfl ?_
    refine x_iload_n C 14 rfl 2 dX5_act_13 rfl rfl ?_
    refine x_imul C 15 rfl dX5_act_14 ?_
    refine x_iconst C 16 rfl 3 dX5_act_15 rfl ?_
    refine x_iload_n C 17 rfl 3 dX5_act_16 rfl rfl ?_
    refine x_imul C 18 rfl dX5_act_17 ?_
    refine x_iadd C 19 rfl dX5_act_18 ?_
    refine x_iload C 21 rfl 4 dX5_act_19 rfl ?_
    refine x_iadd C 22 rfl dX5_act_21 ?_
    refine x_imul C 23 rfl dX5_act_22 ?_
    refine x_istore C 25 rfl [(5, .int (2 * (((12 * x2) + (3 * x3)) + x4))), (0, .ref (ad 0)), (1, .int x1), (2, .int x2), (3, .int x3), (4, .int x4)] dX5_act_23 (by decide) rfl ?_
    refine x_aload_n C 26 rfl 1 dX5_act_25 rfl rfl ?_
    refine x_get C 29 rfl (ref := RX5) 0 8 (gM_M ad ct _) rfl in_X5_act_X5 (by decide) fl_X5_act_31 rfl rfl dX5_act_26 ?_
    refine x_iload_n C 30 rfl 2 dX5_act_29 rfl rfl ?_
    refine x_lald C 31 rfl 8 1 (gM_M_nextOf ad ct _) rfl i1 dX5_act_30 ?_
    refine x_iload C 33 rfl 0 dX5_act_31 rfl ?_
    refine x_lshr C 34 rfl dX5_act_33 ?_
    refine x_ldc2 C 37 rfl 3 lc_X5_act_93 dX5_act_34 ?_
    refine x_land C 38 rfl dX5_act_37 ?_
    refine x_l2i C 39 rfl dX5_act_38 ?_
    refine x_iconst C 40 rfl 4 dX5_act_39 rfl ?_
    refine x_aload_n C 41 rfl 1 dX5_act_40 rfl rfl ?_
    refine x_get C 44 rfl (ref := RX5) 0 9 (gM_M ad ct _) rfl in_X5_act_X5 (by decide) fl_X5_act_35 rfl rfl dX5_act_41 ?_
    refine x_iload_n C 45 rfl 2 dX5_act_44 rfl rfl ?_
    refine x_lald C 46 rfl 9 1 (gM_M_answerOf ad ct _) rfl i1 dX5_act_45 ?_
    refine x_iload C 48 rfl 0 dX5_act_46 rfl ?_
    refine x_lshr C 49 rfl dX5_act_48 ?_
    refine x_ldc2 C 52 rfl 3 lc_X5_act_93 dX5_act_49 ?_
    refine x_land C 53 rfl dX5_act_52 ?_
    refine x_l2i C 54 rfl dX5_act_53 ?_
    refine x_imul C 55 rfl dX5_act_54 ?_
    refine x_iadd C 56 rfl dX5_act_55 ?_
    exact hR _ _ _ _ dX5_act_56 h
abbrev rm_X5_sends : Room := { frames := 1, cells := 0, slots := 0, locals := 25 }
theorem in_X5_sends_X5 : ∀ w ∈ u_ws RX5 TX5 20, w ∈ wsX5_sends := by decide +kernel
theorem fl_X5_sends_16 : Cond.fieldLink RX5 16 RX5 (TX5 3).2.1 (TX5 3).2.2.1 ∈ wsX5_sends := by decide +kernel
set_option maxRecDepth 100000 in
set_option maxHeartbeats 4000000 in
theorem m_X5_sends (l : Launch) (D : va_G) (ad : Nat → Nat) (ct : Nat → ClassId) (x1 : Int32) (x2 : Int32) (x3 : Int32) (σ : ST) (Q : Int32 → ST → Prop) (h : wp_X5_sends x1 x2 x3 σ Q) : CtI l D (tysF ct) (wM ad ct) yX5_sends wsX5_sends rm_X5_sends [.ref (ad 0), .int x1, .int x2, .int x3] σ Q := by
  refine CtI.of (wM_adr ad ct) (maxL := 4) [(0, .ref (ad 0)), (1, .int x1), (2, .int x2), (3, .int x3)] RX5 (by decide) rfl rfl (by show (lg_sl [.ref (ad 0), .int x1, .int x2, .int x3]).length ≤ 4; exact Nat.le_of_ble_eq_true rfl) rfl rfl rfl ?_
  intro E C hR
  unfold wp_X5_sends at h
  refine x_iload_n C 1 rfl 3 dX5_sends_0 rfl rfl ?_
  refine x_iconst C 2 rfl 3 dX5_sends_1 rfl ?_
  refine x_icmp_eq C 15 5 dX5_sends_2 (by decide) rfl (fun c2 => ?_) (fun c2 => ?_)
  · have h := h.1 c2
    refine x_iload_n C 16 rfl 2 dX5_sends_15 rfl rfl ?_
    refine x_goto C 29 dX5_sends_16 (by decide) ?_
    exact hR _ _ _ _ dX5_sends_29 h
  · have h := h.2 c2
    refine x_aload_n C 6 rfl 0 dX5_sends_5 rfl rfl ?_
    refine x_get C 9 rfl (ref := RX5) 0 3 (gM_M ad ct _) rfl in_X5_sends_X5 (by decide) fl_X5_sends_16 rfl rfl dX5_sends_6 ?_
    refine x_iload_n C 10 rfl 1 dX5_sends_9 rfl rfl ?_
    have i1 := h.1
    have h := h.2
    refine x_iald C 11 rfl 3 0 (gM_M_wall ad ct _) rfl i1 dX5_sends_10 ?_
    refine x_iconst C 12 rfl 2 dX5_sends_11 rfl ?_
    refine x_icmp_ne C 19 15 dX5_sends_12 (by decide) rfl (fun c12 => ?_) (fun c12 => ?_)
    · have h := h.1 c12
      refine x_aload_n C 20 rfl 0 dX5_sends_19 rfl rfl ?_
      refine x_iload_n C 21 rfl 1 dX5_sends_20 rfl rfl ?_
      refine x_iconst C 22 rfl 0 dX5_sends_21 rfl ?_
      refine x_iload_n C 23 rfl 2 dX5_sends_22 rfl rfl ?_
      refine x_iload_n C 24 rfl 3 dX5_sends_23 rfl rfl ?_
      refine x_cVI C 27 rfl (m_X5_act l D ad ct _ _ _ _ _ _ h) (cwV 4 C.1.2.2.2.2 gX5_sends_X5_act rfl rfl rfl (by decide +kernel) ⟨Nat.le_of_ble_eq_true rfl, Nat.le_of_ble_eq_true rfl⟩) ⟨0, 5, _, _, _, (gM_M ad ct _), rfl⟩ rfl rfl (Nat.le_of_ble_eq_true rfl) dX5_sends_24 ?_
      intro r3 σ2 h
      refine x_iconst C 28 rfl 4 dX5_sends_27 rfl ?_
      refine x_irem C 29 rfl dX5_sends_28 (by decide) ?_
      exact hR _ _ _ _ dX5_sends_29 h
    · have h := h.2 c12
      refine x_iload_n C 16 rfl 2 dX5_sends_15 rfl rfl ?_
      refine x_goto C 29 dX5_sends_16 (by decide) ?_
      exact hR _ _ _ _ dX5_sends_29 h
abbrev rm_X5_cleans : Room := { frames := 0, cells := 0, slots := 0, locals := 0 }
theorem in_X5_cleans_X5 : ∀ w ∈ u_ws RX5 TX5 20, w ∈ wsX5_cleans := by decide +kernel
theorem fl_X5_cleans_16 : Cond.fieldLink RX5 16 RX5 (TX5 3).2.1 (TX5 3).2.2.1 ∈ wsX5_cleans := by decide +kernel
theorem fl_X5_cleans_19 : Cond.fieldLink RX5 19 RX5 (TX5 4).2.1 (TX5 4).2.2.1 ∈ wsX5_cleans := by decide +kernel
theorem fl_X5_cleans_13 : Cond.fieldLink RX5 13 RX5 (TX5 2).2.1 (TX5 2).2.2.1 ∈ wsX5_cleans := by decide +kernel
set_option maxRecDepth 100000 in
set_option maxHeartbeats 4000000 in
theorem m_X5_cleans (l : Launch) (D : va_G) (ad : Nat → Nat) (ct : Nat → ClassId) (x1 : Int32) (x2 : Int32) (x3 : Int32) (σ : ST) (Q : Int32 → ST → Prop) (h : wp_X5_cleans x1 x2 x3 σ Q) : CtI l D (tysF ct) (wM ad ct) yX5_cleans wsX5_cleans rm_X5_cleans [.ref (ad 0), .int x1, .int x2, .int x3] σ Q := by
  refine CtI.of (wM_adr ad ct) (maxL := 4) [(0, .ref (ad 0)), (1, .int x1), (2, .int x2), (3, .int x3)] RX5 (by decide) rfl rfl (by show (lg_sl [.ref (ad 0), .int x1, .int x2, .int x3]).length ≤ 4; exact Nat.le_of_ble_eq_true rfl) rfl rfl rfl ?_
  intro E C hR
  unfold wp_X5_cleans at h
  refine x_aload_n C 1 rfl 0 dX5_cleans_0 rfl rfl ?_
  refine x_get C 4 rfl (ref := RX5) 0 3 (gM_M ad ct _) rfl in_X5_cleans_X5 (by decide) fl_X5_cleans_16 rfl rfl dX5_cleans_1 ?_
  refine x_iload_n C 5 rfl 1 dX5_cleans_4 rfl rfl ?_
  have i1 := h.1
  have h := h.2
  refine x_iald C 6 rfl 3 0 (gM_M_wall ad ct _) rfl i1 dX5_cleans_5 ?_
  refine x_iconst C 7 rfl 1 dX5_cleans_6 rfl ?_
  refine x_icmp_ne C 32 10 dX5_cleans_7 (by decide) rfl (fun c7 => ?_) (fun c7 => ?_)
  · have h := h.1 c7
    refine x_iload_n C 33 rfl 2 dX5_cleans_32 rfl rfl ?_
    exact hR _ _ _ _ dX5_cleans_33 h
  · have h := h.2 c7
    refine x_iload_n C 11 rfl 3 dX5_cleans_10 rfl rfl ?_
    refine x_iconst C 12 rfl 1 dX5_cleans_11 rfl ?_
    refine x_iadd C 13 rfl dX5_cleans_12 ?_
    refine x_aload_n C 14 rfl 0 dX5_cleans_13 rfl rfl ?_
    refine x_get C 17 rfl (ref := RX5) 0 4 (gM_M ad ct _) rfl in_X5_cleans_X5 (by decide) fl_X5_cleans_19 rfl rfl dX5_cleans_14 ?_
    refine x_iload_n C 18 rfl 1 dX5_cleans_17 rfl rfl ?_
    refine x_iald C 19 rfl 4 0 (gM_M_clean ad ct _) rfl i1 dX5_cleans_18 ?_
    have z2 := h.1
    have h := h.2
    refine x_irem C 20 rfl dX5_cleans_19 z2 ?_
    refine x_if_ne C 32 23 dX5_cleans_20 (by decide) rfl (fun c20 => ?_) (fun c20 => ?_)
    · have h := h.1 c20
      refine x_iload_n C 33 rfl 2 dX5_cleans_32 rfl rfl ?_
      exact hR _ _ _ _ dX5_cleans_33 h
    · have h := h.2 c20
      refine x_aload_n C 24 rfl 0 dX5_cleans_23 rfl rfl ?_
      refine x_get C 27 rfl (ref := RX5) 0 2 (gM_M ad ct _) rfl in_X5_cleans_X5 (by decide) fl_X5_cleans_13 rfl rfl dX5_cleans_24 ?_
      refine x_iload_n C 28 rfl 1 dX5_cleans_27 rfl rfl ?_
      refine x_iald C 29 rfl 2 0 (gM_M_first ad ct _) rfl i1 dX5_cleans_28 ?_
      refine x_goto C 33 dX5_cleans_29 (by decide) ?_
      exact hR _ _ _ _ dX5_cleans_33 h
abbrev rm_X5_answers : Room := { frames := 1, cells := 0, slots := 0, locals := 25 }
theorem in_X5_answers_X5 : ∀ w ∈ u_ws RX5 TX5 20, w ∈ wsX5_answers := by decide +kernel
theorem fl_X5_answers_16 : Cond.fieldLink RX5 16 RX5 (TX5 3).2.1 (TX5 3).2.2.1 ∈ wsX5_answers := by decide +kernel
theorem fl_X5_answers_22 : Cond.fieldLink RX5 22 RX5 (TX5 5).2.1 (TX5 5).2.2.1 ∈ wsX5_answers := by decide +kernel
set_option maxRecDepth 100000 in
set_option maxHeartbeats 4000000 in
theorem m_X5_answers (l : Launch) (D : va_G) (ad : Nat → Nat) (ct : Nat → ClassId) (x1 : Int32) (x2 : Int32) (x3 : Int32) (σ : ST) (Q : Int32 → ST → Prop) (h : wp_X5_answers x1 x2 x3 σ Q) : CtI l D (tysF ct) (wM ad ct) yX5_answers wsX5_answers rm_X5_answers [.ref (ad 0), .int x1, .int x2, .int x3] σ Q := by
  refine CtI.of (wM_adr ad ct) (maxL := 5) [(0, .ref (ad 0)), (1, .int x1), (2, .int x2), (3, .int x3)] RX5 (by decide) rfl rfl (by show (lg_sl [.ref (ad 0), .int x1, .int x2, .int x3]).length ≤ 5; exact Nat.le_of_ble_eq_true rfl) rfl rfl rfl ?_
  intro E C hR
  unfold wp_X5_answers at h
  refine x_iload_n C 1 rfl 3 dX5_answers_0 rfl rfl ?_
  refine x_iconst C 2 rfl 3 dX5_answers_1 rfl ?_
  refine x_icmp_ne C 9 5 dX5_answers_2 (by decide) rfl (fun c2 => ?_) (fun c2 => ?_)
  · have h := h.1 c2
    refine x_aload_n C 10 rfl 0 dX5_answers_9 rfl rfl ?_
    refine x_iload_n C 11 rfl 1 dX5_answers_10 rfl rfl ?_
    refine x_iconst C 12 rfl 1 dX5_answers_11 rfl ?_
    refine x_iload_n C 13 rfl 2 dX5_answers_12 rfl rfl ?_
    refine x_iload_n C 14 rfl 3 dX5_answers_13 rfl rfl ?_
    refine x_cVI C 17 rfl (m_X5_act l D ad ct _ _ _ _ _ _ h) (cwV 4 C.1.2.2.2.2 gX5_answers_X5_act rfl rfl rfl (by decide +kernel) ⟨Nat.le_of_ble_eq_true rfl, Nat.le_of_ble_eq_true rfl⟩) ⟨0, 5, _, _, _, (gM_M ad ct _), rfl⟩ rfl rfl (Nat.le_of_ble_eq_true rfl) dX5_answers_14 ?_
    intro r2 σ1 h
    refine x_iconst C 18 rfl 4 dX5_answers_17 rfl ?_
    refine x_idiv C 19 rfl dX5_answers_18 (by decide) ?_
    refine x_istore C 21 rfl [(4, .int (r2 / 4)), (0, .ref (ad 0)), (1, .int x1), (2, .int x2), (3, .int x3)] dX5_answers_19 (by decide) rfl ?_
    refine x_aload_n C 22 rfl 1 dX5_answers_21 rfl rfl ?_
    refine x_get C 25 rfl (ref := RX5) 0 3 (gM_M ad ct _) rfl in_X5_answers_X5 (by decide) fl_X5_answers_16 rfl rfl dX5_answers_22 ?_
    refine x_iload_n C 26 rfl 2 dX5_answers_25 rfl rfl ?_
    have i3 := h.1
    have h := h.2
    refine x_iald C 27 rfl 3 0 (gM_M_wall ad ct _) rfl i3 dX5_answers_26 ?_
    refine x_iconst C 28 rfl 3 dX5_answers_27 rfl ?_
    refine x_icmp_ne C 51 31 dX5_answers_28 (by decide) rfl (fun c28 => ?_) (fun c28 => ?_)
    · have h := h.1 c28
      refine x_iload C 53 rfl 0 dX5_answers_51 rfl ?_
      exact hR _ _ _ _ dX5_answers_53 h
    · have h := h.2 c28
      refine x_iload C 33 rfl 0 dX5_answers_31 rfl ?_
      refine x_aload_n C 34 rfl 1 dX5_answers_33 rfl rfl ?_
      refine x_get C 37 rfl (ref := RX5) 0 5 (gM_M ad ct _) rfl in_X5_answers_X5 (by decide) fl_X5_answers_22 rfl rfl dX5_answers_34 ?_
      refine x_iload_n C 38 rfl 2 dX5_answers_37 rfl rfl ?_
      refine x_iald C 39 rfl 5 0 (gM_M_pad ad ct _) rfl i3 dX5_answers_38 ?_
      refine x_icmp_le C 51 42 dX5_answers_39 (by decide) rfl (fun c39 => ?_) (fun c39 => ?_)
      · have h := h.1 c39
        refine x_iload C 53 rfl 0 dX5_answers_51 rfl ?_
        exact hR _ _ _ _ dX5_answers_53 h
      · have h := h.2 c39
        refine x_aload_n C 43 rfl 1 dX5_answers_42 rfl rfl ?_
        refine x_get C 46 rfl (ref := RX5) 0 5 (gM_M ad ct _) rfl in_X5_answers_X5 (by decide) fl_X5_answers_22 rfl rfl dX5_answers_43 ?_
        refine x_iload_n C 47 rfl 2 dX5_answers_46 rfl rfl ?_
        refine x_iald C 48 rfl 5 0 (gM_M_pad ad ct _) rfl i3 dX5_answers_47 ?_
        refine x_goto C 53 dX5_answers_48 (by decide) ?_
        exact hR _ _ _ _ dX5_answers_53 h
  · have h := h.2 c2
    refine x_iconst C 6 rfl 0 dX5_answers_5 rfl ?_
    refine x_goto C 19 dX5_answers_6 (by decide) ?_
    refine x_istore C 21 rfl [(4, .int 0), (0, .ref (ad 0)), (1, .int x1), (2, .int x2), (3, .int x3)] dX5_answers_19 (by decide) rfl ?_
    refine x_aload_n C 22 rfl 1 dX5_answers_21 rfl rfl ?_
    refine x_get C 25 rfl (ref := RX5) 0 3 (gM_M ad ct _) rfl in_X5_answers_X5 (by decide) fl_X5_answers_16 rfl rfl dX5_answers_22 ?_
    refine x_iload_n C 26 rfl 2 dX5_answers_25 rfl rfl ?_
    have i4 := h.1
    have h := h.2
    refine x_iald C 27 rfl 3 0 (gM_M_wall ad ct _) rfl i4 dX5_answers_26 ?_
    refine x_iconst C 28 rfl 3 dX5_answers_27 rfl ?_
    refine x_icmp_ne C 51 31 dX5_answers_28 (by decide) rfl (fun c28 => ?_) (fun c28 => ?_)
    · have h := h.1 c28
      refine x_iload C 53 rfl 0 dX5_answers_51 rfl ?_
      exact hR _ _ _ _ dX5_answers_53 h
    · have h := h.2 c28
      refine x_iload C 33 rfl 0 dX5_answers_31 rfl ?_
      refine x_aload_n C 34 rfl 1 dX5_answers_33 rfl rfl ?_
      refine x_get C 37 rfl (ref := RX5) 0 5 (gM_M ad ct _) rfl in_X5_answers_X5 (by decide) fl_X5_answers_22 rfl rfl dX5_answers_34 ?_
      refine x_iload_n C 38 rfl 2 dX5_answers_37 rfl rfl ?_
      refine x_iald C 39 rfl 5 0 (gM_M_pad ad ct _) rfl i4 dX5_answers_38 ?_
      refine x_icmp_le C 51 42 dX5_answers_39 (by decide) rfl (fun c39 => ?_) (fun c39 => ?_)
      · have h := h.1 c39
        refine x_iload C 53 rfl 0 dX5_answers_51 rfl ?_
        exact hR _ _ _ _ dX5_answers_53 h
      · have h := h.2 c39
        refine x_aload_n C 43 rfl 1 dX5_answers_42 rfl rfl ?_
        refine x_get C 46 rfl (ref := RX5) 0 5 (gM_M ad ct _) rfl in_X5_answers_X5 (by decide) fl_X5_answers_22 rfl rfl dX5_answers_43 ?_
        refine x_iload_n C 47 rfl 2 dX5_answers_46 rfl rfl ?_
        refine x_iald C 48 rfl 5 0 (gM_M_pad ad ct _) rfl i4 dX5_answers_47 ?_
        refine x_goto C 53 dX5_answers_48 (by decide) ?_
        exact hR _ _ _ _ dX5_answers_53 h
abbrev rm_X5_hears : Room := { frames := 1, cells := 0, slots := 0, locals := 25 }
set_option maxRecDepth 100000 in
set_option maxHeartbeats 4000000 in
theorem m_X5_hears (l : Launch) (D : va_G) (ad : Nat → Nat) (ct : Nat → ClassId) (x1 : Int32) (x2 : Int32) (x3 : Int32) (σ : ST) (Q : Int32 → ST → Prop) (h : wp_X5_hears x1 x2 x3 σ Q) : CtI l D (tysF ct) (wM ad ct) yX5_hears wsX5_hears rm_X5_hears [.ref (ad 0), .int x1, .int x2, .int x3] σ Q := by
  refine CtI.of (wM_adr ad ct) (maxL := 4) [(0, .ref (ad 0)), (1, .int x1), (2, .int x2), (3, .int x3)] RX5 (by decide) rfl rfl (by show (lg_sl [.ref (ad 0), .int x1, .int x2, .int x3]).length ≤ 4; exact Nat.le_of_ble_eq_true rfl) rfl rfl rfl ?_
  intro E C hR
  unfold wp_X5_hears at h
  refine x_iload_n C 1 rfl 3 dX5_hears_0 rfl rfl ?_
  refine x_iconst C 2 rfl 3 dX5_hears_1 rfl ?_
  refine x_icmp_ne C 9 5 dX5_hears_2 (by decide) rfl (fun c2 => ?_) (fun c2 => ?_)
  · have h := h.1 c2
    refine x_aload_n C 10 rfl 0 dX5_hears_9 rfl rfl ?_
    refine x_iload_n C 11 rfl 1 dX5_hears_10 rfl rfl ?_
    refine x_iconst C 12 rfl 1 dX5_hears_11 rfl ?_
    refine x_iload_n C 13 rfl 2 dX5_hears_12 rfl rfl ?_
    refine x_iload_n C 14 rfl 3 dX5_hears_13 rfl rfl ?_
    refine x_cVI C 17 rfl (m_X5_act l D ad ct _ _ _ _ _ _ h) (cwV 4 C.1.2.2.2.2 gX5_hears_X5_act rfl rfl rfl (by decide +kernel) ⟨Nat.le_of_ble_eq_true rfl, Nat.le_of_ble_eq_true rfl⟩) ⟨0, 5, _, _, _, (gM_M ad ct _), rfl⟩ rfl rfl (Nat.le_of_ble_eq_true rfl) dX5_hears_14 ?_
    intro r2 σ1 h
    refine x_iconst C 18 rfl 4 dX5_hears_17 rfl ?_
    refine x_irem C 19 rfl dX5_hears_18 (by decide) ?_
    exact hR _ _ _ _ dX5_hears_19 h
  · have h := h.2 c2
    refine x_iload_n C 6 rfl 2 dX5_hears_5 rfl rfl ?_
    refine x_goto C 19 dX5_hears_6 (by decide) ?_
    exact hR _ _ _ _ dX5_hears_19 h
abbrev rm_X5_at : Room := { frames := 0, cells := 0, slots := 0, locals := 0 }
set_option maxRecDepth 100000 in
set_option maxHeartbeats 4000000 in
theorem m_X5_at (l : Launch) (D : va_G) (ad : Nat → Nat) (ct : Nat → ClassId) (x1 : Int32) (x2 : Int32) (x3 : Int32) (σ : ST) (Q : Int32 → ST → Prop) (h : wp_X5_at x1 x2 x3 σ Q) : CtI l D (tysF ct) (wM ad ct) yX5_at wsX5_at rm_X5_at [.ref (ad 0), .int x1, .int x2, .int x3] σ Q := by
  refine CtI.of (wM_adr ad ct) (maxL := 4) [(0, .ref (ad 0)), (1, .int x1), (2, .int x2), (3, .int x3)] RX5 (by decide) rfl rfl (by show (lg_sl [.ref (ad 0), .int x1, .int x2, .int x3]).length ≤ 4; exact Nat.le_of_ble_eq_true rfl) rfl rfl rfl ?_
  intro E C hR
  unfold wp_X5_at at h
  refine x_bipush C 2 rfl 16 dX5_at_0 rfl ?_
  refine x_iload_n C 3 rfl 3 dX5_at_2 rfl rfl ?_
  refine x_imul C 4 rfl dX5_at_3 ?_
  refine x_iconst C 5 rfl 4 dX5_at_4 rfl ?_
  refine x_iload_n C 6 rfl 1 dX5_at_5 rfl rfl ?_
  refine x_imul C 7 rfl dX5_at_6 ?_
  refine x_iadd C 8 rfl dX5_at_7 ?_
  refine x_iload_n C 9 rfl 2 dX5_at_8 rfl rfl ?_
  refine x_iadd C 10 rfl dX5_at_9 ?_
  exact hR _ _ _ _ dX5_at_10 h
abbrev rm_X5_after : Room := { frames := 2, cells := 0, slots := 0, locals := 49 }
theorem in_X5_after_X5 : ∀ w ∈ u_ws RX5 TX5 20, w ∈ wsX5_after := by decide +kernel
theorem fl_X5_after_38 : Cond.fieldLink RX5 38 RX5 (TX5 11).2.1 (TX5 11).2.2.1 ∈ wsX5_after := by decide +kernel
set_option maxRecDepth 100000 in
set_option maxHeartbeats 4000000 in
theorem m_X5_after (l : Launch) (D : va_G) (ad : Nat → Nat) (ct : Nat → ClassId) (x1 : Int32) (x2 : Int32) (x3 : Int32) (x4 : Int32) (x5 : Int32) (x6 : Int32) (x7 : Int32) (σ : ST) (Q : Int32 → ST → Prop) (h : wp_X5_after x1 x2 x3 x4 x5 x6 x7 σ Q) : CtI l D (tysF ct) (wM ad ct) yX5_after wsX5_after rm_X5_after [.ref (ad 0), .int x1, .int x2, .int x3, .int x4, .int x5, .int x6, .int x7] σ Q := by
  refine CtI.of (wM_adr ad ct) (maxL := 10) [(0, .ref (ad 0)), (1, .int x1), (2, .int x2), (3, .int x3), (4, .int x4), (5, .int x5), (6, .int x6), (7, .int x7)] RX5 (by decide) rfl rfl (by show (lg_sl [.ref (ad 0), .int x1, .int x2, .int x3, .int x4, .int x5, .int x6, .int x7]).length ≤ 10; exact Nat.le_of_ble_eq_true rfl) rfl rfl rfl ?_
  intro E C hR
  unfold wp_X5_after at h
  refine x_aload_n C 1 rfl 0 dX5_after_0 rfl rfl ?_
  refine x_iload_n C 2 rfl 1 dX5_after_1 rfl rfl ?_
  refine x_aload_n C 3 rfl 0 dX5_after_2 rfl rfl ?_
  refine x_iload_n C 4 rfl 1 dX5_after_3 rfl rfl ?_
  refine x_iload_n C 5 rfl 2 dX5_after_4 rfl rfl ?_
  refine x_iload C 7 rfl 5 dX5_after_5 rfl ?_
  refine x_cVI C 10 rfl (m_X5_sends l D ad ct _ _ _ _ _ h) (cwV 3 C.1.2.2.2.2 gX5_after_X5_sends rfl rfl rfl (by decide +kernel) ⟨Nat.le_of_ble_eq_true rfl, Nat.le_of_ble_eq_true rfl⟩) ⟨0, 5, _, _, _, (gM_M ad ct _), rfl⟩ rfl rfl (Nat.le_of_ble_eq_true rfl) dX5_after_7 ?_
  intro r2 σ1 h
  refine x_iload C 12 rfl 4 dX5_after_10 rfl ?_
  refine x_cVI C 15 rfl (m_X5_cleans l D ad ct _ _ _ _ _ h) (cwV 3 C.1.2.2.2.2 gX5_after_X5_cleans rfl rfl rfl (by decide +kernel) ⟨Nat.le_of_ble_eq_true rfl, Nat.le_of_ble_eq_true rfl⟩) ⟨0, 5, _, _, _, (gM_M ad ct _), rfl⟩ rfl rfl (Nat.le_of_ble_eq_true rfl) dX5_after_12 ?_
  intro r4 σ3 h
  refine x_istore C 17 rfl [(8, .int r4), (0, .ref (ad 0)), (1, .int x1), (2, .int x2), (3, .int x3), (4, .int x4), (5, .int x5), (6, .int x6), (7, .int x7)] dX5_after_15 (by decide) rfl ?_
  refine x_aload_n C 18 rfl 1 dX5_after_17 rfl rfl ?_
  refine x_iload_n C 19 rfl 2 dX5_after_18 rfl rfl ?_
  refine x_aload_n C 20 rfl 1 dX5_after_19 rfl rfl ?_
  refine x_iload_n C 21 rfl 2 dX5_after_20 rfl rfl ?_
  refine x_iload_n C 22 rfl 4 dX5_after_21 rfl rfl ?_
  refine x_iload C 24 rfl 7 dX5_after_22 rfl ?_
  refine x_cVI C 27 rfl (m_X5_sends l D ad ct _ _ _ _ _ h) (cwV 3 C.1.2.2.2.2 gX5_after_X5_sends rfl rfl rfl (by decide +kernel) ⟨Nat.le_of_ble_eq_true rfl, Nat.le_of_ble_eq_true rfl⟩) ⟨0, 5, _, _, _, (gM_M ad ct _), rfl⟩ rfl rfl (Nat.le_of_ble_eq_true rfl) dX5_after_24 ?_
  intro r6 σ5 h
  refine x_iload C 29 rfl 5 dX5_after_27 rfl ?_
  refine x_cVI C 32 rfl (m_X5_cleans l D ad ct _ _ _ _ _ h) (cwV 3 C.1.2.2.2.2 gX5_after_X5_cleans rfl rfl rfl (by decide +kernel) ⟨Nat.le_of_ble_eq_true rfl, Nat.le_of_ble_eq_true rfl⟩) ⟨0, 5, _, _, _, (gM_M ad ct _), rfl⟩ rfl rfl (Nat.le_of_ble_eq_true rfl) dX5_after_29 ?_
  intro r8 σ7 h
  refine x_istore C 34 rfl [(9, .int r8), (8, .int r4), (0, .ref (ad 0)), (1, .int x1), (2, .int x2), (3, .int x3), (4, .int x4), (5, .int x5), (6, .int x6), (7, .int x7)] dX5_after_32 (by decide) rfl ?_
  refine x_aload_n C 35 rfl 2 dX5_after_34 rfl rfl ?_
  refine x_iload_n C 36 rfl 3 dX5_after_35 rfl rfl ?_
  refine x_iload C 38 rfl 1 dX5_after_36 rfl ?_
  refine x_iload C 40 rfl 9 dX5_after_38 rfl ?_
  refine x_cVI C 43 rfl (m_X5_answers l D ad ct _ _ _ _ _ h) (cwV 3 C.1.2.2.2.2 gX5_after_X5_answers rfl rfl rfl (by decide +kernel) ⟨Nat.le_of_ble_eq_true rfl, Nat.le_of_ble_eq_true rfl⟩) ⟨0, 5, _, _, _, (gM_M ad ct _), rfl⟩ rfl rfl (Nat.le_of_ble_eq_true rfl) dX5_after_40 ?_
  intro r10 σ9 h
  refine x_aload_n C 44 rfl 2 dX5_after_43 rfl rfl ?_
  refine x_iload_n C 45 rfl 3 dX5_after_44 rfl rfl ?_
  refine x_iload C 47 rfl 0 dX5_after_45 rfl ?_
  refine x_iload C 49 rfl 9 dX5_after_47 rfl ?_
  refine x_cVI C 52 rfl (m_X5_answers l D ad ct _ _ _ _ _ h) (cwV 3 C.1.2.2.2.2 gX5_after_X5_answers rfl rfl rfl (by decide +kernel) ⟨Nat.le_of_ble_eq_true rfl, Nat.le_of_ble_eq_true rfl⟩) ⟨0, 5, _, _, _, (gM_M ad ct _), rfl⟩ rfl rfl (Nat.le_of_ble_eq_true rfl) dX5_after_49 ?_
  intro r12 σ11 h
  refine x_icmp_eq C 57 55 dX5_after_52 (by decide) rfl (fun c52 => ?_) (fun c52 => ?_)
  · have h := h.1 c52
    refine x_iconst C 58 rfl 1 dX5_after_57 rfl ?_
    refine x_aload_n C 59 rfl 2 dX5_after_58 rfl rfl ?_
    refine x_get C 62 rfl (ref := RX5) 0 11 (gM_M ad ct _) rfl in_X5_after_X5 (by decide) fl_X5_after_38 rfl rfl dX5_after_59 ?_
    refine x_aload_n C 63 rfl 2 dX5_after_62 rfl rfl ?_
    refine x_aload_n C 64 rfl 2 dX5_after_63 rfl rfl ?_
    refine x_iload_n C 65 rfl 3 dX5_after_64 rfl rfl ?_
    refine x_iload C 67 rfl 1 dX5_after_65 rfl ?_
    refine x_iload C 69 rfl 9 dX5_after_67 rfl ?_
    refine x_cVI C 72 rfl (m_X5_hears l D ad ct _ _ _ _ _ h) (cwV 3 C.1.2.2.2.2 gX5_after_X5_hears rfl rfl rfl (by decide +kernel) ⟨Nat.le_of_ble_eq_true rfl, Nat.le_of_ble_eq_true rfl⟩) ⟨0, 5, _, _, _, (gM_M ad ct _), rfl⟩ rfl rfl (Nat.le_of_ble_eq_true rfl) dX5_after_69 ?_
    intro r14 σ13 h
    refine x_aload_n C 73 rfl 2 dX5_after_72 rfl rfl ?_
    refine x_iload_n C 74 rfl 3 dX5_after_73 rfl rfl ?_
    refine x_iload C 76 rfl 0 dX5_after_74 rfl ?_
    refine x_iload C 78 rfl 9 dX5_after_76 rfl ?_
    refine x_cVI C 81 rfl (m_X5_hears l D ad ct _ _ _ _ _ h) (cwV 3 C.1.2.2.2.2 gX5_after_X5_hears rfl rfl rfl (by decide +kernel) ⟨Nat.le_of_ble_eq_true rfl, Nat.le_of_ble_eq_true rfl⟩) ⟨0, 5, _, _, _, (gM_M ad ct _), rfl⟩ rfl rfl (Nat.le_of_ble_eq_true rfl) dX5_after_78 ?_
    intro r16 σ15 h
    refine x_iload C 83 rfl 6 dX5_after_81 rfl ?_
    refine x_iconst C 84 rfl 1 dX5_after_83 rfl ?_
    refine x_iadd C 85 rfl dX5_after_84 ?_
    refine x_aload_n C 86 rfl 2 dX5_after_85 rfl rfl ?_
    refine x_iload_n C 87 rfl 3 dX5_after_86 rfl rfl ?_
    refine x_cVI C 90 rfl (m_X5_phases l D ad ct _ _ _ h) (cwV 1 C.1.2.2.2.2 gX5_after_X5_phases rfl rfl rfl (by decide +kernel) ⟨Nat.le_of_ble_eq_true rfl, Nat.le_of_ble_eq_true rfl⟩) ⟨0, 5, _, _, _, (gM_M ad ct _), rfl⟩ rfl rfl (Nat.le_of_ble_eq_true rfl) dX5_after_87 ?_
    intro r18 σ17 h
    have z19 := h.1
    have h := h.2
    refine x_irem C 91 rfl dX5_after_90 z19 ?_
    refine x_cVI C 94 rfl (m_X5_at l D ad ct _ _ _ _ _ h) (cwV 3 C.1.2.2.2.2 gX5_after_X5_at rfl rfl rfl (by decide +kernel) ⟨Nat.le_of_ble_eq_true rfl, Nat.le_of_ble_eq_true rfl⟩) ⟨0, 5, _, _, _, (gM_M ad ct _), rfl⟩ rfl rfl (Nat.le_of_ble_eq_true rfl) dX5_after_91 ?_
    intro r21 σ20 h
    have i22 := h.1
    have h := h.2
    refine x_iald C 95 rfl 10 0 (gM_M_ahead ad ct _) rfl i22 dX5_after_94 ?_
    refine x_iadd C 96 rfl dX5_after_95 ?_
    exact hR _ _ _ _ dX5_after_96 h
  · have h := h.2 c52
    refine x_iconst C 56 rfl 1 dX5_after_55 rfl ?_
    exact hR _ _ _ _ dX5_after_56 h
abbrev rm_X5_looksAhead : Room := { frames := 3, cells := 0, slots := 0, locals := 78 }
theorem in_X5_looksAhead_X5 : ∀ w ∈ u_ws RX5 TX5 20, w ∈ wsX5_looksAhead := by decide +kernel
theorem fl_X5_looksAhead_38 : Cond.fieldLink RX5 38 RX5 (TX5 11).2.1 (TX5 11).2.2.1 ∈ wsX5_looksAhead := by decide +kernel
set_option maxRecDepth 100000 in
set_option maxHeartbeats 4000000 in
theorem v_X5_looksAhead_L2 {l : Launch} {D : va_G} {ad : Nat → Nat} {ct : Nat → ClassId} {E : XE}  {Q : ST → Prop} (C : XFix D (tysF ct) (wM ad ct) rm_X5_looksAhead 6 E cX5_looksAhead RX5 wsX5_looksAhead) (x1 : Int32) {K : ST → Prop} (hK : ∀ (σ : ST), K σ → V l D (tysF ct) (wM ad ct) rm_X5_looksAhead 6 E 23 [(0, .ref (ad 0)), (1, .int x1)] [] σ) (hR : RetV l D (tysF ct) (wM ad ct) rm_X5_looksAhead 6 E cX5_looksAhead Q) :
    ∀ (n : Nat) (x2 : Int32) (σ : ST), wp_X5_looksAhead_L2 x1 K Q n x2 σ → V l D (tysF ct) (wM ad ct) rm_X5_looksAhead 6 E 2 [(0, .ref (ad 0)), (1, .int x1), (2, .int x2)] [] σ := by
  intro n
  induction n with
  | zero => intro x2 σ h; exact (h : False).elim
  | succ n ih =>
    intro x2 σ h
    unfold wp_X5_looksAhead_L2 at h
    refine x_iload_n C 3 rfl 2 dX5_looksAhead_2 rfl rfl ?_
    refine x_bipush C 5 rfl 64 dX5_looksAhead_3 rfl ?_
    refine x_icmp_ge C 23 8 dX5_looksAhead_5 (by decide) rfl (fun c5 => ?_) (fun c5 => ?_)
    · have h := h.1 c5
      refine x_sub (lv' := [(0, .ref (ad 0)), (1, .int x1)]) [0, 1] rfl ?_
      exact hK  _ h
    · have h := h.2 c5
      refine x_aload_n C 9 rfl 0 dX5_looksAhead_8 rfl rfl ?_
      refine x_get C 12 rfl (ref := RX5) 0 11 (gM_M ad ct _) rfl in_X5_looksAhead_X5 (by decide) fl_X5_looksAhead_38 rfl rfl dX5_looksAhead_9 ?_
      refine x_iload_n C 13 rfl 2 dX5_looksAhead_12 rfl rfl ?_
      refine x_sipush C 16 rfl 1000 dX5_looksAhead_13 rfl ?_
      have i1 := h.1
      have h := h.2
      obtain ⟨σ2, eσ2⟩ : ∃ z, z = sR σ 10 (Int32.toNatClampNeg x2) 1000 := ⟨_, rfl⟩
      have h := h σ2 eσ2
      refine x_iast C 17 rfl (σ' := σ2) 10 0 (gM_M_ahead ad ct _) rfl i1 (by rw [eσ2]; exact (sM_M_ahead ad ct _)) dX5_looksAhead_16 ?_
      refine x_iinc C 20 rfl 2 (x2 + 1) [(2, .int (x2 + 1)), (0, .ref (ad 0)), (1, .int x1)] dX5_looksAhead_17 rfl rfl (by decide) rfl ?_
      refine x_goto C 2 dX5_looksAhead_20 (by decide) ?_
      refine x_sub (lv' := [(0, .ref (ad 0)), (1, .int x1), (2, .int (x2 + 1))]) [1, 2, 0] rfl ?_
      exact ih _ _ h
set_option maxRecDepth 100000 in
set_option maxHeartbeats 4000000 in
theorem v_X5_looksAhead_L48 {l : Launch} {D : va_G} {ad : Nat → Nat} {ct : Nat → ClassId} {E : XE}  {Q : ST → Prop} (C : XFix D (tysF ct) (wM ad ct) rm_X5_looksAhead 6 E cX5_looksAhead RX5 wsX5_looksAhead) (x1 : Int32) (x2 : Int32) (x3 : Int32) {K : ST → Prop} (hK : ∀ (σ : ST), K σ → V l D (tysF ct) (wM ad ct) rm_X5_looksAhead 6 E 123 [(0, .ref (ad 0)), (1, .int x1), (2, .int x2), (3, .int x3)] [] σ) (hR : RetV l D (tysF ct) (wM ad ct) rm_X5_looksAhead 6 E cX5_looksAhead Q) :
    ∀ (n : Nat) (x4 : Int32) (σ : ST), wp_X5_looksAhead_L48 x1 x2 x3 K Q n x4 σ → V l D (tysF ct) (wM ad ct) rm_X5_looksAhead 6 E 48 [(0, .ref (ad 0)), (1, .int x1), (2, .int x2), (3, .int x3), (4, .int x4)] [] σ := by
  intro n
  induction n with
  | zero => intro x4 σ h; exact (h : False).elim
  | succ n ih =>
    intro x4 σ h
    unfold wp_X5_looksAhead_L48 at h
    refine x_iload C 50 rfl 4 dX5_looksAhead_48 rfl ?_
    refine x_bipush C 52 rfl 64 dX5_looksAhead_50 rfl ?_
    refine x_icmp_ge C 123 55 dX5_looksAhead_52 (by decide) rfl (fun c52 => ?_) (fun c52 => ?_)
    · have h := h.1 c52
      refine x_sub (lv' := [(0, .ref (ad 0)), (1, .int x1), (2, .int x2), (3, .int x3)]) [0, 1, 2, 3] rfl ?_
      exact hK  _ h
    · have h := h.2 c52
      refine x_aload_n C 56 rfl 0 dX5_looksAhead_55 rfl rfl ?_
      refine x_iload_n C 57 rfl 1 dX5_looksAhead_56 rfl rfl ?_
      refine x_iload_n C 58 rfl 3 dX5_looksAhead_57 rfl rfl ?_
      refine x_iconst C 59 rfl 4 dX5_looksAhead_58 rfl ?_
      refine x_idiv C 60 rfl dX5_looksAhead_59 (by decide) ?_
      refine x_iconst C 61 rfl 4 dX5_looksAhead_60 rfl ?_
      refine x_irem C 62 rfl dX5_looksAhead_61 (by decide) ?_
      refine x_iload_n C 63 rfl 3 dX5_looksAhead_62 rfl rfl ?_
      refine x_iconst C 64 rfl 4 dX5_looksAhead_63 rfl ?_
      refine x_irem C 65 rfl dX5_looksAhead_64 (by decide) ?_
      refine x_iload_n C 66 rfl 3 dX5_looksAhead_65 rfl rfl ?_
      refine x_bipush C 68 rfl 16 dX5_looksAhead_66 rfl ?_
      refine x_idiv C 69 rfl dX5_looksAhead_68 (by decide) ?_
      refine x_iload C 71 rfl 4 dX5_looksAhead_69 rfl ?_
      refine x_bipush C 73 rfl 16 dX5_looksAhead_71 rfl ?_
      refine x_idiv C 74 rfl dX5_looksAhead_73 (by decide) ?_
      refine x_iload C 76 rfl 4 dX5_looksAhead_74 rfl ?_
      refine x_iconst C 77 rfl 4 dX5_looksAhead_76 rfl ?_
      refine x_idiv C 78 rfl dX5_looksAhead_77 (by decide) ?_
      refine x_iconst C 79 rfl 4 dX5_looksAhead_78 rfl ?_
      refine x_irem C 80 rfl dX5_looksAhead_79 (by decide) ?_
      refine x_iload C 82 rfl 4 dX5_looksAhead_80 rfl ?_
      refine x_iconst C 83 rfl 4 dX5_looksAhead_82 rfl ?_
      refine x_irem C 84 rfl dX5_looksAhead_83 (by decide) ?_
      refine x_cVI C 87 rfl (m_X5_after l D ad ct _ _ _ _ _ _ _ _ _ h) (cwV 7 C.1.2.2.2.2 gX5_looksAhead_X5_after rfl rfl rfl (by decide +kernel) ⟨Nat.le_of_ble_eq_true rfl, Nat.le_of_ble_eq_true rfl⟩) ⟨0, 5, _, _, _, (gM_M ad ct _), rfl⟩ rfl rfl (Nat.le_of_ble_eq_true rfl) dX5_looksAhead_84 ?_
      intro r8 σ7 h
      refine x_istore C 89 rfl [(5, .int r8), (0, .ref (ad 0)), (1, .int x1), (2, .int x2), (3, .int x3), (4, .int x4)] dX5_looksAhead_87 (by decide) rfl ?_
      refine x_aload_n C 90 rfl 1 dX5_looksAhead_89 rfl rfl ?_
      refine x_get C 93 rfl (ref := RX5) 0 11 (gM_M ad ct _) rfl in_X5_looksAhead_X5 (by decide) fl_X5_looksAhead_38 rfl rfl dX5_looksAhead_90 ?_
      refine x_iload_n C 94 rfl 4 dX5_looksAhead_93 rfl rfl ?_
      refine x_iload C 96 rfl 0 dX5_looksAhead_94 rfl ?_
      refine x_aload_n C 97 rfl 1 dX5_looksAhead_96 rfl rfl ?_
      refine x_get C 100 rfl (ref := RX5) 0 11 (gM_M ad ct _) rfl in_X5_looksAhead_X5 (by decide) fl_X5_looksAhead_38 rfl rfl dX5_looksAhead_97 ?_
      refine x_iload_n C 101 rfl 4 dX5_looksAhead_100 rfl rfl ?_
      have i9 := h.1
      have h := h.2
      refine x_iald C 102 rfl 10 0 (gM_M_ahead ad ct _) rfl i9 dX5_looksAhead_101 ?_
      refine x_icmp_ge C 110 105 dX5_looksAhead_102 (by decide) rfl (fun c102 => ?_) (fun c102 => ?_)
      · have h := h.1 c102
        refine x_aload_n C 111 rfl 1 dX5_looksAhead_110 rfl rfl ?_
        refine x_get C 114 rfl (ref := RX5) 0 11 (gM_M ad ct _) rfl in_X5_looksAhead_X5 (by decide) fl_X5_looksAhead_38 rfl rfl dX5_looksAhead_111 ?_
        refine x_iload_n C 115 rfl 4 dX5_looksAhead_114 rfl rfl ?_
        refine x_iald C 116 rfl 10 0 (gM_M_ahead ad ct _) rfl i9 dX5_looksAhead_115 ?_
        obtain ⟨σ10, eσ10⟩ : ∃ z, z = sR σ7 10 (Int32.toNatClampNeg x3) (σ7.2.2.1 10 (Int32.toNatClampNeg x3)) := ⟨_, rfl⟩
        have h := h σ10 eσ10
        refine x_iast C 117 rfl (σ' := σ10) 10 0 (gM_M_ahead ad ct _) rfl i9 (by rw [eσ10]; exact (sM_M_ahead ad ct _)) dX5_looksAhead_116 ?_
        refine x_iinc C 120 rfl 5 (x4 + 1) [(4, .int (x4 + 1)), (5, .int r8), (0, .ref (ad 0)), (1, .int x1), (2, .int x2), (3, .int x3)] dX5_looksAhead_117 rfl rfl (by decide) rfl ?_
        refine x_goto C 48 dX5_looksAhead_120 (by decide) ?_
        refine x_sub (lv' := [(0, .ref (ad 0)), (1, .int x1), (2, .int x2), (3, .int x3), (4, .int (x4 + 1))]) [2, 3, 4, 5, 0] rfl ?_
        exact ih _ _ h
      · have h := h.2 c102
        refine x_iload C 107 rfl 0 dX5_looksAhead_105 rfl ?_
        refine x_goto C 116 dX5_looksAhead_107 (by decide) ?_
        obtain ⟨σ11, eσ11⟩ : ∃ z, z = sR σ7 10 (Int32.toNatClampNeg x3) r8 := ⟨_, rfl⟩
        have h := h σ11 eσ11
        refine x_iast C 117 rfl (σ' := σ11) 10 0 (gM_M_ahead ad ct _) rfl i9 (by rw [eσ11]; exact (sM_M_ahead ad ct _)) dX5_looksAhead_116 ?_
        refine x_iinc C 120 rfl 5 (x4 + 1) [(4, .int (x4 + 1)), (5, .int r8), (0, .ref (ad 0)), (1, .int x1), (2, .int x2), (3, .int x3)] dX5_looksAhead_117 rfl rfl (by decide) rfl ?_
        refine x_goto C 48 dX5_looksAhead_120 (by decide) ?_
        refine x_sub (lv' := [(0, .ref (ad 0)), (1, .int x1), (2, .int x2), (3, .int x3), (4, .int (x4 + 1))]) [2, 3, 4, 5, 0] rfl ?_
        exact ih _ _ h
set_option maxRecDepth 100000 in
set_option maxHeartbeats 4000000 in
theorem v_X5_looksAhead_L33 {l : Launch} {D : va_G} {ad : Nat → Nat} {ct : Nat → ClassId} {E : XE}  {Q : ST → Prop} (C : XFix D (tysF ct) (wM ad ct) rm_X5_looksAhead 6 E cX5_looksAhead RX5 wsX5_looksAhead) (x1 : Int32) (x2 : Int32) {K : ST → Prop} (hK : ∀ (σ : ST), K σ → V l D (tysF ct) (wM ad ct) rm_X5_looksAhead 6 E 129 [(0, .ref (ad 0)), (1, .int x1), (2, .int x2)] [] σ) (hR : RetV l D (tysF ct) (wM ad ct) rm_X5_looksAhead 6 E cX5_looksAhead Q) :
    ∀ (n : Nat) (x3 : Int32) (σ : ST), wp_X5_looksAhead_L33 x1 x2 K Q n x3 σ → V l D (tysF ct) (wM ad ct) rm_X5_looksAhead 6 E 33 [(0, .ref (ad 0)), (1, .int x1), (2, .int x2), (3, .int x3)] [] σ := by
  intro n
  induction n with
  | zero => intro x3 σ h; exact (h : False).elim
  | succ n ih =>
    intro x3 σ h
    unfold wp_X5_looksAhead_L33 at h
    refine x_iload_n C 34 rfl 3 dX5_looksAhead_33 rfl rfl ?_
    refine x_bipush C 36 rfl 16 dX5_looksAhead_34 rfl ?_
    refine x_aload_n C 37 rfl 0 dX5_looksAhead_36 rfl rfl ?_
    refine x_iload_n C 38 rfl 1 dX5_looksAhead_37 rfl rfl ?_
    refine x_cVI C 41 rfl (m_X5_phases l D ad ct _ _ _ h) (cwV 1 C.1.2.2.2.2 gX5_looksAhead_X5_phases rfl rfl rfl (by decide +kernel) ⟨Nat.le_of_ble_eq_true rfl, Nat.le_of_ble_eq_true rfl⟩) ⟨0, 5, _, _, _, (gM_M ad ct _), rfl⟩ rfl rfl (Nat.le_of_ble_eq_true rfl) dX5_looksAhead_38 ?_
    intro r6 σ5 h
    refine x_imul C 42 rfl dX5_looksAhead_41 ?_
    refine x_icmp_ge C 129 45 dX5_looksAhead_42 (by decide) rfl (fun c42 => ?_) (fun c42 => ?_)
    · have h := h.1 c42
      refine x_sub (lv' := [(0, .ref (ad 0)), (1, .int x1), (2, .int x2)]) [0, 1, 2] rfl ?_
      exact hK  _ h
    · have h := h.2 c42
      refine x_iconst C 46 rfl 0 dX5_looksAhead_45 rfl ?_
      refine x_istore C 48 rfl [(4, .int 0), (0, .ref (ad 0)), (1, .int x1), (2, .int x2), (3, .int x3)] dX5_looksAhead_46 (by decide) rfl ?_
      refine x_sub (lv' := [(0, .ref (ad 0)), (1, .int x1), (2, .int x2), (3, .int x3), (4, .int 0)]) [1, 2, 3, 4, 0] rfl ?_
      obtain ⟨n12, h⟩ := h
      refine v_X5_looksAhead_L48 C x1 x2 x3 ?_ hR n12 _ _ h
      · intro σ13 h
        refine x_iinc C 126 rfl 3 (x3 + 1) [(3, .int (x3 + 1)), (0, .ref (ad 0)), (1, .int x1), (2, .int x2)] dX5_looksAhead_123 rfl rfl (by decide) rfl ?_
        refine x_goto C 33 dX5_looksAhead_126 (by decide) ?_
        refine x_sub (lv' := [(0, .ref (ad 0)), (1, .int x1), (2, .int x2), (3, .int (x3 + 1))]) [1, 2, 3, 0] rfl ?_
        exact ih _ _ h
set_option maxRecDepth 100000 in
set_option maxHeartbeats 4000000 in
theorem v_X5_looksAhead_L25 {l : Launch} {D : va_G} {ad : Nat → Nat} {ct : Nat → ClassId} {E : XE}  {Q : ST → Prop} (C : XFix D (tysF ct) (wM ad ct) rm_X5_looksAhead 6 E cX5_looksAhead RX5 wsX5_looksAhead) (x1 : Int32) (hR : RetV l D (tysF ct) (wM ad ct) rm_X5_looksAhead 6 E cX5_looksAhead Q) :
    ∀ (n : Nat) (x2 : Int32) (σ : ST), wp_X5_looksAhead_L25 x1 Q n x2 σ → V l D (tysF ct) (wM ad ct) rm_X5_looksAhead 6 E 25 [(0, .ref (ad 0)), (1, .int x1), (2, .int x2)] [] σ := by
  intro n
  induction n with
  | zero => intro x2 σ h; exact (h : False).elim
  | succ n ih =>
    intro x2 σ h
    unfold wp_X5_looksAhead_L25 at h
    refine x_iload_n C 26 rfl 2 dX5_looksAhead_25 rfl rfl ?_
    refine x_bipush C 28 rfl 70 dX5_looksAhead_26 rfl ?_
    refine x_icmp_ge C 135 31 dX5_looksAhead_28 (by decide) rfl (fun c28 => ?_) (fun c28 => ?_)
    · have h := h.1 c28
      exact hR _ _ _ dX5_looksAhead_135 h
    · have h := h.2 c28
      refine x_iconst C 32 rfl 0 dX5_looksAhead_31 rfl ?_
      refine x_istore_n C 33 rfl [(3, .int 0), (0, .ref (ad 0)), (1, .int x1), (2, .int x2)] dX5_looksAhead_32 rfl (by decide) rfl ?_
      refine x_sub (lv' := [(0, .ref (ad 0)), (1, .int x1), (2, .int x2), (3, .int 0)]) [1, 2, 3, 0] rfl ?_
      obtain ⟨n14, h⟩ := h
      refine v_X5_looksAhead_L33 C x1 x2 ?_ hR n14 _ _ h
      · intro σ15 h
        refine x_iinc C 132 rfl 2 (x2 + 1) [(2, .int (x2 + 1)), (0, .ref (ad 0)), (1, .int x1)] dX5_looksAhead_129 rfl rfl (by decide) rfl ?_
        refine x_goto C 25 dX5_looksAhead_132 (by decide) ?_
        refine x_sub (lv' := [(0, .ref (ad 0)), (1, .int x1), (2, .int (x2 + 1))]) [1, 2, 0] rfl ?_
        exact ih _ _ h
set_option maxRecDepth 100000 in
set_option maxHeartbeats 4000000 in
theorem m_X5_looksAhead (l : Launch) (D : va_G) (ad : Nat → Nat) (ct : Nat → ClassId) (x1 : Int32) (σ : ST) (Q : ST → Prop) (h : wp_X5_looksAhead x1 σ Q) : CtV l D (tysF ct) (wM ad ct) yX5_looksAhead wsX5_looksAhead rm_X5_looksAhead [.ref (ad 0), .int x1] σ Q := by
  refine CtV.of (wM_adr ad ct) (maxL := 6) [(0, .ref (ad 0)), (1, .int x1)] RX5 (by decide) rfl rfl (by show (lg_sl [.ref (ad 0), .int x1]).length ≤ 6; exact Nat.le_of_ble_eq_true rfl) rfl rfl rfl ?_
  intro E C hR
  unfold wp_X5_looksAhead at h
  refine x_iconst C 1 rfl 0 dX5_looksAhead_0 rfl ?_
  refine x_istore_n C 2 rfl [(2, .int 0), (0, .ref (ad 0)), (1, .int x1)] dX5_looksAhead_1 rfl (by decide) rfl ?_
  refine x_sub (lv' := [(0, .ref (ad 0)), (1, .int x1), (2, .int 0)]) [1, 2, 0] rfl ?_
  obtain ⟨n3, h⟩ := h
  refine v_X5_looksAhead_L2 C x1 ?_ hR n3 _ _ h
  · intro σ4 h
    refine x_iconst C 24 rfl 0 dX5_looksAhead_23 rfl ?_
    refine x_istore_n C 25 rfl [(2, .int 0), (0, .ref (ad 0)), (1, .int x1)] dX5_looksAhead_24 rfl (by decide) rfl ?_
    refine x_sub (lv' := [(0, .ref (ad 0)), (1, .int x1), (2, .int 0)]) [1, 2, 0] rfl ?_
    obtain ⟨n16, h⟩ := h
    refine v_X5_looksAhead_L25 C x1 hR n16 _ _ h
