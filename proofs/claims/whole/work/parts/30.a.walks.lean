abbrev rm_X4_clear : Room := { frames := 0, cells := 0, slots := 0, locals := 0 }
theorem in_X4_clear_X4 : ∀ w ∈ u_ws RX4 TX4 7, w ∈ wsX4_clear := by decide +kernel
theorem fl_X4_clear_39 : Cond.fieldLink RX4 39 RX4 (TX4 4).2.1 (TX4 4).2.2.1 ∈ wsX4_clear := by decide +kernel
theorem fl_X4_clear_43 : Cond.fieldLink RX4 43 RX4 (TX4 6).2.1 (TX4 6).2.2.1 ∈ wsX4_clear := by decide +kernel
set_option maxRecDepth 100000 in
set_option maxHeartbeats 4000000 in
theorem m_X4_clear (l : Launch) (D : va_G) (ad : Nat → Nat) (ct : Nat → ClassId) (σ : ST) (Q : ST → Prop) (h : wp_X4_clear σ Q) : CtV l D (tysF ct) (wC ad ct) yX4_clear wsX4_clear rm_X4_clear [.ref (ad 0)] σ Q := by
  refine CtV.of (wC_adr ad ct) (maxL := 1) [(0, .ref (ad 0))] RX4 (by decide) rfl rfl (by show (lg_sl [.ref (ad 0)]).length ≤ 1; exact Nat.le_of_ble_eq_true rfl) rfl rfl rfl ?_
  intro E C hR
  unfold wp_X4_clear at h
  refine x_aload_n C 1 rfl 0 dX4_clear_0 rfl rfl ?_
  refine x_iconst C 2 rfl 0 dX4_clear_1 rfl ?_
  obtain ⟨σ1, eσ1⟩ : ∃ z, z = sI σ 0 4 0 := ⟨_, rfl⟩
  have h := h σ1 eσ1
  refine x_put C 5 rfl (ref := RX4) (ty := .int) (σ' := σ1) 0 4 (gC_J ad ct _) rfl in_X4_clear_X4 tyX4 tyX4_ok nmX4 (by decide) fl_X4_clear_39 rfl rfl (by decide +kernel) rfl rfl (by show 4 < 7; decide) (by rw [eσ1]; exact (sC_J_count ad ct _)) dX4_clear_2 ?_
  refine x_aload_n C 6 rfl 0 dX4_clear_5 rfl rfl ?_
  refine x_dup C 7 rfl dX4_clear_6 rfl ?_
  refine x_get C 10 rfl (ref := RX4) 0 6 (gC_J ad ct _) rfl in_X4_clear_X4 (by decide) fl_X4_clear_43 rfl rfl dX4_clear_7 ?_
  refine x_iconst C 11 rfl 1 dX4_clear_10 rfl ?_
  refine x_iadd C 12 rfl dX4_clear_11 ?_
  obtain ⟨σ2, eσ2⟩ : ∃ z, z = sI σ1 0 6 ((σ1.1 0 6) + 1) := ⟨_, rfl⟩
  have h := h σ2 eσ2
  refine x_put C 15 rfl (ref := RX4) (ty := .int) (σ' := σ2) 0 6 (gC_J ad ct _) rfl in_X4_clear_X4 tyX4 tyX4_ok nmX4 (by decide) fl_X4_clear_43 rfl rfl (by decide +kernel) rfl rfl (by show 6 < 7; decide) (by rw [eσ2]; exact (sC_J_changes ad ct _)) dX4_clear_12 ?_
  exact hR _ _ _ dX4_clear_15 h
abbrev rm_X4_canBe : Room := { frames := 0, cells := 0, slots := 0, locals := 0 }
set_option maxRecDepth 100000 in
set_option maxHeartbeats 4000000 in
theorem m_X4_canBe (l : Launch) (D : va_G) (ad : Nat → Nat) (ct : Nat → ClassId) (x0 : Int32) (x1 : Int32) (σ : ST) (Q : Int32 → ST → Prop) (h : wp_X4_canBe x0 x1 σ Q) : CtI l D (tysF ct) (wC ad ct) yX4_canBe wsX4_canBe rm_X4_canBe [.int x0, .int x1] σ Q := by
  refine CtI.ofZ (wC_adr ad ct) (maxL := 2) [(0, .int x0), (1, .int x1)] RX4 (by decide) rfl rfl (by show (lg_sl [.int x0, .int x1]).length ≤ 2; exact Nat.le_of_ble_eq_true rfl) rfl rfl rfl ?_
  intro E C hR
  unfold wp_X4_canBe at h
  refine x_iload_n C 1 rfl 1 dX4_canBe_0 rfl rfl ?_
  refine x_if_lt C 26 4 dX4_canBe_1 (by decide) rfl (fun c1 => ?_) (fun c1 => ?_)
  · have h := h.1 c1
    refine x_iconst C 27 rfl 0 dX4_canBe_26 rfl ?_
    exact hR _ _ _ _ dX4_canBe_27 (by decide) h
  · have h := h.2 c1
    refine x_iload_n C 5 rfl 1 dX4_canBe_4 rfl rfl ?_
    refine x_iload_n C 6 rfl 0 dX4_canBe_5 rfl rfl ?_
    refine x_if_eq C 14 9 dX4_canBe_6 (by decide) rfl (fun c6 => ?_) (fun c6 => ?_)
    · have h := h.1 c6
      refine x_iconst C 15 rfl 3 dX4_canBe_14 rfl ?_
      refine x_goto C 19 dX4_canBe_15 (by decide) ?_
      refine x_icmp_ge C 26 22 dX4_canBe_19 (by decide) rfl (fun c19 => ?_) (fun c19 => ?_)
      · have h := h.1 c19
        refine x_iconst C 27 rfl 0 dX4_canBe_26 rfl ?_
        exact hR _ _ _ _ dX4_canBe_27 (by decide) h
      · have h := h.2 c19
        refine x_iconst C 23 rfl 1 dX4_canBe_22 rfl ?_
        refine x_goto C 27 dX4_canBe_23 (by decide) ?_
        exact hR _ _ _ _ dX4_canBe_27 (by decide) h
    · have h := h.2 c6
      refine x_iload_n C 10 rfl 0 dX4_canBe_9 rfl rfl ?_
      refine x_iconst C 11 rfl 2 dX4_canBe_10 rfl ?_
      refine x_icmp_ne C 18 14 dX4_canBe_11 (by decide) rfl (fun c11 => ?_) (fun c11 => ?_)
      · have h := h.1 c11
        refine x_iconst C 19 rfl 4 dX4_canBe_18 rfl ?_
        refine x_icmp_ge C 26 22 dX4_canBe_19 (by decide) rfl (fun c19 => ?_) (fun c19 => ?_)
        · have h := h.1 c19
          refine x_iconst C 27 rfl 0 dX4_canBe_26 rfl ?_
          exact hR _ _ _ _ dX4_canBe_27 (by decide) h
        · have h := h.2 c19
          refine x_iconst C 23 rfl 1 dX4_canBe_22 rfl ?_
          refine x_goto C 27 dX4_canBe_23 (by decide) ?_
          exact hR _ _ _ _ dX4_canBe_27 (by decide) h
      · have h := h.2 c11
        refine x_iconst C 15 rfl 3 dX4_canBe_14 rfl ?_
        refine x_goto C 19 dX4_canBe_15 (by decide) ?_
        refine x_icmp_ge C 26 22 dX4_canBe_19 (by decide) rfl (fun c19 => ?_) (fun c19 => ?_)
        · have h := h.1 c19
          refine x_iconst C 27 rfl 0 dX4_canBe_26 rfl ?_
          exact hR _ _ _ _ dX4_canBe_27 (by decide) h
        · have h := h.2 c19
          refine x_iconst C 23 rfl 1 dX4_canBe_22 rfl ?_
          refine x_goto C 27 dX4_canBe_23 (by decide) ?_
          exact hR _ _ _ _ dX4_canBe_27 (by decide) h
abbrev rm_J7_fill_53178 : Room := { frames := 0, cells := 0, slots := 0, locals := 0 }
set_option maxRecDepth 100000 in
set_option maxHeartbeats 4000000 in
theorem v_J7_fill_53178_L5 {l : Launch} {D : va_G} {ad : Nat → Nat} {ct : Nat → ClassId} {E : XE}  {Q : ST → Prop} (C : XFix D (tysF ct) (wC ad ct) rm_J7_fill_53178 4 E cJ7_fill_53178 RJ7 wsJ7_fill_53178) (q nl : Nat) (hn : nl < 2147483648) (hg : ∀ σ : ST, ((wC ad ct) σ)[q]? = some (ad q, .inl (ct 0, nl, .inl (σ.2.2.1 q)))) (hs : ∀ (σ : ST) (i : Nat) (x : Int32), ((wC ad ct) σ).set q (ad q, .inl (ct 0, nl, .inl (upd (σ.2.2.1 q) i x))) = (wC ad ct) (sR σ q i x)) (x1 : Int32) (x3 : Int32) (hR : RetV l D (tysF ct) (wC ad ct) rm_J7_fill_53178 4 E cJ7_fill_53178 Q) :
    ∀ (n : Nat) (x2 : Int32) (σ : ST), wp_J7_fill_53178_L5 q nl x1 x3 Q n x2 σ → V l D (tysF ct) (wC ad ct) rm_J7_fill_53178 4 E 5 [(0, .ref (ad q)), (1, .int x1), (2, .int x2), (3, .int x3)] [] σ := by
  intro n
  induction n with
  | zero => intro x2 σ h; exact (h : False).elim
  | succ n ih =>
    intro x2 σ h
    unfold wp_J7_fill_53178_L5 at h
    refine x_iload_n C 6 rfl 2 dJ7_fill_53178_5 rfl rfl ?_
    refine x_iload_n C 7 rfl 3 dJ7_fill_53178_6 rfl rfl ?_
    refine x_icmp_ge C 20 10 dJ7_fill_53178_7 (by decide) rfl (fun c7 => ?_) (fun c7 => ?_)
    · have h := h.1 c7
      exact hR _ _ _ dJ7_fill_53178_20 h
    · have h := h.2 c7
      refine x_aload_n C 11 rfl 0 dJ7_fill_53178_10 rfl rfl ?_
      refine x_iload_n C 12 rfl 2 dJ7_fill_53178_11 rfl rfl ?_
      refine x_iload_n C 13 rfl 1 dJ7_fill_53178_12 rfl rfl ?_
      have i1 := h.1
      have h := h.2
      obtain ⟨σ2, eσ2⟩ : ∃ z, z = sR σ q (Int32.toNatClampNeg x2) x1 := ⟨_, rfl⟩
      have h := h σ2 eσ2
      refine x_iast C 14 rfl (σ' := σ2) q 0 (hg _) rfl i1 (by rw [eσ2]; exact (hs _ _ _)) dJ7_fill_53178_13 ?_
      refine x_iinc C 17 rfl 2 (x2 + 1) [(2, .int (x2 + 1)), (0, .ref (ad q)), (1, .int x1), (3, .int x3)] dJ7_fill_53178_14 rfl rfl (by decide) rfl ?_
      refine x_goto C 5 dJ7_fill_53178_17 (by decide) ?_
      refine x_sub (lv' := [(0, .ref (ad q)), (1, .int x1), (2, .int (x2 + 1)), (3, .int x3)]) [1, 2, 0, 3] rfl ?_
      exact ih _ _ h
set_option maxRecDepth 100000 in
set_option maxHeartbeats 4000000 in
theorem m_J7_fill_53178 (l : Launch) (D : va_G) (ad : Nat → Nat) (ct : Nat → ClassId) (q nl : Nat) (hn : nl < 2147483648) (hg : ∀ σ : ST, ((wC ad ct) σ)[q]? = some (ad q, .inl (ct 0, nl, .inl (σ.2.2.1 q)))) (hs : ∀ (σ : ST) (i : Nat) (x : Int32), ((wC ad ct) σ).set q (ad q, .inl (ct 0, nl, .inl (upd (σ.2.2.1 q) i x))) = (wC ad ct) (sR σ q i x)) (x1 : Int32) (σ : ST) (Q : ST → Prop) (h : wp_J7_fill_53178 q nl x1 σ Q) : CtV l D (tysF ct) (wC ad ct) yJ7_fill_53178 wsJ7_fill_53178 rm_J7_fill_53178 [.ref (ad q), .int x1] σ Q := by
  refine CtV.of (wC_adr ad ct) (maxL := 4) [(0, .ref (ad q)), (1, .int x1)] RJ7 (by decide) rfl rfl (by show (lg_sl [.ref (ad q), .int x1]).length ≤ 4; exact Nat.le_of_ble_eq_true rfl) rfl rfl rfl ?_
  intro E C hR
  unfold wp_J7_fill_53178 at h
  refine x_iconst C 1 rfl 0 dJ7_fill_53178_0 rfl ?_
  refine x_istore_n C 2 rfl [(2, .int 0), (0, .ref (ad q)), (1, .int x1)] dJ7_fill_53178_1 rfl (by decide) rfl ?_
  refine x_aload_n C 3 rfl 1 dJ7_fill_53178_2 rfl rfl ?_
  refine x_alen C 4 rfl q 0 (hg _) rfl rfl dJ7_fill_53178_3 ?_
  refine x_istore_n C 5 rfl [(3, .int (Int32.ofNat nl)), (2, .int 0), (0, .ref (ad q)), (1, .int x1)] dJ7_fill_53178_4 rfl (by decide) rfl ?_
  refine x_sub (lv' := [(0, .ref (ad q)), (1, .int x1), (2, .int 0), (3, .int (Int32.ofNat nl))]) [2, 3, 1, 0] rfl ?_
  obtain ⟨n3, h⟩ := h
  refine v_J7_fill_53178_L5 C q nl hn hg hs x1 (Int32.ofNat nl) hR n3 _ _ h
abbrev rm_X2_come : Room := { frames := 1, cells := 0, slots := 0, locals := 23 }
theorem in_X2_come_X2 : ∀ w ∈ u_ws RX2 TX2 9, w ∈ wsX2_come := by decide +kernel
theorem fl_X2_come_15 : Cond.fieldLink RX2 15 RX2 (TX2 1).2.1 (TX2 1).2.2.1 ∈ wsX2_come := by decide +kernel
theorem fl_X2_come_19 : Cond.fieldLink RX2 19 RX2 (TX2 2).2.1 (TX2 2).2.2.1 ∈ wsX2_come := by decide +kernel
theorem fl_X2_come_22 : Cond.fieldLink RX2 22 RX2 (TX2 6).2.1 (TX2 6).2.2.1 ∈ wsX2_come := by decide +kernel
theorem fl_X2_come_25 : Cond.fieldLink RX2 25 RX2 (TX2 7).2.1 (TX2 7).2.2.1 ∈ wsX2_come := by decide +kernel
theorem fl_X2_come_29 : Cond.fieldLink RX2 29 RX2 (TX2 8).2.1 (TX2 8).2.2.1 ∈ wsX2_come := by decide +kernel
theorem fl_X2_come_32 : Cond.fieldLink RX2 32 RX2 (TX2 3).2.1 (TX2 3).2.2.1 ∈ wsX2_come := by decide +kernel
theorem fl_X2_come_35 : Cond.fieldLink RX2 35 RX2 (TX2 4).2.1 (TX2 4).2.2.1 ∈ wsX2_come := by decide +kernel
theorem fl_X2_come_38 : Cond.fieldLink RX2 38 RX2 (TX2 5).2.1 (TX2 5).2.2.1 ∈ wsX2_come := by decide +kernel
theorem fl_X2_come_9 : Cond.fieldLink RX2 9 RX2 (TX2 0).2.1 (TX2 0).2.2.1 ∈ wsX2_come := by decide +kernel
set_option maxRecDepth 100000 in
set_option maxHeartbeats 4000000 in
theorem m_X2_come (l : Launch) (D : va_G) (ad : Nat → Nat) (ct : Nat → ClassId) (k : Nat) (hk : k < 3) (x1 : Int32) (x2 : Int32) (x3 : Int64) (x5 : Int64) (σ : ST) (Q : ST → Prop) (h : wp_X2_come k x1 x2 x3 x5 σ Q) : CtV l D (tysF ct) (wC ad ct) yX2_come wsX2_come rm_X2_come [.ref (ad (4 + 2 * k)), .int x1, .int x2, .long x3, .long x5] σ Q := by
  refine CtV.of (wC_adr ad ct) (maxL := 7) [(0, .ref (ad (4 + 2 * k))), (1, .int x1), (2, .int x2), (3, .long x3), (5, .long x5)] RX2 (by decide) rfl rfl (by show (lg_sl [.ref (ad (4 + 2 * k)), .int x1, .int x2, .long x3, .long x5]).length ≤ 7; exact Nat.le_of_ble_eq_true rfl) rfl rfl rfl ?_
  intro E C hR
  unfold wp_X2_come at h
  refine x_aload_n C 1 rfl 0 dX2_come_0 rfl rfl ?_
  refine x_iload_n C 2 rfl 1 dX2_come_1 rfl rfl ?_
  obtain ⟨σ1, eσ1⟩ : ∃ z, z = sI σ (4 + 2 * k) 1 x1 := ⟨_, rfl⟩
  have h := h σ1 eσ1
  refine x_put C 5 rfl (ref := RX2) (ty := .int) (σ' := σ1) (4 + 2 * k) 1 (gC_T ad ct _ hk) rfl in_X2_come_X2 tyX2 tyX2_ok nmX2 (by decide) fl_X2_come_15 rfl rfl (by decide +kernel) rfl rfl (by show 1 < 9; decide) (by rw [eσ1]; exact (sC_T_kind ad ct _ hk)) dX2_come_2 ?_
  refine x_aload_n C 6 rfl 0 dX2_come_5 rfl rfl ?_
  refine x_iload_n C 7 rfl 2 dX2_come_6 rfl rfl ?_
  obtain ⟨σ2, eσ2⟩ : ∃ z, z = sI σ1 (4 + 2 * k) 2 x2 := ⟨_, rfl⟩
  have h := h σ2 eσ2
  refine x_put C 10 rfl (ref := RX2) (ty := .int) (σ' := σ2) (4 + 2 * k) 2 (gC_T ad ct _ hk) rfl in_X2_come_X2 tyX2 tyX2_ok nmX2 (by decide) fl_X2_come_19 rfl rfl (by decide +kernel) rfl rfl (by show 2 < 9; decide) (by rw [eσ2]; exact (sC_T_first ad ct _ hk)) dX2_come_7 ?_
  refine x_aload_n C 11 rfl 0 dX2_come_10 rfl rfl ?_
  refine x_iload_n C 12 rfl 2 dX2_come_11 rfl rfl ?_
  obtain ⟨σ3, eσ3⟩ : ∃ z, z = sI σ2 (4 + 2 * k) 6 x2 := ⟨_, rfl⟩
  have h := h σ3 eσ3
  refine x_put C 15 rfl (ref := RX2) (ty := .int) (σ' := σ3) (4 + 2 * k) 6 (gC_T ad ct _ hk) rfl in_X2_come_X2 tyX2 tyX2_ok nmX2 (by decide) fl_X2_come_22 rfl rfl (by decide +kernel) rfl rfl (by show 6 < 9; decide) (by rw [eσ3]; exact (sC_T_now ad ct _ hk)) dX2_come_12 ?_
  refine x_aload_n C 16 rfl 0 dX2_come_15 rfl rfl ?_
  refine x_lload_n C 17 rfl 3 dX2_come_16 rfl rfl ?_
  obtain ⟨σ4, eσ4⟩ : ∃ z, z = sL σ3 (4 + 2 * k) 7 x3 := ⟨_, rfl⟩
  have h := h σ4 eσ4
  refine x_put C 20 rfl (ref := RX2) (ty := .long) (σ' := σ4) (4 + 2 * k) 7 (gC_T ad ct _ hk) rfl in_X2_come_X2 tyX2 tyX2_ok nmX2 (by decide) fl_X2_come_25 rfl rfl (by decide +kernel) rfl rfl (by show 7 < 9; decide) (by rw [eσ4]; exact (sC_T_nexts ad ct _ hk)) dX2_come_17 ?_
  refine x_aload_n C 21 rfl 0 dX2_come_20 rfl rfl ?_
  refine x_lload C 23 rfl 4 dX2_come_21 rfl ?_
  obtain ⟨σ5, eσ5⟩ : ∃ z, z = sL σ4 (4 + 2 * k) 8 x5 := ⟨_, rfl⟩
  have h := h σ5 eσ5
  refine x_put C 26 rfl (ref := RX2) (ty := .long) (σ' := σ5) (4 + 2 * k) 8 (gC_T ad ct _ hk) rfl in_X2_come_X2 tyX2 tyX2_ok nmX2 (by decide) fl_X2_come_29 rfl rfl (by decide +kernel) rfl rfl (by show 8 < 9; decide) (by rw [eσ5]; exact (sC_T_answers ad ct _ hk)) dX2_come_23 ?_
  refine x_aload_n C 27 rfl 0 dX2_come_26 rfl rfl ?_
  refine x_iconst C 28 rfl 0 dX2_come_27 rfl ?_
  obtain ⟨σ6, eσ6⟩ : ∃ z, z = sI σ5 (4 + 2 * k) 3 0 := ⟨_, rfl⟩
  have h := h σ6 eσ6
  refine x_put C 31 rfl (ref := RX2) (ty := .int) (σ' := σ6) (4 + 2 * k) 3 (gC_T ad ct _ hk) rfl in_X2_come_X2 tyX2 tyX2_ok nmX2 (by decide) fl_X2_come_32 rfl rfl (by decide +kernel) rfl rfl (by show 3 < 9; decide) (by rw [eσ6]; exact (sC_T_wall ad ct _ hk)) dX2_come_28 ?_
  refine x_aload_n C 32 rfl 0 dX2_come_31 rfl rfl ?_
  refine x_iconst C 33 rfl 1 dX2_come_32 rfl ?_
  obtain ⟨σ7, eσ7⟩ : ∃ z, z = sI σ6 (4 + 2 * k) 4 1 := ⟨_, rfl⟩
  have h := h σ7 eσ7
  refine x_put C 36 rfl (ref := RX2) (ty := .int) (σ' := σ7) (4 + 2 * k) 4 (gC_T ad ct _ hk) rfl in_X2_come_X2 tyX2 tyX2_ok nmX2 (by decide) fl_X2_come_35 rfl rfl (by decide +kernel) rfl rfl (by show 4 < 9; decide) (by rw [eσ7]; exact (sC_T_cleaned ad ct _ hk)) dX2_come_33 ?_
  refine x_aload_n C 37 rfl 0 dX2_come_36 rfl rfl ?_
  refine x_iconst C 38 rfl 0 dX2_come_37 rfl ?_
  obtain ⟨σ8, eσ8⟩ : ∃ z, z = sI σ7 (4 + 2 * k) 5 0 := ⟨_, rfl⟩
  have h := h σ8 eσ8
  refine x_put C 41 rfl (ref := RX2) (ty := .int) (σ' := σ8) (4 + 2 * k) 5 (gC_T ad ct _ hk) rfl in_X2_come_X2 tyX2 tyX2_ok nmX2 (by decide) fl_X2_come_38 rfl rfl (by decide +kernel) rfl rfl (by show 5 < 9; decide) (by rw [eσ8]; exact (sC_T_padded ad ct _ hk)) dX2_come_38 ?_
  refine x_aload_n C 42 rfl 0 dX2_come_41 rfl rfl ?_
  refine x_get C 45 rfl (ref := RX2) (4 + 2 * k) 0 (gC_T ad ct _ hk) rfl in_X2_come_X2 (by decide) fl_X2_come_9 rfl rfl dX2_come_42 ?_
  refine x_iconst C 46 rfl 1 dX2_come_45 rfl ?_
  refine x_cSV C 49 rfl (m_J7_fill_53178 l D ad ct (5 + 2 * k) 4 (by decide) (fun σ => gC_T_prices ad ct σ hk) (fun σ i x => sC_T_prices ad ct σ hk) _ _ _ h) (va_cwS 2 C.1.2.2.2.2 gX2_come_J7_fill_53178 rfl rfl rfl (by decide +kernel) ⟨Nat.le_of_ble_eq_true rfl, Nat.le_of_ble_eq_true rfl⟩) rfl rfl (Nat.le_of_ble_eq_true rfl) dX2_come_46 ?_
  intro σ9 h
  refine x_aload_n C 50 rfl 0 dX2_come_49 rfl rfl ?_
  refine x_get C 53 rfl (ref := RX2) (4 + 2 * k) 0 (gC_T ad ct _ hk) rfl in_X2_come_X2 (by decide) fl_X2_come_9 rfl rfl dX2_come_50 ?_
  refine x_iconst C 54 rfl 0 dX2_come_53 rfl ?_
  refine x_iconst C 55 rfl 0 dX2_come_54 rfl ?_
  obtain ⟨σ10, eσ10⟩ : ∃ z, z = sR σ9 (5 + 2 * k) (Int32.toNatClampNeg 0) 0 := ⟨_, rfl⟩
  have h := h σ10 eσ10
  refine x_iast C 56 rfl (σ' := σ10) (5 + 2 * k) 0 (gC_T_prices ad ct _ hk) rfl (by unfold vp_in; decide) (by rw [eσ10]; exact (sC_T_prices ad ct _ hk)) dX2_come_55 ?_
  exact hR _ _ _ dX2_come_56 h
abbrev rm_X4_come : Room := { frames := 2, cells := 0, slots := 0, locals := 49 }
theorem in_X4_come_X4 : ∀ w ∈ u_ws RX4 TX4 7, w ∈ wsX4_come := by decide +kernel
theorem fl_X4_come_39 : Cond.fieldLink RX4 39 RX4 (TX4 4).2.1 (TX4 4).2.2.1 ∈ wsX4_come := by decide +kernel
theorem fl_X4_come_11 : Cond.fieldLink RX4 11 RX4 (TX4 0).2.1 (TX4 0).2.2.1 ∈ wsX4_come := by decide +kernel
theorem fl_X4_come_43 : Cond.fieldLink RX4 43 RX4 (TX4 6).2.1 (TX4 6).2.2.1 ∈ wsX4_come := by decide +kernel
set_option maxRecDepth 100000 in
set_option maxHeartbeats 4000000 in
theorem m_X4_come (l : Launch) (D : va_G) (ad : Nat → Nat) (ct : Nat → ClassId) (x1 : Int32) (x2 : Int32) (x3 : Int64) (x5 : Int64) (σ : ST) (Q : Int32 → ST → Prop) (h : wp_X4_come x1 x2 x3 x5 σ Q) : CtI l D (tysF ct) (wC ad ct) yX4_come wsX4_come rm_X4_come [.ref (ad 0), .int x1, .int x2, .long x3, .long x5] σ Q := by
  refine CtI.of (wC_adr ad ct) (maxL := 7) [(0, .ref (ad 0)), (1, .int x1), (2, .int x2), (3, .long x3), (5, .long x5)] RX4 (by decide) rfl rfl (by show (lg_sl [.ref (ad 0), .int x1, .int x2, .long x3, .long x5]).length ≤ 7; exact Nat.le_of_ble_eq_true rfl) rfl rfl rfl ?_
  intro E C hR
  unfold wp_X4_come at h
  refine x_aload_n C 1 rfl 0 dX4_come_0 rfl rfl ?_
  refine x_get C 4 rfl (ref := RX4) 0 4 (gC_J ad ct _) rfl in_X4_come_X4 (by decide) fl_X4_come_39 rfl rfl dX4_come_1 ?_
  refine x_iconst C 5 rfl 3 dX4_come_4 rfl ?_
  refine x_icmp_ge C 16 8 dX4_come_5 (by decide) rfl (fun c5 => ?_) (fun c5 => ?_)
  · have h := h.1 c5
    refine x_iconst C 17 rfl (-1) dX4_come_16 rfl ?_
    exact hR _ _ _ _ dX4_come_17 h
  · have h := h.2 c5
    refine x_iload_n C 9 rfl 1 dX4_come_8 rfl rfl ?_
    refine x_iload_n C 10 rfl 2 dX4_come_9 rfl rfl ?_
    refine x_cSI C 13 rfl (m_X4_canBe l D ad ct _ _ _ _ h) (va_cwS 2 C.1.2.2.2.2 gX4_come_X4_canBe rfl rfl rfl (by decide +kernel) ⟨Nat.le_of_ble_eq_true rfl, Nat.le_of_ble_eq_true rfl⟩) rfl rfl (Nat.le_of_ble_eq_true rfl) dX4_come_10 ?_
    intro r2 σ1 h
    refine x_if_ne C 18 16 dX4_come_13 (by decide) rfl (fun c13 => ?_) (fun c13 => ?_)
    · have h := h.1 c13
      refine x_aload_n C 19 rfl 0 dX4_come_18 rfl rfl ?_
      refine x_get C 22 rfl (ref := RX4) 0 0 (gC_J ad ct _) rfl in_X4_come_X4 (by decide) fl_X4_come_11 rfl rfl dX4_come_19 ?_
      refine x_aload_n C 23 rfl 0 dX4_come_22 rfl rfl ?_
      refine x_get C 26 rfl (ref := RX4) 0 4 (gC_J ad ct _) rfl in_X4_come_X4 (by decide) fl_X4_come_39 rfl rfl dX4_come_23 ?_
      have i3 := h.1
      have h := h.2
      have hk4 : (Int32.toNatClampNeg (σ1.1 0 4)) < 3 := Nat.not_le.mp fun q => i3 (Or.inr q)
      refine x_aald C 27 rfl (q := ad (4 + 2 * (Int32.toNatClampNeg (σ1.1 0 4)))) 1 2 (gC_J_things ad ct _) rfl i3 rfl dX4_come_26 ?_
      refine x_iload_n C 28 rfl 1 dX4_come_27 rfl rfl ?_
      refine x_iload_n C 29 rfl 2 dX4_come_28 rfl rfl ?_
      refine x_lload_n C 30 rfl 3 dX4_come_29 rfl rfl ?_
      refine x_lload C 32 rfl 4 dX4_come_30 rfl ?_
      refine x_cVV C 35 rfl (m_X2_come l D ad ct (Int32.toNatClampNeg (σ1.1 0 4)) hk4 _ _ _ _ _ _ h) (cwV 4 C.1.2.2.2.2 gX4_come_X2_come rfl rfl rfl (by decide +kernel) ⟨Nat.le_of_ble_eq_true rfl, Nat.le_of_ble_eq_true rfl⟩) ⟨(4 + 2 * (Int32.toNatClampNeg (σ1.1 0 4))), 2, _, _, _, (gC_T ad ct _ hk4), rfl⟩ rfl rfl (Nat.le_of_ble_eq_true rfl) dX4_come_32 ?_
      intro σ5 h
      refine x_aload_n C 36 rfl 0 dX4_come_35 rfl rfl ?_
      refine x_dup C 37 rfl dX4_come_36 rfl ?_
      refine x_get C 40 rfl (ref := RX4) 0 4 (gC_J ad ct _) rfl in_X4_come_X4 (by decide) fl_X4_come_39 rfl rfl dX4_come_37 ?_
      refine x_iconst C 41 rfl 1 dX4_come_40 rfl ?_
      refine x_iadd C 42 rfl dX4_come_41 ?_
      obtain ⟨σ6, eσ6⟩ : ∃ z, z = sI σ5 0 4 ((σ5.1 0 4) + 1) := ⟨_, rfl⟩
      have h := h σ6 eσ6
      refine x_put C 45 rfl (ref := RX4) (ty := .int) (σ' := σ6) 0 4 (gC_J ad ct _) rfl in_X4_come_X4 tyX4 tyX4_ok nmX4 (by decide) fl_X4_come_39 rfl rfl (by decide +kernel) rfl rfl (by show 4 < 7; decide) (by rw [eσ6]; exact (sC_J_count ad ct _)) dX4_come_42 ?_
      refine x_aload_n C 46 rfl 0 dX4_come_45 rfl rfl ?_
      refine x_dup C 47 rfl dX4_come_46 rfl ?_
      refine x_get C 50 rfl (ref := RX4) 0 6 (gC_J ad ct _) rfl in_X4_come_X4 (by decide) fl_X4_come_43 rfl rfl dX4_come_47 ?_
      refine x_iconst C 51 rfl 1 dX4_come_50 rfl ?_
      refine x_iadd C 52 rfl dX4_come_51 ?_
      obtain ⟨σ7, eσ7⟩ : ∃ z, z = sI σ6 0 6 ((σ6.1 0 6) + 1) := ⟨_, rfl⟩
      have h := h σ7 eσ7
      refine x_put C 55 rfl (ref := RX4) (ty := .int) (σ' := σ7) 0 6 (gC_J ad ct _) rfl in_X4_come_X4 tyX4 tyX4_ok nmX4 (by decide) fl_X4_come_43 rfl rfl (by decide +kernel) rfl rfl (by show 6 < 7; decide) (by rw [eσ7]; exact (sC_J_changes ad ct _)) dX4_come_52 ?_
      refine x_aload_n C 56 rfl 0 dX4_come_55 rfl rfl ?_
      refine x_get C 59 rfl (ref := RX4) 0 4 (gC_J ad ct _) rfl in_X4_come_X4 (by decide) fl_X4_come_39 rfl rfl dX4_come_56 ?_
      refine x_iconst C 60 rfl 1 dX4_come_59 rfl ?_
      refine x_isub C 61 rfl dX4_come_60 ?_
      exact hR _ _ _ _ dX4_come_61 h
    · have h := h.2 c13
      refine x_iconst C 17 rfl (-1) dX4_come_16 rfl ?_
      exact hR _ _ _ _ dX4_come_17 h
abbrev rm_X4_thing : Room := { frames := 3, cells := 0, slots := 0, locals := 75 }
set_option maxRecDepth 100000 in
set_option maxHeartbeats 4000000 in
theorem m_X4_thing (l : Launch) (D : va_G) (ad : Nat → Nat) (ct : Nat → ClassId) (x1 : Int32) (x2 : Int32) (σ : ST) (Q : Int32 → ST → Prop) (h : wp_X4_thing x1 x2 σ Q) : CtI l D (tysF ct) (wC ad ct) yX4_thing wsX4_thing rm_X4_thing [.ref (ad 0), .int x1, .int x2] σ Q := by
  refine CtI.of (wC_adr ad ct) (maxL := 3) [(0, .ref (ad 0)), (1, .int x1), (2, .int x2)] RX4 (by decide) rfl rfl (by show (lg_sl [.ref (ad 0), .int x1, .int x2]).length ≤ 3; exact Nat.le_of_ble_eq_true rfl) rfl rfl rfl ?_
  intro E C hR
  unfold wp_X4_thing at h
  refine x_iload_n C 1 rfl 1 dX4_thing_0 rfl rfl ?_
  refine x_if_lt C 9 4 dX4_thing_1 (by decide) rfl (fun c1 => ?_) (fun c1 => ?_)
  · have h := h.1 c1
    refine x_iconst C 10 rfl (-1) dX4_thing_9 rfl ?_
    refine x_goto C 21 dX4_thing_10 (by decide) ?_
    exact hR _ _ _ _ dX4_thing_21 h
  · have h := h.2 c1
    refine x_iload_n C 5 rfl 1 dX4_thing_4 rfl rfl ?_
    refine x_iconst C 6 rfl 3 dX4_thing_5 rfl ?_
    refine x_icmp_le C 13 9 dX4_thing_6 (by decide) rfl (fun c6 => ?_) (fun c6 => ?_)
    · have h := h.1 c6
      refine x_aload_n C 14 rfl 0 dX4_thing_13 rfl rfl ?_
      refine x_iload_n C 15 rfl 1 dX4_thing_14 rfl rfl ?_
      refine x_iload_n C 16 rfl 2 dX4_thing_15 rfl rfl ?_
      refine x_lconst C 17 rfl 0 dX4_thing_16 rfl ?_
      refine x_lconst C 18 rfl 0 dX4_thing_17 rfl ?_
      refine x_cVI C 21 rfl (m_X4_come l D ad ct _ _ _ _ _ _ h) (cwV 4 C.1.2.2.2.2 gX4_thing_X4_come rfl rfl rfl (by decide +kernel) ⟨Nat.le_of_ble_eq_true rfl, Nat.le_of_ble_eq_true rfl⟩) ⟨0, 4, _, _, _, (gC_J ad ct _), rfl⟩ rfl rfl (Nat.le_of_ble_eq_true rfl) dX4_thing_18 ?_
      intro r2 σ1 h
      exact hR _ _ _ _ dX4_thing_21 h
    · have h := h.2 c6
      refine x_iconst C 10 rfl (-1) dX4_thing_9 rfl ?_
      refine x_goto C 21 dX4_thing_10 (by decide) ?_
      exact hR _ _ _ _ dX4_thing_21 h
abbrev rm_X4_table : Room := { frames := 3, cells := 0, slots := 0, locals := 75 }
set_option maxRecDepth 100000 in
set_option maxHeartbeats 4000000 in
theorem m_X4_table (l : Launch) (D : va_G) (ad : Nat → Nat) (ct : Nat → ClassId) (x1 : Int32) (x2 : Int64) (x4 : Int64) (σ : ST) (Q : Int32 → ST → Prop) (h : wp_X4_table x1 x2 x4 σ Q) : CtI l D (tysF ct) (wC ad ct) yX4_table wsX4_table rm_X4_table [.ref (ad 0), .int x1, .long x2, .long x4] σ Q := by
  refine CtI.of (wC_adr ad ct) (maxL := 6) [(0, .ref (ad 0)), (1, .int x1), (2, .long x2), (4, .long x4)] RX4 (by decide) rfl rfl (by show (lg_sl [.ref (ad 0), .int x1, .long x2, .long x4]).length ≤ 6; exact Nat.le_of_ble_eq_true rfl) rfl rfl rfl ?_
  intro E C hR
  unfold wp_X4_table at h
  refine x_aload_n C 1 rfl 0 dX4_table_0 rfl rfl ?_
  refine x_iconst C 2 rfl 4 dX4_table_1 rfl ?_
  refine x_iload_n C 3 rfl 1 dX4_table_2 rfl rfl ?_
  refine x_lload_n C 4 rfl 2 dX4_table_3 rfl rfl ?_
  refine x_lload C 6 rfl 3 dX4_table_4 rfl ?_
  refine x_cVI C 9 rfl (m_X4_come l D ad ct _ _ _ _ _ _ h) (cwV 4 C.1.2.2.2.2 gX4_table_X4_come rfl rfl rfl (by decide +kernel) ⟨Nat.le_of_ble_eq_true rfl, Nat.le_of_ble_eq_true rfl⟩) ⟨0, 4, _, _, _, (gC_J ad ct _), rfl⟩ rfl rfl (Nat.le_of_ble_eq_true rfl) dX4_table_6 ?_
  intro r2 σ1 h
  exact hR _ _ _ _ dX4_table_9 h
abbrev rm_X4_isThing : Room := { frames := 0, cells := 0, slots := 0, locals := 0 }
theorem in_X4_isThing_X4 : ∀ w ∈ u_ws RX4 TX4 7, w ∈ wsX4_isThing := by decide +kernel
theorem fl_X4_isThing_39 : Cond.fieldLink RX4 39 RX4 (TX4 4).2.1 (TX4 4).2.2.1 ∈ wsX4_isThing := by decide +kernel
set_option maxRecDepth 100000 in
set_option maxHeartbeats 4000000 in
theorem m_X4_isThing (l : Launch) (D : va_G) (ad : Nat → Nat) (ct : Nat → ClassId) (x1 : Int32) (σ : ST) (Q : Int32 → ST → Prop) (h : wp_X4_isThing x1 σ Q) : CtI l D (tysF ct) (wC ad ct) yX4_isThing wsX4_isThing rm_X4_isThing [.ref (ad 0), .int x1] σ Q := by
  refine CtI.ofZ (wC_adr ad ct) (maxL := 2) [(0, .ref (ad 0)), (1, .int x1)] RX4 (by decide) rfl rfl (by show (lg_sl [.ref (ad 0), .int x1]).length ≤ 2; exact Nat.le_of_ble_eq_true rfl) rfl rfl rfl ?_
  intro E C hR
  unfold wp_X4_isThing at h
  refine x_iload_n C 1 rfl 1 dX4_isThing_0 rfl rfl ?_
  refine x_if_lt C 16 4 dX4_isThing_1 (by decide) rfl (fun c1 => ?_) (fun c1 => ?_)
  · have h := h.1 c1
    refine x_iconst C 17 rfl 0 dX4_isThing_16 rfl ?_
    exact hR _ _ _ _ dX4_isThing_17 (by decide) h
  · have h := h.2 c1
    refine x_iload_n C 5 rfl 1 dX4_isThing_4 rfl rfl ?_
    refine x_aload_n C 6 rfl 0 dX4_isThing_5 rfl rfl ?_
    refine x_get C 9 rfl (ref := RX4) 0 4 (gC_J ad ct _) rfl in_X4_isThing_X4 (by decide) fl_X4_isThing_39 rfl rfl dX4_isThing_6 ?_
    refine x_icmp_ge C 16 12 dX4_isThing_9 (by decide) rfl (fun c9 => ?_) (fun c9 => ?_)
    · have h := h.1 c9
      refine x_iconst C 17 rfl 0 dX4_isThing_16 rfl ?_
      exact hR _ _ _ _ dX4_isThing_17 (by decide) h
    · have h := h.2 c9
      refine x_iconst C 13 rfl 1 dX4_isThing_12 rfl ?_
      refine x_goto C 17 dX4_isThing_13 (by decide) ?_
      exact hR _ _ _ _ dX4_isThing_17 (by decide) h
abbrev rm_X4_canHave : Room := { frames := 0, cells := 0, slots := 0, locals := 0 }
set_option maxRecDepth 100000 in
set_option maxHeartbeats 4000000 in
theorem m_X4_canHave (l : Launch) (D : va_G) (ad : Nat → Nat) (ct : Nat → ClassId) (x0 : Int32) (x1 : Int32) (σ : ST) (Q : Int32 → ST → Prop) (h : wp_X4_canHave x0 x1 σ Q) : CtI l D (tysF ct) (wC ad ct) yX4_canHave wsX4_canHave rm_X4_canHave [.int x0, .int x1] σ Q := by
  refine CtI.ofZ (wC_adr ad ct) (maxL := 2) [(0, .int x0), (1, .int x1)] RX4 (by decide) rfl rfl (by show (lg_sl [.int x0, .int x1]).length ≤ 2; exact Nat.le_of_ble_eq_true rfl) rfl rfl rfl ?_
  intro E C hR
  unfold wp_X4_canHave at h
  refine x_iload_n C 1 rfl 0 dX4_canHave_0 rfl rfl ?_
  by_cases t1_0 : x0 = 0
  · have h := h.1 t1_0
    refine x_top t1_0 ?_
    refine x_tsIn C 32 31 dX4_canHave_1 (by decide) (by decide) (by decide) (by decide) ?_
    refine x_iconst C 33 rfl 1 dX4_canHave_32 rfl ?_
    exact hR _ _ _ _ dX4_canHave_33 (by decide) h
  · have h := h.2 t1_0
    by_cases t1_1 : x0 = 1
    · have h := h.1 t1_1
      refine x_top t1_1 ?_
      refine x_tsIn C 34 33 dX4_canHave_1 (by decide) (by decide) (by decide) (by decide) ?_
      refine x_iload_n C 35 rfl 1 dX4_canHave_34 rfl rfl ?_
      refine x_iconst C 36 rfl 1 dX4_canHave_35 rfl ?_
      refine x_icmp_lt C 48 39 dX4_canHave_36 (by decide) rfl (fun c36 => ?_) (fun c36 => ?_)
      · have h := h.1 c36
        refine x_iconst C 49 rfl 0 dX4_canHave_48 rfl ?_
        exact hR _ _ _ _ dX4_canHave_49 (by decide) h
      · have h := h.2 c36
        refine x_iload_n C 40 rfl 1 dX4_canHave_39 rfl rfl ?_
        refine x_iconst C 41 rfl 4 dX4_canHave_40 rfl ?_
        refine x_icmp_gt C 48 44 dX4_canHave_41 (by decide) rfl (fun c41 => ?_) (fun c41 => ?_)
        · have h := h.1 c41
          refine x_iconst C 49 rfl 0 dX4_canHave_48 rfl ?_
          exact hR _ _ _ _ dX4_canHave_49 (by decide) h
        · have h := h.2 c41
          refine x_iconst C 45 rfl 1 dX4_canHave_44 rfl ?_
          refine x_goto C 49 dX4_canHave_45 (by decide) ?_
          exact hR _ _ _ _ dX4_canHave_49 (by decide) h
    · have h := h.2 t1_1
      by_cases t1_2 : x0 = 2
      · have h := h.1 t1_2
        refine x_top t1_2 ?_
        refine x_tsIn C 32 31 dX4_canHave_1 (by decide) (by decide) (by decide) (by decide) ?_
        refine x_iconst C 33 rfl 1 dX4_canHave_32 rfl ?_
        exact hR _ _ _ _ dX4_canHave_33 (by decide) h
      · have h := h.2 t1_2
        by_cases t1_3 : x0 = 3
        · have h := h.1 t1_3
          refine x_top t1_3 ?_
          refine x_tsIn C 50 49 dX4_canHave_1 (by decide) (by decide) (by decide) (by decide) ?_
          refine x_iload_n C 51 rfl 1 dX4_canHave_50 rfl rfl ?_
          refine x_if_lt C 63 54 dX4_canHave_51 (by decide) rfl (fun c51 => ?_) (fun c51 => ?_)
          · have h := h.1 c51
            refine x_iconst C 64 rfl 0 dX4_canHave_63 rfl ?_
            exact hR _ _ _ _ dX4_canHave_64 (by decide) h
          · have h := h.2 c51
            refine x_iload_n C 55 rfl 1 dX4_canHave_54 rfl rfl ?_
            refine x_iconst C 56 rfl 3 dX4_canHave_55 rfl ?_
            refine x_icmp_gt C 63 59 dX4_canHave_56 (by decide) rfl (fun c56 => ?_) (fun c56 => ?_)
            · have h := h.1 c56
              refine x_iconst C 64 rfl 0 dX4_canHave_63 rfl ?_
              exact hR _ _ _ _ dX4_canHave_64 (by decide) h
            · have h := h.2 c56
              refine x_iconst C 60 rfl 1 dX4_canHave_59 rfl ?_
              refine x_goto C 64 dX4_canHave_60 (by decide) ?_
              exact hR _ _ _ _ dX4_canHave_64 (by decide) h
        · have h := h.2 t1_3
          refine x_tsOut C 65 dX4_canHave_1 (by have a0 := tne t1_0 (k := 0) (by decide); have a1 := tne t1_1 (k := 1) (by decide); have a2 := tne t1_2 (k := 2) (by decide); have a3 := tne t1_3 (k := 3) (by decide); omega) (by decide) ?_
          refine x_iconst C 66 rfl 0 dX4_canHave_65 rfl ?_
          exact hR _ _ _ _ dX4_canHave_66 (by decide) h
abbrev rm_X2_keep : Room := { frames := 0, cells := 0, slots := 0, locals := 0 }
theorem in_X2_keep_X2 : ∀ w ∈ u_ws RX2 TX2 9, w ∈ wsX2_keep := by decide +kernel
theorem fl_X2_keep_38 : Cond.fieldLink RX2 38 RX2 (TX2 5).2.1 (TX2 5).2.2.1 ∈ wsX2_keep := by decide +kernel
theorem fl_X2_keep_35 : Cond.fieldLink RX2 35 RX2 (TX2 4).2.1 (TX2 4).2.2.1 ∈ wsX2_keep := by decide +kernel
set_option maxRecDepth 100000 in
set_option maxHeartbeats 4000000 in
theorem m_X2_keep (l : Launch) (D : va_G) (ad : Nat → Nat) (ct : Nat → ClassId) (k : Nat) (hk : k < 3) (x1 : Int32) (x2 : Int32) (σ : ST) (Q : ST → Prop) (h : wp_X2_keep k x1 x2 σ Q) : CtV l D (tysF ct) (wC ad ct) yX2_keep wsX2_keep rm_X2_keep [.ref (ad (4 + 2 * k)), .int x1, .int x2] σ Q := by
  refine CtV.of (wC_adr ad ct) (maxL := 3) [(0, .ref (ad (4 + 2 * k))), (1, .int x1), (2, .int x2)] RX2 (by decide) rfl rfl (by show (lg_sl [.ref (ad (4 + 2 * k)), .int x1, .int x2]).length ≤ 3; exact Nat.le_of_ble_eq_true rfl) rfl rfl rfl ?_
  intro E C hR
  unfold wp_X2_keep at h
  refine x_iload_n C 1 rfl 1 dX2_keep_0 rfl rfl ?_
  refine x_iconst C 2 rfl 1 dX2_keep_1 rfl ?_
  refine x_icmp_ne C 13 5 dX2_keep_2 (by decide) rfl (fun c2 => ?_) (fun c2 => ?_)
  · have h := h.1 c2
    refine x_iload_n C 14 rfl 1 dX2_keep_13 rfl rfl ?_
    refine x_iconst C 15 rfl 3 dX2_keep_14 rfl ?_
    refine x_icmp_ne C 23 18 dX2_keep_15 (by decide) rfl (fun c15 => ?_) (fun c15 => ?_)
    · have h := h.1 c15
      exact hR _ _ _ dX2_keep_23 h
    · have h := h.2 c15
      refine x_aload_n C 19 rfl 0 dX2_keep_18 rfl rfl ?_
      refine x_iload_n C 20 rfl 2 dX2_keep_19 rfl rfl ?_
      obtain ⟨σ1, eσ1⟩ : ∃ z, z = sI σ (4 + 2 * k) 5 x2 := ⟨_, rfl⟩
      have h := h σ1 eσ1
      refine x_put C 23 rfl (ref := RX2) (ty := .int) (σ' := σ1) (4 + 2 * k) 5 (gC_T ad ct _ hk) rfl in_X2_keep_X2 tyX2 tyX2_ok nmX2 (by decide) fl_X2_keep_38 rfl rfl (by decide +kernel) rfl rfl (by show 5 < 9; decide) (by rw [eσ1]; exact (sC_T_padded ad ct _ hk)) dX2_keep_20 ?_
      exact hR _ _ _ dX2_keep_23 h
  · have h := h.2 c2
    refine x_aload_n C 6 rfl 0 dX2_keep_5 rfl rfl ?_
    refine x_iload_n C 7 rfl 2 dX2_keep_6 rfl rfl ?_
    obtain ⟨σ2, eσ2⟩ : ∃ z, z = sI σ (4 + 2 * k) 4 x2 := ⟨_, rfl⟩
    have h := h σ2 eσ2
    refine x_put C 10 rfl (ref := RX2) (ty := .int) (σ' := σ2) (4 + 2 * k) 4 (gC_T ad ct _ hk) rfl in_X2_keep_X2 tyX2 tyX2_ok nmX2 (by decide) fl_X2_keep_35 rfl rfl (by decide +kernel) rfl rfl (by show 4 < 9; decide) (by rw [eσ2]; exact (sC_T_cleaned ad ct _ hk)) dX2_keep_7 ?_
    refine x_goto C 23 dX2_keep_10 (by decide) ?_
    exact hR _ _ _ dX2_keep_23 h
abbrev rm_X4_wall : Room := { frames := 1, cells := 0, slots := 0, locals := 22 }
theorem in_X4_wall_X4 : ∀ w ∈ u_ws RX4 TX4 7, w ∈ wsX4_wall := by decide +kernel
theorem fl_X4_wall_11 : Cond.fieldLink RX4 11 RX4 (TX4 0).2.1 (TX4 0).2.2.1 ∈ wsX4_wall := by decide +kernel
theorem in_X4_wall_X2 : ∀ w ∈ u_ws RX2 TX2 9, w ∈ wsX4_wall := by decide +kernel
theorem fl_X4_wall_58 : Cond.fieldLink RX4 58 RX2 (TX2 3).2.1 (TX2 3).2.2.1 ∈ wsX4_wall := by decide +kernel
theorem fl_X4_wall_43 : Cond.fieldLink RX4 43 RX4 (TX4 6).2.1 (TX4 6).2.2.1 ∈ wsX4_wall := by decide +kernel
set_option maxRecDepth 100000 in
set_option maxHeartbeats 4000000 in
theorem m_X4_wall (l : Launch) (D : va_G) (ad : Nat → Nat) (ct : Nat → ClassId) (x1 : Int32) (x2 : Int32) (x3 : Int32) (σ : ST) (Q : Int32 → ST → Prop) (h : wp_X4_wall x1 x2 x3 σ Q) : CtI l D (tysF ct) (wC ad ct) yX4_wall wsX4_wall rm_X4_wall [.ref (ad 0), .int x1, .int x2, .int x3] σ Q := by
  refine CtI.ofZ (wC_adr ad ct) (maxL := 4) [(0, .ref (ad 0)), (1, .int x1), (2, .int x2), (3, .int x3)] RX4 (by decide) rfl rfl (by show (lg_sl [.ref (ad 0), .int x1, .int x2, .int x3]).length ≤ 4; exact Nat.le_of_ble_eq_true rfl) rfl rfl rfl ?_
  intro E C hR
  unfold wp_X4_wall at h
  refine x_aload_n C 1 rfl 0 dX4_wall_0 rfl rfl ?_
  refine x_iload_n C 2 rfl 1 dX4_wall_1 rfl rfl ?_
  refine x_cVI C 5 rfl (m_X4_isThing l D ad ct _ _ _ h) (cwV 1 C.1.2.2.2.2 gX4_wall_X4_isThing rfl rfl rfl (by decide +kernel) ⟨Nat.le_of_ble_eq_true rfl, Nat.le_of_ble_eq_true rfl⟩) ⟨0, 4, _, _, _, (gC_J ad ct _), rfl⟩ rfl rfl (Nat.le_of_ble_eq_true rfl) dX4_wall_2 ?_
  intro r2 σ1 h
  refine x_if_eq C 16 8 dX4_wall_5 (by decide) rfl (fun c5 => ?_) (fun c5 => ?_)
  · have h := h.1 c5
    refine x_iconst C 17 rfl 0 dX4_wall_16 rfl ?_
    exact hR _ _ _ _ dX4_wall_17 (by decide) h
  · have h := h.2 c5
    refine x_iload_n C 9 rfl 2 dX4_wall_8 rfl rfl ?_
    refine x_iload_n C 10 rfl 3 dX4_wall_9 rfl rfl ?_
    refine x_cSI C 13 rfl (m_X4_canHave l D ad ct _ _ _ _ h) (va_cwS 2 C.1.2.2.2.2 gX4_wall_X4_canHave rfl rfl rfl (by decide +kernel) ⟨Nat.le_of_ble_eq_true rfl, Nat.le_of_ble_eq_true rfl⟩) rfl rfl (Nat.le_of_ble_eq_true rfl) dX4_wall_10 ?_
    intro r4 σ3 h
    refine x_if_ne C 18 16 dX4_wall_13 (by decide) rfl (fun c13 => ?_) (fun c13 => ?_)
    · have h := h.1 c13
      refine x_aload_n C 19 rfl 0 dX4_wall_18 rfl rfl ?_
      refine x_get C 22 rfl (ref := RX4) 0 0 (gC_J ad ct _) rfl in_X4_wall_X4 (by decide) fl_X4_wall_11 rfl rfl dX4_wall_19 ?_
      refine x_iload_n C 23 rfl 1 dX4_wall_22 rfl rfl ?_
      have i5 := h.1
      have h := h.2
      have hk6 : (Int32.toNatClampNeg x1) < 3 := Nat.not_le.mp fun q => i5 (Or.inr q)
      refine x_aald C 24 rfl (q := ad (4 + 2 * (Int32.toNatClampNeg x1))) 1 2 (gC_J_things ad ct _) rfl i5 rfl dX4_wall_23 ?_
      refine x_iload_n C 25 rfl 2 dX4_wall_24 rfl rfl ?_
      obtain ⟨σ7, eσ7⟩ : ∃ z, z = sI σ3 (4 + 2 * (Int32.toNatClampNeg x1)) 3 x2 := ⟨_, rfl⟩
      have h := h σ7 eσ7
      refine x_put C 28 rfl (ref := RX2) (ty := .int) (σ' := σ7) (4 + 2 * (Int32.toNatClampNeg x1)) 3 (gC_T ad ct _ hk6) rfl in_X4_wall_X2 tyX2 tyX2_ok nmX2 (by decide) fl_X4_wall_58 rfl rfl (by decide +kernel) rfl rfl (by show 3 < 9; decide) (by rw [eσ7]; exact (sC_T_wall ad ct _ hk6)) dX4_wall_25 ?_
      refine x_aload_n C 29 rfl 0 dX4_wall_28 rfl rfl ?_
      refine x_get C 32 rfl (ref := RX4) 0 0 (gC_J ad ct _) rfl in_X4_wall_X4 (by decide) fl_X4_wall_11 rfl rfl dX4_wall_29 ?_
      refine x_iload_n C 33 rfl 1 dX4_wall_32 rfl rfl ?_
      have hk8 : (Int32.toNatClampNeg x1) < 3 := Nat.not_le.mp fun q => i5 (Or.inr q)
      refine x_aald C 34 rfl (q := ad (4 + 2 * (Int32.toNatClampNeg x1))) 1 2 (gC_J_things ad ct _) rfl i5 rfl dX4_wall_33 ?_
      refine x_iload_n C 35 rfl 2 dX4_wall_34 rfl rfl ?_
      refine x_iload_n C 36 rfl 3 dX4_wall_35 rfl rfl ?_
      refine x_cVV C 39 rfl (m_X2_keep l D ad ct (Int32.toNatClampNeg x1) hk8 _ _ _ _ h) (cwV 2 C.1.2.2.2.2 gX4_wall_X2_keep rfl rfl rfl (by decide +kernel) ⟨Nat.le_of_ble_eq_true rfl, Nat.le_of_ble_eq_true rfl⟩) ⟨(4 + 2 * (Int32.toNatClampNeg x1)), 2, _, _, _, (gC_T ad ct _ hk8), rfl⟩ rfl rfl (Nat.le_of_ble_eq_true rfl) dX4_wall_36 ?_
      intro σ9 h
      refine x_aload_n C 40 rfl 0 dX4_wall_39 rfl rfl ?_
      refine x_dup C 41 rfl dX4_wall_40 rfl ?_
      refine x_get C 44 rfl (ref := RX4) 0 6 (gC_J ad ct _) rfl in_X4_wall_X4 (by decide) fl_X4_wall_43 rfl rfl dX4_wall_41 ?_
      refine x_iconst C 45 rfl 1 dX4_wall_44 rfl ?_
      refine x_iadd C 46 rfl dX4_wall_45 ?_
      obtain ⟨σ10, eσ10⟩ : ∃ z, z = sI σ9 0 6 ((σ9.1 0 6) + 1) := ⟨_, rfl⟩
      have h := h σ10 eσ10
      refine x_put C 49 rfl (ref := RX4) (ty := .int) (σ' := σ10) 0 6 (gC_J ad ct _) rfl in_X4_wall_X4 tyX4 tyX4_ok nmX4 (by decide) fl_X4_wall_43 rfl rfl (by decide +kernel) rfl rfl (by show 6 < 7; decide) (by rw [eσ10]; exact (sC_J_changes ad ct _)) dX4_wall_46 ?_
      refine x_iconst C 50 rfl 1 dX4_wall_49 rfl ?_
      exact hR _ _ _ _ dX4_wall_50 (by decide) h
    · have h := h.2 c13
      refine x_iconst C 17 rfl 0 dX4_wall_16 rfl ?_
      exact hR _ _ _ _ dX4_wall_17 (by decide) h
abbrev rm_X4_set : Room := { frames := 1, cells := 0, slots := 0, locals := 22 }
theorem in_X4_set_X4 : ∀ w ∈ u_ws RX4 TX4 7, w ∈ wsX4_set := by decide +kernel
theorem fl_X4_set_11 : Cond.fieldLink RX4 11 RX4 (TX4 0).2.1 (TX4 0).2.2.1 ∈ wsX4_set := by decide +kernel
theorem fl_X4_set_43 : Cond.fieldLink RX4 43 RX4 (TX4 6).2.1 (TX4 6).2.2.1 ∈ wsX4_set := by decide +kernel
set_option maxRecDepth 100000 in
set_option maxHeartbeats 4000000 in
theorem m_X4_set (l : Launch) (D : va_G) (ad : Nat → Nat) (ct : Nat → ClassId) (x1 : Int32) (x2 : Int32) (x3 : Int32) (σ : ST) (Q : Int32 → ST → Prop) (h : wp_X4_set x1 x2 x3 σ Q) : CtI l D (tysF ct) (wC ad ct) yX4_set wsX4_set rm_X4_set [.ref (ad 0), .int x1, .int x2, .int x3] σ Q := by
  refine CtI.ofZ (wC_adr ad ct) (maxL := 4) [(0, .ref (ad 0)), (1, .int x1), (2, .int x2), (3, .int x3)] RX4 (by decide) rfl rfl (by show (lg_sl [.ref (ad 0), .int x1, .int x2, .int x3]).length ≤ 4; exact Nat.le_of_ble_eq_true rfl) rfl rfl rfl ?_
  intro E C hR
  unfold wp_X4_set at h
  refine x_aload_n C 1 rfl 0 dX4_set_0 rfl rfl ?_
  refine x_iload_n C 2 rfl 1 dX4_set_1 rfl rfl ?_
  refine x_cVI C 5 rfl (m_X4_isThing l D ad ct _ _ _ h) (cwV 1 C.1.2.2.2.2 gX4_set_X4_isThing rfl rfl rfl (by decide +kernel) ⟨Nat.le_of_ble_eq_true rfl, Nat.le_of_ble_eq_true rfl⟩) ⟨0, 4, _, _, _, (gC_J ad ct _), rfl⟩ rfl rfl (Nat.le_of_ble_eq_true rfl) dX4_set_2 ?_
  intro r2 σ1 h
  refine x_if_eq C 26 8 dX4_set_5 (by decide) rfl (fun c5 => ?_) (fun c5 => ?_)
  · have h := h.1 c5
    refine x_iconst C 27 rfl 0 dX4_set_26 rfl ?_
    exact hR _ _ _ _ dX4_set_27 (by decide) h
  · have h := h.2 c5
    refine x_iload_n C 9 rfl 2 dX4_set_8 rfl rfl ?_
    refine x_iconst C 10 rfl 1 dX4_set_9 rfl ?_
    refine x_icmp_eq C 18 13 dX4_set_10 (by decide) rfl (fun c10 => ?_) (fun c10 => ?_)
    · have h := h.1 c10
      refine x_iload_n C 19 rfl 2 dX4_set_18 rfl rfl ?_
      refine x_iload_n C 20 rfl 3 dX4_set_19 rfl rfl ?_
      refine x_cSI C 23 rfl (m_X4_canHave l D ad ct _ _ _ _ h) (va_cwS 2 C.1.2.2.2.2 gX4_set_X4_canHave rfl rfl rfl (by decide +kernel) ⟨Nat.le_of_ble_eq_true rfl, Nat.le_of_ble_eq_true rfl⟩) rfl rfl (Nat.le_of_ble_eq_true rfl) dX4_set_20 ?_
      intro r4 σ3 h
      refine x_if_ne C 28 26 dX4_set_23 (by decide) rfl (fun c23 => ?_) (fun c23 => ?_)
      · have h := h.1 c23
        refine x_aload_n C 29 rfl 0 dX4_set_28 rfl rfl ?_
        refine x_get C 32 rfl (ref := RX4) 0 0 (gC_J ad ct _) rfl in_X4_set_X4 (by decide) fl_X4_set_11 rfl rfl dX4_set_29 ?_
        refine x_iload_n C 33 rfl 1 dX4_set_32 rfl rfl ?_
        have i5 := h.1
        have h := h.2
        have hk6 : (Int32.toNatClampNeg x1) < 3 := Nat.not_le.mp fun q => i5 (Or.inr q)
        refine x_aald C 34 rfl (q := ad (4 + 2 * (Int32.toNatClampNeg x1))) 1 2 (gC_J_things ad ct _) rfl i5 rfl dX4_set_33 ?_
        refine x_iload_n C 35 rfl 2 dX4_set_34 rfl rfl ?_
        refine x_iload_n C 36 rfl 3 dX4_set_35 rfl rfl ?_
        refine x_cVV C 39 rfl (m_X2_keep l D ad ct (Int32.toNatClampNeg x1) hk6 _ _ _ _ h) (cwV 2 C.1.2.2.2.2 gX4_set_X2_keep rfl rfl rfl (by decide +kernel) ⟨Nat.le_of_ble_eq_true rfl, Nat.le_of_ble_eq_true rfl⟩) ⟨(4 + 2 * (Int32.toNatClampNeg x1)), 2, _, _, _, (gC_T ad ct _ hk6), rfl⟩ rfl rfl (Nat.le_of_ble_eq_true rfl) dX4_set_36 ?_
        intro σ7 h
        refine x_aload_n C 40 rfl 0 dX4_set_39 rfl rfl ?_
        refine x_dup C 41 rfl dX4_set_40 rfl ?_
        refine x_get C 44 rfl (ref := RX4) 0 6 (gC_J ad ct _) rfl in_X4_set_X4 (by decide) fl_X4_set_43 rfl rfl dX4_set_41 ?_
        refine x_iconst C 45 rfl 1 dX4_set_44 rfl ?_
        refine x_iadd C 46 rfl dX4_set_45 ?_
        obtain ⟨σ8, eσ8⟩ : ∃ z, z = sI σ7 0 6 ((σ7.1 0 6) + 1) := ⟨_, rfl⟩
        have h := h σ8 eσ8
        refine x_put C 49 rfl (ref := RX4) (ty := .int) (σ' := σ8) 0 6 (gC_J ad ct _) rfl in_X4_set_X4 tyX4 tyX4_ok nmX4 (by decide) fl_X4_set_43 rfl rfl (by decide +kernel) rfl rfl (by show 6 < 7; decide) (by rw [eσ8]; exact (sC_J_changes ad ct _)) dX4_set_46 ?_
        refine x_iconst C 50 rfl 1 dX4_set_49 rfl ?_
        exact hR _ _ _ _ dX4_set_50 (by decide) h
      · have h := h.2 c23
        refine x_iconst C 27 rfl 0 dX4_set_26 rfl ?_
        exact hR _ _ _ _ dX4_set_27 (by decide) h
    · have h := h.2 c10
      refine x_iload_n C 14 rfl 2 dX4_set_13 rfl rfl ?_
      refine x_iconst C 15 rfl 3 dX4_set_14 rfl ?_
      refine x_icmp_ne C 26 18 dX4_set_15 (by decide) rfl (fun c15 => ?_) (fun c15 => ?_)
      · have h := h.1 c15
        refine x_iconst C 27 rfl 0 dX4_set_26 rfl ?_
        exact hR _ _ _ _ dX4_set_27 (by decide) h
      · have h := h.2 c15
        refine x_iload_n C 19 rfl 2 dX4_set_18 rfl rfl ?_
        refine x_iload_n C 20 rfl 3 dX4_set_19 rfl rfl ?_
        refine x_cSI C 23 rfl (m_X4_canHave l D ad ct _ _ _ _ h) (va_cwS 2 C.1.2.2.2.2 gX4_set_X4_canHave rfl rfl rfl (by decide +kernel) ⟨Nat.le_of_ble_eq_true rfl, Nat.le_of_ble_eq_true rfl⟩) rfl rfl (Nat.le_of_ble_eq_true rfl) dX4_set_20 ?_
        intro r10 σ9 h
        refine x_if_ne C 28 26 dX4_set_23 (by decide) rfl (fun c23 => ?_) (fun c23 => ?_)
        · have h := h.1 c23
          refine x_aload_n C 29 rfl 0 dX4_set_28 rfl rfl ?_
          refine x_get C 32 rfl (ref := RX4) 0 0 (gC_J ad ct _) rfl in_X4_set_X4 (by decide) fl_X4_set_11 rfl rfl dX4_set_29 ?_
          refine x_iload_n C 33 rfl 1 dX4_set_32 rfl rfl ?_
          have i11 := h.1
          have h := h.2
          have hk12 : (Int32.toNatClampNeg x1) < 3 := Nat.not_le.mp fun q => i11 (Or.inr q)
          refine x_aald C 34 rfl (q := ad (4 + 2 * (Int32.toNatClampNeg x1))) 1 2 (gC_J_things ad ct _) rfl i11 rfl dX4_set_33 ?_
          refine x_iload_n C 35 rfl 2 dX4_set_34 rfl rfl ?_
          refine x_iload_n C 36 rfl 3 dX4_set_35 rfl rfl ?_
          refine x_cVV C 39 rfl (m_X2_keep l D ad ct (Int32.toNatClampNeg x1) hk12 _ _ _ _ h) (cwV 2 C.1.2.2.2.2 gX4_set_X2_keep rfl rfl rfl (by decide +kernel) ⟨Nat.le_of_ble_eq_true rfl, Nat.le_of_ble_eq_true rfl⟩) ⟨(4 + 2 * (Int32.toNatClampNeg x1)), 2, _, _, _, (gC_T ad ct _ hk12), rfl⟩ rfl rfl (Nat.le_of_ble_eq_true rfl) dX4_set_36 ?_
          intro σ13 h
          refine x_aload_n C 40 rfl 0 dX4_set_39 rfl rfl ?_
          refine x_dup C 41 rfl dX4_set_40 rfl ?_
          refine x_get C 44 rfl (ref := RX4) 0 6 (gC_J ad ct _) rfl in_X4_set_X4 (by decide) fl_X4_set_43 rfl rfl dX4_set_41 ?_
          refine x_iconst C 45 rfl 1 dX4_set_44 rfl ?_
          refine x_iadd C 46 rfl dX4_set_45 ?_
          obtain ⟨σ14, eσ14⟩ : ∃ z, z = sI σ13 0 6 ((σ13.1 0 6) + 1) := ⟨_, rfl⟩
          have h := h σ14 eσ14
          refine x_put C 49 rfl (ref := RX4) (ty := .int) (σ' := σ14) 0 6 (gC_J ad ct _) rfl in_X4_set_X4 tyX4 tyX4_ok nmX4 (by decide) fl_X4_set_43 rfl rfl (by decide +kernel) rfl rfl (by show 6 < 7; decide) (by rw [eσ14]; exact (sC_J_changes ad ct _)) dX4_set_46 ?_
          refine x_iconst C 50 rfl 1 dX4_set_49 rfl ?_
          exact hR _ _ _ _ dX4_set_50 (by decide) h
        · have h := h.2 c23
          refine x_iconst C 27 rfl 0 dX4_set_26 rfl ?_
          exact hR _ _ _ _ dX4_set_27 (by decide) h
abbrev rm_X4_price : Room := { frames := 1, cells := 0, slots := 0, locals := 21 }
theorem in_X4_price_X4 : ∀ w ∈ u_ws RX4 TX4 7, w ∈ wsX4_price := by decide +kernel
theorem fl_X4_price_11 : Cond.fieldLink RX4 11 RX4 (TX4 0).2.1 (TX4 0).2.2.1 ∈ wsX4_price := by decide +kernel
theorem in_X4_price_X2 : ∀ w ∈ u_ws RX2 TX2 9, w ∈ wsX4_price := by decide +kernel
theorem fl_X4_price_65 : Cond.fieldLink RX4 65 RX2 (TX2 0).2.1 (TX2 0).2.2.1 ∈ wsX4_price := by decide +kernel
set_option maxRecDepth 100000 in
set_option maxHeartbeats 4000000 in
theorem m_X4_price (l : Launch) (D : va_G) (ad : Nat → Nat) (ct : Nat → ClassId) (x1 : Int32) (x2 : Int32) (x3 : Int32) (σ : ST) (Q : Int32 → ST → Prop) (h : wp_X4_price x1 x2 x3 σ Q) : CtI l D (tysF ct) (wC ad ct) yX4_price wsX4_price rm_X4_price [.ref (ad 0), .int x1, .int x2, .int x3] σ Q := by
  refine CtI.ofZ (wC_adr ad ct) (maxL := 4) [(0, .ref (ad 0)), (1, .int x1), (2, .int x2), (3, .int x3)] RX4 (by decide) rfl rfl (by show (lg_sl [.ref (ad 0), .int x1, .int x2, .int x3]).length ≤ 4; exact Nat.le_of_ble_eq_true rfl) rfl rfl rfl ?_
  intro E C hR
  unfold wp_X4_price at h
  refine x_aload_n C 1 rfl 0 dX4_price_0 rfl rfl ?_
  refine x_iload_n C 2 rfl 1 dX4_price_1 rfl rfl ?_
  refine x_cVI C 5 rfl (m_X4_isThing l D ad ct _ _ _ h) (cwV 1 C.1.2.2.2.2 gX4_price_X4_isThing rfl rfl rfl (by decide +kernel) ⟨Nat.le_of_ble_eq_true rfl, Nat.le_of_ble_eq_true rfl⟩) ⟨0, 4, _, _, _, (gC_J ad ct _), rfl⟩ rfl rfl (Nat.le_of_ble_eq_true rfl) dX4_price_2 ?_
  intro r2 σ1 h
  refine x_if_eq C 28 8 dX4_price_5 (by decide) rfl (fun c5 => ?_) (fun c5 => ?_)
  · have h := h.1 c5
    refine x_iconst C 29 rfl 0 dX4_price_28 rfl ?_
    exact hR _ _ _ _ dX4_price_29 (by decide) h
  · have h := h.2 c5
    refine x_iload_n C 9 rfl 2 dX4_price_8 rfl rfl ?_
    refine x_iconst C 10 rfl 1 dX4_price_9 rfl ?_
    refine x_icmp_lt C 28 13 dX4_price_10 (by decide) rfl (fun c10 => ?_) (fun c10 => ?_)
    · have h := h.1 c10
      refine x_iconst C 29 rfl 0 dX4_price_28 rfl ?_
      exact hR _ _ _ _ dX4_price_29 (by decide) h
    · have h := h.2 c10
      refine x_iload_n C 14 rfl 2 dX4_price_13 rfl rfl ?_
      refine x_iconst C 15 rfl 3 dX4_price_14 rfl ?_
      refine x_icmp_gt C 28 18 dX4_price_15 (by decide) rfl (fun c15 => ?_) (fun c15 => ?_)
      · have h := h.1 c15
        refine x_iconst C 29 rfl 0 dX4_price_28 rfl ?_
        exact hR _ _ _ _ dX4_price_29 (by decide) h
      · have h := h.2 c15
        refine x_iload_n C 19 rfl 3 dX4_price_18 rfl rfl ?_
        refine x_if_lt C 28 22 dX4_price_19 (by decide) rfl (fun c19 => ?_) (fun c19 => ?_)
        · have h := h.1 c19
          refine x_iconst C 29 rfl 0 dX4_price_28 rfl ?_
          exact hR _ _ _ _ dX4_price_29 (by decide) h
        · have h := h.2 c19
          refine x_iload_n C 23 rfl 3 dX4_price_22 rfl rfl ?_
          refine x_bipush C 25 rfl 99 dX4_price_23 rfl ?_
          refine x_icmp_le C 30 28 dX4_price_25 (by decide) rfl (fun c25 => ?_) (fun c25 => ?_)
          · have h := h.1 c25
            refine x_aload_n C 31 rfl 0 dX4_price_30 rfl rfl ?_
            refine x_get C 34 rfl (ref := RX4) 0 0 (gC_J ad ct _) rfl in_X4_price_X4 (by decide) fl_X4_price_11 rfl rfl dX4_price_31 ?_
            refine x_iload_n C 35 rfl 1 dX4_price_34 rfl rfl ?_
            have i3 := h.1
            have h := h.2
            have hk4 : (Int32.toNatClampNeg x1) < 3 := Nat.not_le.mp fun q => i3 (Or.inr q)
            refine x_aald C 36 rfl (q := ad (4 + 2 * (Int32.toNatClampNeg x1))) 1 2 (gC_J_things ad ct _) rfl i3 rfl dX4_price_35 ?_
            refine x_get C 39 rfl (ref := RX2) (4 + 2 * (Int32.toNatClampNeg x1)) 0 (gC_T ad ct _ hk4) rfl in_X4_price_X2 (by decide) fl_X4_price_65 rfl rfl dX4_price_36 ?_
            refine x_iload_n C 40 rfl 2 dX4_price_39 rfl rfl ?_
            refine x_iload_n C 41 rfl 3 dX4_price_40 rfl rfl ?_
            have i5 := h.1
            have h := h.2
            obtain ⟨σ6, eσ6⟩ : ∃ z, z = sR σ1 (5 + 2 * (Int32.toNatClampNeg x1)) (Int32.toNatClampNeg x2) x3 := ⟨_, rfl⟩
            have h := h σ6 eσ6
            refine x_iast C 42 rfl (σ' := σ6) (5 + 2 * (Int32.toNatClampNeg x1)) 0 (gC_T_prices ad ct _ hk4) rfl i5 (by rw [eσ6]; exact (sC_T_prices ad ct _ hk4)) dX4_price_41 ?_
            refine x_iconst C 43 rfl 1 dX4_price_42 rfl ?_
            exact hR _ _ _ _ dX4_price_43 (by decide) h
          · have h := h.2 c25
            refine x_iconst C 29 rfl 0 dX4_price_28 rfl ?_
            exact hR _ _ _ _ dX4_price_29 (by decide) h
abbrev rm_X4_wallsNow : Room := { frames := 0, cells := 0, slots := 0, locals := 0 }
theorem in_X4_wallsNow_X4 : ∀ w ∈ u_ws RX4 TX4 7, w ∈ wsX4_wallsNow := by decide +kernel
theorem fl_X4_wallsNow_39 : Cond.fieldLink RX4 39 RX4 (TX4 4).2.1 (TX4 4).2.2.1 ∈ wsX4_wallsNow := by decide +kernel
theorem fl_X4_wallsNow_11 : Cond.fieldLink RX4 11 RX4 (TX4 0).2.1 (TX4 0).2.2.1 ∈ wsX4_wallsNow := by decide +kernel
theorem in_X4_wallsNow_X2 : ∀ w ∈ u_ws RX2 TX2 9, w ∈ wsX4_wallsNow := by decide +kernel
theorem fl_X4_wallsNow_58 : Cond.fieldLink RX4 58 RX2 (TX2 3).2.1 (TX2 3).2.2.1 ∈ wsX4_wallsNow := by decide +kernel
set_option maxRecDepth 100000 in
set_option maxHeartbeats 4000000 in
theorem v_X4_wallsNow_L4 {l : Launch} {D : va_G} {ad : Nat → Nat} {ct : Nat → ClassId} {E : XE}  {Q : Int32 → ST → Prop} (C : XFix D (tysF ct) (wC ad ct) rm_X4_wallsNow 3 E cX4_wallsNow RX4 wsX4_wallsNow) (hR : RetI l D (tysF ct) (wC ad ct) rm_X4_wallsNow 3 E cX4_wallsNow Q) :
    ∀ (n : Nat) (x1 : Int32) (x2 : Int32) (σ : ST), wp_X4_wallsNow_L4 Q n x1 x2 σ → V l D (tysF ct) (wC ad ct) rm_X4_wallsNow 3 E 4 [(0, .ref (ad 0)), (1, .int x1), (2, .int x2)] [] σ := by
  intro n
  induction n with
  | zero => intro x1 x2 σ h; exact (h : False).elim
  | succ n ih =>
    intro x1 x2 σ h
    unfold wp_X4_wallsNow_L4 at h
    refine x_iload_n C 5 rfl 2 dX4_wallsNow_4 rfl rfl ?_
    refine x_aload_n C 6 rfl 0 dX4_wallsNow_5 rfl rfl ?_
    refine x_get C 9 rfl (ref := RX4) 0 4 (gC_J ad ct _) rfl in_X4_wallsNow_X4 (by decide) fl_X4_wallsNow_39 rfl rfl dX4_wallsNow_6 ?_
    refine x_icmp_ge C 34 12 dX4_wallsNow_9 (by decide) rfl (fun c9 => ?_) (fun c9 => ?_)
    · have h := h.1 c9
      refine x_iload_n C 35 rfl 1 dX4_wallsNow_34 rfl rfl ?_
      exact hR _ _ _ _ dX4_wallsNow_35 h
    · have h := h.2 c9
      refine x_iload_n C 13 rfl 1 dX4_wallsNow_12 rfl rfl ?_
      refine x_aload_n C 14 rfl 0 dX4_wallsNow_13 rfl rfl ?_
      refine x_get C 17 rfl (ref := RX4) 0 0 (gC_J ad ct _) rfl in_X4_wallsNow_X4 (by decide) fl_X4_wallsNow_11 rfl rfl dX4_wallsNow_14 ?_
      refine x_iload_n C 18 rfl 2 dX4_wallsNow_17 rfl rfl ?_
      have i1 := h.1
      have h := h.2
      have hk2 : (Int32.toNatClampNeg x2) < 3 := Nat.not_le.mp fun q => i1 (Or.inr q)
      refine x_aald C 19 rfl (q := ad (4 + 2 * (Int32.toNatClampNeg x2))) 1 2 (gC_J_things ad ct _) rfl i1 rfl dX4_wallsNow_18 ?_
      refine x_get C 22 rfl (ref := RX2) (4 + 2 * (Int32.toNatClampNeg x2)) 3 (gC_T ad ct _ hk2) rfl in_X4_wallsNow_X2 (by decide) fl_X4_wallsNow_58 rfl rfl dX4_wallsNow_19 ?_
      refine x_iconst C 23 rfl 2 dX4_wallsNow_22 rfl ?_
      refine x_iload_n C 24 rfl 2 dX4_wallsNow_23 rfl rfl ?_
      refine x_imul C 25 rfl dX4_wallsNow_24 ?_
      refine x_ishl C 26 rfl dX4_wallsNow_25 ?_
      refine x_ior C 27 rfl dX4_wallsNow_26 ?_
      refine x_ni (fun w3 ew3 => ?_)
      have h := h w3 ew3
      refine x_istore_n C 28 rfl [(1, .int w3), (0, .ref (ad 0)), (2, .int x2)] dX4_wallsNow_27 rfl (by decide) rfl ?_
      refine x_iinc C 31 rfl 2 (x2 + 1) [(2, .int (x2 + 1)), (1, .int w3), (0, .ref (ad 0))] dX4_wallsNow_28 rfl rfl (by decide) rfl ?_
      refine x_goto C 4 dX4_wallsNow_31 (by decide) ?_
      refine x_sub (lv' := [(0, .ref (ad 0)), (1, .int w3), (2, .int (x2 + 1))]) [2, 1, 0] rfl ?_
      exact ih _ _ _ h
set_option maxRecDepth 100000 in
set_option maxHeartbeats 4000000 in
theorem m_X4_wallsNow (l : Launch) (D : va_G) (ad : Nat → Nat) (ct : Nat → ClassId) (σ : ST) (Q : Int32 → ST → Prop) (h : wp_X4_wallsNow σ Q) : CtI l D (tysF ct) (wC ad ct) yX4_wallsNow wsX4_wallsNow rm_X4_wallsNow [.ref (ad 0)] σ Q := by
  refine CtI.of (wC_adr ad ct) (maxL := 3) [(0, .ref (ad 0))] RX4 (by decide) rfl rfl (by show (lg_sl [.ref (ad 0)]).length ≤ 3; exact Nat.le_of_ble_eq_true rfl) rfl rfl rfl ?_
  intro E C hR
  unfold wp_X4_wallsNow at h
  refine x_iconst C 1 rfl 0 dX4_wallsNow_0 rfl ?_
  refine x_istore_n C 2 rfl [(1, .int 0), (0, .ref (ad 0))] dX4_wallsNow_1 rfl (by decide) rfl ?_
  refine x_iconst C 3 rfl 0 dX4_wallsNow_2 rfl ?_
  refine x_istore_n C 4 rfl [(2, .int 0), (1, .int 0), (0, .ref (ad 0))] dX4_wallsNow_3 rfl (by decide) rfl ?_
  refine x_sub (lv' := [(0, .ref (ad 0)), (1, .int 0), (2, .int 0)]) [2, 1, 0] rfl ?_
  obtain ⟨n4, h⟩ := h
  refine v_X4_wallsNow_L4 C hR n4 _ _ _ h
abbrev rm_X4_wallIn : Room := { frames := 0, cells := 0, slots := 0, locals := 0 }
set_option maxRecDepth 100000 in
set_option maxHeartbeats 4000000 in
theorem m_X4_wallIn (l : Launch) (D : va_G) (ad : Nat → Nat) (ct : Nat → ClassId) (x0 : Int32) (x1 : Int32) (σ : ST) (Q : Int32 → ST → Prop) (h : wp_X4_wallIn x0 x1 σ Q) : CtI l D (tysF ct) (wC ad ct) yX4_wallIn wsX4_wallIn rm_X4_wallIn [.int x0, .int x1] σ Q := by
  refine CtI.of (wC_adr ad ct) (maxL := 2) [(0, .int x0), (1, .int x1)] RX4 (by decide) rfl rfl (by show (lg_sl [.int x0, .int x1]).length ≤ 2; exact Nat.le_of_ble_eq_true rfl) rfl rfl rfl ?_
  intro E C hR
  unfold wp_X4_wallIn at h
  refine x_iload_n C 1 rfl 0 dX4_wallIn_0 rfl rfl ?_
  refine x_iconst C 2 rfl 2 dX4_wallIn_1 rfl ?_
  refine x_iload_n C 3 rfl 1 dX4_wallIn_2 rfl rfl ?_
  refine x_imul C 4 rfl dX4_wallIn_3 ?_
  refine x_ishr C 5 rfl dX4_wallIn_4 ?_
  refine x_iconst C 6 rfl 3 dX4_wallIn_5 rfl ?_
  refine x_iand C 7 rfl dX4_wallIn_6 ?_
  exact hR _ _ _ _ dX4_wallIn_7 h
abbrev rm_X2_told : Room := { frames := 0, cells := 0, slots := 0, locals := 0 }
set_option maxRecDepth 100000 in
set_option maxHeartbeats 4000000 in
theorem m_X2_told (l : Launch) (D : va_G) (ad : Nat → Nat) (ct : Nat → ClassId) (x0 : Int64) (x2 : Int32) (x3 : Int32) (x4 : Int32) (σ : ST) (Q : Int32 → ST → Prop) (h : wp_X2_told x0 x2 x3 x4 σ Q) : CtI l D (tysF ct) (wC ad ct) yX2_told wsX2_told rm_X2_told [.long x0, .int x2, .int x3, .int x4] σ Q := by
  refine CtI.of (wC_adr ad ct) (maxL := 5) [(0, .long x0), (2, .int x2), (3, .int x3), (4, .int x4)] RX2 (by decide) rfl rfl (by show (lg_sl [.long x0, .int x2, .int x3, .int x4]).length ≤ 5; exact Nat.le_of_ble_eq_true rfl) rfl rfl rfl ?_
  intro E C hR
  unfold wp_X2_told at h
  refine x_lload_n C 1 rfl 0 dX2_told_0 rfl rfl ?_
  refine x_iconst C 2 rfl 2 dX2_told_1 rfl ?_
  refine x_bipush C 4 rfl 12 dX2_told_2 rfl ?_
  refine x_iload_n C 5 rfl 1 dX2_told_4 rfl rfl ?_
  refine x_imul C 6 rfl dX2_told_5 ?_
  refine x_iconst C 7 rfl 3 dX2_told_6 rfl ?_
  refine x_iload_n C 8 rfl 2 dX2_told_7 rfl rfl ?_
  refine x_imul C 9 rfl dX2_told_8 ?_
  refine x_iadd C 10 rfl dX2_told_9 ?_
  refine x_iload C 12 rfl 3 dX2_told_10 rfl ?_
  refine x_iadd C 13 rfl dX2_told_12 ?_
  refine x_imul C 14 rfl dX2_told_13 ?_
  refine x_lushr C 15 rfl dX2_told_14 ?_
  refine x_l2i C 16 rfl dX2_told_15 ?_
  refine x_iconst C 17 rfl 3 dX2_told_16 rfl ?_
  refine x_iand C 18 rfl dX2_told_17 ?_
  exact hR _ _ _ _ dX2_told_18 h
abbrev rm_X2_answerByKind : Room := { frames := 0, cells := 0, slots := 0, locals := 0 }
theorem in_X2_answerByKind_X2 : ∀ w ∈ u_ws RX2 TX2 9, w ∈ wsX2_answerByKind := by decide +kernel
theorem fl_X2_answerByKind_15 : Cond.fieldLink RX2 15 RX2 (TX2 1).2.1 (TX2 1).2.2.1 ∈ wsX2_answerByKind := by decide +kernel
set_option maxRecDepth 100000 in
set_option maxHeartbeats 4000000 in
theorem m_X2_answerByKind (l : Launch) (D : va_G) (ad : Nat → Nat) (ct : Nat → ClassId) (k : Nat) (hk : k < 3) (x1 : Int32) (x2 : Int32) (x3 : Int32) (σ : ST) (Q : Int32 → ST → Prop) (h : wp_X2_answerByKind k x1 x2 x3 σ Q) : CtI l D (tysF ct) (wC ad ct) yX2_answerByKind wsX2_answerByKind rm_X2_answerByKind [.ref (ad (4 + 2 * k)), .int x1, .int x2, .int x3] σ Q := by
  refine CtI.of (wC_adr ad ct) (maxL := 4) [(0, .ref (ad (4 + 2 * k))), (1, .int x1), (2, .int x2), (3, .int x3)] RX2 (by decide) rfl rfl (by show (lg_sl [.ref (ad (4 + 2 * k)), .int x1, .int x2, .int x3]).length ≤ 4; exact Nat.le_of_ble_eq_true rfl) rfl rfl rfl ?_
  intro E C hR
  unfold wp_X2_answerByKind at h
  refine x_iload_n C 1 rfl 3 dX2_answerByKind_0 rfl rfl ?_
  refine x_iconst C 2 rfl 1 dX2_answerByKind_1 rfl ?_
  refine x_icmp_le C 7 5 dX2_answerByKind_2 (by decide) rfl (fun c2 => ?_) (fun c2 => ?_)
  · have h := h.1 c2
    refine x_aload_n C 8 rfl 0 dX2_answerByKind_7 rfl rfl ?_
    refine x_get C 11 rfl (ref := RX2) (4 + 2 * k) 1 (gC_T ad ct _ hk) rfl in_X2_answerByKind_X2 (by decide) fl_X2_answerByKind_15 rfl rfl dX2_answerByKind_8 ?_
    by_cases t11_0 : (σ.1 (4 + 2 * k) 1) = 0
    · have h := h.1 t11_0
      refine x_top t11_0 ?_
      refine x_tsIn C 36 25 dX2_answerByKind_11 (by decide) (by decide) (by decide) (by decide) ?_
      refine x_iload_n C 37 rfl 3 dX2_answerByKind_36 rfl rfl ?_
      refine x_if_ne C 49 40 dX2_answerByKind_37 (by decide) rfl (fun c37 => ?_) (fun c37 => ?_)
      · have h := h.1 c37
        refine x_iconst C 50 rfl 0 dX2_answerByKind_49 rfl ?_
        exact hR _ _ _ _ dX2_answerByKind_50 h
      · have h := h.2 c37
        refine x_iload_n C 41 rfl 2 dX2_answerByKind_40 rfl rfl ?_
        refine x_iload_n C 42 rfl 1 dX2_answerByKind_41 rfl rfl ?_
        refine x_icmp_eq C 49 45 dX2_answerByKind_42 (by decide) rfl (fun c42 => ?_) (fun c42 => ?_)
        · have h := h.1 c42
          refine x_iconst C 50 rfl 0 dX2_answerByKind_49 rfl ?_
          exact hR _ _ _ _ dX2_answerByKind_50 h
        · have h := h.2 c42
          refine x_iconst C 46 rfl 1 dX2_answerByKind_45 rfl ?_
          refine x_goto C 50 dX2_answerByKind_46 (by decide) ?_
          exact hR _ _ _ _ dX2_answerByKind_50 h
    · have h := h.2 t11_0
      by_cases t11_1 : (σ.1 (4 + 2 * k) 1) = 1
      · have h := h.1 t11_1
        refine x_top t11_1 ?_
        refine x_tsIn C 51 40 dX2_answerByKind_11 (by decide) (by decide) (by decide) (by decide) ?_
        refine x_iload_n C 52 rfl 2 dX2_answerByKind_51 rfl rfl ?_
        refine x_iload_n C 53 rfl 3 dX2_answerByKind_52 rfl rfl ?_
        refine x_if_ne C 60 56 dX2_answerByKind_53 (by decide) rfl (fun c53 => ?_) (fun c53 => ?_)
        · have h := h.1 c53
          refine x_iconst C 61 rfl 0 dX2_answerByKind_60 rfl ?_
          refine x_icmp_ne C 68 64 dX2_answerByKind_61 (by decide) rfl (fun c61 => ?_) (fun c61 => ?_)
          · have h := h.1 c61
            refine x_iconst C 69 rfl 0 dX2_answerByKind_68 rfl ?_
            exact hR _ _ _ _ dX2_answerByKind_69 h
          · have h := h.2 c61
            refine x_iconst C 65 rfl 1 dX2_answerByKind_64 rfl ?_
            refine x_goto C 69 dX2_answerByKind_65 (by decide) ?_
            exact hR _ _ _ _ dX2_answerByKind_69 h
        · have h := h.2 c53
          refine x_iconst C 57 rfl 3 dX2_answerByKind_56 rfl ?_
          refine x_goto C 61 dX2_answerByKind_57 (by decide) ?_
          refine x_icmp_ne C 68 64 dX2_answerByKind_61 (by decide) rfl (fun c61 => ?_) (fun c61 => ?_)
          · have h := h.1 c61
            refine x_iconst C 69 rfl 0 dX2_answerByKind_68 rfl ?_
            exact hR _ _ _ _ dX2_answerByKind_69 h
          · have h := h.2 c61
            refine x_iconst C 65 rfl 1 dX2_answerByKind_64 rfl ?_
            refine x_goto C 69 dX2_answerByKind_65 (by decide) ?_
            exact hR _ _ _ _ dX2_answerByKind_69 h
      · have h := h.2 t11_1
        by_cases t11_2 : (σ.1 (4 + 2 * k) 1) = 2
        · have h := h.1 t11_2
          refine x_top t11_2 ?_
          refine x_tsIn C 70 59 dX2_answerByKind_11 (by decide) (by decide) (by decide) (by decide) ?_
          refine x_iload_n C 71 rfl 2 dX2_answerByKind_70 rfl rfl ?_
          refine x_iload_n C 72 rfl 1 dX2_answerByKind_71 rfl rfl ?_
          refine x_icmp_eq C 83 75 dX2_answerByKind_72 (by decide) rfl (fun c72 => ?_) (fun c72 => ?_)
          · have h := h.1 c72
            refine x_iconst C 84 rfl 0 dX2_answerByKind_83 rfl ?_
            refine x_goto C 88 dX2_answerByKind_84 (by decide) ?_
            exact hR _ _ _ _ dX2_answerByKind_88 h
          · have h := h.2 c72
            refine x_iload_n C 76 rfl 3 dX2_answerByKind_75 rfl rfl ?_
            refine x_if_ne C 87 79 dX2_answerByKind_76 (by decide) rfl (fun c76 => ?_) (fun c76 => ?_)
            · have h := h.1 c76
              refine x_iconst C 88 rfl 1 dX2_answerByKind_87 rfl ?_
              exact hR _ _ _ _ dX2_answerByKind_88 h
            · have h := h.2 c76
              refine x_iload_n C 80 rfl 2 dX2_answerByKind_79 rfl rfl ?_
              refine x_if_ne C 87 83 dX2_answerByKind_80 (by decide) rfl (fun c80 => ?_) (fun c80 => ?_)
              · have h := h.1 c80
                refine x_iconst C 88 rfl 1 dX2_answerByKind_87 rfl ?_
                exact hR _ _ _ _ dX2_answerByKind_88 h
              · have h := h.2 c80
                refine x_iconst C 84 rfl 0 dX2_answerByKind_83 rfl ?_
                refine x_goto C 88 dX2_answerByKind_84 (by decide) ?_
                exact hR _ _ _ _ dX2_answerByKind_88 h
        · have h := h.2 t11_2
          refine x_tsOut C 89 dX2_answerByKind_11 (by have a0 := tne t11_0 (k := 0) (by decide); have a1 := tne t11_1 (k := 1) (by decide); have a2 := tne t11_2 (k := 2) (by decide); omega) (by decide) ?_
          refine x_iload_n C 90 rfl 3 dX2_answerByKind_89 rfl rfl ?_
          refine x_if_ne C 97 93 dX2_answerByKind_90 (by decide) rfl (fun c90 => ?_) (fun c90 => ?_)
          · have h := h.1 c90
            refine x_iconst C 98 rfl 0 dX2_answerByKind_97 rfl ?_
            exact hR _ _ _ _ dX2_answerByKind_98 h
          · have h := h.2 c90
            refine x_iload_n C 94 rfl 2 dX2_answerByKind_93 rfl rfl ?_
            refine x_goto C 98 dX2_answerByKind_94 (by decide) ?_
            exact hR _ _ _ _ dX2_answerByKind_98 h
  · have h := h.2 c2
    refine x_iconst C 6 rfl 0 dX2_answerByKind_5 rfl ?_
    exact hR _ _ _ _ dX2_answerByKind_6 h
abbrev rm_X2_answer : Room := { frames := 1, cells := 0, slots := 0, locals := 24 }
theorem in_X2_answer_X2 : ∀ w ∈ u_ws RX2 TX2 9, w ∈ wsX2_answer := by decide +kernel
theorem fl_X2_answer_15 : Cond.fieldLink RX2 15 RX2 (TX2 1).2.1 (TX2 1).2.2.1 ∈ wsX2_answer := by decide +kernel
theorem fl_X2_answer_29 : Cond.fieldLink RX2 29 RX2 (TX2 8).2.1 (TX2 8).2.2.1 ∈ wsX2_answer := by decide +kernel
set_option maxRecDepth 100000 in
set_option maxHeartbeats 4000000 in
theorem m_X2_answer (l : Launch) (D : va_G) (ad : Nat → Nat) (ct : Nat → ClassId) (k : Nat) (hk : k < 3) (x1 : Int32) (x2 : Int32) (x3 : Int32) (σ : ST) (Q : Int32 → ST → Prop) (h : wp_X2_answer k x1 x2 x3 σ Q) : CtI l D (tysF ct) (wC ad ct) yX2_answer wsX2_answer rm_X2_answer [.ref (ad (4 + 2 * k)), .int x1, .int x2, .int x3] σ Q := by
  refine CtI.of (wC_adr ad ct) (maxL := 4) [(0, .ref (ad (4 + 2 * k))), (1, .int x1), (2, .int x2), (3, .int x3)] RX2 (by decide) rfl rfl (by show (lg_sl [.ref (ad (4 + 2 * k)), .int x1, .int x2, .int x3]).length ≤ 4; exact Nat.le_of_ble_eq_true rfl) rfl rfl rfl ?_
  intro E C hR
  unfold wp_X2_answer at h
  refine x_aload_n C 1 rfl 0 dX2_answer_0 rfl rfl ?_
  refine x_get C 4 rfl (ref := RX2) (4 + 2 * k) 1 (gC_T ad ct _ hk) rfl in_X2_answer_X2 (by decide) fl_X2_answer_15 rfl rfl dX2_answer_1 ?_
  refine x_iconst C 5 rfl 4 dX2_answer_4 rfl ?_
  refine x_icmp_ne C 21 8 dX2_answer_5 (by decide) rfl (fun c5 => ?_) (fun c5 => ?_)
  · have h := h.1 c5
    refine x_aload_n C 22 rfl 0 dX2_answer_21 rfl rfl ?_
    refine x_iload_n C 23 rfl 1 dX2_answer_22 rfl rfl ?_
    refine x_iconst C 24 rfl 1 dX2_answer_23 rfl ?_
    refine x_iadd C 25 rfl dX2_answer_24 ?_
    refine x_iload_n C 26 rfl 2 dX2_answer_25 rfl rfl ?_
    refine x_iload_n C 27 rfl 3 dX2_answer_26 rfl rfl ?_
    refine x_cVI C 30 rfl (m_X2_answerByKind l D ad ct k hk _ _ _ _ _ h) (cwV 3 C.1.2.2.2.2 gX2_answer_X2_answerByKind rfl rfl rfl (by decide +kernel) ⟨Nat.le_of_ble_eq_true rfl, Nat.le_of_ble_eq_true rfl⟩) ⟨(4 + 2 * k), 2, _, _, _, (gC_T ad ct _ hk), rfl⟩ rfl rfl (Nat.le_of_ble_eq_true rfl) dX2_answer_27 ?_
    intro r2 σ1 h
    exact hR _ _ _ _ dX2_answer_30 h
  · have h := h.2 c5
    refine x_aload_n C 9 rfl 0 dX2_answer_8 rfl rfl ?_
    refine x_get C 12 rfl (ref := RX2) (4 + 2 * k) 8 (gC_T ad ct _ hk) rfl in_X2_answer_X2 (by decide) fl_X2_answer_29 rfl rfl dX2_answer_9 ?_
    refine x_iload_n C 13 rfl 1 dX2_answer_12 rfl rfl ?_
    refine x_iload_n C 14 rfl 2 dX2_answer_13 rfl rfl ?_
    refine x_iload_n C 15 rfl 3 dX2_answer_14 rfl rfl ?_
    refine x_cSI C 18 rfl (m_X2_told l D ad ct _ _ _ _ _ _ h) (va_cwS 4 C.1.2.2.2.2 gX2_answer_X2_told rfl rfl rfl (by decide +kernel) ⟨Nat.le_of_ble_eq_true rfl, Nat.le_of_ble_eq_true rfl⟩) rfl rfl (Nat.le_of_ble_eq_true rfl) dX2_answer_15 ?_
    intro r4 σ3 h
    refine x_goto C 30 dX2_answer_18 (by decide) ?_
    exact hR _ _ _ _ dX2_answer_30 h
abbrev rm_X1_place : Room := { frames := 0, cells := 0, slots := 0, locals := 0 }
set_option maxRecDepth 100000 in
set_option maxHeartbeats 4000000 in
theorem m_X1_place (l : Launch) (D : va_G) (ad : Nat → Nat) (ct : Nat → ClassId) (x0 : Int32) (x1 : Int32) (σ : ST) (Q : Int32 → ST → Prop) (h : wp_X1_place x0 x1 σ Q) : CtI l D (tysF ct) (wC ad ct) yX1_place wsX1_place rm_X1_place [.int x0, .int x1] σ Q := by
  refine CtI.of (wC_adr ad ct) (maxL := 2) [(0, .int x0), (1, .int x1)] RX1 (by decide) rfl rfl (by show (lg_sl [.int x0, .int x1]).length ≤ 2; exact Nat.le_of_ble_eq_true rfl) rfl rfl rfl ?_
  intro E C hR
  unfold wp_X1_place at h
  refine x_iconst C 1 rfl 4 dX1_place_0 rfl ?_
  refine x_iconst C 2 rfl 3 dX1_place_1 rfl ?_
  refine x_iload_n C 3 rfl 0 dX1_place_2 rfl rfl ?_
  refine x_imul C 4 rfl dX1_place_3 ?_
  refine x_iload_n C 5 rfl 1 dX1_place_4 rfl rfl ?_
  refine x_iadd C 6 rfl dX1_place_5 ?_
  refine x_imul C 7 rfl dX1_place_6 ?_
  exact hR _ _ _ _ dX1_place_7 h
abbrev rm_X2_nextByKind : Room := { frames := 1, cells := 0, slots := 0, locals := 30 }
theorem in_X2_nextByKind_X2 : ∀ w ∈ u_ws RX2 TX2 9, w ∈ wsX2_nextByKind := by decide +kernel
theorem fl_X2_nextByKind_15 : Cond.fieldLink RX2 15 RX2 (TX2 1).2.1 (TX2 1).2.2.1 ∈ wsX2_nextByKind := by decide +kernel
theorem mm_X2_nextByKind_max_64 : ∀ w ∈ ([.methodLink RX2 64 Lib.Math.max.name, .static Lib.Math.max.name, .initialized "java/lang/Math", .code Lib.Math.max.name Lib.Math.max.code 2 (some .int)] : List Cond), w ∈ wsX2_nextByKind := by decide +kernel
theorem mm_X2_nextByKind_min_58 : ∀ w ∈ ([.methodLink RX2 58 Lib.Math.min.name, .static Lib.Math.min.name, .initialized "java/lang/Math", .code Lib.Math.min.name Lib.Math.min.code 2 (some .int)] : List Cond), w ∈ wsX2_nextByKind := by decide +kernel
set_option maxRecDepth 100000 in
set_option maxHeartbeats 4000000 in
theorem m_X2_nextByKind (l : Launch) (D : va_G) (ad : Nat → Nat) (ct : Nat → ClassId) (k : Nat) (hk : k < 3) (x1 : Int32) (x2 : Int32) (x3 : Int32) (σ : ST) (Q : Int32 → ST → Prop) (h : wp_X2_nextByKind k x1 x2 x3 σ Q) : CtI l D (tysF ct) (wC ad ct) yX2_nextByKind wsX2_nextByKind rm_X2_nextByKind [.ref (ad (4 + 2 * k)), .int x1, .int x2, .int x3] σ Q := by
  refine CtI.of (wC_adr ad ct) (maxL := 4) [(0, .ref (ad (4 + 2 * k))), (1, .int x1), (2, .int x2), (3, .int x3)] RX2 (by decide) rfl rfl (by show (lg_sl [.ref (ad (4 + 2 * k)), .int x1, .int x2, .int x3]).length ≤ 4; exact Nat.le_of_ble_eq_true rfl) rfl rfl rfl ?_
  intro E C hR
  have hRf : 1 ≤ rm_X2_nextByKind.frames := Nat.le_of_ble_eq_true rfl
  have hRl : 30 ≤ rm_X2_nextByKind.locals := Nat.le_of_ble_eq_true rfl
  unfold wp_X2_nextByKind at h
  refine x_iload_n C 1 rfl 3 dX2_nextByKind_0 rfl rfl ?_
  refine x_iconst C 2 rfl 1 dX2_nextByKind_1 rfl ?_
  refine x_icmp_le C 7 5 dX2_nextByKind_2 (by decide) rfl (fun c2 => ?_) (fun c2 => ?_)
  · have h := h.1 c2
    refine x_aload_n C 8 rfl 0 dX2_nextByKind_7 rfl rfl ?_
    refine x_get C 11 rfl (ref := RX2) (4 + 2 * k) 1 (gC_T ad ct _ hk) rfl in_X2_nextByKind_X2 (by decide) fl_X2_nextByKind_15 rfl rfl dX2_nextByKind_8 ?_
    by_cases t11_0 : (σ.1 (4 + 2 * k) 1) = 0
    · have h := h.1 t11_0
      refine x_top t11_0 ?_
      refine x_tsIn C 36 25 dX2_nextByKind_11 (by decide) (by decide) (by decide) (by decide) ?_
      refine x_iload_n C 37 rfl 3 dX2_nextByKind_36 rfl rfl ?_
      refine x_if_ne C 44 40 dX2_nextByKind_37 (by decide) rfl (fun c37 => ?_) (fun c37 => ?_)
      · have h := h.1 c37
        refine x_iconst C 45 rfl 0 dX2_nextByKind_44 rfl ?_
        exact hR _ _ _ _ dX2_nextByKind_45 h
      · have h := h.2 c37
        refine x_iload_n C 41 rfl 1 dX2_nextByKind_40 rfl rfl ?_
        refine x_goto C 45 dX2_nextByKind_41 (by decide) ?_
        exact hR _ _ _ _ dX2_nextByKind_45 h
    · have h := h.2 t11_0
      by_cases t11_1 : (σ.1 (4 + 2 * k) 1) = 1
      · have h := h.1 t11_1
        refine x_top t11_1 ?_
        refine x_tsIn C 46 35 dX2_nextByKind_11 (by decide) (by decide) (by decide) (by decide) ?_
        refine x_iload_n C 47 rfl 3 dX2_nextByKind_46 rfl rfl ?_
        refine x_if_ne C 60 50 dX2_nextByKind_47 (by decide) rfl (fun c47 => ?_) (fun c47 => ?_)
        · have h := h.1 c47
          refine x_iload_n C 61 rfl 2 dX2_nextByKind_60 rfl rfl ?_
          refine x_iconst C 62 rfl 1 dX2_nextByKind_61 rfl ?_
          refine x_isub C 63 rfl dX2_nextByKind_62 ?_
          refine x_iconst C 64 rfl 0 dX2_nextByKind_63 rfl ?_
          refine x_max C 67 rfl mm_X2_nextByKind_max_64 (by show 1 ≤ _; exact Nat.le_of_ble_eq_true rfl) (by show _ ≤ _; exact Nat.le_of_ble_eq_true rfl) dX2_nextByKind_64 ?_
          exact hR _ _ _ _ dX2_nextByKind_67 h
        · have h := h.2 c47
          refine x_iload_n C 51 rfl 2 dX2_nextByKind_50 rfl rfl ?_
          refine x_iconst C 52 rfl 1 dX2_nextByKind_51 rfl ?_
          refine x_iadd C 53 rfl dX2_nextByKind_52 ?_
          refine x_iconst C 54 rfl 3 dX2_nextByKind_53 rfl ?_
          refine x_min C 57 rfl mm_X2_nextByKind_min_58 (by show 1 ≤ _; exact Nat.le_of_ble_eq_true rfl) (by show _ ≤ _; exact Nat.le_of_ble_eq_true rfl) dX2_nextByKind_54 ?_
          refine x_goto C 67 dX2_nextByKind_57 (by decide) ?_
          exact hR _ _ _ _ dX2_nextByKind_67 h
      · have h := h.2 t11_1
        by_cases t11_2 : (σ.1 (4 + 2 * k) 1) = 2
        · have h := h.1 t11_2
          refine x_top t11_2 ?_
          refine x_tsIn C 68 57 dX2_nextByKind_11 (by decide) (by decide) (by decide) (by decide) ?_
          refine x_iload_n C 69 rfl 3 dX2_nextByKind_68 rfl rfl ?_
          refine x_if_ne C 82 72 dX2_nextByKind_69 (by decide) rfl (fun c69 => ?_) (fun c69 => ?_)
          · have h := h.1 c69
            refine x_iload_n C 83 rfl 2 dX2_nextByKind_82 rfl rfl ?_
            refine x_iload_n C 84 rfl 1 dX2_nextByKind_83 rfl rfl ?_
            refine x_icmp_ne C 91 87 dX2_nextByKind_84 (by decide) rfl (fun c84 => ?_) (fun c84 => ?_)
            · have h := h.1 c84
              refine x_iload_n C 92 rfl 2 dX2_nextByKind_91 rfl rfl ?_
              exact hR _ _ _ _ dX2_nextByKind_92 h
            · have h := h.2 c84
              refine x_iconst C 88 rfl 0 dX2_nextByKind_87 rfl ?_
              refine x_goto C 92 dX2_nextByKind_88 (by decide) ?_
              exact hR _ _ _ _ dX2_nextByKind_92 h
          · have h := h.2 c69
            refine x_iload_n C 73 rfl 2 dX2_nextByKind_72 rfl rfl ?_
            refine x_if_ne C 80 76 dX2_nextByKind_73 (by decide) rfl (fun c73 => ?_) (fun c73 => ?_)
            · have h := h.1 c73
              refine x_iload_n C 81 rfl 2 dX2_nextByKind_80 rfl rfl ?_
              exact hR _ _ _ _ dX2_nextByKind_81 h
            · have h := h.2 c73
              refine x_iload_n C 77 rfl 1 dX2_nextByKind_76 rfl rfl ?_
              refine x_goto C 81 dX2_nextByKind_77 (by decide) ?_
              exact hR _ _ _ _ dX2_nextByKind_81 h
        · have h := h.2 t11_2
          refine x_tsOut C 93 dX2_nextByKind_11 (by have a0 := tne t11_0 (k := 0) (by decide); have a1 := tne t11_1 (k := 1) (by decide); have a2 := tne t11_2 (k := 2) (by decide); omega) (by decide) ?_
          refine x_iload_n C 94 rfl 3 dX2_nextByKind_93 rfl rfl ?_
          refine x_if_ne C 101 97 dX2_nextByKind_94 (by decide) rfl (fun c94 => ?_) (fun c94 => ?_)
          · have h := h.1 c94
            refine x_iload_n C 102 rfl 2 dX2_nextByKind_101 rfl rfl ?_
            refine x_iconst C 103 rfl 1 dX2_nextByKind_102 rfl ?_
            refine x_iadd C 104 rfl dX2_nextByKind_103 ?_
            refine x_iconst C 105 rfl 3 dX2_nextByKind_104 rfl ?_
            refine x_iand C 106 rfl dX2_nextByKind_105 ?_
            exact hR _ _ _ _ dX2_nextByKind_106 h
          · have h := h.2 c94
            refine x_iload_n C 98 rfl 2 dX2_nextByKind_97 rfl rfl ?_
            refine x_goto C 106 dX2_nextByKind_98 (by decide) ?_
            exact hR _ _ _ _ dX2_nextByKind_106 h
  · have h := h.2 c2
    refine x_iload_n C 6 rfl 2 dX2_nextByKind_5 rfl rfl ?_
    exact hR _ _ _ _ dX2_nextByKind_6 h
abbrev rm_X2_next : Room := { frames := 2, cells := 0, slots := 0, locals := 53 }
theorem in_X2_next_X2 : ∀ w ∈ u_ws RX2 TX2 9, w ∈ wsX2_next := by decide +kernel
theorem fl_X2_next_15 : Cond.fieldLink RX2 15 RX2 (TX2 1).2.1 (TX2 1).2.2.1 ∈ wsX2_next := by decide +kernel
theorem fl_X2_next_25 : Cond.fieldLink RX2 25 RX2 (TX2 7).2.1 (TX2 7).2.2.1 ∈ wsX2_next := by decide +kernel
set_option maxRecDepth 100000 in
set_option maxHeartbeats 4000000 in
theorem m_X2_next (l : Launch) (D : va_G) (ad : Nat → Nat) (ct : Nat → ClassId) (k : Nat) (hk : k < 3) (x1 : Int32) (x2 : Int32) (x3 : Int32) (σ : ST) (Q : Int32 → ST → Prop) (h : wp_X2_next k x1 x2 x3 σ Q) : CtI l D (tysF ct) (wC ad ct) yX2_next wsX2_next rm_X2_next [.ref (ad (4 + 2 * k)), .int x1, .int x2, .int x3] σ Q := by
  refine CtI.of (wC_adr ad ct) (maxL := 4) [(0, .ref (ad (4 + 2 * k))), (1, .int x1), (2, .int x2), (3, .int x3)] RX2 (by decide) rfl rfl (by show (lg_sl [.ref (ad (4 + 2 * k)), .int x1, .int x2, .int x3]).length ≤ 4; exact Nat.le_of_ble_eq_true rfl) rfl rfl rfl ?_
  intro E C hR
  unfold wp_X2_next at h
  refine x_aload_n C 1 rfl 0 dX2_next_0 rfl rfl ?_
  refine x_get C 4 rfl (ref := RX2) (4 + 2 * k) 1 (gC_T ad ct _ hk) rfl in_X2_next_X2 (by decide) fl_X2_next_15 rfl rfl dX2_next_1 ?_
  refine x_iconst C 5 rfl 4 dX2_next_4 rfl ?_
  refine x_icmp_ne C 21 8 dX2_next_5 (by decide) rfl (fun c5 => ?_) (fun c5 => ?_)
  · have h := h.1 c5
    refine x_aload_n C 22 rfl 0 dX2_next_21 rfl rfl ?_
    refine x_iload_n C 23 rfl 1 dX2_next_22 rfl rfl ?_
    refine x_iconst C 24 rfl 1 dX2_next_23 rfl ?_
    refine x_iadd C 25 rfl dX2_next_24 ?_
    refine x_iload_n C 26 rfl 2 dX2_next_25 rfl rfl ?_
    refine x_iload_n C 27 rfl 3 dX2_next_26 rfl rfl ?_
    refine x_cVI C 30 rfl (m_X2_nextByKind l D ad ct k hk _ _ _ _ _ h) (cwV 3 C.1.2.2.2.2 gX2_next_X2_nextByKind rfl rfl rfl (by decide +kernel) ⟨Nat.le_of_ble_eq_true rfl, Nat.le_of_ble_eq_true rfl⟩) ⟨(4 + 2 * k), 2, _, _, _, (gC_T ad ct _ hk), rfl⟩ rfl rfl (Nat.le_of_ble_eq_true rfl) dX2_next_27 ?_
    intro r2 σ1 h
    exact hR _ _ _ _ dX2_next_30 h
  · have h := h.2 c5
    refine x_aload_n C 9 rfl 0 dX2_next_8 rfl rfl ?_
    refine x_get C 12 rfl (ref := RX2) (4 + 2 * k) 7 (gC_T ad ct _ hk) rfl in_X2_next_X2 (by decide) fl_X2_next_25 rfl rfl dX2_next_9 ?_
    refine x_iload_n C 13 rfl 1 dX2_next_12 rfl rfl ?_
    refine x_iload_n C 14 rfl 2 dX2_next_13 rfl rfl ?_
    refine x_iload_n C 15 rfl 3 dX2_next_14 rfl rfl ?_
    refine x_cSI C 18 rfl (m_X2_told l D ad ct _ _ _ _ _ _ h) (va_cwS 4 C.1.2.2.2.2 gX2_next_X2_told rfl rfl rfl (by decide +kernel) ⟨Nat.le_of_ble_eq_true rfl, Nat.le_of_ble_eq_true rfl⟩) rfl rfl (Nat.le_of_ble_eq_true rfl) dX2_next_15 ?_
    intro r4 σ3 h
    refine x_goto C 30 dX2_next_18 (by decide) ?_
    exact hR _ _ _ _ dX2_next_30 h
abbrev rm_X1_buildAct : Room := { frames := 3, cells := 0, slots := 0, locals := 76 }
theorem in_X1_buildAct_X1 : ∀ w ∈ u_ws RX1 TX1 7, w ∈ wsX1_buildAct := by decide +kernel
theorem fl_X1_buildAct_9 : Cond.fieldLink RX1 9 RX1 (TX1 0).2.1 (TX1 0).2.2.1 ∈ wsX1_buildAct := by decide +kernel
theorem fl_X1_buildAct_15 : Cond.fieldLink RX1 15 RX1 (TX1 1).2.1 (TX1 1).2.2.1 ∈ wsX1_buildAct := by decide +kernel
theorem fl_X1_buildAct_18 : Cond.fieldLink RX1 18 RX1 (TX1 2).2.1 (TX1 2).2.2.1 ∈ wsX1_buildAct := by decide +kernel
theorem in_X1_buildAct_X2 : ∀ w ∈ u_ws RX2 TX2 9, w ∈ wsX1_buildAct := by decide +kernel
theorem fl_X1_buildAct_61 : Cond.fieldLink RX1 61 RX2 (TX2 5).2.1 (TX2 5).2.2.1 ∈ wsX1_buildAct := by decide +kernel
theorem mm_X1_buildAct_min_64 : ∀ w ∈ ([.methodLink RX1 64 Lib.Math.min.name, .static Lib.Math.min.name, .initialized "java/lang/Math", .code Lib.Math.min.name Lib.Math.min.code 2 (some .int)] : List Cond), w ∈ wsX1_buildAct := by decide +kernel
set_option maxRecDepth 100000 in
set_option maxHeartbeats 4000000 in
theorem v_X1_buildAct_L3 {l : Launch} {D : va_G} {ad : Nat → Nat} {ct : Nat → ClassId} {E : XE}  {Q : ST → Prop} (C : XFix D (tysF ct) (wC ad ct) rm_X1_buildAct 7 E cX1_buildAct RX1 wsX1_buildAct) (k1 : Nat) (hk1 : k1 < 3) (x2 : Int32) (x3 : Int32) (x4 : Int32) (hR : RetV l D (tysF ct) (wC ad ct) rm_X1_buildAct 7 E cX1_buildAct Q) :
    ∀ (n : Nat) (x5 : Int32) (σ : ST), wp_X1_buildAct_L3 k1 x2 x3 x4 Q n x5 σ → V l D (tysF ct) (wC ad ct) rm_X1_buildAct 7 E 3 [(0, .ref (ad 10)), (1, .ref (ad (4 + 2 * k1))), (2, .int x2), (3, .int x3), (4, .int x4), (5, .int x5)] [] σ := by
  intro n
  induction n with
  | zero => intro x5 σ h; exact (h : False).elim
  | succ n ih =>
    intro x5 σ h
    unfold wp_X1_buildAct_L3 at h
    refine x_iload C 5 rfl 5 dX1_buildAct_3 rfl ?_
    refine x_iconst C 6 rfl 4 dX1_buildAct_5 rfl ?_
    refine x_icmp_ge C 115 9 dX1_buildAct_6 (by decide) rfl (fun c6 => ?_) (fun c6 => ?_)
    · have h := h.1 c6
      exact hR _ _ _ dX1_buildAct_115 h
    · have h := h.2 c6
      refine x_aload_n C 10 rfl 1 dX1_buildAct_9 rfl rfl ?_
      refine x_iconst C 11 rfl 1 dX1_buildAct_10 rfl ?_
      refine x_iload C 13 rfl 5 dX1_buildAct_11 rfl ?_
      refine x_iload C 15 rfl 4 dX1_buildAct_13 rfl ?_
      refine x_cVI C 18 rfl (m_X2_answer l D ad ct k1 hk1 _ _ _ _ _ h) (cwV 3 C.1.2.2.2.2 gX1_buildAct_X2_answer rfl rfl rfl (by decide +kernel) ⟨Nat.le_of_ble_eq_true rfl, Nat.le_of_ble_eq_true rfl⟩) ⟨(4 + 2 * k1), 2, _, _, _, (gC_T ad ct _ hk1), rfl⟩ rfl rfl (Nat.le_of_ble_eq_true rfl) dX1_buildAct_15 ?_
      intro r2 σ1 h
      refine x_istore C 20 rfl [(6, .int r2), (0, .ref (ad 10)), (1, .ref (ad (4 + 2 * k1))), (2, .int x2), (3, .int x3), (4, .int x4), (5, .int x5)] dX1_buildAct_18 (by decide) rfl ?_
      refine x_aload_n C 21 rfl 1 dX1_buildAct_20 rfl rfl ?_
      refine x_get C 24 rfl (ref := RX1) 10 0 (gC_R ad ct _) rfl in_X1_buildAct_X1 (by decide) fl_X1_buildAct_9 rfl rfl dX1_buildAct_21 ?_
      refine x_iload_n C 25 rfl 4 dX1_buildAct_24 rfl rfl ?_
      refine x_iload C 27 rfl 5 dX1_buildAct_25 rfl ?_
      refine x_cSI C 30 rfl (m_X1_place l D ad ct _ _ _ _ h) (va_cwS 2 C.1.2.2.2.2 gX1_buildAct_X1_place rfl rfl rfl (by decide +kernel) ⟨Nat.le_of_ble_eq_true rfl, Nat.le_of_ble_eq_true rfl⟩) rfl rfl (Nat.le_of_ble_eq_true rfl) dX1_buildAct_27 ?_
      intro r4 σ3 h
      refine x_iload C 32 rfl 6 dX1_buildAct_30 rfl ?_
      refine x_iadd C 33 rfl dX1_buildAct_32 ?_
      refine x_iload_n C 34 rfl 3 dX1_buildAct_33 rfl rfl ?_
      refine x_iconst C 35 rfl 2 dX1_buildAct_34 rfl ?_
      refine x_icmp_ne C 43 38 dX1_buildAct_35 (by decide) rfl (fun c35 => ?_) (fun c35 => ?_)
      · have h := h.1 c35
        refine x_aload_n C 44 rfl 2 dX1_buildAct_43 rfl rfl ?_
        refine x_iconst C 45 rfl 0 dX1_buildAct_44 rfl ?_
        refine x_iload C 47 rfl 6 dX1_buildAct_45 rfl ?_
        refine x_iload C 49 rfl 5 dX1_buildAct_47 rfl ?_
        refine x_cVI C 52 rfl (m_X2_next l D ad ct k1 hk1 _ _ _ _ _ h) (cwV 3 C.1.2.2.2.2 gX1_buildAct_X2_next rfl rfl rfl (by decide +kernel) ⟨Nat.le_of_ble_eq_true rfl, Nat.le_of_ble_eq_true rfl⟩) ⟨(4 + 2 * k1), 2, _, _, _, (gC_T ad ct _ hk1), rfl⟩ rfl rfl (Nat.le_of_ble_eq_true rfl) dX1_buildAct_49 ?_
        intro r6 σ5 h
        have i7 := h.1
        have h := h.2
        obtain ⟨σ8, eσ8⟩ : ∃ z, z = sR σ5 11 (Int32.toNatClampNeg (r4 + x5)) r6 := ⟨_, rfl⟩
        have h := h σ8 eσ8
        refine x_iast C 53 rfl (σ' := σ8) 11 0 (gC_R_sentTo ad ct _) rfl i7 (by rw [eσ8]; exact (sC_R_sentTo ad ct _)) dX1_buildAct_52 ?_
        refine x_aload_n C 54 rfl 1 dX1_buildAct_53 rfl rfl ?_
        refine x_get C 57 rfl (ref := RX1) 10 1 (gC_R ad ct _) rfl in_X1_buildAct_X1 (by decide) fl_X1_buildAct_15 rfl rfl dX1_buildAct_54 ?_
        refine x_iload_n C 58 rfl 4 dX1_buildAct_57 rfl rfl ?_
        refine x_iload C 60 rfl 5 dX1_buildAct_58 rfl ?_
        refine x_cSI C 63 rfl (m_X1_place l D ad ct _ _ _ _ h) (va_cwS 2 C.1.2.2.2.2 gX1_buildAct_X1_place rfl rfl rfl (by decide +kernel) ⟨Nat.le_of_ble_eq_true rfl, Nat.le_of_ble_eq_true rfl⟩) rfl rfl (Nat.le_of_ble_eq_true rfl) dX1_buildAct_60 ?_
        intro r10 σ9 h
        refine x_iload C 65 rfl 6 dX1_buildAct_63 rfl ?_
        refine x_iadd C 66 rfl dX1_buildAct_65 ?_
        refine x_aload_n C 67 rfl 2 dX1_buildAct_66 rfl rfl ?_
        refine x_iconst C 68 rfl 1 dX1_buildAct_67 rfl ?_
        refine x_iload C 70 rfl 6 dX1_buildAct_68 rfl ?_
        refine x_iload C 72 rfl 5 dX1_buildAct_70 rfl ?_
        refine x_cVI C 75 rfl (m_X2_next l D ad ct k1 hk1 _ _ _ _ _ h) (cwV 3 C.1.2.2.2.2 gX1_buildAct_X2_next rfl rfl rfl (by decide +kernel) ⟨Nat.le_of_ble_eq_true rfl, Nat.le_of_ble_eq_true rfl⟩) ⟨(4 + 2 * k1), 2, _, _, _, (gC_T ad ct _ hk1), rfl⟩ rfl rfl (Nat.le_of_ble_eq_true rfl) dX1_buildAct_72 ?_
        intro r12 σ11 h
        have i13 := h.1
        have h := h.2
        obtain ⟨σ14, eσ14⟩ : ∃ z, z = sR σ11 12 (Int32.toNatClampNeg (r10 + x5)) r12 := ⟨_, rfl⟩
        have h := h σ14 eσ14
        refine x_iast C 76 rfl (σ' := σ14) 12 0 (gC_R_heardTo ad ct _) rfl i13 (by rw [eσ14]; exact (sC_R_heardTo ad ct _)) dX1_buildAct_75 ?_
        refine x_aload_n C 77 rfl 1 dX1_buildAct_76 rfl rfl ?_
        refine x_get C 80 rfl (ref := RX1) 10 2 (gC_R ad ct _) rfl in_X1_buildAct_X1 (by decide) fl_X1_buildAct_18 rfl rfl dX1_buildAct_77 ?_
        refine x_iload_n C 81 rfl 4 dX1_buildAct_80 rfl rfl ?_
        refine x_iload C 83 rfl 5 dX1_buildAct_81 rfl ?_
        refine x_cSI C 86 rfl (m_X1_place l D ad ct _ _ _ _ h) (va_cwS 2 C.1.2.2.2.2 gX1_buildAct_X1_place rfl rfl rfl (by decide +kernel) ⟨Nat.le_of_ble_eq_true rfl, Nat.le_of_ble_eq_true rfl⟩) rfl rfl (Nat.le_of_ble_eq_true rfl) dX1_buildAct_83 ?_
        intro r16 σ15 h
        refine x_iload C 88 rfl 6 dX1_buildAct_86 rfl ?_
        refine x_iadd C 89 rfl dX1_buildAct_88 ?_
        refine x_iload_n C 90 rfl 3 dX1_buildAct_89 rfl rfl ?_
        refine x_iconst C 91 rfl 3 dX1_buildAct_90 rfl ?_
        refine x_icmp_ne C 106 94 dX1_buildAct_91 (by decide) rfl (fun c91 => ?_) (fun c91 => ?_)
        · have h := h.1 c91
          refine x_iload C 108 rfl 0 dX1_buildAct_106 rfl ?_
          have i17 := h.1
          have h := h.2
          obtain ⟨σ18, eσ18⟩ : ∃ z, z = sR σ15 13 (Int32.toNatClampNeg (r16 + x5)) r2 := ⟨_, rfl⟩
          have h := h σ18 eσ18
          refine x_iast C 109 rfl (σ' := σ18) 13 0 (gC_R_heardAs ad ct _) rfl i17 (by rw [eσ18]; exact (sC_R_heardAs ad ct _)) dX1_buildAct_108 ?_
          refine x_iinc C 112 rfl 6 (x5 + 1) [(5, .int (x5 + 1)), (6, .int r2), (0, .ref (ad 10)), (1, .ref (ad (4 + 2 * k1))), (2, .int x2), (3, .int x3), (4, .int x4)] dX1_buildAct_109 rfl rfl (by decide) rfl ?_
          refine x_goto C 3 dX1_buildAct_112 (by decide) ?_
          refine x_sub (lv' := [(0, .ref (ad 10)), (1, .ref (ad (4 + 2 * k1))), (2, .int x2), (3, .int x3), (4, .int x4), (5, .int (x5 + 1))]) [2, 3, 4, 5, 6, 0] rfl ?_
          exact ih _ _ h
        · have h := h.2 c91
          refine x_iload C 96 rfl 0 dX1_buildAct_94 rfl ?_
          refine x_aload_n C 97 rfl 2 dX1_buildAct_96 rfl rfl ?_
          refine x_get C 100 rfl (ref := RX2) (4 + 2 * k1) 5 (gC_T ad ct _ hk1) rfl in_X1_buildAct_X2 (by decide) fl_X1_buildAct_61 rfl rfl dX1_buildAct_97 ?_
          refine x_min C 103 rfl mm_X1_buildAct_min_64 (by show 1 ≤ _; exact Nat.le_of_ble_eq_true rfl) (by show _ ≤ _; exact Nat.le_of_ble_eq_true rfl) dX1_buildAct_100 ?_
          refine x_goto C 108 dX1_buildAct_103 (by decide) ?_
          have i19 := h.1
          have h := h.2
          obtain ⟨σ20, eσ20⟩ : ∃ z, z = sR σ15 13 (Int32.toNatClampNeg (r16 + x5)) (if (σ15.1 (4 + 2 * k1) 5) < r2 then (σ15.1 (4 + 2 * k1) 5) else r2) := ⟨_, rfl⟩
          have h := h σ20 eσ20
          refine x_iast C 109 rfl (σ' := σ20) 13 0 (gC_R_heardAs ad ct _) rfl i19 (by rw [eσ20]; exact (sC_R_heardAs ad ct _)) dX1_buildAct_108 ?_
          refine x_iinc C 112 rfl 6 (x5 + 1) [(5, .int (x5 + 1)), (6, .int r2), (0, .ref (ad 10)), (1, .ref (ad (4 + 2 * k1))), (2, .int x2), (3, .int x3), (4, .int x4)] dX1_buildAct_109 rfl rfl (by decide) rfl ?_
          refine x_goto C 3 dX1_buildAct_112 (by decide) ?_
          refine x_sub (lv' := [(0, .ref (ad 10)), (1, .ref (ad (4 + 2 * k1))), (2, .int x2), (3, .int x3), (4, .int x4), (5, .int (x5 + 1))]) [2, 3, 4, 5, 6, 0] rfl ?_
          exact ih _ _ h
      · have h := h.2 c35
        refine x_iload C 40 rfl 6 dX1_buildAct_38 rfl ?_
        refine x_goto C 52 dX1_buildAct_40 (by decide) ?_
        have i21 := h.1
        have h := h.2
        obtain ⟨σ22, eσ22⟩ : ∃ z, z = sR σ3 11 (Int32.toNatClampNeg (r4 + x5)) x5 := ⟨_, rfl⟩
        have h := h σ22 eσ22
        refine x_iast C 53 rfl (σ' := σ22) 11 0 (gC_R_sentTo ad ct _) rfl i21 (by rw [eσ22]; exact (sC_R_sentTo ad ct _)) dX1_buildAct_52 ?_
        refine x_aload_n C 54 rfl 1 dX1_buildAct_53 rfl rfl ?_
        refine x_get C 57 rfl (ref := RX1) 10 1 (gC_R ad ct _) rfl in_X1_buildAct_X1 (by decide) fl_X1_buildAct_15 rfl rfl dX1_buildAct_54 ?_
        refine x_iload_n C 58 rfl 4 dX1_buildAct_57 rfl rfl ?_
        refine x_iload C 60 rfl 5 dX1_buildAct_58 rfl ?_
        refine x_cSI C 63 rfl (m_X1_place l D ad ct _ _ _ _ h) (va_cwS 2 C.1.2.2.2.2 gX1_buildAct_X1_place rfl rfl rfl (by decide +kernel) ⟨Nat.le_of_ble_eq_true rfl, Nat.le_of_ble_eq_true rfl⟩) rfl rfl (Nat.le_of_ble_eq_true rfl) dX1_buildAct_60 ?_
        intro r24 σ23 h
        refine x_iload C 65 rfl 6 dX1_buildAct_63 rfl ?_
        refine x_iadd C 66 rfl dX1_buildAct_65 ?_
        refine x_aload_n C 67 rfl 2 dX1_buildAct_66 rfl rfl ?_
        refine x_iconst C 68 rfl 1 dX1_buildAct_67 rfl ?_
        refine x_iload C 70 rfl 6 dX1_buildAct_68 rfl ?_
        refine x_iload C 72 rfl 5 dX1_buildAct_70 rfl ?_
        refine x_cVI C 75 rfl (m_X2_next l D ad ct k1 hk1 _ _ _ _ _ h) (cwV 3 C.1.2.2.2.2 gX1_buildAct_X2_next rfl rfl rfl (by decide +kernel) ⟨Nat.le_of_ble_eq_true rfl, Nat.le_of_ble_eq_true rfl⟩) ⟨(4 + 2 * k1), 2, _, _, _, (gC_T ad ct _ hk1), rfl⟩ rfl rfl (Nat.le_of_ble_eq_true rfl) dX1_buildAct_72 ?_
        intro r26 σ25 h
        have i27 := h.1
        have h := h.2
        obtain ⟨σ28, eσ28⟩ : ∃ z, z = sR σ25 12 (Int32.toNatClampNeg (r24 + x5)) r26 := ⟨_, rfl⟩
        have h := h σ28 eσ28
        refine x_iast C 76 rfl (σ' := σ28) 12 0 (gC_R_heardTo ad ct _) rfl i27 (by rw [eσ28]; exact (sC_R_heardTo ad ct _)) dX1_buildAct_75 ?_
        refine x_aload_n C 77 rfl 1 dX1_buildAct_76 rfl rfl ?_
        refine x_get C 80 rfl (ref := RX1) 10 2 (gC_R ad ct _) rfl in_X1_buildAct_X1 (by decide) fl_X1_buildAct_18 rfl rfl dX1_buildAct_77 ?_
        refine x_iload_n C 81 rfl 4 dX1_buildAct_80 rfl rfl ?_
        refine x_iload C 83 rfl 5 dX1_buildAct_81 rfl ?_
        refine x_cSI C 86 rfl (m_X1_place l D ad ct _ _ _ _ h) (va_cwS 2 C.1.2.2.2.2 gX1_buildAct_X1_place rfl rfl rfl (by decide +kernel) ⟨Nat.le_of_ble_eq_true rfl, Nat.le_of_ble_eq_true rfl⟩) rfl rfl (Nat.le_of_ble_eq_true rfl) dX1_buildAct_83 ?_
        intro r30 σ29 h
        refine x_iload C 88 rfl 6 dX1_buildAct_86 rfl ?_
        refine x_iadd C 89 rfl dX1_buildAct_88 ?_
        refine x_iload_n C 90 rfl 3 dX1_buildAct_89 rfl rfl ?_
        refine x_iconst C 91 rfl 3 dX1_buildAct_90 rfl ?_
        refine x_icmp_ne C 106 94 dX1_buildAct_91 (by decide) rfl (fun c91 => ?_) (fun c91 => ?_)
        · have h := h.1 c91
          refine x_iload C 108 rfl 0 dX1_buildAct_106 rfl ?_
          have i31 := h.1
          have h := h.2
          obtain ⟨σ32, eσ32⟩ : ∃ z, z = sR σ29 13 (Int32.toNatClampNeg (r30 + x5)) r2 := ⟨_, rfl⟩
          have h := h σ32 eσ32
          refine x_iast C 109 rfl (σ' := σ32) 13 0 (gC_R_heardAs ad ct _) rfl i31 (by rw [eσ32]; exact (sC_R_heardAs ad ct _)) dX1_buildAct_108 ?_
          refine x_iinc C 112 rfl 6 (x5 + 1) [(5, .int (x5 + 1)), (6, .int r2), (0, .ref (ad 10)), (1, .ref (ad (4 + 2 * k1))), (2, .int x2), (3, .int x3), (4, .int x4)] dX1_buildAct_109 rfl rfl (by decide) rfl ?_
          refine x_goto C 3 dX1_buildAct_112 (by decide) ?_
          refine x_sub (lv' := [(0, .ref (ad 10)), (1, .ref (ad (4 + 2 * k1))), (2, .int x2), (3, .int x3), (4, .int x4), (5, .int (x5 + 1))]) [2, 3, 4, 5, 6, 0] rfl ?_
          exact ih _ _ h
        · have h := h.2 c91
          refine x_iload C 96 rfl 0 dX1_buildAct_94 rfl ?_
          refine x_aload_n C 97 rfl 2 dX1_buildAct_96 rfl rfl ?_
          refine x_get C 100 rfl (ref := RX2) (4 + 2 * k1) 5 (gC_T ad ct _ hk1) rfl in_X1_buildAct_X2 (by decide) fl_X1_buildAct_61 rfl rfl dX1_buildAct_97 ?_
          refine x_min C 103 rfl mm_X1_buildAct_min_64 (by show 1 ≤ _; exact Nat.le_of_ble_eq_true rfl) (by show _ ≤ _; exact Nat.le_of_ble_eq_true rfl) dX1_buildAct_100 ?_
          refine x_goto C 108 dX1_buildAct_103 (by decide) ?_
          have i33 := h.1
          have h := h.2
          obtain ⟨σ34, eσ34⟩ : ∃ z, z = sR σ29 13 (Int32.toNatClampNeg (r30 + x5)) (if (σ29.1 (4 + 2 * k1) 5) < r2 then (σ29.1 (4 + 2 * k1) 5) else r2) := ⟨_, rfl⟩
          have h := h σ34 eσ34
          refine x_iast C 109 rfl (σ' := σ34) 13 0 (gC_R_heardAs ad ct _) rfl i33 (by rw [eσ34]; exact (sC_R_heardAs ad ct _)) dX1_buildAct_108 ?_
          refine x_iinc C 112 rfl 6 (x5 + 1) [(5, .int (x5 + 1)), (6, .int r2), (0, .ref (ad 10)), (1, .ref (ad (4 + 2 * k1))), (2, .int x2), (3, .int x3), (4, .int x4)] dX1_buildAct_109 rfl rfl (by decide) rfl ?_
          refine x_goto C 3 dX1_buildAct_112 (by decide) ?_
          refine x_sub (lv' := [(0, .ref (ad 10)), (1, .ref (ad (4 + 2 * k1))), (2, .int x2), (3, .int x3), (4, .int x4), (5, .int (x5 + 1))]) [2, 3, 4, 5, 6, 0] rfl ?_
          exact ih _ _ h
set_option maxRecDepth 100000 in
set_option maxHeartbeats 4000000 in
theorem m_X1_buildAct (l : Launch) (D : va_G) (ad : Nat → Nat) (ct : Nat → ClassId) (k1 : Nat) (hk1 : k1 < 3) (x2 : Int32) (x3 : Int32) (x4 : Int32) (σ : ST) (Q : ST → Prop) (h : wp_X1_buildAct k1 x2 x3 x4 σ Q) : CtV l D (tysF ct) (wC ad ct) yX1_buildAct wsX1_buildAct rm_X1_buildAct [.ref (ad 10), .ref (ad (4 + 2 * k1)), .int x2, .int x3, .int x4] σ Q := by
  refine CtV.of (wC_adr ad ct) (maxL := 7) [(0, .ref (ad 10)), (1, .ref (ad (4 + 2 * k1))), (2, .int x2), (3, .int x3), (4, .int x4)] RX1 (by decide) rfl rfl (by show (lg_sl [.ref (ad 10), .ref (ad (4 + 2 * k1)), .int x2, .int x3, .int x4]).length ≤ 7; exact Nat.le_of_ble_eq_true rfl) rfl rfl rfl ?_
  intro E C hR
  unfold wp_X1_buildAct at h
  refine x_iconst C 1 rfl 0 dX1_buildAct_0 rfl ?_
  refine x_istore C 3 rfl [(5, .int 0), (0, .ref (ad 10)), (1, .ref (ad (4 + 2 * k1))), (2, .int x2), (3, .int x3), (4, .int x4)] dX1_buildAct_1 (by decide) rfl ?_
  refine x_sub (lv' := [(0, .ref (ad 10)), (1, .ref (ad (4 + 2 * k1))), (2, .int x2), (3, .int x3), (4, .int x4), (5, .int 0)]) [1, 2, 3, 4, 5, 0] rfl ?_
  obtain ⟨n35, h⟩ := h
  refine v_X1_buildAct_L3 C k1 hk1 x2 x3 x4 hR n35 _ _ h
abbrev rm_X1_build : Room := { frames := 4, cells := 0, slots := 0, locals := 102 }
theorem in_X1_build_X1 : ∀ w ∈ u_ws RX1 TX1 7, w ∈ wsX1_build := by decide +kernel
theorem fl_X1_build_27 : Cond.fieldLink RX1 27 RX1 (TX1 5).2.1 (TX1 5).2.2.1 ∈ wsX1_build := by decide +kernel
theorem fl_X1_build_31 : Cond.fieldLink RX1 31 RX1 (TX1 6).2.1 (TX1 6).2.2.1 ∈ wsX1_build := by decide +kernel
theorem in_X1_build_X2 : ∀ w ∈ u_ws RX2 TX2 9, w ∈ wsX1_build := by decide +kernel
theorem fl_X1_build_35 : Cond.fieldLink RX1 35 RX2 (TX2 2).2.1 (TX2 2).2.2.1 ∈ wsX1_build := by decide +kernel
theorem fl_X1_build_24 : Cond.fieldLink RX1 24 RX1 (TX1 4).2.1 (TX1 4).2.2.1 ∈ wsX1_build := by decide +kernel
theorem fl_X1_build_21 : Cond.fieldLink RX1 21 RX1 (TX1 3).2.1 (TX1 3).2.2.1 ∈ wsX1_build := by decide +kernel
theorem ini_X1_build_X4_wallIn : Cond.initialized RX4 ∈ wsX1_build := by decide +kernel
theorem stc_X1_build_X4_wallIn : Cond.static yX4_wallIn ∈ wsX1_build := by decide +kernel
theorem fl_X1_build_44 : Cond.fieldLink RX1 44 RX2 (TX2 4).2.1 (TX2 4).2.2.1 ∈ wsX1_build := by decide +kernel
set_option maxRecDepth 100000 in
set_option maxHeartbeats 4000000 in
theorem v_X1_build_L87 {l : Launch} {D : va_G} {ad : Nat → Nat} {ct : Nat → ClassId} {E : XE}  {Q : ST → Prop} (C : XFix D (tysF ct) (wC ad ct) rm_X1_build 6 E cX1_build RX1 wsX1_build) (x2 : Int32) (x3 : Int32) (x4 : Int32) {K : ST → Prop} (hK : ∀ (σ : ST), K σ → V l D (tysF ct) (wC ad ct) rm_X1_build 6 E 117 [(0, .ref (ad 10)), (1, .ref (ad 1)), (2, .int x2), (3, .int x3), (4, .int x4)] [] σ) (hR : RetV l D (tysF ct) (wC ad ct) rm_X1_build 6 E cX1_build Q) :
    ∀ (n : Nat) (x5 : Int32) (σ : ST), wp_X1_build_L87 x2 x3 x4 K Q n x5 σ → V l D (tysF ct) (wC ad ct) rm_X1_build 6 E 87 [(0, .ref (ad 10)), (1, .ref (ad 1)), (2, .int x2), (3, .int x3), (4, .int x4), (5, .int x5)] [] σ := by
  intro n
  induction n with
  | zero => intro x5 σ h; exact (h : False).elim
  | succ n ih =>
    intro x5 σ h
    unfold wp_X1_build_L87 at h
    refine x_iload C 89 rfl 5 dX1_build_87 rfl ?_
    refine x_iconst C 90 rfl 3 dX1_build_89 rfl ?_
    refine x_icmp_ge C 117 93 dX1_build_90 (by decide) rfl (fun c90 => ?_) (fun c90 => ?_)
    · have h := h.1 c90
      refine x_sub (lv' := [(0, .ref (ad 10)), (1, .ref (ad 1)), (2, .int x2), (3, .int x3), (4, .int x4)]) [0, 1, 2, 3, 4] rfl ?_
      exact hK  _ h
    · have h := h.2 c90
      refine x_aload_n C 94 rfl 0 dX1_build_93 rfl rfl ?_
      refine x_aload_n C 95 rfl 1 dX1_build_94 rfl rfl ?_
      refine x_iload C 97 rfl 4 dX1_build_95 rfl ?_
      have i11 := h.1
      have h := h.2
      have hk12 : (Int32.toNatClampNeg x4) < 3 := Nat.not_le.mp fun q => i11 (Or.inr q)
      refine x_aald C 98 rfl (q := ad (4 + 2 * (Int32.toNatClampNeg x4))) 1 2 (gC_J_things ad ct _) rfl i11 rfl dX1_build_97 ?_
      refine x_iload_n C 99 rfl 3 dX1_build_98 rfl rfl ?_
      refine x_iload C 101 rfl 4 dX1_build_99 rfl ?_
      refine x_cNI C 104 rfl (m_X4_wallIn l D ad ct _ _ _ _ h) (va_cnB 2 C.1.2.2.2.2 ggX1_build_X4_wallIn rfl rfl rfl C.2.2.2.2.2.2.1 (C.1.2.2.2.2 _ ini_X1_build_X4_wallIn) (by decide +kernel) ⟨Nat.le_of_ble_eq_true rfl, Nat.le_of_ble_eq_true rfl⟩) (C.1.2.2.2.2 _ stc_X1_build_X4_wallIn) rfl rfl (Nat.le_of_ble_eq_true rfl) dX1_build_101 ?_
      intro r14 σ13 h
      refine x_iload C 106 rfl 4 dX1_build_104 rfl ?_
      refine x_iload C 108 rfl 5 dX1_build_106 rfl ?_
      refine x_cVV C 111 rfl (m_X1_buildAct l D ad ct (Int32.toNatClampNeg x4) hk12 _ _ _ _ _ h) (cwV 4 C.1.2.2.2.2 gX1_build_X1_buildAct rfl rfl rfl (by decide +kernel) ⟨Nat.le_of_ble_eq_true rfl, Nat.le_of_ble_eq_true rfl⟩) ⟨10, 1, _, _, _, (gC_R ad ct _), rfl⟩ rfl rfl (Nat.le_of_ble_eq_true rfl) dX1_build_108 ?_
      intro σ15 h
      refine x_iinc C 114 rfl 5 (x5 + 1) [(5, .int (x5 + 1)), (0, .ref (ad 10)), (1, .ref (ad 1)), (2, .int x2), (3, .int x3), (4, .int x4)] dX1_build_111 rfl rfl (by decide) rfl ?_
      refine x_goto C 87 dX1_build_114 (by decide) ?_
      refine x_sub (lv' := [(0, .ref (ad 10)), (1, .ref (ad 1)), (2, .int x2), (3, .int x3), (4, .int x4), (5, .int (x5 + 1))]) [1, 2, 3, 4, 5, 0] rfl ?_
      exact ih _ _ h
set_option maxRecDepth 100000 in
set_option maxHeartbeats 4000000 in
theorem v_X1_build_L15 {l : Launch} {D : va_G} {ad : Nat → Nat} {ct : Nat → ClassId} {E : XE}  {Q : ST → Prop} (C : XFix D (tysF ct) (wC ad ct) rm_X1_build 6 E cX1_build RX1 wsX1_build) (x2 : Int32) (x3 : Int32) (hR : RetV l D (tysF ct) (wC ad ct) rm_X1_build 6 E cX1_build Q) :
    ∀ (n : Nat) (x4 : Int32) (σ : ST), wp_X1_build_L15 x2 x3 Q n x4 σ → V l D (tysF ct) (wC ad ct) rm_X1_build 6 E 15 [(0, .ref (ad 10)), (1, .ref (ad 1)), (2, .int x2), (3, .int x3), (4, .int x4)] [] σ := by
  intro n
  induction n with
  | zero => intro x4 σ h; exact (h : False).elim
  | succ n ih =>
    intro x4 σ h
    unfold wp_X1_build_L15 at h
    refine x_iload C 17 rfl 4 dX1_build_15 rfl ?_
    refine x_iload_n C 18 rfl 2 dX1_build_17 rfl rfl ?_
    refine x_icmp_ge C 123 21 dX1_build_18 (by decide) rfl (fun c18 => ?_) (fun c18 => ?_)
    · have h := h.1 c18
      exact hR _ _ _ dX1_build_123 h
    · have h := h.2 c18
      refine x_aload_n C 22 rfl 0 dX1_build_21 rfl rfl ?_
      refine x_dup C 23 rfl dX1_build_22 rfl ?_
      refine x_get C 26 rfl (ref := RX1) 10 6 (gC_R ad ct _) rfl in_X1_build_X1 (by decide) fl_X1_build_31 rfl rfl dX1_build_23 ?_
      refine x_aload_n C 27 rfl 1 dX1_build_26 rfl rfl ?_
      refine x_iload C 29 rfl 4 dX1_build_27 rfl ?_
      have i3 := h.1
      have h := h.2
      have hk4 : (Int32.toNatClampNeg x4) < 3 := Nat.not_le.mp fun q => i3 (Or.inr q)
      refine x_aald C 30 rfl (q := ad (4 + 2 * (Int32.toNatClampNeg x4))) 1 2 (gC_J_things ad ct _) rfl i3 rfl dX1_build_29 ?_
      refine x_get C 33 rfl (ref := RX2) (4 + 2 * (Int32.toNatClampNeg x4)) 2 (gC_T ad ct _ hk4) rfl in_X1_build_X2 (by decide) fl_X1_build_35 rfl rfl dX1_build_30 ?_
      refine x_iconst C 34 rfl 2 dX1_build_33 rfl ?_
      refine x_iload C 36 rfl 4 dX1_build_34 rfl ?_
      refine x_imul C 37 rfl dX1_build_36 ?_
      refine x_ishl C 38 rfl dX1_build_37 ?_
      refine x_lshl C 39 rfl dX1_build_38 ?_
      obtain ⟨σ5, eσ5⟩ : ∃ z, z = sL σ 10 6 ((σ.2.1 10 6) <<< (Int32.toInt64 (((σ.1 (4 + 2 * (Int32.toNatClampNeg x4)) 2) : Int32) <<< (((2 * x4) : Int32) &&& 31)) &&& 63)) := ⟨_, rfl⟩
      have h := h σ5 eσ5
      refine x_put C 42 rfl (ref := RX1) (ty := .long) (σ' := σ5) 10 6 (gC_R ad ct _) rfl in_X1_build_X1 tyX1 tyX1_ok nmX1 (by decide) fl_X1_build_31 rfl rfl (by decide +kernel) rfl rfl (by show 6 < 7; decide) (by rw [eσ5]; exact (sC_R_start ad ct _)) dX1_build_39 ?_
      refine x_aload_n C 43 rfl 0 dX1_build_42 rfl rfl ?_
      refine x_get C 46 rfl (ref := RX1) 10 4 (gC_R ad ct _) rfl in_X1_build_X1 (by decide) fl_X1_build_24 rfl rfl dX1_build_43 ?_
      refine x_iload C 48 rfl 4 dX1_build_46 rfl ?_
      refine x_aload_n C 49 rfl 1 dX1_build_48 rfl rfl ?_
      refine x_iload C 51 rfl 4 dX1_build_49 rfl ?_
      have hk6 : (Int32.toNatClampNeg x4) < 3 := Nat.not_le.mp fun q => i3 (Or.inr q)
      refine x_aald C 52 rfl (q := ad (4 + 2 * (Int32.toNatClampNeg x4))) 1 2 (gC_J_things ad ct _) rfl i3 rfl dX1_build_51 ?_
      refine x_get C 55 rfl (ref := RX2) (4 + 2 * (Int32.toNatClampNeg x4)) 2 (gC_T ad ct _ hk6) rfl in_X1_build_X2 (by decide) fl_X1_build_35 rfl rfl dX1_build_52 ?_
      obtain ⟨σ7, eσ7⟩ : ∃ z, z = sR σ5 15 (Int32.toNatClampNeg x4) (σ5.1 (4 + 2 * (Int32.toNatClampNeg x4)) 2) := ⟨_, rfl⟩
      have h := h σ7 eσ7
      refine x_iast C 56 rfl (σ' := σ7) 15 0 (gC_R_firsts ad ct _) rfl i3 (by rw [eσ7]; exact (sC_R_firsts ad ct _)) dX1_build_55 ?_
      refine x_aload_n C 57 rfl 0 dX1_build_56 rfl rfl ?_
      refine x_get C 60 rfl (ref := RX1) 10 3 (gC_R ad ct _) rfl in_X1_build_X1 (by decide) fl_X1_build_21 rfl rfl dX1_build_57 ?_
      refine x_iload C 62 rfl 4 dX1_build_60 rfl ?_
      refine x_iload_n C 63 rfl 3 dX1_build_62 rfl rfl ?_
      refine x_iload C 65 rfl 4 dX1_build_63 rfl ?_
      refine x_cNI C 68 rfl (m_X4_wallIn l D ad ct _ _ _ _ h) (va_cnB 2 C.1.2.2.2.2 ggX1_build_X4_wallIn rfl rfl rfl C.2.2.2.2.2.2.1 (C.1.2.2.2.2 _ ini_X1_build_X4_wallIn) (by decide +kernel) ⟨Nat.le_of_ble_eq_true rfl, Nat.le_of_ble_eq_true rfl⟩) (C.1.2.2.2.2 _ stc_X1_build_X4_wallIn) rfl rfl (Nat.le_of_ble_eq_true rfl) dX1_build_65 ?_
      intro r9 σ8 h
      refine x_iconst C 69 rfl 1 dX1_build_68 rfl ?_
      refine x_icmp_ne C 82 72 dX1_build_69 (by decide) rfl (fun c69 => ?_) (fun c69 => ?_)
      · have h := h.1 c69
        refine x_iconst C 83 rfl 0 dX1_build_82 rfl ?_
        obtain ⟨σ10, eσ10⟩ : ∃ z, z = sR σ8 14 (Int32.toNatClampNeg x4) 0 := ⟨_, rfl⟩
        have h := h σ10 eσ10
        refine x_iast C 84 rfl (σ' := σ10) 14 0 (gC_R_cleanEach ad ct _) rfl i3 (by rw [eσ10]; exact (sC_R_cleanEach ad ct _)) dX1_build_83 ?_
        refine x_iconst C 85 rfl 0 dX1_build_84 rfl ?_
        refine x_istore C 87 rfl [(5, .int 0), (0, .ref (ad 10)), (1, .ref (ad 1)), (2, .int x2), (3, .int x3), (4, .int x4)] dX1_build_85 (by decide) rfl ?_
        refine x_sub (lv' := [(0, .ref (ad 10)), (1, .ref (ad 1)), (2, .int x2), (3, .int x3), (4, .int x4), (5, .int 0)]) [1, 2, 3, 4, 5, 0] rfl ?_
        obtain ⟨n16, h⟩ := h
        refine v_X1_build_L87 C x2 x3 x4 ?_ hR n16 _ _ h
        · intro σ17 h
          refine x_iinc C 120 rfl 4 (x4 + 1) [(4, .int (x4 + 1)), (0, .ref (ad 10)), (1, .ref (ad 1)), (2, .int x2), (3, .int x3)] dX1_build_117 rfl rfl (by decide) rfl ?_
          refine x_goto C 15 dX1_build_120 (by decide) ?_
          refine x_sub (lv' := [(0, .ref (ad 10)), (1, .ref (ad 1)), (2, .int x2), (3, .int x3), (4, .int (x4 + 1))]) [1, 2, 3, 4, 0] rfl ?_
          exact ih _ _ h
      · have h := h.2 c69
        refine x_aload_n C 73 rfl 1 dX1_build_72 rfl rfl ?_
        refine x_iload C 75 rfl 4 dX1_build_73 rfl ?_
        have hk18 : (Int32.toNatClampNeg x4) < 3 := Nat.not_le.mp fun q => i3 (Or.inr q)
        refine x_aald C 76 rfl (q := ad (4 + 2 * (Int32.toNatClampNeg x4))) 1 2 (gC_J_things ad ct _) rfl i3 rfl dX1_build_75 ?_
        refine x_get C 79 rfl (ref := RX2) (4 + 2 * (Int32.toNatClampNeg x4)) 4 (gC_T ad ct _ hk18) rfl in_X1_build_X2 (by decide) fl_X1_build_44 rfl rfl dX1_build_76 ?_
        refine x_goto C 83 dX1_build_79 (by decide) ?_
        obtain ⟨σ19, eσ19⟩ : ∃ z, z = sR σ8 14 (Int32.toNatClampNeg x4) (σ8.1 (4 + 2 * (Int32.toNatClampNeg x4)) 4) := ⟨_, rfl⟩
        have h := h σ19 eσ19
        refine x_iast C 84 rfl (σ' := σ19) 14 0 (gC_R_cleanEach ad ct _) rfl i3 (by rw [eσ19]; exact (sC_R_cleanEach ad ct _)) dX1_build_83 ?_
        refine x_iconst C 85 rfl 0 dX1_build_84 rfl ?_
        refine x_istore C 87 rfl [(5, .int 0), (0, .ref (ad 10)), (1, .ref (ad 1)), (2, .int x2), (3, .int x3), (4, .int x4)] dX1_build_85 (by decide) rfl ?_
        refine x_sub (lv' := [(0, .ref (ad 10)), (1, .ref (ad 1)), (2, .int x2), (3, .int x3), (4, .int x4), (5, .int 0)]) [1, 2, 3, 4, 5, 0] rfl ?_
        obtain ⟨n20, h⟩ := h
        refine v_X1_build_L87 C x2 x3 x4 ?_ hR n20 _ _ h
        · intro σ21 h
          refine x_iinc C 120 rfl 4 (x4 + 1) [(4, .int (x4 + 1)), (0, .ref (ad 10)), (1, .ref (ad 1)), (2, .int x2), (3, .int x3)] dX1_build_117 rfl rfl (by decide) rfl ?_
          refine x_goto C 15 dX1_build_120 (by decide) ?_
          refine x_sub (lv' := [(0, .ref (ad 10)), (1, .ref (ad 1)), (2, .int x2), (3, .int x3), (4, .int (x4 + 1))]) [1, 2, 3, 4, 0] rfl ?_
          exact ih _ _ h
set_option maxRecDepth 100000 in
set_option maxHeartbeats 4000000 in
theorem m_X1_build (l : Launch) (D : va_G) (ad : Nat → Nat) (ct : Nat → ClassId) (x2 : Int32) (x3 : Int32) (σ : ST) (Q : ST → Prop) (h : wp_X1_build x2 x3 σ Q) : CtV l D (tysF ct) (wC ad ct) yX1_build wsX1_build rm_X1_build [.ref (ad 10), .ref (ad 1), .int x2, .int x3] σ Q := by
  refine CtV.of (wC_adr ad ct) (maxL := 6) [(0, .ref (ad 10)), (1, .ref (ad 1)), (2, .int x2), (3, .int x3)] RX1 (by decide) rfl rfl (by show (lg_sl [.ref (ad 10), .ref (ad 1), .int x2, .int x3]).length ≤ 6; exact Nat.le_of_ble_eq_true rfl) rfl rfl rfl ?_
  intro E C hR
  unfold wp_X1_build at h
  refine x_aload_n C 1 rfl 0 dX1_build_0 rfl rfl ?_
  refine x_iconst C 2 rfl 3 dX1_build_1 rfl ?_
  refine x_iload_n C 3 rfl 2 dX1_build_2 rfl rfl ?_
  refine x_imul C 4 rfl dX1_build_3 ?_
  obtain ⟨σ1, eσ1⟩ : ∃ z, z = sI σ 10 5 (3 * x2) := ⟨_, rfl⟩
  have h := h σ1 eσ1
  refine x_put C 7 rfl (ref := RX1) (ty := .int) (σ' := σ1) 10 5 (gC_R ad ct _) rfl in_X1_build_X1 tyX1 tyX1_ok nmX1 (by decide) fl_X1_build_27 rfl rfl (by decide +kernel) rfl rfl (by show 5 < 7; decide) (by rw [eσ1]; exact (sC_R_acts ad ct _)) dX1_build_4 ?_
  refine x_aload_n C 8 rfl 0 dX1_build_7 rfl rfl ?_
  refine x_lconst C 9 rfl 1 dX1_build_8 rfl ?_
  obtain ⟨σ2, eσ2⟩ : ∃ z, z = sL σ1 10 6 1 := ⟨_, rfl⟩
  have h := h σ2 eσ2
  refine x_put C 12 rfl (ref := RX1) (ty := .long) (σ' := σ2) 10 6 (gC_R ad ct _) rfl in_X1_build_X1 tyX1 tyX1_ok nmX1 (by decide) fl_X1_build_31 rfl rfl (by decide +kernel) rfl rfl (by show 6 < 7; decide) (by rw [eσ2]; exact (sC_R_start ad ct _)) dX1_build_9 ?_
  refine x_iconst C 13 rfl 0 dX1_build_12 rfl ?_
  refine x_istore C 15 rfl [(4, .int 0), (0, .ref (ad 10)), (1, .ref (ad 1)), (2, .int x2), (3, .int x3)] dX1_build_13 (by decide) rfl ?_
  refine x_sub (lv' := [(0, .ref (ad 10)), (1, .ref (ad 1)), (2, .int x2), (3, .int x3), (4, .int 0)]) [1, 2, 3, 4, 0] rfl ?_
  obtain ⟨n22, h⟩ := h
  refine v_X1_build_L15 C x2 x3 hR n22 _ _ h
abbrev rm_X0_node : Room := { frames := 0, cells := 0, slots := 0, locals := 0 }
set_option maxRecDepth 100000 in
set_option maxHeartbeats 4000000 in
theorem m_X0_node (l : Launch) (D : va_G) (ad : Nat → Nat) (ct : Nat → ClassId) (x0 : Int32) (x1 : Int32) (x2 : Int32) (σ : ST) (Q : Int32 → ST → Prop) (h : wp_X0_node x0 x1 x2 σ Q) : CtI l D (tysF ct) (wC ad ct) yX0_node wsX0_node rm_X0_node [.int x0, .int x1, .int x2] σ Q := by
  refine CtI.of (wC_adr ad ct) (maxL := 3) [(0, .int x0), (1, .int x1), (2, .int x2)] RX0 (by decide) rfl rfl (by show (lg_sl [.int x0, .int x1, .int x2]).length ≤ 3; exact Nat.le_of_ble_eq_true rfl) rfl rfl rfl ?_
  intro E C hR
  unfold wp_X0_node at h
  refine x_iload_n C 1 rfl 0 dX0_node_0 rfl rfl ?_
  refine x_iconst C 2 rfl 4 dX0_node_1 rfl ?_
  refine x_ishl C 3 rfl dX0_node_2 ?_
  refine x_iload_n C 4 rfl 1 dX0_node_3 rfl rfl ?_
  refine x_iconst C 5 rfl 2 dX0_node_4 rfl ?_
  refine x_ishl C 6 rfl dX0_node_5 ?_
  refine x_ior C 7 rfl dX0_node_6 ?_
  refine x_iload_n C 8 rfl 2 dX0_node_7 rfl rfl ?_
  refine x_ior C 9 rfl dX0_node_8 ?_
  refine x_bipush C 11 rfl 63 dX0_node_9 rfl ?_
  refine x_iand C 12 rfl dX0_node_11 ?_
  exact hR _ _ _ _ dX0_node_12 h
abbrev rm_X0_reach : Room := { frames := 0, cells := 0, slots := 0, locals := 0 }
theorem in_X0_reach_X0 : ∀ w ∈ u_ws RX0 TX0 8, w ∈ wsX0_reach := by decide +kernel
theorem fl_X0_reach_24 : Cond.fieldLink RX0 24 RX0 (TX0 4).2.1 (TX0 4).2.2.1 ∈ wsX0_reach := by decide +kernel
theorem fl_X0_reach_34 : Cond.fieldLink RX0 34 RX0 (TX0 5).2.1 (TX0 5).2.2.1 ∈ wsX0_reach := by decide +kernel
theorem fl_X0_reach_18 : Cond.fieldLink RX0 18 RX0 (TX0 2).2.1 (TX0 2).2.2.1 ∈ wsX0_reach := by decide +kernel
theorem fl_X0_reach_21 : Cond.fieldLink RX0 21 RX0 (TX0 3).2.1 (TX0 3).2.2.1 ∈ wsX0_reach := by decide +kernel
theorem fl_X0_reach_15 : Cond.fieldLink RX0 15 RX0 (TX0 1).2.1 (TX0 1).2.2.1 ∈ wsX0_reach := by decide +kernel
set_option maxRecDepth 100000 in
set_option maxHeartbeats 4000000 in
theorem m_X0_reach (l : Launch) (D : va_G) (ad : Nat → Nat) (ct : Nat → ClassId) (k : Nat) (hk : k < 3) (x1 : Int32) (x2 : Int32) (x3 : Int32) (σ : ST) (Q : ST → Prop) (h : wp_X0_reach k x1 x2 x3 σ Q) : CtV l D (tysF ct) (wC ad ct) yX0_reach wsX0_reach rm_X0_reach [.ref (ad (16 + 6 * k)), .int x1, .int x2, .int x3] σ Q := by
  refine CtV.of (wC_adr ad ct) (maxL := 4) [(0, .ref (ad (16 + 6 * k))), (1, .int x1), (2, .int x2), (3, .int x3)] RX0 (by decide) rfl rfl (by show (lg_sl [.ref (ad (16 + 6 * k)), .int x1, .int x2, .int x3]).length ≤ 4; exact Nat.le_of_ble_eq_true rfl) rfl rfl rfl ?_
  intro E C hR
  unfold wp_X0_reach at h
  refine x_aload_n C 1 rfl 0 dX0_reach_0 rfl rfl ?_
  refine x_get C 4 rfl (ref := RX0) (16 + 6 * k) 4 (gC_P ad ct _ hk) rfl in_X0_reach_X0 (by decide) fl_X0_reach_24 rfl rfl dX0_reach_1 ?_
  refine x_iload_n C 5 rfl 1 dX0_reach_4 rfl rfl ?_
  have i1 := h.1
  have h := h.2
  refine x_iald C 6 rfl (21 + 6 * k) 0 (gC_P_depth ad ct _ hk) rfl i1 dX0_reach_5 ?_
  refine x_iconst C 7 rfl (-1) dX0_reach_6 rfl ?_
  refine x_icmp_ne C 19 10 dX0_reach_7 (by decide) rfl (fun c7 => ?_) (fun c7 => ?_)
  · have h := h.1 c7
    exact hR _ _ _ dX0_reach_19 h
  · have h := h.2 c7
    refine x_aload_n C 11 rfl 0 dX0_reach_10 rfl rfl ?_
    refine x_get C 14 rfl (ref := RX0) (16 + 6 * k) 5 (gC_P ad ct _ hk) rfl in_X0_reach_X0 (by decide) fl_X0_reach_34 rfl rfl dX0_reach_11 ?_
    refine x_bipush C 16 rfl 64 dX0_reach_14 rfl ?_
    refine x_icmp_lt C 20 19 dX0_reach_16 (by decide) rfl (fun c16 => ?_) (fun c16 => ?_)
    · have h := h.1 c16
      refine x_aload_n C 21 rfl 0 dX0_reach_20 rfl rfl ?_
      refine x_get C 24 rfl (ref := RX0) (16 + 6 * k) 4 (gC_P ad ct _ hk) rfl in_X0_reach_X0 (by decide) fl_X0_reach_24 rfl rfl dX0_reach_21 ?_
      refine x_iload_n C 25 rfl 1 dX0_reach_24 rfl rfl ?_
      refine x_iload_n C 26 rfl 2 dX0_reach_25 rfl rfl ?_
      refine x_iconst C 27 rfl (-1) dX0_reach_26 rfl ?_
      refine x_icmp_ne C 34 30 dX0_reach_27 (by decide) rfl (fun c27 => ?_) (fun c27 => ?_)
      · have h := h.1 c27
        refine x_aload_n C 35 rfl 0 dX0_reach_34 rfl rfl ?_
        refine x_get C 38 rfl (ref := RX0) (16 + 6 * k) 4 (gC_P ad ct _ hk) rfl in_X0_reach_X0 (by decide) fl_X0_reach_24 rfl rfl dX0_reach_35 ?_
        refine x_iload_n C 39 rfl 2 dX0_reach_38 rfl rfl ?_
        have i2 := h.1
        have h := h.2
        refine x_iald C 40 rfl (21 + 6 * k) 0 (gC_P_depth ad ct _ hk) rfl i2 dX0_reach_39 ?_
        refine x_iconst C 41 rfl 1 dX0_reach_40 rfl ?_
        refine x_iadd C 42 rfl dX0_reach_41 ?_
        obtain ⟨σ3, eσ3⟩ : ∃ z, z = sR σ (21 + 6 * k) (Int32.toNatClampNeg x1) ((σ.2.2.1 (21 + 6 * k) (Int32.toNatClampNeg x2)) + 1) := ⟨_, rfl⟩
        have h := h σ3 eσ3
        refine x_iast C 43 rfl (σ' := σ3) (21 + 6 * k) 0 (gC_P_depth ad ct _ hk) rfl i1 (by rw [eσ3]; exact (sC_P_depth ad ct _ hk)) dX0_reach_42 ?_
        refine x_aload_n C 44 rfl 0 dX0_reach_43 rfl rfl ?_
        refine x_get C 47 rfl (ref := RX0) (16 + 6 * k) 2 (gC_P ad ct _ hk) rfl in_X0_reach_X0 (by decide) fl_X0_reach_18 rfl rfl dX0_reach_44 ?_
        refine x_iload_n C 48 rfl 1 dX0_reach_47 rfl rfl ?_
        refine x_iload_n C 49 rfl 2 dX0_reach_48 rfl rfl ?_
        obtain ⟨σ4, eσ4⟩ : ∃ z, z = sR σ3 (19 + 6 * k) (Int32.toNatClampNeg x1) x2 := ⟨_, rfl⟩
        have h := h σ4 eσ4
        refine x_iast C 50 rfl (σ' := σ4) (19 + 6 * k) 0 (gC_P_before ad ct _ hk) rfl i1 (by rw [eσ4]; exact (sC_P_before ad ct _ hk)) dX0_reach_49 ?_
        refine x_aload_n C 51 rfl 0 dX0_reach_50 rfl rfl ?_
        refine x_get C 54 rfl (ref := RX0) (16 + 6 * k) 3 (gC_P ad ct _ hk) rfl in_X0_reach_X0 (by decide) fl_X0_reach_21 rfl rfl dX0_reach_51 ?_
        refine x_iload_n C 55 rfl 1 dX0_reach_54 rfl rfl ?_
        refine x_iload_n C 56 rfl 3 dX0_reach_55 rfl rfl ?_
        obtain ⟨σ5, eσ5⟩ : ∃ z, z = sR σ4 (20 + 6 * k) (Int32.toNatClampNeg x1) x3 := ⟨_, rfl⟩
        have h := h σ5 eσ5
        refine x_iast C 57 rfl (σ' := σ5) (20 + 6 * k) 0 (gC_P_edge ad ct _ hk) rfl i1 (by rw [eσ5]; exact (sC_P_edge ad ct _ hk)) dX0_reach_56 ?_
        refine x_aload_n C 58 rfl 0 dX0_reach_57 rfl rfl ?_
        refine x_get C 61 rfl (ref := RX0) (16 + 6 * k) 1 (gC_P ad ct _ hk) rfl in_X0_reach_X0 (by decide) fl_X0_reach_15 rfl rfl dX0_reach_58 ?_
        refine x_aload_n C 62 rfl 0 dX0_reach_61 rfl rfl ?_
        refine x_get C 65 rfl (ref := RX0) (16 + 6 * k) 5 (gC_P ad ct _ hk) rfl in_X0_reach_X0 (by decide) fl_X0_reach_34 rfl rfl dX0_reach_62 ?_
        refine x_iload_n C 66 rfl 1 dX0_reach_65 rfl rfl ?_
        have i6 := h.1
        have h := h.2
        obtain ⟨σ7, eσ7⟩ : ∃ z, z = sR σ5 (18 + 6 * k) (Int32.toNatClampNeg (σ5.1 (16 + 6 * k) 5)) x1 := ⟨_, rfl⟩
        have h := h σ7 eσ7
        refine x_iast C 67 rfl (σ' := σ7) (18 + 6 * k) 0 (gC_P_queue ad ct _ hk) rfl i6 (by rw [eσ7]; exact (sC_P_queue ad ct _ hk)) dX0_reach_66 ?_
        refine x_aload_n C 68 rfl 0 dX0_reach_67 rfl rfl ?_
        refine x_dup C 69 rfl dX0_reach_68 rfl ?_
        refine x_get C 72 rfl (ref := RX0) (16 + 6 * k) 5 (gC_P ad ct _ hk) rfl in_X0_reach_X0 (by decide) fl_X0_reach_34 rfl rfl dX0_reach_69 ?_
        refine x_iconst C 73 rfl 1 dX0_reach_72 rfl ?_
        refine x_iadd C 74 rfl dX0_reach_73 ?_
        obtain ⟨σ8, eσ8⟩ : ∃ z, z = sI σ7 (16 + 6 * k) 5 ((σ7.1 (16 + 6 * k) 5) + 1) := ⟨_, rfl⟩
        have h := h σ8 eσ8
        refine x_put C 77 rfl (ref := RX0) (ty := .int) (σ' := σ8) (16 + 6 * k) 5 (gC_P ad ct _ hk) rfl in_X0_reach_X0 tyX0 tyX0_ok nmX0 (by decide) fl_X0_reach_34 rfl rfl (by decide +kernel) rfl rfl (by show 5 < 8; decide) (by rw [eσ8]; exact (sC_P_queued ad ct _ hk)) dX0_reach_74 ?_
        exact hR _ _ _ dX0_reach_77 h
      · have h := h.2 c27
        refine x_iconst C 31 rfl 0 dX0_reach_30 rfl ?_
        refine x_goto C 42 dX0_reach_31 (by decide) ?_
        obtain ⟨σ9, eσ9⟩ : ∃ z, z = sR σ (21 + 6 * k) (Int32.toNatClampNeg x1) 0 := ⟨_, rfl⟩
        have h := h σ9 eσ9
        refine x_iast C 43 rfl (σ' := σ9) (21 + 6 * k) 0 (gC_P_depth ad ct _ hk) rfl i1 (by rw [eσ9]; exact (sC_P_depth ad ct _ hk)) dX0_reach_42 ?_
        refine x_aload_n C 44 rfl 0 dX0_reach_43 rfl rfl ?_
        refine x_get C 47 rfl (ref := RX0) (16 + 6 * k) 2 (gC_P ad ct _ hk) rfl in_X0_reach_X0 (by decide) fl_X0_reach_18 rfl rfl dX0_reach_44 ?_
        refine x_iload_n C 48 rfl 1 dX0_reach_47 rfl rfl ?_
        refine x_iload_n C 49 rfl 2 dX0_reach_48 rfl rfl ?_
        obtain ⟨σ10, eσ10⟩ : ∃ z, z = sR σ9 (19 + 6 * k) (Int32.toNatClampNeg x1) x2 := ⟨_, rfl⟩
        have h := h σ10 eσ10
        refine x_iast C 50 rfl (σ' := σ10) (19 + 6 * k) 0 (gC_P_before ad ct _ hk) rfl i1 (by rw [eσ10]; exact (sC_P_before ad ct _ hk)) dX0_reach_49 ?_
        refine x_aload_n C 51 rfl 0 dX0_reach_50 rfl rfl ?_
        refine x_get C 54 rfl (ref := RX0) (16 + 6 * k) 3 (gC_P ad ct _ hk) rfl in_X0_reach_X0 (by decide) fl_X0_reach_21 rfl rfl dX0_reach_51 ?_
        refine x_iload_n C 55 rfl 1 dX0_reach_54 rfl rfl ?_
        refine x_iload_n C 56 rfl 3 dX0_reach_55 rfl rfl ?_
        obtain ⟨σ11, eσ11⟩ : ∃ z, z = sR σ10 (20 + 6 * k) (Int32.toNatClampNeg x1) x3 := ⟨_, rfl⟩
        have h := h σ11 eσ11
        refine x_iast C 57 rfl (σ' := σ11) (20 + 6 * k) 0 (gC_P_edge ad ct _ hk) rfl i1 (by rw [eσ11]; exact (sC_P_edge ad ct _ hk)) dX0_reach_56 ?_
        refine x_aload_n C 58 rfl 0 dX0_reach_57 rfl rfl ?_
        refine x_get C 61 rfl (ref := RX0) (16 + 6 * k) 1 (gC_P ad ct _ hk) rfl in_X0_reach_X0 (by decide) fl_X0_reach_15 rfl rfl dX0_reach_58 ?_
        refine x_aload_n C 62 rfl 0 dX0_reach_61 rfl rfl ?_
        refine x_get C 65 rfl (ref := RX0) (16 + 6 * k) 5 (gC_P ad ct _ hk) rfl in_X0_reach_X0 (by decide) fl_X0_reach_34 rfl rfl dX0_reach_62 ?_
        refine x_iload_n C 66 rfl 1 dX0_reach_65 rfl rfl ?_
        have i12 := h.1
        have h := h.2
        obtain ⟨σ13, eσ13⟩ : ∃ z, z = sR σ11 (18 + 6 * k) (Int32.toNatClampNeg (σ11.1 (16 + 6 * k) 5)) x1 := ⟨_, rfl⟩
        have h := h σ13 eσ13
        refine x_iast C 67 rfl (σ' := σ13) (18 + 6 * k) 0 (gC_P_queue ad ct _ hk) rfl i12 (by rw [eσ13]; exact (sC_P_queue ad ct _ hk)) dX0_reach_66 ?_
        refine x_aload_n C 68 rfl 0 dX0_reach_67 rfl rfl ?_
        refine x_dup C 69 rfl dX0_reach_68 rfl ?_
        refine x_get C 72 rfl (ref := RX0) (16 + 6 * k) 5 (gC_P ad ct _ hk) rfl in_X0_reach_X0 (by decide) fl_X0_reach_34 rfl rfl dX0_reach_69 ?_
        refine x_iconst C 73 rfl 1 dX0_reach_72 rfl ?_
        refine x_iadd C 74 rfl dX0_reach_73 ?_
        obtain ⟨σ14, eσ14⟩ : ∃ z, z = sI σ13 (16 + 6 * k) 5 ((σ13.1 (16 + 6 * k) 5) + 1) := ⟨_, rfl⟩
        have h := h σ14 eσ14
        refine x_put C 77 rfl (ref := RX0) (ty := .int) (σ' := σ14) (16 + 6 * k) 5 (gC_P ad ct _ hk) rfl in_X0_reach_X0 tyX0 tyX0_ok nmX0 (by decide) fl_X0_reach_34 rfl rfl (by decide +kernel) rfl rfl (by show 5 < 8; decide) (by rw [eσ14]; exact (sC_P_queued ad ct _ hk)) dX0_reach_74 ?_
        exact hR _ _ _ dX0_reach_77 h
    · have h := h.2 c16
      exact hR _ _ _ dX0_reach_19 h
abbrev rm_X1_isCleaned : Room := { frames := 0, cells := 0, slots := 0, locals := 0 }
theorem in_X1_isCleaned_X1 : ∀ w ∈ u_ws RX1 TX1 7, w ∈ wsX1_isCleaned := by decide +kernel
theorem fl_X1_isCleaned_21 : Cond.fieldLink RX1 21 RX1 (TX1 3).2.1 (TX1 3).2.2.1 ∈ wsX1_isCleaned := by decide +kernel
set_option maxRecDepth 100000 in
set_option maxHeartbeats 4000000 in
theorem m_X1_isCleaned (l : Launch) (D : va_G) (ad : Nat → Nat) (ct : Nat → ClassId) (x1 : Int32) (x2 : Int32) (σ : ST) (Q : Int32 → ST → Prop) (h : wp_X1_isCleaned x1 x2 σ Q) : CtI l D (tysF ct) (wC ad ct) yX1_isCleaned wsX1_isCleaned rm_X1_isCleaned [.ref (ad 10), .int x1, .int x2] σ Q := by
  refine CtI.ofZ (wC_adr ad ct) (maxL := 3) [(0, .ref (ad 10)), (1, .int x1), (2, .int x2)] RX1 (by decide) rfl rfl (by show (lg_sl [.ref (ad 10), .int x1, .int x2]).length ≤ 3; exact Nat.le_of_ble_eq_true rfl) rfl rfl rfl ?_
  intro E C hR
  unfold wp_X1_isCleaned at h
  refine x_aload_n C 1 rfl 0 dX1_isCleaned_0 rfl rfl ?_
  refine x_get C 4 rfl (ref := RX1) 10 3 (gC_R ad ct _) rfl in_X1_isCleaned_X1 (by decide) fl_X1_isCleaned_21 rfl rfl dX1_isCleaned_1 ?_
  refine x_iload_n C 5 rfl 1 dX1_isCleaned_4 rfl rfl ?_
  have i1 := h.1
  have h := h.2
  refine x_iald C 6 rfl 14 0 (gC_R_cleanEach ad ct _) rfl i1 dX1_isCleaned_5 ?_
  refine x_if_le C 26 9 dX1_isCleaned_6 (by decide) rfl (fun c6 => ?_) (fun c6 => ?_)
  · have h := h.1 c6
    refine x_iconst C 27 rfl 0 dX1_isCleaned_26 rfl ?_
    exact hR _ _ _ _ dX1_isCleaned_27 (by decide) h
  · have h := h.2 c6
    refine x_iload_n C 10 rfl 2 dX1_isCleaned_9 rfl rfl ?_
    refine x_iconst C 11 rfl 1 dX1_isCleaned_10 rfl ?_
    refine x_iadd C 12 rfl dX1_isCleaned_11 ?_
    refine x_aload_n C 13 rfl 0 dX1_isCleaned_12 rfl rfl ?_
    refine x_get C 16 rfl (ref := RX1) 10 3 (gC_R ad ct _) rfl in_X1_isCleaned_X1 (by decide) fl_X1_isCleaned_21 rfl rfl dX1_isCleaned_13 ?_
    refine x_iload_n C 17 rfl 1 dX1_isCleaned_16 rfl rfl ?_
    refine x_iald C 18 rfl 14 0 (gC_R_cleanEach ad ct _) rfl i1 dX1_isCleaned_17 ?_
    have z2 := h.1
    have h := h.2
    refine x_irem C 19 rfl dX1_isCleaned_18 z2 ?_
    refine x_if_ne C 26 22 dX1_isCleaned_19 (by decide) rfl (fun c19 => ?_) (fun c19 => ?_)
    · have h := h.1 c19
      refine x_iconst C 27 rfl 0 dX1_isCleaned_26 rfl ?_
      exact hR _ _ _ _ dX1_isCleaned_27 (by decide) h
    · have h := h.2 c19
      refine x_iconst C 23 rfl 1 dX1_isCleaned_22 rfl ?_
      refine x_goto C 27 dX1_isCleaned_23 (by decide) ?_
      exact hR _ _ _ _ dX1_isCleaned_27 (by decide) h
