abbrev rm_X5_shortest : Room := { frames := 4, cells := 0, slots := 0, locals := 103 }
theorem in_X5_shortest_X5 : ∀ w ∈ u_ws RX5 TX5 20, w ∈ wsX5_shortest := by decide +kernel
theorem fl_X5_shortest_38 : Cond.fieldLink RX5 38 RX5 (TX5 11).2.1 (TX5 11).2.2.1 ∈ wsX5_shortest := by decide +kernel
theorem fl_X5_shortest_13 : Cond.fieldLink RX5 13 RX5 (TX5 2).2.1 (TX5 2).2.2.1 ∈ wsX5_shortest := by decide +kernel
set_option maxRecDepth 100000 in
set_option maxHeartbeats 4000000 in
theorem m_X5_shortest (l : Launch) (D : va_G) (ad : Nat → Nat) (ct : Nat → ClassId) (x1 : Int32) (σ : ST) (Q : Int32 → ST → Prop) (h : wp_X5_shortest x1 σ Q) : CtI l D (tysF ct) (wM ad ct) yX5_shortest wsX5_shortest rm_X5_shortest [.ref (ad 0), .int x1] σ Q := by
  refine CtI.of (wM_adr ad ct) (maxL := 3) [(0, .ref (ad 0)), (1, .int x1)] RX5 (by decide) rfl rfl (by show (lg_sl [.ref (ad 0), .int x1]).length ≤ 3; exact Nat.le_of_ble_eq_true rfl) rfl rfl rfl ?_
  intro E C hR
  unfold wp_X5_shortest at h
  refine x_aload_n C 1 rfl 0 dX5_shortest_0 rfl rfl ?_
  refine x_iload_n C 2 rfl 1 dX5_shortest_1 rfl rfl ?_
  refine x_cVV C 5 rfl (m_X5_looksAhead l D ad ct _ _ _ h) (cwV 1 C.1.2.2.2.2 gX5_shortest_X5_looksAhead rfl rfl rfl (by decide +kernel) ⟨Nat.le_of_ble_eq_true rfl, Nat.le_of_ble_eq_true rfl⟩) ⟨0, 5, _, _, _, (gM_M ad ct _), rfl⟩ rfl rfl (Nat.le_of_ble_eq_true rfl) dX5_shortest_2 ?_
  intro σ1 h
  refine x_aload_n C 6 rfl 0 dX5_shortest_5 rfl rfl ?_
  refine x_get C 9 rfl (ref := RX5) 0 11 (gM_M ad ct _) rfl in_X5_shortest_X5 (by decide) fl_X5_shortest_38 rfl rfl dX5_shortest_6 ?_
  refine x_aload_n C 10 rfl 0 dX5_shortest_9 rfl rfl ?_
  refine x_aload_n C 11 rfl 0 dX5_shortest_10 rfl rfl ?_
  refine x_get C 14 rfl (ref := RX5) 0 2 (gM_M ad ct _) rfl in_X5_shortest_X5 (by decide) fl_X5_shortest_13 rfl rfl dX5_shortest_11 ?_
  refine x_iload_n C 15 rfl 1 dX5_shortest_14 rfl rfl ?_
  have i2 := h.1
  have h := h.2
  refine x_iald C 16 rfl 2 0 (gM_M_first ad ct _) rfl i2 dX5_shortest_15 ?_
  refine x_aload_n C 17 rfl 0 dX5_shortest_16 rfl rfl ?_
  refine x_get C 20 rfl (ref := RX5) 0 2 (gM_M ad ct _) rfl in_X5_shortest_X5 (by decide) fl_X5_shortest_13 rfl rfl dX5_shortest_17 ?_
  refine x_iload_n C 21 rfl 1 dX5_shortest_20 rfl rfl ?_
  refine x_iald C 22 rfl 2 0 (gM_M_first ad ct _) rfl i2 dX5_shortest_21 ?_
  refine x_iconst C 23 rfl 0 dX5_shortest_22 rfl ?_
  refine x_cVI C 26 rfl (m_X5_at l D ad ct _ _ _ _ _ h) (cwV 3 C.1.2.2.2.2 gX5_shortest_X5_at rfl rfl rfl (by decide +kernel) ⟨Nat.le_of_ble_eq_true rfl, Nat.le_of_ble_eq_true rfl⟩) ⟨0, 5, _, _, _, (gM_M ad ct _), rfl⟩ rfl rfl (Nat.le_of_ble_eq_true rfl) dX5_shortest_23 ?_
  intro r4 σ3 h
  have i5 := h.1
  have h := h.2
  refine x_iald C 27 rfl 10 0 (gM_M_ahead ad ct _) rfl i5 dX5_shortest_26 ?_
  refine x_istore_n C 28 rfl [(2, .int (σ3.2.2.1 10 (Int32.toNatClampNeg r4))), (0, .ref (ad 0)), (1, .int x1)] dX5_shortest_27 rfl (by decide) rfl ?_
  refine x_iload_n C 29 rfl 0 dX5_shortest_28 rfl rfl ?_
  refine x_sipush C 32 rfl 1000 dX5_shortest_29 rfl ?_
  refine x_icmp_ge C 39 35 dX5_shortest_32 (by decide) rfl (fun c32 => ?_) (fun c32 => ?_)
  · have h := h.1 c32
    refine x_iconst C 40 rfl (-1) dX5_shortest_39 rfl ?_
    exact hR _ _ _ _ dX5_shortest_40 h
  · have h := h.2 c32
    refine x_iload_n C 36 rfl 0 dX5_shortest_35 rfl rfl ?_
    refine x_goto C 40 dX5_shortest_36 (by decide) ?_
    exact hR _ _ _ _ dX5_shortest_40 h
abbrev rm_X5_silent : Room := { frames := 5, cells := 0, slots := 0, locals := 125 }
set_option maxRecDepth 100000 in
set_option maxHeartbeats 4000000 in
theorem m_X5_silent (l : Launch) (D : va_G) (ad : Nat → Nat) (ct : Nat → ClassId) (x1 : Int32) (σ : ST) (Q : Int32 → ST → Prop) (h : wp_X5_silent x1 σ Q) : CtI l D (tysF ct) (wM ad ct) yX5_silent wsX5_silent rm_X5_silent [.ref (ad 0), .int x1] σ Q := by
  refine CtI.of (wM_adr ad ct) (maxL := 2) [(0, .ref (ad 0)), (1, .int x1)] RX5 (by decide) rfl rfl (by show (lg_sl [.ref (ad 0), .int x1]).length ≤ 2; exact Nat.le_of_ble_eq_true rfl) rfl rfl rfl ?_
  intro E C hR
  unfold wp_X5_silent at h
  refine x_aload_n C 1 rfl 0 dX5_silent_0 rfl rfl ?_
  refine x_iload_n C 2 rfl 1 dX5_silent_1 rfl rfl ?_
  refine x_cVI C 5 rfl (m_X5_isThing l D ad ct _ _ _ h) (cwV 1 C.1.2.2.2.2 gX5_silent_X5_isThing rfl rfl rfl (by decide +kernel) ⟨Nat.le_of_ble_eq_true rfl, Nat.le_of_ble_eq_true rfl⟩) ⟨0, 5, _, _, _, (gM_M ad ct _), rfl⟩ rfl rfl (Nat.le_of_ble_eq_true rfl) dX5_silent_2 ?_
  intro r2 σ1 h
  refine x_if_ne C 12 8 dX5_silent_5 (by decide) rfl (fun c5 => ?_) (fun c5 => ?_)
  · have h := h.1 c5
    refine x_aload_n C 13 rfl 0 dX5_silent_12 rfl rfl ?_
    refine x_iload_n C 14 rfl 1 dX5_silent_13 rfl rfl ?_
    refine x_cVI C 17 rfl (m_X5_shortest l D ad ct _ _ _ h) (cwV 1 C.1.2.2.2.2 gX5_silent_X5_shortest rfl rfl rfl (by decide +kernel) ⟨Nat.le_of_ble_eq_true rfl, Nat.le_of_ble_eq_true rfl⟩) ⟨0, 5, _, _, _, (gM_M ad ct _), rfl⟩ rfl rfl (Nat.le_of_ble_eq_true rfl) dX5_silent_14 ?_
    intro r4 σ3 h
    refine x_iconst C 18 rfl (-1) dX5_silent_17 rfl ?_
    refine x_icmp_ne C 25 21 dX5_silent_18 (by decide) rfl (fun c18 => ?_) (fun c18 => ?_)
    · have h := h.1 c18
      refine x_iconst C 26 rfl 0 dX5_silent_25 rfl ?_
      exact hR _ _ _ _ dX5_silent_26 h
    · have h := h.2 c18
      refine x_iconst C 22 rfl 1 dX5_silent_21 rfl ?_
      refine x_goto C 26 dX5_silent_22 (by decide) ?_
      exact hR _ _ _ _ dX5_silent_26 h
  · have h := h.2 c5
    refine x_iconst C 9 rfl (-1) dX5_silent_8 rfl ?_
    refine x_goto C 26 dX5_silent_9 (by decide) ?_
    exact hR _ _ _ _ dX5_silent_26 h
abbrev rm_X5_look : Room := { frames := 6, cells := 0, slots := 0, locals := 146 }
theorem in_X5_look_X5 : ∀ w ∈ u_ws RX5 TX5 20, w ∈ wsX5_look := by decide +kernel
theorem fl_X5_look_62 : Cond.fieldLink RX5 62 RX5 (TX5 0).2.1 (TX5 0).2.2.1 ∈ wsX5_look := by decide +kernel
set_option maxRecDepth 100000 in
set_option maxHeartbeats 4000000 in
theorem v_X5_look_L39 {l : Launch} {D : va_G} {ad : Nat → Nat} {ct : Nat → ClassId} {E : XE}  {Q : Int32 → ST → Prop} (C : XFix D (tysF ct) (wM ad ct) rm_X5_look 4 E cX5_look RX5 wsX5_look) (hR : RetI l D (tysF ct) (wM ad ct) rm_X5_look 4 E cX5_look Q) :
    ∀ (n : Nat) (x2 : Int32) (x3 : Int32) (σ : ST), wp_X5_look_L39 Q n x2 x3 σ → V l D (tysF ct) (wM ad ct) rm_X5_look 4 E 39 [(0, .ref (ad 0)), (2, .int x2), (3, .int x3)] [] σ := by
  intro n
  induction n with
  | zero => intro x2 x3 σ h; exact (h : False).elim
  | succ n ih =>
    intro x2 x3 σ h
    unfold wp_X5_look_L39 at h
    refine x_iload_n C 40 rfl 2 dX5_look_39 rfl rfl ?_
    refine x_aload_n C 41 rfl 0 dX5_look_40 rfl rfl ?_
    refine x_get C 44 rfl (ref := RX5) 0 0 (gM_M ad ct _) rfl in_X5_look_X5 (by decide) fl_X5_look_62 rfl rfl dX5_look_41 ?_
    refine x_icmp_ge C 61 47 dX5_look_44 (by decide) rfl (fun c44 => ?_) (fun c44 => ?_)
    · have h := h.1 c44
      refine x_iload_n C 62 rfl 1 dX5_look_61 rfl rfl ?_
      exact hR _ _ _ _ dX5_look_62 h
    · have h := h.2 c44
      refine x_iload_n C 48 rfl 1 dX5_look_47 rfl rfl ?_
      refine x_aload_n C 49 rfl 0 dX5_look_48 rfl rfl ?_
      refine x_iload_n C 50 rfl 2 dX5_look_49 rfl rfl ?_
      refine x_cVI C 53 rfl (m_X5_silent l D ad ct _ _ _ h) (cwV 1 C.1.2.2.2.2 gX5_look_X5_silent rfl rfl rfl (by decide +kernel) ⟨Nat.le_of_ble_eq_true rfl, Nat.le_of_ble_eq_true rfl⟩) ⟨0, 5, _, _, _, (gM_M ad ct _), rfl⟩ rfl rfl (Nat.le_of_ble_eq_true rfl) dX5_look_50 ?_
      intro r2 σ1 h
      refine x_iadd C 54 rfl dX5_look_53 ?_
      refine x_istore_n C 55 rfl [(2, .int (x2 + r2)), (0, .ref (ad 0)), (3, .int x3)] dX5_look_54 rfl (by decide) rfl ?_
      refine x_iinc C 58 rfl 2 (x3 + 1) [(3, .int (x3 + 1)), (2, .int (x2 + r2)), (0, .ref (ad 0))] dX5_look_55 rfl rfl (by decide) rfl ?_
      refine x_goto C 39 dX5_look_58 (by decide) ?_
      refine x_sub (lv' := [(0, .ref (ad 0)), (2, .int (x2 + r2)), (3, .int (x3 + 1))]) [2, 1, 0] rfl ?_
      exact ih _ _ _ h
set_option maxRecDepth 100000 in
set_option maxHeartbeats 4000000 in
theorem m_X5_look (l : Launch) (D : va_G) (ad : Nat → Nat) (ct : Nat → ClassId) (x1 : Int32) (σ : ST) (Q : Int32 → ST → Prop) (h : wp_X5_look x1 σ Q) : CtI l D (tysF ct) (wM ad ct) yX5_look wsX5_look rm_X5_look [.ref (ad 0), .int x1] σ Q := by
  refine CtI.of (wM_adr ad ct) (maxL := 4) [(0, .ref (ad 0)), (1, .int x1)] RX5 (by decide) rfl rfl (by show (lg_sl [.ref (ad 0), .int x1]).length ≤ 4; exact Nat.le_of_ble_eq_true rfl) rfl rfl rfl ?_
  intro E C hR
  unfold wp_X5_look at h
  refine x_iconst C 1 rfl 0 dX5_look_0 rfl ?_
  refine x_istore_n C 2 rfl [(2, .int 0), (0, .ref (ad 0)), (1, .int x1)] dX5_look_1 rfl (by decide) rfl ?_
  refine x_iload_n C 3 rfl 2 dX5_look_2 rfl rfl ?_
  by_cases t3_0 : x1 = 0
  · have h := h.1 t3_0
    refine x_top t3_0 ?_
    refine x_tsIn C 32 29 dX5_look_3 (by decide) (by decide) (by decide) (by decide) ?_
    refine x_aload_n C 33 rfl 1 dX5_look_32 rfl rfl ?_
    refine x_get C 36 rfl (ref := RX5) 0 0 (gM_M ad ct _) rfl in_X5_look_X5 (by decide) fl_X5_look_62 rfl rfl dX5_look_33 ?_
    exact hR _ _ _ _ dX5_look_36 h
  · have h := h.2 t3_0
    by_cases t3_1 : x1 = 1
    · have h := h.1 t3_1
      refine x_top t3_1 ?_
      refine x_tsIn C 37 34 dX5_look_3 (by decide) (by decide) (by decide) (by decide) ?_
      refine x_iconst C 38 rfl 0 dX5_look_37 rfl ?_
      refine x_istore_n C 39 rfl [(3, .int 0), (2, .int 0), (0, .ref (ad 0)), (1, .int x1)] dX5_look_38 rfl (by decide) rfl ?_
      refine x_sub (lv' := [(0, .ref (ad 0)), (2, .int 0), (3, .int 0)]) [2, 1, 0] rfl ?_
      obtain ⟨n3, h⟩ := h
      refine v_X5_look_L39 C hR n3 _ _ _ h
    · have h := h.2 t3_1
      by_cases t3_2 : x1 = 2
      · have h := h.1 t3_2
        refine x_top t3_2 ?_
        refine x_tsIn C 63 60 dX5_look_3 (by decide) (by decide) (by decide) (by decide) ?_
        refine x_aload_n C 64 rfl 1 dX5_look_63 rfl rfl ?_
        refine x_aload_n C 65 rfl 1 dX5_look_64 rfl rfl ?_
        refine x_cVI C 68 rfl (m_X5_wallsNow l D ad ct _ _ h) (cwV 0 C.1.2.2.2.2 gX5_look_X5_wallsNow rfl rfl rfl (by decide +kernel) ⟨Nat.le_of_ble_eq_true rfl, Nat.le_of_ble_eq_true rfl⟩) ⟨0, 5, _, _, _, (gM_M ad ct _), rfl⟩ rfl rfl (Nat.le_of_ble_eq_true rfl) dX5_look_65 ?_
        intro r5 σ4 h
        refine x_cVI C 71 rfl (m_X5_costs l D ad ct _ _ _ h) (cwV 1 C.1.2.2.2.2 gX5_look_X5_costs rfl rfl rfl (by decide +kernel) ⟨Nat.le_of_ble_eq_true rfl, Nat.le_of_ble_eq_true rfl⟩) ⟨0, 5, _, _, _, (gM_M ad ct _), rfl⟩ rfl rfl (Nat.le_of_ble_eq_true rfl) dX5_look_68 ?_
        intro r7 σ6 h
        exact hR _ _ _ _ dX5_look_71 h
      · have h := h.2 t3_2
        by_cases t3_3 : x1 = 3
        · have h := h.1 t3_3
          refine x_top t3_3 ?_
          refine x_tsIn C 72 69 dX5_look_3 (by decide) (by decide) (by decide) (by decide) ?_
          refine x_aload_n C 73 rfl 1 dX5_look_72 rfl rfl ?_
          refine x_cVI C 76 rfl (m_X5_wallsNow l D ad ct _ _ h) (cwV 0 C.1.2.2.2.2 gX5_look_X5_wallsNow rfl rfl rfl (by decide +kernel) ⟨Nat.le_of_ble_eq_true rfl, Nat.le_of_ble_eq_true rfl⟩) ⟨0, 5, _, _, _, (gM_M ad ct _), rfl⟩ rfl rfl (Nat.le_of_ble_eq_true rfl) dX5_look_73 ?_
          intro r9 σ8 h
          exact hR _ _ _ _ dX5_look_76 h
        · have h := h.2 t3_3
          refine x_tsOut C 77 dX5_look_3 (by have a0 := tne t3_0 (k := 0) (by decide); have a1 := tne t3_1 (k := 1) (by decide); have a2 := tne t3_2 (k := 2) (by decide); have a3 := tne t3_3 (k := 3) (by decide); omega) (by decide) ?_
          refine x_iconst C 78 rfl (-1) dX5_look_77 rfl ?_
          exact hR _ _ _ _ dX5_look_78 h
abbrev rm_X5_of : Room := { frames := 2, cells := 0, slots := 0, locals := 43 }
theorem in_X5_of_X5 : ∀ w ∈ u_ws RX5 TX5 20, w ∈ wsX5_of := by decide +kernel
theorem fl_X5_of_7 : Cond.fieldLink RX5 7 RX5 (TX5 1).2.1 (TX5 1).2.2.1 ∈ wsX5_of := by decide +kernel
theorem fl_X5_of_13 : Cond.fieldLink RX5 13 RX5 (TX5 2).2.1 (TX5 2).2.2.1 ∈ wsX5_of := by decide +kernel
theorem fl_X5_of_16 : Cond.fieldLink RX5 16 RX5 (TX5 3).2.1 (TX5 3).2.2.1 ∈ wsX5_of := by decide +kernel
theorem fl_X5_of_19 : Cond.fieldLink RX5 19 RX5 (TX5 4).2.1 (TX5 4).2.2.1 ∈ wsX5_of := by decide +kernel
theorem fl_X5_of_22 : Cond.fieldLink RX5 22 RX5 (TX5 5).2.1 (TX5 5).2.2.1 ∈ wsX5_of := by decide +kernel
set_option maxRecDepth 100000 in
set_option maxHeartbeats 4000000 in
theorem m_X5_of (l : Launch) (D : va_G) (ad : Nat → Nat) (ct : Nat → ClassId) (x1 : Int32) (x2 : Int32) (σ : ST) (Q : Int32 → ST → Prop) (h : wp_X5_of x1 x2 σ Q) : CtI l D (tysF ct) (wM ad ct) yX5_of wsX5_of rm_X5_of [.ref (ad 0), .int x1, .int x2] σ Q := by
  refine CtI.of (wM_adr ad ct) (maxL := 3) [(0, .ref (ad 0)), (1, .int x1), (2, .int x2)] RX5 (by decide) rfl rfl (by show (lg_sl [.ref (ad 0), .int x1, .int x2]).length ≤ 3; exact Nat.le_of_ble_eq_true rfl) rfl rfl rfl ?_
  intro E C hR
  unfold wp_X5_of at h
  refine x_aload_n C 1 rfl 0 dX5_of_0 rfl rfl ?_
  refine x_iload_n C 2 rfl 1 dX5_of_1 rfl rfl ?_
  refine x_cVI C 5 rfl (m_X5_isThing l D ad ct _ _ _ h) (cwV 1 C.1.2.2.2.2 gX5_of_X5_isThing rfl rfl rfl (by decide +kernel) ⟨Nat.le_of_ble_eq_true rfl, Nat.le_of_ble_eq_true rfl⟩) ⟨0, 5, _, _, _, (gM_M ad ct _), rfl⟩ rfl rfl (Nat.le_of_ble_eq_true rfl) dX5_of_2 ?_
  intro r2 σ1 h
  refine x_if_ne C 10 8 dX5_of_5 (by decide) rfl (fun c5 => ?_) (fun c5 => ?_)
  · have h := h.1 c5
    refine x_iload_n C 11 rfl 2 dX5_of_10 rfl rfl ?_
    by_cases t11_0 : x2 = 0
    · have h := h.1 t11_0
      refine x_top t11_0 ?_
      refine x_tsIn C 44 33 dX5_of_11 (by decide) (by decide) (by decide) (by decide) ?_
      refine x_aload_n C 45 rfl 0 dX5_of_44 rfl rfl ?_
      refine x_get C 48 rfl (ref := RX5) 0 1 (gM_M ad ct _) rfl in_X5_of_X5 (by decide) fl_X5_of_7 rfl rfl dX5_of_45 ?_
      refine x_iload_n C 49 rfl 1 dX5_of_48 rfl rfl ?_
      have i3 := h.1
      have h := h.2
      refine x_iald C 50 rfl 1 0 (gM_M_kind ad ct _) rfl i3 dX5_of_49 ?_
      exact hR _ _ _ _ dX5_of_50 h
    · have h := h.2 t11_0
      by_cases t11_1 : x2 = 1
      · have h := h.1 t11_1
        refine x_top t11_1 ?_
        refine x_tsIn C 51 40 dX5_of_11 (by decide) (by decide) (by decide) (by decide) ?_
        refine x_aload_n C 52 rfl 0 dX5_of_51 rfl rfl ?_
        refine x_get C 55 rfl (ref := RX5) 0 2 (gM_M ad ct _) rfl in_X5_of_X5 (by decide) fl_X5_of_13 rfl rfl dX5_of_52 ?_
        refine x_iload_n C 56 rfl 1 dX5_of_55 rfl rfl ?_
        have i4 := h.1
        have h := h.2
        refine x_iald C 57 rfl 2 0 (gM_M_first ad ct _) rfl i4 dX5_of_56 ?_
        exact hR _ _ _ _ dX5_of_57 h
      · have h := h.2 t11_1
        by_cases t11_2 : x2 = 2
        · have h := h.1 t11_2
          refine x_top t11_2 ?_
          refine x_tsIn C 58 47 dX5_of_11 (by decide) (by decide) (by decide) (by decide) ?_
          refine x_aload_n C 59 rfl 0 dX5_of_58 rfl rfl ?_
          refine x_get C 62 rfl (ref := RX5) 0 3 (gM_M ad ct _) rfl in_X5_of_X5 (by decide) fl_X5_of_16 rfl rfl dX5_of_59 ?_
          refine x_iload_n C 63 rfl 1 dX5_of_62 rfl rfl ?_
          have i5 := h.1
          have h := h.2
          refine x_iald C 64 rfl 3 0 (gM_M_wall ad ct _) rfl i5 dX5_of_63 ?_
          exact hR _ _ _ _ dX5_of_64 h
        · have h := h.2 t11_2
          by_cases t11_3 : x2 = 3
          · have h := h.1 t11_3
            refine x_top t11_3 ?_
            refine x_tsIn C 65 54 dX5_of_11 (by decide) (by decide) (by decide) (by decide) ?_
            refine x_aload_n C 66 rfl 0 dX5_of_65 rfl rfl ?_
            refine x_get C 69 rfl (ref := RX5) 0 4 (gM_M ad ct _) rfl in_X5_of_X5 (by decide) fl_X5_of_19 rfl rfl dX5_of_66 ?_
            refine x_iload_n C 70 rfl 1 dX5_of_69 rfl rfl ?_
            have i6 := h.1
            have h := h.2
            refine x_iald C 71 rfl 4 0 (gM_M_clean ad ct _) rfl i6 dX5_of_70 ?_
            exact hR _ _ _ _ dX5_of_71 h
          · have h := h.2 t11_3
            by_cases t11_4 : x2 = 4
            · have h := h.1 t11_4
              refine x_top t11_4 ?_
              refine x_tsIn C 72 61 dX5_of_11 (by decide) (by decide) (by decide) (by decide) ?_
              refine x_aload_n C 73 rfl 0 dX5_of_72 rfl rfl ?_
              refine x_get C 76 rfl (ref := RX5) 0 5 (gM_M ad ct _) rfl in_X5_of_X5 (by decide) fl_X5_of_22 rfl rfl dX5_of_73 ?_
              refine x_iload_n C 77 rfl 1 dX5_of_76 rfl rfl ?_
              have i7 := h.1
              have h := h.2
              refine x_iald C 78 rfl 5 0 (gM_M_pad ad ct _) rfl i7 dX5_of_77 ?_
              exact hR _ _ _ _ dX5_of_78 h
            · have h := h.2 t11_4
              refine x_tsOut C 79 dX5_of_11 (by have a0 := tne t11_0 (k := 0) (by decide); have a1 := tne t11_1 (k := 1) (by decide); have a2 := tne t11_2 (k := 2) (by decide); have a3 := tne t11_3 (k := 3) (by decide); have a4 := tne t11_4 (k := 4) (by decide); omega) (by decide) ?_
              refine x_iconst C 80 rfl (-1) dX5_of_79 rfl ?_
              exact hR _ _ _ _ dX5_of_80 h
  · have h := h.2 c5
    refine x_iconst C 9 rfl (-1) dX5_of_8 rfl ?_
    exact hR _ _ _ _ dX5_of_9 h
abbrev rm_X5_does : Room := { frames := 2, cells := 0, slots := 0, locals := 43 }
theorem in_X5_does_X5 : ∀ w ∈ u_ws RX5 TX5 20, w ∈ wsX5_does := by decide +kernel
theorem fl_X5_does_7 : Cond.fieldLink RX5 7 RX5 (TX5 1).2.1 (TX5 1).2.2.1 ∈ wsX5_does := by decide +kernel
set_option maxRecDepth 100000 in
set_option maxHeartbeats 4000000 in
theorem m_X5_does (l : Launch) (D : va_G) (ad : Nat → Nat) (ct : Nat → ClassId) (x1 : Int32) (x2 : Int32) (x3 : Int32) (x4 : Int32) (x5 : Int32) (σ : ST) (Q : Int32 → ST → Prop) (h : wp_X5_does x1 x2 x3 x4 x5 σ Q) : CtI l D (tysF ct) (wM ad ct) yX5_does wsX5_does rm_X5_does [.ref (ad 0), .int x1, .int x2, .int x3, .int x4, .int x5] σ Q := by
  refine CtI.of (wM_adr ad ct) (maxL := 7) [(0, .ref (ad 0)), (1, .int x1), (2, .int x2), (3, .int x3), (4, .int x4), (5, .int x5)] RX5 (by decide) rfl rfl (by show (lg_sl [.ref (ad 0), .int x1, .int x2, .int x3, .int x4, .int x5]).length ≤ 7; exact Nat.le_of_ble_eq_true rfl) rfl rfl rfl ?_
  intro E C hR
  unfold wp_X5_does at h
  refine x_aload_n C 1 rfl 0 dX5_does_0 rfl rfl ?_
  refine x_iload_n C 2 rfl 1 dX5_does_1 rfl rfl ?_
  refine x_cVI C 5 rfl (m_X5_isThing l D ad ct _ _ _ h) (cwV 1 C.1.2.2.2.2 gX5_does_X5_isThing rfl rfl rfl (by decide +kernel) ⟨Nat.le_of_ble_eq_true rfl, Nat.le_of_ble_eq_true rfl⟩) ⟨0, 5, _, _, _, (gM_M ad ct _), rfl⟩ rfl rfl (Nat.le_of_ble_eq_true rfl) dX5_does_2 ?_
  intro r2 σ1 h
  refine x_if_eq C 69 8 dX5_does_5 (by decide) rfl (fun c5 => ?_) (fun c5 => ?_)
  · have h := h.1 c5
    refine x_iconst C 70 rfl (-1) dX5_does_69 rfl ?_
    exact hR _ _ _ _ dX5_does_70 h
  · have h := h.2 c5
    refine x_iload_n C 9 rfl 2 dX5_does_8 rfl rfl ?_
    refine x_iconst C 10 rfl 0 dX5_does_9 rfl ?_
    refine x_iconst C 11 rfl 1 dX5_does_10 rfl ?_
    refine x_cSI C 14 rfl (m_X5_isIn l D ad ct _ _ _ _ _ h) (va_cwS 3 C.1.2.2.2.2 gX5_does_X5_isIn rfl rfl rfl (by decide +kernel) ⟨Nat.le_of_ble_eq_true rfl, Nat.le_of_ble_eq_true rfl⟩) rfl rfl (Nat.le_of_ble_eq_true rfl) dX5_does_11 ?_
    intro r4 σ3 h
    refine x_if_eq C 69 17 dX5_does_14 (by decide) rfl (fun c14 => ?_) (fun c14 => ?_)
    · have h := h.1 c14
      refine x_iconst C 70 rfl (-1) dX5_does_69 rfl ?_
      exact hR _ _ _ _ dX5_does_70 h
    · have h := h.2 c14
      refine x_iload_n C 18 rfl 3 dX5_does_17 rfl rfl ?_
      refine x_iconst C 19 rfl 0 dX5_does_18 rfl ?_
      refine x_aload_n C 20 rfl 0 dX5_does_19 rfl rfl ?_
      refine x_get C 23 rfl (ref := RX5) 0 1 (gM_M ad ct _) rfl in_X5_does_X5 (by decide) fl_X5_does_7 rfl rfl dX5_does_20 ?_
      refine x_iload_n C 24 rfl 1 dX5_does_23 rfl rfl ?_
      have i5 := h.1
      have h := h.2
      refine x_iald C 25 rfl 1 0 (gM_M_kind ad ct _) rfl i5 dX5_does_24 ?_
      refine x_if_eq C 38 28 dX5_does_25 (by decide) rfl (fun c25 => ?_) (fun c25 => ?_)
      · have h := h.1 c25
        refine x_iconst C 39 rfl 2 dX5_does_38 rfl ?_
        refine x_goto C 43 dX5_does_39 (by decide) ?_
        refine x_cSI C 46 rfl (m_X5_isIn l D ad ct _ _ _ _ _ h) (va_cwS 3 C.1.2.2.2.2 gX5_does_X5_isIn rfl rfl rfl (by decide +kernel) ⟨Nat.le_of_ble_eq_true rfl, Nat.le_of_ble_eq_true rfl⟩) rfl rfl (Nat.le_of_ble_eq_true rfl) dX5_does_43 ?_
        intro r7 σ6 h
        refine x_if_eq C 69 49 dX5_does_46 (by decide) rfl (fun c46 => ?_) (fun c46 => ?_)
        · have h := h.1 c46
          refine x_iconst C 70 rfl (-1) dX5_does_69 rfl ?_
          exact hR _ _ _ _ dX5_does_70 h
        · have h := h.2 c46
          refine x_iload C 51 rfl 4 dX5_does_49 rfl ?_
          refine x_iconst C 52 rfl 0 dX5_does_51 rfl ?_
          refine x_iconst C 53 rfl 2 dX5_does_52 rfl ?_
          refine x_cSI C 56 rfl (m_X5_isIn l D ad ct _ _ _ _ _ h) (va_cwS 3 C.1.2.2.2.2 gX5_does_X5_isIn rfl rfl rfl (by decide +kernel) ⟨Nat.le_of_ble_eq_true rfl, Nat.le_of_ble_eq_true rfl⟩) rfl rfl (Nat.le_of_ble_eq_true rfl) dX5_does_53 ?_
          intro r9 σ8 h
          refine x_if_eq C 69 59 dX5_does_56 (by decide) rfl (fun c56 => ?_) (fun c56 => ?_)
          · have h := h.1 c56
            refine x_iconst C 70 rfl (-1) dX5_does_69 rfl ?_
            exact hR _ _ _ _ dX5_does_70 h
          · have h := h.2 c56
            refine x_iload C 61 rfl 5 dX5_does_59 rfl ?_
            refine x_iconst C 62 rfl 0 dX5_does_61 rfl ?_
            refine x_iconst C 63 rfl 1 dX5_does_62 rfl ?_
            refine x_cSI C 66 rfl (m_X5_isIn l D ad ct _ _ _ _ _ h) (va_cwS 3 C.1.2.2.2.2 gX5_does_X5_isIn rfl rfl rfl (by decide +kernel) ⟨Nat.le_of_ble_eq_true rfl, Nat.le_of_ble_eq_true rfl⟩) rfl rfl (Nat.le_of_ble_eq_true rfl) dX5_does_63 ?_
            intro r11 σ10 h
            refine x_if_ne C 71 69 dX5_does_66 (by decide) rfl (fun c66 => ?_) (fun c66 => ?_)
            · have h := h.1 c66
              refine x_aload_n C 72 rfl 0 dX5_does_71 rfl rfl ?_
              refine x_iload_n C 73 rfl 1 dX5_does_72 rfl rfl ?_
              refine x_iload_n C 74 rfl 2 dX5_does_73 rfl rfl ?_
              refine x_iload_n C 75 rfl 3 dX5_does_74 rfl rfl ?_
              refine x_iload C 77 rfl 4 dX5_does_75 rfl ?_
              refine x_cVI C 80 rfl (m_X5_act l D ad ct _ _ _ _ _ _ h) (cwV 4 C.1.2.2.2.2 gX5_does_X5_act rfl rfl rfl (by decide +kernel) ⟨Nat.le_of_ble_eq_true rfl, Nat.le_of_ble_eq_true rfl⟩) ⟨0, 5, _, _, _, (gM_M ad ct _), rfl⟩ rfl rfl (Nat.le_of_ble_eq_true rfl) dX5_does_77 ?_
              intro r13 σ12 h
              refine x_istore C 82 rfl [(6, .int r13), (0, .ref (ad 0)), (1, .int x1), (2, .int x2), (3, .int x3), (4, .int x4), (5, .int x5)] dX5_does_80 (by decide) rfl ?_
              refine x_iload C 84 rfl 6 dX5_does_82 rfl ?_
              refine x_if_ne C 94 87 dX5_does_84 (by decide) rfl (fun c84 => ?_) (fun c84 => ?_)
              · have h := h.1 c84
                refine x_iload C 96 rfl 0 dX5_does_94 rfl ?_
                refine x_iconst C 97 rfl 4 dX5_does_96 rfl ?_
                refine x_idiv C 98 rfl dX5_does_97 (by decide) ?_
                exact hR _ _ _ _ dX5_does_98 h
              · have h := h.2 c84
                refine x_iload C 89 rfl 0 dX5_does_87 rfl ?_
                refine x_iconst C 90 rfl 4 dX5_does_89 rfl ?_
                refine x_irem C 91 rfl dX5_does_90 (by decide) ?_
                refine x_goto C 98 dX5_does_91 (by decide) ?_
                exact hR _ _ _ _ dX5_does_98 h
            · have h := h.2 c66
              refine x_iconst C 70 rfl (-1) dX5_does_69 rfl ?_
              exact hR _ _ _ _ dX5_does_70 h
      · have h := h.2 c25
        refine x_aload_n C 29 rfl 0 dX5_does_28 rfl rfl ?_
        refine x_get C 32 rfl (ref := RX5) 0 1 (gM_M ad ct _) rfl in_X5_does_X5 (by decide) fl_X5_does_7 rfl rfl dX5_does_29 ?_
        refine x_iload_n C 33 rfl 1 dX5_does_32 rfl rfl ?_
        refine x_iald C 34 rfl 1 0 (gM_M_kind ad ct _) rfl i5 dX5_does_33 ?_
        refine x_iconst C 35 rfl 2 dX5_does_34 rfl ?_
        refine x_icmp_ne C 42 38 dX5_does_35 (by decide) rfl (fun c35 => ?_) (fun c35 => ?_)
        · have h := h.1 c35
          refine x_iconst C 43 rfl 3 dX5_does_42 rfl ?_
          refine x_cSI C 46 rfl (m_X5_isIn l D ad ct _ _ _ _ _ h) (va_cwS 3 C.1.2.2.2.2 gX5_does_X5_isIn rfl rfl rfl (by decide +kernel) ⟨Nat.le_of_ble_eq_true rfl, Nat.le_of_ble_eq_true rfl⟩) rfl rfl (Nat.le_of_ble_eq_true rfl) dX5_does_43 ?_
          intro r15 σ14 h
          refine x_if_eq C 69 49 dX5_does_46 (by decide) rfl (fun c46 => ?_) (fun c46 => ?_)
          · have h := h.1 c46
            refine x_iconst C 70 rfl (-1) dX5_does_69 rfl ?_
            exact hR _ _ _ _ dX5_does_70 h
          · have h := h.2 c46
            refine x_iload C 51 rfl 4 dX5_does_49 rfl ?_
            refine x_iconst C 52 rfl 0 dX5_does_51 rfl ?_
            refine x_iconst C 53 rfl 2 dX5_does_52 rfl ?_
            refine x_cSI C 56 rfl (m_X5_isIn l D ad ct _ _ _ _ _ h) (va_cwS 3 C.1.2.2.2.2 gX5_does_X5_isIn rfl rfl rfl (by decide +kernel) ⟨Nat.le_of_ble_eq_true rfl, Nat.le_of_ble_eq_true rfl⟩) rfl rfl (Nat.le_of_ble_eq_true rfl) dX5_does_53 ?_
            intro r17 σ16 h
            refine x_if_eq C 69 59 dX5_does_56 (by decide) rfl (fun c56 => ?_) (fun c56 => ?_)
            · have h := h.1 c56
              refine x_iconst C 70 rfl (-1) dX5_does_69 rfl ?_
              exact hR _ _ _ _ dX5_does_70 h
            · have h := h.2 c56
              refine x_iload C 61 rfl 5 dX5_does_59 rfl ?_
              refine x_iconst C 62 rfl 0 dX5_does_61 rfl ?_
              refine x_iconst C 63 rfl 1 dX5_does_62 rfl ?_
              refine x_cSI C 66 rfl (m_X5_isIn l D ad ct _ _ _ _ _ h) (va_cwS 3 C.1.2.2.2.2 gX5_does_X5_isIn rfl rfl rfl (by decide +kernel) ⟨Nat.le_of_ble_eq_true rfl, Nat.le_of_ble_eq_true rfl⟩) rfl rfl (Nat.le_of_ble_eq_true rfl) dX5_does_63 ?_
              intro r19 σ18 h
              refine x_if_ne C 71 69 dX5_does_66 (by decide) rfl (fun c66 => ?_) (fun c66 => ?_)
              · have h := h.1 c66
                refine x_aload_n C 72 rfl 0 dX5_does_71 rfl rfl ?_
                refine x_iload_n C 73 rfl 1 dX5_does_72 rfl rfl ?_
                refine x_iload_n C 74 rfl 2 dX5_does_73 rfl rfl ?_
                refine x_iload_n C 75 rfl 3 dX5_does_74 rfl rfl ?_
                refine x_iload C 77 rfl 4 dX5_does_75 rfl ?_
                refine x_cVI C 80 rfl (m_X5_act l D ad ct _ _ _ _ _ _ h) (cwV 4 C.1.2.2.2.2 gX5_does_X5_act rfl rfl rfl (by decide +kernel) ⟨Nat.le_of_ble_eq_true rfl, Nat.le_of_ble_eq_true rfl⟩) ⟨0, 5, _, _, _, (gM_M ad ct _), rfl⟩ rfl rfl (Nat.le_of_ble_eq_true rfl) dX5_does_77 ?_
                intro r21 σ20 h
                refine x_istore C 82 rfl [(6, .int r21), (0, .ref (ad 0)), (1, .int x1), (2, .int x2), (3, .int x3), (4, .int x4), (5, .int x5)] dX5_does_80 (by decide) rfl ?_
                refine x_iload C 84 rfl 6 dX5_does_82 rfl ?_
                refine x_if_ne C 94 87 dX5_does_84 (by decide) rfl (fun c84 => ?_) (fun c84 => ?_)
                · have h := h.1 c84
                  refine x_iload C 96 rfl 0 dX5_does_94 rfl ?_
                  refine x_iconst C 97 rfl 4 dX5_does_96 rfl ?_
                  refine x_idiv C 98 rfl dX5_does_97 (by decide) ?_
                  exact hR _ _ _ _ dX5_does_98 h
                · have h := h.2 c84
                  refine x_iload C 89 rfl 0 dX5_does_87 rfl ?_
                  refine x_iconst C 90 rfl 4 dX5_does_89 rfl ?_
                  refine x_irem C 91 rfl dX5_does_90 (by decide) ?_
                  refine x_goto C 98 dX5_does_91 (by decide) ?_
                  exact hR _ _ _ _ dX5_does_98 h
              · have h := h.2 c66
                refine x_iconst C 70 rfl (-1) dX5_does_69 rfl ?_
                exact hR _ _ _ _ dX5_does_70 h
        · have h := h.2 c35
          refine x_iconst C 39 rfl 2 dX5_does_38 rfl ?_
          refine x_goto C 43 dX5_does_39 (by decide) ?_
          refine x_cSI C 46 rfl (m_X5_isIn l D ad ct _ _ _ _ _ h) (va_cwS 3 C.1.2.2.2.2 gX5_does_X5_isIn rfl rfl rfl (by decide +kernel) ⟨Nat.le_of_ble_eq_true rfl, Nat.le_of_ble_eq_true rfl⟩) rfl rfl (Nat.le_of_ble_eq_true rfl) dX5_does_43 ?_
          intro r23 σ22 h
          refine x_if_eq C 69 49 dX5_does_46 (by decide) rfl (fun c46 => ?_) (fun c46 => ?_)
          · have h := h.1 c46
            refine x_iconst C 70 rfl (-1) dX5_does_69 rfl ?_
            exact hR _ _ _ _ dX5_does_70 h
          · have h := h.2 c46
            refine x_iload C 51 rfl 4 dX5_does_49 rfl ?_
            refine x_iconst C 52 rfl 0 dX5_does_51 rfl ?_
            refine x_iconst C 53 rfl 2 dX5_does_52 rfl ?_
            refine x_cSI C 56 rfl (m_X5_isIn l D ad ct _ _ _ _ _ h) (va_cwS 3 C.1.2.2.2.2 gX5_does_X5_isIn rfl rfl rfl (by decide +kernel) ⟨Nat.le_of_ble_eq_true rfl, Nat.le_of_ble_eq_true rfl⟩) rfl rfl (Nat.le_of_ble_eq_true rfl) dX5_does_53 ?_
            intro r25 σ24 h
            refine x_if_eq C 69 59 dX5_does_56 (by decide) rfl (fun c56 => ?_) (fun c56 => ?_)
            · have h := h.1 c56
              refine x_iconst C 70 rfl (-1) dX5_does_69 rfl ?_
              exact hR _ _ _ _ dX5_does_70 h
            · have h := h.2 c56
              refine x_iload C 61 rfl 5 dX5_does_59 rfl ?_
              refine x_iconst C 62 rfl 0 dX5_does_61 rfl ?_
              refine x_iconst C 63 rfl 1 dX5_does_62 rfl ?_
              refine x_cSI C 66 rfl (m_X5_isIn l D ad ct _ _ _ _ _ h) (va_cwS 3 C.1.2.2.2.2 gX5_does_X5_isIn rfl rfl rfl (by decide +kernel) ⟨Nat.le_of_ble_eq_true rfl, Nat.le_of_ble_eq_true rfl⟩) rfl rfl (Nat.le_of_ble_eq_true rfl) dX5_does_63 ?_
              intro r27 σ26 h
              refine x_if_ne C 71 69 dX5_does_66 (by decide) rfl (fun c66 => ?_) (fun c66 => ?_)
              · have h := h.1 c66
                refine x_aload_n C 72 rfl 0 dX5_does_71 rfl rfl ?_
                refine x_iload_n C 73 rfl 1 dX5_does_72 rfl rfl ?_
                refine x_iload_n C 74 rfl 2 dX5_does_73 rfl rfl ?_
                refine x_iload_n C 75 rfl 3 dX5_does_74 rfl rfl ?_
                refine x_iload C 77 rfl 4 dX5_does_75 rfl ?_
                refine x_cVI C 80 rfl (m_X5_act l D ad ct _ _ _ _ _ _ h) (cwV 4 C.1.2.2.2.2 gX5_does_X5_act rfl rfl rfl (by decide +kernel) ⟨Nat.le_of_ble_eq_true rfl, Nat.le_of_ble_eq_true rfl⟩) ⟨0, 5, _, _, _, (gM_M ad ct _), rfl⟩ rfl rfl (Nat.le_of_ble_eq_true rfl) dX5_does_77 ?_
                intro r29 σ28 h
                refine x_istore C 82 rfl [(6, .int r29), (0, .ref (ad 0)), (1, .int x1), (2, .int x2), (3, .int x3), (4, .int x4), (5, .int x5)] dX5_does_80 (by decide) rfl ?_
                refine x_iload C 84 rfl 6 dX5_does_82 rfl ?_
                refine x_if_ne C 94 87 dX5_does_84 (by decide) rfl (fun c84 => ?_) (fun c84 => ?_)
                · have h := h.1 c84
                  refine x_iload C 96 rfl 0 dX5_does_94 rfl ?_
                  refine x_iconst C 97 rfl 4 dX5_does_96 rfl ?_
                  refine x_idiv C 98 rfl dX5_does_97 (by decide) ?_
                  exact hR _ _ _ _ dX5_does_98 h
                · have h := h.2 c84
                  refine x_iload C 89 rfl 0 dX5_does_87 rfl ?_
                  refine x_iconst C 90 rfl 4 dX5_does_89 rfl ?_
                  refine x_irem C 91 rfl dX5_does_90 (by decide) ?_
                  refine x_goto C 98 dX5_does_91 (by decide) ?_
                  exact hR _ _ _ _ dX5_does_98 h
              · have h := h.2 c66
                refine x_iconst C 70 rfl (-1) dX5_does_69 rfl ?_
                exact hR _ _ _ _ dX5_does_70 h
abbrev rm_X5_shown : Room := { frames := 5, cells := 0, slots := 0, locals := 125 }
set_option maxRecDepth 100000 in
set_option maxHeartbeats 4000000 in
theorem m_X5_shown (l : Launch) (D : va_G) (ad : Nat → Nat) (ct : Nat → ClassId) (x1 : Int32) (σ : ST) (Q : Int32 → ST → Prop) (h : wp_X5_shown x1 σ Q) : CtI l D (tysF ct) (wM ad ct) yX5_shown wsX5_shown rm_X5_shown [.ref (ad 0), .int x1] σ Q := by
  refine CtI.of (wM_adr ad ct) (maxL := 2) [(0, .ref (ad 0)), (1, .int x1)] RX5 (by decide) rfl rfl (by show (lg_sl [.ref (ad 0), .int x1]).length ≤ 2; exact Nat.le_of_ble_eq_true rfl) rfl rfl rfl ?_
  intro E C hR
  unfold wp_X5_shown at h
  refine x_aload_n C 1 rfl 0 dX5_shown_0 rfl rfl ?_
  refine x_iload_n C 2 rfl 1 dX5_shown_1 rfl rfl ?_
  refine x_cVI C 5 rfl (m_X5_isThing l D ad ct _ _ _ h) (cwV 1 C.1.2.2.2.2 gX5_shown_X5_isThing rfl rfl rfl (by decide +kernel) ⟨Nat.le_of_ble_eq_true rfl, Nat.le_of_ble_eq_true rfl⟩) ⟨0, 5, _, _, _, (gM_M ad ct _), rfl⟩ rfl rfl (Nat.le_of_ble_eq_true rfl) dX5_shown_2 ?_
  intro r2 σ1 h
  refine x_if_eq C 16 8 dX5_shown_5 (by decide) rfl (fun c5 => ?_) (fun c5 => ?_)
  · have h := h.1 c5
    refine x_iconst C 17 rfl (-1) dX5_shown_16 rfl ?_
    exact hR _ _ _ _ dX5_shown_17 h
  · have h := h.2 c5
    refine x_aload_n C 9 rfl 0 dX5_shown_8 rfl rfl ?_
    refine x_iload_n C 10 rfl 1 dX5_shown_9 rfl rfl ?_
    refine x_cVI C 13 rfl (m_X5_shortest l D ad ct _ _ _ h) (cwV 1 C.1.2.2.2.2 gX5_shown_X5_shortest rfl rfl rfl (by decide +kernel) ⟨Nat.le_of_ble_eq_true rfl, Nat.le_of_ble_eq_true rfl⟩) ⟨0, 5, _, _, _, (gM_M ad ct _), rfl⟩ rfl rfl (Nat.le_of_ble_eq_true rfl) dX5_shown_10 ?_
    intro r4 σ3 h
    refine x_goto C 17 dX5_shown_13 (by decide) ?_
    exact hR _ _ _ _ dX5_shown_17 h
abbrev rm_X5_named : Room := { frames := 0, cells := 0, slots := 0, locals := 0 }
set_option maxRecDepth 100000 in
set_option maxHeartbeats 4000000 in
theorem m_X5_named (l : Launch) (D : va_G) (ad : Nat → Nat) (ct : Nat → ClassId) (x0 : Int32) (x1 : Int32) (σ : ST) (Q : Int32 → ST → Prop) (h : wp_X5_named x0 x1 σ Q) : CtI l D (tysF ct) (wM ad ct) yX5_named wsX5_named rm_X5_named [.int x0, .int x1] σ Q := by
  refine CtI.of (wM_adr ad ct) (maxL := 2) [(0, .int x0), (1, .int x1)] RX5 (by decide) rfl rfl (by show (lg_sl [.int x0, .int x1]).length ≤ 2; exact Nat.le_of_ble_eq_true rfl) rfl rfl rfl ?_
  intro E C hR
  unfold wp_X5_named at h
  refine x_iload_n C 1 rfl 1 dX5_named_0 rfl rfl ?_
  refine x_iconst C 2 rfl 3 dX5_named_1 rfl ?_
  refine x_icmp_ne C 10 5 dX5_named_2 (by decide) rfl (fun c2 => ?_) (fun c2 => ?_)
  · have h := h.1 c2
    refine x_iconst C 11 rfl 3 dX5_named_10 rfl ?_
    refine x_iload_n C 12 rfl 0 dX5_named_11 rfl rfl ?_
    refine x_imul C 13 rfl dX5_named_12 ?_
    refine x_iload_n C 14 rfl 1 dX5_named_13 rfl rfl ?_
    refine x_iadd C 15 rfl dX5_named_14 ?_
    exact hR _ _ _ _ dX5_named_15 h
  · have h := h.2 c2
    refine x_bipush C 7 rfl 9 dX5_named_5 rfl ?_
    refine x_goto C 15 dX5_named_7 (by decide) ?_
    exact hR _ _ _ _ dX5_named_15 h
abbrev rm_X5_show : Room := { frames := 5, cells := 0, slots := 0, locals := 125 }
theorem in_X5_show_X5 : ∀ w ∈ u_ws RX5 TX5 20, w ∈ wsX5_show := by decide +kernel
theorem fl_X5_show_13 : Cond.fieldLink RX5 13 RX5 (TX5 2).2.1 (TX5 2).2.2.1 ∈ wsX5_show := by decide +kernel
set_option maxRecDepth 100000 in
set_option maxHeartbeats 4000000 in
theorem v_X5_show_L79 {l : Launch} {D : va_G} {ad : Nat → Nat} {ct : Nat → ClassId} {E : XE}  {Q : Int32 → ST → Prop} (C : XFix D (tysF ct) (wM ad ct) rm_X5_show 13 E cX5_show RX5 wsX5_show) (x1 : Int32) (x2 : Int32) (x3 : Int32) (x4 : Int32) (x5 : Int32) (x6 : Int32) (x7 : Int32) (x8 : Int32) {K : Int32 → ST → Prop} (hK : ∀ (x9 : Int32) (σ : ST), K x9 σ → V l D (tysF ct) (wM ad ct) rm_X5_show 13 E 119 [(0, .ref (ad 0)), (1, .int x1), (2, .int x2), (3, .int x3), (4, .int x4), (5, .int x5), (6, .int x6), (7, .int x7), (8, .int x8), (9, .int x9)] [] σ) (hR : RetI l D (tysF ct) (wM ad ct) rm_X5_show 13 E cX5_show Q) :
    ∀ (n : Nat) (x9 : Int32) (σ : ST), wp_X5_show_L79 x1 x2 x3 x4 x5 x6 x7 x8 K Q n x9 σ → V l D (tysF ct) (wM ad ct) rm_X5_show 13 E 79 [(0, .ref (ad 0)), (1, .int x1), (2, .int x2), (3, .int x3), (4, .int x4), (5, .int x5), (6, .int x6), (7, .int x7), (8, .int x8), (9, .int x9)] [] σ := by
  intro n
  induction n with
  | zero => intro x9 σ h; exact (h : False).elim
  | succ n ih =>
    intro x9 σ h
    unfold wp_X5_show_L79 at h
    refine x_aload_n C 80 rfl 0 dX5_show_79 rfl rfl ?_
    refine x_iload_n C 81 rfl 1 dX5_show_80 rfl rfl ?_
    refine x_iload C 83 rfl 5 dX5_show_81 rfl ?_
    refine x_iload C 85 rfl 6 dX5_show_83 rfl ?_
    refine x_iload C 87 rfl 8 dX5_show_85 rfl ?_
    refine x_iload C 89 rfl 9 dX5_show_87 rfl ?_
    refine x_bipush C 91 rfl 16 dX5_show_89 rfl ?_
    refine x_idiv C 92 rfl dX5_show_91 (by decide) ?_
    refine x_iload C 94 rfl 9 dX5_show_92 rfl ?_
    refine x_iconst C 95 rfl 4 dX5_show_94 rfl ?_
    refine x_idiv C 96 rfl dX5_show_95 (by decide) ?_
    refine x_iconst C 97 rfl 4 dX5_show_96 rfl ?_
    refine x_irem C 98 rfl dX5_show_97 (by decide) ?_
    refine x_iload C 100 rfl 9 dX5_show_98 rfl ?_
    refine x_iconst C 101 rfl 4 dX5_show_100 rfl ?_
    refine x_irem C 102 rfl dX5_show_101 (by decide) ?_
    refine x_cVI C 105 rfl (m_X5_after l D ad ct _ _ _ _ _ _ _ _ _ h) (cwV 7 C.1.2.2.2.2 gX5_show_X5_after rfl rfl rfl (by decide +kernel) ⟨Nat.le_of_ble_eq_true rfl, Nat.le_of_ble_eq_true rfl⟩) ⟨0, 5, _, _, _, (gM_M ad ct _), rfl⟩ rfl rfl (Nat.le_of_ble_eq_true rfl) dX5_show_102 ?_
    intro r14 σ13 h
    refine x_iload C 107 rfl 4 dX5_show_105 rfl ?_
    refine x_iload C 109 rfl 7 dX5_show_107 rfl ?_
    refine x_isub C 110 rfl dX5_show_109 ?_
    refine x_icmp_eq C 119 113 dX5_show_110 (by decide) rfl (fun c110 => ?_) (fun c110 => ?_)
    · have h := h.1 c110
      exact hK _ _ h
    · have h := h.2 c110
      refine x_iinc C 116 rfl 9 (x9 + 1) [(9, .int (x9 + 1)), (0, .ref (ad 0)), (1, .int x1), (2, .int x2), (3, .int x3), (4, .int x4), (5, .int x5), (6, .int x6), (7, .int x7), (8, .int x8)] dX5_show_113 rfl rfl (by decide) rfl ?_
      refine x_goto C 79 dX5_show_116 (by decide) ?_
      refine x_sub (lv' := [(0, .ref (ad 0)), (1, .int x1), (2, .int x2), (3, .int x3), (4, .int x4), (5, .int x5), (6, .int x6), (7, .int x7), (8, .int x8), (9, .int (x9 + 1))]) [1, 2, 3, 4, 5, 6, 7, 8, 9, 0] rfl ?_
      exact ih _ _ h
set_option maxRecDepth 100000 in
set_option maxHeartbeats 4000000 in
theorem v_X5_show_L59 {l : Launch} {D : va_G} {ad : Nat → Nat} {ct : Nat → ClassId} {E : XE}  {Q : Int32 → ST → Prop} (C : XFix D (tysF ct) (wM ad ct) rm_X5_show 13 E cX5_show RX5 wsX5_show) (x1 : Int32) (x2 : Int32) (x3 : Int32) (x4 : Int32) (hR : RetI l D (tysF ct) (wM ad ct) rm_X5_show 13 E cX5_show Q) :
    ∀ (n : Nat) (x5 : Int32) (x6 : Int32) (x7 : Int32) (σ : ST), wp_X5_show_L59 x1 x2 x3 x4 Q n x5 x6 x7 σ → V l D (tysF ct) (wM ad ct) rm_X5_show 13 E 59 [(0, .ref (ad 0)), (1, .int x1), (2, .int x2), (3, .int x3), (4, .int x4), (5, .int x5), (6, .int x6), (7, .int x7)] [] σ := by
  intro n
  induction n with
  | zero => intro x5 x6 x7 σ h; exact (h : False).elim
  | succ n ih =>
    intro x5 x6 x7 σ h
    unfold wp_X5_show_L59 at h
    refine x_iload C 61 rfl 7 dX5_show_59 rfl ?_
    refine x_iload C 63 rfl 4 dX5_show_61 rfl ?_
    refine x_icmp_ge C 270 66 dX5_show_63 (by decide) rfl (fun c63 => ?_) (fun c63 => ?_)
    · have h := h.1 c63
      refine x_iconst C 271 rfl (-1) dX5_show_270 rfl ?_
      exact hR _ _ _ _ dX5_show_271 h
    · have h := h.2 c63
      refine x_iload C 68 rfl 7 dX5_show_66 rfl ?_
      refine x_aload_n C 69 rfl 0 dX5_show_68 rfl rfl ?_
      refine x_iload_n C 70 rfl 1 dX5_show_69 rfl rfl ?_
      refine x_cVI C 73 rfl (m_X5_phases l D ad ct _ _ _ h) (cwV 1 C.1.2.2.2.2 gX5_show_X5_phases rfl rfl rfl (by decide +kernel) ⟨Nat.le_of_ble_eq_true rfl, Nat.le_of_ble_eq_true rfl⟩) ⟨0, 5, _, _, _, (gM_M ad ct _), rfl⟩ rfl rfl (Nat.le_of_ble_eq_true rfl) dX5_show_70 ?_
      intro r11 σ10 h
      have z12 := h.1
      have h := h.2
      refine x_irem C 74 rfl dX5_show_73 z12 ?_
      refine x_istore C 76 rfl [(8, .int (x7 - x7 / r11 * r11)), (0, .ref (ad 0)), (1, .int x1), (2, .int x2), (3, .int x3), (4, .int x4), (5, .int x5), (6, .int x6), (7, .int x7)] dX5_show_74 (by decide) rfl ?_
      refine x_iconst C 77 rfl 0 dX5_show_76 rfl ?_
      refine x_istore C 79 rfl [(9, .int 0), (8, .int (x7 - x7 / r11 * r11)), (0, .ref (ad 0)), (1, .int x1), (2, .int x2), (3, .int x3), (4, .int x4), (5, .int x5), (6, .int x6), (7, .int x7)] dX5_show_77 (by decide) rfl ?_
      refine x_sub (lv' := [(0, .ref (ad 0)), (1, .int x1), (2, .int x2), (3, .int x3), (4, .int x4), (5, .int x5), (6, .int x6), (7, .int x7), (8, .int (x7 - x7 / r11 * r11)), (9, .int 0)]) [2, 3, 4, 5, 6, 7, 8, 9, 1, 0] rfl ?_
      obtain ⟨n15, h⟩ := h
      refine v_X5_show_L79 C x1 x2 x3 x4 x5 x6 x7 (x7 - x7 / r11 * r11) ?_ hR n15 _ _ h
      · intro y9_16 σ17 h
        refine x_aload_n C 120 rfl 0 dX5_show_119 rfl rfl ?_
        refine x_iload_n C 121 rfl 1 dX5_show_120 rfl rfl ?_
        refine x_aload_n C 122 rfl 0 dX5_show_121 rfl rfl ?_
        refine x_iload_n C 123 rfl 1 dX5_show_122 rfl rfl ?_
        refine x_iload C 125 rfl 5 dX5_show_123 rfl ?_
        refine x_iload C 127 rfl 9 dX5_show_125 rfl ?_
        refine x_bipush C 129 rfl 16 dX5_show_127 rfl ?_
        refine x_idiv C 130 rfl dX5_show_129 (by decide) ?_
        refine x_cVI C 133 rfl (m_X5_sends l D ad ct _ _ _ _ _ h) (cwV 3 C.1.2.2.2.2 gX5_show_X5_sends rfl rfl rfl (by decide +kernel) ⟨Nat.le_of_ble_eq_true rfl, Nat.le_of_ble_eq_true rfl⟩) ⟨0, 5, _, _, _, (gM_M ad ct _), rfl⟩ rfl rfl (Nat.le_of_ble_eq_true rfl) dX5_show_130 ?_
        intro r19 σ18 h
        refine x_iload C 135 rfl 8 dX5_show_133 rfl ?_
        refine x_cVI C 138 rfl (m_X5_cleans l D ad ct _ _ _ _ _ h) (cwV 3 C.1.2.2.2.2 gX5_show_X5_cleans rfl rfl rfl (by decide +kernel) ⟨Nat.le_of_ble_eq_true rfl, Nat.le_of_ble_eq_true rfl⟩) ⟨0, 5, _, _, _, (gM_M ad ct _), rfl⟩ rfl rfl (Nat.le_of_ble_eq_true rfl) dX5_show_135 ?_
        intro r21 σ20 h
        refine x_istore C 140 rfl [(10, .int r21), (0, .ref (ad 0)), (1, .int x1), (2, .int x2), (3, .int x3), (4, .int x4), (5, .int x5), (6, .int x6), (7, .int x7), (8, .int (x7 - x7 / r11 * r11)), (9, .int y9_16)] dX5_show_138 (by decide) rfl ?_
        refine x_aload_n C 141 rfl 1 dX5_show_140 rfl rfl ?_
        refine x_iload_n C 142 rfl 2 dX5_show_141 rfl rfl ?_
        refine x_aload_n C 143 rfl 1 dX5_show_142 rfl rfl ?_
        refine x_iload_n C 144 rfl 2 dX5_show_143 rfl rfl ?_
        refine x_iload C 146 rfl 7 dX5_show_144 rfl ?_
        refine x_iload C 148 rfl 10 dX5_show_146 rfl ?_
        refine x_iconst C 149 rfl 4 dX5_show_148 rfl ?_
        refine x_idiv C 150 rfl dX5_show_149 (by decide) ?_
        refine x_iconst C 151 rfl 4 dX5_show_150 rfl ?_
        refine x_irem C 152 rfl dX5_show_151 (by decide) ?_
        refine x_cVI C 155 rfl (m_X5_sends l D ad ct _ _ _ _ _ h) (cwV 3 C.1.2.2.2.2 gX5_show_X5_sends rfl rfl rfl (by decide +kernel) ⟨Nat.le_of_ble_eq_true rfl, Nat.le_of_ble_eq_true rfl⟩) ⟨0, 5, _, _, _, (gM_M ad ct _), rfl⟩ rfl rfl (Nat.le_of_ble_eq_true rfl) dX5_show_152 ?_
        intro r23 σ22 h
        refine x_iload C 157 rfl 9 dX5_show_155 rfl ?_
        refine x_cVI C 160 rfl (m_X5_cleans l D ad ct _ _ _ _ _ h) (cwV 3 C.1.2.2.2.2 gX5_show_X5_cleans rfl rfl rfl (by decide +kernel) ⟨Nat.le_of_ble_eq_true rfl, Nat.le_of_ble_eq_true rfl⟩) ⟨0, 5, _, _, _, (gM_M ad ct _), rfl⟩ rfl rfl (Nat.le_of_ble_eq_true rfl) dX5_show_157 ?_
        intro r25 σ24 h
        refine x_istore C 162 rfl [(11, .int r25), (10, .int r21), (0, .ref (ad 0)), (1, .int x1), (2, .int x2), (3, .int x3), (4, .int x4), (5, .int x5), (6, .int x6), (7, .int x7), (8, .int (x7 - x7 / r11 * r11)), (9, .int y9_16)] dX5_show_160 (by decide) rfl ?_
        refine x_iload C 164 rfl 11 dX5_show_162 rfl ?_
        refine x_iconst C 165 rfl 4 dX5_show_164 rfl ?_
        refine x_irem C 166 rfl dX5_show_165 (by decide) ?_
        refine x_istore C 168 rfl [(12, .int (y9_16 - y9_16 / 4 * 4)), (11, .int r25), (10, .int r21), (0, .ref (ad 0)), (1, .int x1), (2, .int x2), (3, .int x3), (4, .int x4), (5, .int x5), (6, .int x6), (7, .int x7), (8, .int (x7 - x7 / r11 * r11)), (9, .int y9_16)] dX5_show_166 (by decide) rfl ?_
        refine x_iload C 170 rfl 10 dX5_show_168 rfl ?_
        refine x_iload_n C 171 rfl 5 dX5_show_170 rfl rfl ?_
        refine x_icmp_ne C 242 174 dX5_show_171 (by decide) rfl (fun c171 => ?_) (fun c171 => ?_)
        · have h := h.1 c171
          refine x_aload_n C 243 rfl 3 dX5_show_242 rfl rfl ?_
          refine x_iload_n C 244 rfl 4 dX5_show_243 rfl rfl ?_
          refine x_iload C 246 rfl 2 dX5_show_244 rfl ?_
          refine x_iload C 248 rfl 0 dX5_show_246 rfl ?_
          refine x_cVI C 251 rfl (m_X5_hears l D ad ct _ _ _ _ _ h) (cwV 3 C.1.2.2.2.2 gX5_show_X5_hears rfl rfl rfl (by decide +kernel) ⟨Nat.le_of_ble_eq_true rfl, Nat.le_of_ble_eq_true rfl⟩) ⟨0, 5, _, _, _, (gM_M ad ct _), rfl⟩ rfl rfl (Nat.le_of_ble_eq_true rfl) dX5_show_248 ?_
          intro r27 σ26 h
          refine x_istore C 253 rfl [(5, .int r27), (12, .int (y9_16 - y9_16 / 4 * 4)), (11, .int r25), (10, .int r21), (0, .ref (ad 0)), (1, .int x1), (2, .int x2), (3, .int x3), (4, .int x4), (6, .int x6), (7, .int x7), (8, .int (x7 - x7 / r11 * r11)), (9, .int y9_16)] dX5_show_251 (by decide) rfl ?_
          refine x_aload_n C 254 rfl 4 dX5_show_253 rfl rfl ?_
          refine x_iload_n C 255 rfl 5 dX5_show_254 rfl rfl ?_
          refine x_iload C 257 rfl 2 dX5_show_255 rfl ?_
          refine x_iload C 259 rfl 1 dX5_show_257 rfl ?_
          refine x_cVI C 262 rfl (m_X5_hears l D ad ct _ _ _ _ _ h) (cwV 3 C.1.2.2.2.2 gX5_show_X5_hears rfl rfl rfl (by decide +kernel) ⟨Nat.le_of_ble_eq_true rfl, Nat.le_of_ble_eq_true rfl⟩) ⟨0, 5, _, _, _, (gM_M ad ct _), rfl⟩ rfl rfl (Nat.le_of_ble_eq_true rfl) dX5_show_259 ?_
          intro r29 σ28 h
          refine x_istore C 264 rfl [(6, .int r29), (5, .int r27), (12, .int (y9_16 - y9_16 / 4 * 4)), (11, .int r25), (10, .int r21), (0, .ref (ad 0)), (1, .int x1), (2, .int x2), (3, .int x3), (4, .int x4), (7, .int x7), (8, .int (x7 - x7 / r11 * r11)), (9, .int y9_16)] dX5_show_262 (by decide) rfl ?_
          refine x_iinc C 267 rfl 10 (x7 + 1) [(7, .int (x7 + 1)), (6, .int r29), (5, .int r27), (12, .int (y9_16 - y9_16 / 4 * 4)), (11, .int r25), (10, .int r21), (0, .ref (ad 0)), (1, .int x1), (2, .int x2), (3, .int x3), (4, .int x4), (8, .int (x7 - x7 / r11 * r11)), (9, .int y9_16)] dX5_show_264 rfl rfl (by decide) rfl ?_
          refine x_goto C 59 dX5_show_267 (by decide) ?_
          refine x_sub (lv' := [(0, .ref (ad 0)), (1, .int x1), (2, .int x2), (3, .int x3), (4, .int x4), (5, .int r27), (6, .int r29), (7, .int (x7 + 1))]) [6, 7, 8, 9, 10, 2, 1, 0] rfl ?_
          exact ih _ _ _ _ h
        · have h := h.2 c171
          refine x_iload_n C 175 rfl 6 dX5_show_174 rfl rfl ?_
          refine x_if_ne C 190 178 dX5_show_175 (by decide) rfl (fun c175 => ?_) (fun c175 => ?_)
          · have h := h.1 c175
            refine x_iload_n C 191 rfl 6 dX5_show_190 rfl rfl ?_
            refine x_iconst C 192 rfl 1 dX5_show_191 rfl ?_
            refine x_icmp_ne C 208 195 dX5_show_192 (by decide) rfl (fun c192 => ?_) (fun c192 => ?_)
            · have h := h.1 c192
              refine x_iload_n C 209 rfl 6 dX5_show_208 rfl rfl ?_
              refine x_iconst C 210 rfl 2 dX5_show_209 rfl ?_
              refine x_icmp_ne C 222 213 dX5_show_210 (by decide) rfl (fun c210 => ?_) (fun c210 => ?_)
              · have h := h.1 c210
                refine x_aload_n C 223 rfl 3 dX5_show_222 rfl rfl ?_
                refine x_iload_n C 224 rfl 4 dX5_show_223 rfl rfl ?_
                refine x_iload_n C 225 rfl 6 dX5_show_224 rfl rfl ?_
                refine x_iconst C 226 rfl 3 dX5_show_225 rfl ?_
                refine x_icmp_ne C 234 229 dX5_show_226 (by decide) rfl (fun c226 => ?_) (fun c226 => ?_)
                · have h := h.1 c226
                  refine x_iload C 236 rfl 1 dX5_show_234 rfl ?_
                  refine x_iload C 238 rfl 0 dX5_show_236 rfl ?_
                  refine x_cVI C 241 rfl (m_X5_answers l D ad ct _ _ _ _ _ h) (cwV 3 C.1.2.2.2.2 gX5_show_X5_answers rfl rfl rfl (by decide +kernel) ⟨Nat.le_of_ble_eq_true rfl, Nat.le_of_ble_eq_true rfl⟩) ⟨0, 5, _, _, _, (gM_M ad ct _), rfl⟩ rfl rfl (Nat.le_of_ble_eq_true rfl) dX5_show_238 ?_
                  intro r31 σ30 h
                  exact hR _ _ _ _ dX5_show_241 h
                · have h := h.2 c226
                  refine x_iload C 231 rfl 2 dX5_show_229 rfl ?_
                  refine x_goto C 236 dX5_show_231 (by decide) ?_
                  refine x_iload C 238 rfl 0 dX5_show_236 rfl ?_
                  refine x_cVI C 241 rfl (m_X5_answers l D ad ct _ _ _ _ _ h) (cwV 3 C.1.2.2.2.2 gX5_show_X5_answers rfl rfl rfl (by decide +kernel) ⟨Nat.le_of_ble_eq_true rfl, Nat.le_of_ble_eq_true rfl⟩) ⟨0, 5, _, _, _, (gM_M ad ct _), rfl⟩ rfl rfl (Nat.le_of_ble_eq_true rfl) dX5_show_238 ?_
                  intro r33 σ32 h
                  exact hR _ _ _ _ dX5_show_241 h
              · have h := h.2 c210
                refine x_iload_n C 214 rfl 4 dX5_show_213 rfl rfl ?_
                refine x_iload C 216 rfl 0 dX5_show_214 rfl ?_
                refine x_cSI C 219 rfl (m_X5_named l D ad ct _ _ _ _ h) (va_cwS 2 C.1.2.2.2.2 gX5_show_X5_named rfl rfl rfl (by decide +kernel) ⟨Nat.le_of_ble_eq_true rfl, Nat.le_of_ble_eq_true rfl⟩) rfl rfl (Nat.le_of_ble_eq_true rfl) dX5_show_216 ?_
                intro r35 σ34 h
                refine x_goto C 241 dX5_show_219 (by decide) ?_
                exact hR _ _ _ _ dX5_show_241 h
            · have h := h.2 c192
              refine x_iload_n C 196 rfl 4 dX5_show_195 rfl rfl ?_
              refine x_iload C 198 rfl 12 dX5_show_196 rfl ?_
              refine x_iconst C 199 rfl 4 dX5_show_198 rfl ?_
              refine x_idiv C 200 rfl dX5_show_199 (by decide) ?_
              refine x_iconst C 201 rfl 4 dX5_show_200 rfl ?_
              refine x_irem C 202 rfl dX5_show_201 (by decide) ?_
              refine x_cSI C 205 rfl (m_X5_named l D ad ct _ _ _ _ h) (va_cwS 2 C.1.2.2.2.2 gX5_show_X5_named rfl rfl rfl (by decide +kernel) ⟨Nat.le_of_ble_eq_true rfl, Nat.le_of_ble_eq_true rfl⟩) rfl rfl (Nat.le_of_ble_eq_true rfl) dX5_show_202 ?_
              intro r37 σ36 h
              refine x_goto C 241 dX5_show_205 (by decide) ?_
              exact hR _ _ _ _ dX5_show_241 h
          · have h := h.2 c175
            refine x_iload_n C 179 rfl 4 dX5_show_178 rfl rfl ?_
            refine x_iload C 181 rfl 12 dX5_show_179 rfl ?_
            refine x_bipush C 183 rfl 16 dX5_show_181 rfl ?_
            refine x_idiv C 184 rfl dX5_show_183 (by decide) ?_
            refine x_cSI C 187 rfl (m_X5_named l D ad ct _ _ _ _ h) (va_cwS 2 C.1.2.2.2.2 gX5_show_X5_named rfl rfl rfl (by decide +kernel) ⟨Nat.le_of_ble_eq_true rfl, Nat.le_of_ble_eq_true rfl⟩) rfl rfl (Nat.le_of_ble_eq_true rfl) dX5_show_184 ?_
            intro r39 σ38 h
            refine x_goto C 241 dX5_show_187 (by decide) ?_
            exact hR _ _ _ _ dX5_show_241 h
set_option maxRecDepth 100000 in
set_option maxHeartbeats 4000000 in
theorem m_X5_show (l : Launch) (D : va_G) (ad : Nat → Nat) (ct : Nat → ClassId) (x1 : Int32) (x2 : Int32) (x3 : Int32) (σ : ST) (Q : Int32 → ST → Prop) (h : wp_X5_show x1 x2 x3 σ Q) : CtI l D (tysF ct) (wM ad ct) yX5_show wsX5_show rm_X5_show [.ref (ad 0), .int x1, .int x2, .int x3] σ Q := by
  refine CtI.of (wM_adr ad ct) (maxL := 13) [(0, .ref (ad 0)), (1, .int x1), (2, .int x2), (3, .int x3)] RX5 (by decide) rfl rfl (by show (lg_sl [.ref (ad 0), .int x1, .int x2, .int x3]).length ≤ 13; exact Nat.le_of_ble_eq_true rfl) rfl rfl rfl ?_
  intro E C hR
  unfold wp_X5_show at h
  refine x_aload_n C 1 rfl 0 dX5_show_0 rfl rfl ?_
  refine x_iload_n C 2 rfl 1 dX5_show_1 rfl rfl ?_
  refine x_cVI C 5 rfl (m_X5_isThing l D ad ct _ _ _ h) (cwV 1 C.1.2.2.2.2 gX5_show_X5_isThing rfl rfl rfl (by decide +kernel) ⟨Nat.le_of_ble_eq_true rfl, Nat.le_of_ble_eq_true rfl⟩) ⟨0, 5, _, _, _, (gM_M ad ct _), rfl⟩ rfl rfl (Nat.le_of_ble_eq_true rfl) dX5_show_2 ?_
  intro r2 σ1 h
  refine x_if_eq C 17 8 dX5_show_5 (by decide) rfl (fun c5 => ?_) (fun c5 => ?_)
  · have h := h.1 c5
    refine x_iconst C 18 rfl (-1) dX5_show_17 rfl ?_
    exact hR _ _ _ _ dX5_show_18 h
  · have h := h.2 c5
    refine x_iload_n C 9 rfl 3 dX5_show_8 rfl rfl ?_
    refine x_iconst C 10 rfl 0 dX5_show_9 rfl ?_
    refine x_iconst C 11 rfl 4 dX5_show_10 rfl ?_
    refine x_cSI C 14 rfl (m_X5_isIn l D ad ct _ _ _ _ _ h) (va_cwS 3 C.1.2.2.2.2 gX5_show_X5_isIn rfl rfl rfl (by decide +kernel) ⟨Nat.le_of_ble_eq_true rfl, Nat.le_of_ble_eq_true rfl⟩) rfl rfl (Nat.le_of_ble_eq_true rfl) dX5_show_11 ?_
    intro r4 σ3 h
    refine x_if_ne C 19 17 dX5_show_14 (by decide) rfl (fun c14 => ?_) (fun c14 => ?_)
    · have h := h.1 c14
      refine x_aload_n C 20 rfl 0 dX5_show_19 rfl rfl ?_
      refine x_iload_n C 21 rfl 1 dX5_show_20 rfl rfl ?_
      refine x_cVI C 24 rfl (m_X5_shortest l D ad ct _ _ _ h) (cwV 1 C.1.2.2.2.2 gX5_show_X5_shortest rfl rfl rfl (by decide +kernel) ⟨Nat.le_of_ble_eq_true rfl, Nat.le_of_ble_eq_true rfl⟩) ⟨0, 5, _, _, _, (gM_M ad ct _), rfl⟩ rfl rfl (Nat.le_of_ble_eq_true rfl) dX5_show_21 ?_
      intro r6 σ5 h
      refine x_istore C 26 rfl [(4, .int r6), (0, .ref (ad 0)), (1, .int x1), (2, .int x2), (3, .int x3)] dX5_show_24 (by decide) rfl ?_
      refine x_iload_n C 27 rfl 3 dX5_show_26 rfl rfl ?_
      refine x_iconst C 28 rfl 0 dX5_show_27 rfl ?_
      refine x_iload C 30 rfl 0 dX5_show_28 rfl ?_
      refine x_iconst C 31 rfl 1 dX5_show_30 rfl ?_
      refine x_isub C 32 rfl dX5_show_31 ?_
      refine x_cSI C 35 rfl (m_X5_isIn l D ad ct _ _ _ _ _ h) (va_cwS 3 C.1.2.2.2.2 gX5_show_X5_isIn rfl rfl rfl (by decide +kernel) ⟨Nat.le_of_ble_eq_true rfl, Nat.le_of_ble_eq_true rfl⟩) rfl rfl (Nat.le_of_ble_eq_true rfl) dX5_show_32 ?_
      intro r8 σ7 h
      refine x_if_ne C 40 38 dX5_show_35 (by decide) rfl (fun c35 => ?_) (fun c35 => ?_)
      · have h := h.1 c35
        refine x_aload_n C 41 rfl 1 dX5_show_40 rfl rfl ?_
        refine x_get C 44 rfl (ref := RX5) 0 2 (gM_M ad ct _) rfl in_X5_show_X5 (by decide) fl_X5_show_13 rfl rfl dX5_show_41 ?_
        refine x_iload_n C 45 rfl 2 dX5_show_44 rfl rfl ?_
        have i9 := h.1
        have h := h.2
        refine x_iald C 46 rfl 2 0 (gM_M_first ad ct _) rfl i9 dX5_show_45 ?_
        refine x_istore C 48 rfl [(5, .int (σ7.2.2.1 2 (Int32.toNatClampNeg x1))), (4, .int r6), (0, .ref (ad 0)), (1, .int x1), (2, .int x2), (3, .int x3)] dX5_show_46 (by decide) rfl ?_
        refine x_aload_n C 49 rfl 2 dX5_show_48 rfl rfl ?_
        refine x_get C 52 rfl (ref := RX5) 0 2 (gM_M ad ct _) rfl in_X5_show_X5 (by decide) fl_X5_show_13 rfl rfl dX5_show_49 ?_
        refine x_iload_n C 53 rfl 3 dX5_show_52 rfl rfl ?_
        refine x_iald C 54 rfl 2 0 (gM_M_first ad ct _) rfl i9 dX5_show_53 ?_
        refine x_istore C 56 rfl [(6, .int (σ7.2.2.1 2 (Int32.toNatClampNeg x1))), (5, .int (σ7.2.2.1 2 (Int32.toNatClampNeg x1))), (4, .int r6), (0, .ref (ad 0)), (1, .int x1), (2, .int x2), (3, .int x3)] dX5_show_54 (by decide) rfl ?_
        refine x_iconst C 57 rfl 0 dX5_show_56 rfl ?_
        refine x_istore C 59 rfl [(7, .int 0), (6, .int (σ7.2.2.1 2 (Int32.toNatClampNeg x1))), (5, .int (σ7.2.2.1 2 (Int32.toNatClampNeg x1))), (4, .int r6), (0, .ref (ad 0)), (1, .int x1), (2, .int x2), (3, .int x3)] dX5_show_57 (by decide) rfl ?_
        refine x_sub (lv' := [(0, .ref (ad 0)), (1, .int x1), (2, .int x2), (3, .int x3), (4, .int r6), (5, .int (σ7.2.2.1 2 (Int32.toNatClampNeg x1))), (6, .int (σ7.2.2.1 2 (Int32.toNatClampNeg x1))), (7, .int 0)]) [4, 5, 6, 7, 3, 2, 1, 0] rfl ?_
        obtain ⟨n40, h⟩ := h
        refine v_X5_show_L59 C x1 x2 x3 r6 hR n40 _ _ _ _ h
      · have h := h.2 c35
        refine x_iconst C 39 rfl (-1) dX5_show_38 rfl ?_
        exact hR _ _ _ _ dX5_show_39 h
    · have h := h.2 c14
      refine x_iconst C 18 rfl (-1) dX5_show_17 rfl ?_
      exact hR _ _ _ _ dX5_show_18 h
abbrev rm_X5_isAct : Room := { frames := 1, cells := 0, slots := 0, locals := 22 }
theorem in_X5_isAct_X5 : ∀ w ∈ u_ws RX5 TX5 20, w ∈ wsX5_isAct := by decide +kernel
theorem fl_X5_isAct_62 : Cond.fieldLink RX5 62 RX5 (TX5 0).2.1 (TX5 0).2.2.1 ∈ wsX5_isAct := by decide +kernel
set_option maxRecDepth 100000 in
set_option maxHeartbeats 4000000 in
theorem m_X5_isAct (l : Launch) (D : va_G) (ad : Nat → Nat) (ct : Nat → ClassId) (x1 : Int32) (σ : ST) (Q : Int32 → ST → Prop) (h : wp_X5_isAct x1 σ Q) : CtI l D (tysF ct) (wM ad ct) yX5_isAct wsX5_isAct rm_X5_isAct [.ref (ad 0), .int x1] σ Q := by
  refine CtI.ofZ (wM_adr ad ct) (maxL := 2) [(0, .ref (ad 0)), (1, .int x1)] RX5 (by decide) rfl rfl (by show (lg_sl [.ref (ad 0), .int x1]).length ≤ 2; exact Nat.le_of_ble_eq_true rfl) rfl rfl rfl ?_
  intro E C hR
  unfold wp_X5_isAct at h
  refine x_iload_n C 1 rfl 1 dX5_isAct_0 rfl rfl ?_
  refine x_bipush C 3 rfl 9 dX5_isAct_1 rfl ?_
  refine x_icmp_eq C 22 6 dX5_isAct_3 (by decide) rfl (fun c3 => ?_) (fun c3 => ?_)
  · have h := h.1 c3
    refine x_iconst C 23 rfl 1 dX5_isAct_22 rfl ?_
    refine x_goto C 27 dX5_isAct_23 (by decide) ?_
    exact hR _ _ _ _ dX5_isAct_27 (by decide) h
  · have h := h.2 c3
    refine x_iload_n C 7 rfl 1 dX5_isAct_6 rfl rfl ?_
    refine x_iconst C 8 rfl 0 dX5_isAct_7 rfl ?_
    refine x_iconst C 9 rfl 3 dX5_isAct_8 rfl ?_
    refine x_aload_n C 10 rfl 0 dX5_isAct_9 rfl rfl ?_
    refine x_get C 13 rfl (ref := RX5) 0 0 (gM_M ad ct _) rfl in_X5_isAct_X5 (by decide) fl_X5_isAct_62 rfl rfl dX5_isAct_10 ?_
    refine x_imul C 14 rfl dX5_isAct_13 ?_
    refine x_iconst C 15 rfl 1 dX5_isAct_14 rfl ?_
    refine x_isub C 16 rfl dX5_isAct_15 ?_
    refine x_cSI C 19 rfl (m_X5_isIn l D ad ct _ _ _ _ _ h) (va_cwS 3 C.1.2.2.2.2 gX5_isAct_X5_isIn rfl rfl rfl (by decide +kernel) ⟨Nat.le_of_ble_eq_true rfl, Nat.le_of_ble_eq_true rfl⟩) rfl rfl (Nat.le_of_ble_eq_true rfl) dX5_isAct_16 ?_
    intro r2 σ1 h
    refine x_if_eq C 26 22 dX5_isAct_19 (by decide) rfl (fun c19 => ?_) (fun c19 => ?_)
    · have h := h.1 c19
      refine x_iconst C 27 rfl 0 dX5_isAct_26 rfl ?_
      exact hR _ _ _ _ dX5_isAct_27 (by decide) h
    · have h := h.2 c19
      refine x_iconst C 23 rfl 1 dX5_isAct_22 rfl ?_
      refine x_goto C 27 dX5_isAct_23 (by decide) ?_
      exact hR _ _ _ _ dX5_isAct_27 (by decide) h
abbrev rm_X5_startOf : Room := { frames := 0, cells := 0, slots := 0, locals := 0 }
theorem in_X5_startOf_X5 : ∀ w ∈ u_ws RX5 TX5 20, w ∈ wsX5_startOf := by decide +kernel
theorem fl_X5_startOf_62 : Cond.fieldLink RX5 62 RX5 (TX5 0).2.1 (TX5 0).2.2.1 ∈ wsX5_startOf := by decide +kernel
theorem fl_X5_startOf_13 : Cond.fieldLink RX5 13 RX5 (TX5 2).2.1 (TX5 2).2.2.1 ∈ wsX5_startOf := by decide +kernel
set_option maxRecDepth 100000 in
set_option maxHeartbeats 4000000 in
theorem v_X5_startOf_L4 {l : Launch} {D : va_G} {ad : Nat → Nat} {ct : Nat → ClassId} {E : XE}  {Q : Int32 → ST → Prop} (C : XFix D (tysF ct) (wM ad ct) rm_X5_startOf 3 E cX5_startOf RX5 wsX5_startOf) (hR : RetI l D (tysF ct) (wM ad ct) rm_X5_startOf 3 E cX5_startOf Q) :
    ∀ (n : Nat) (x1 : Int32) (x2 : Int32) (σ : ST), wp_X5_startOf_L4 Q n x1 x2 σ → V l D (tysF ct) (wM ad ct) rm_X5_startOf 3 E 4 [(0, .ref (ad 0)), (1, .int x1), (2, .int x2)] [] σ := by
  intro n
  induction n with
  | zero => intro x1 x2 σ h; exact (h : False).elim
  | succ n ih =>
    intro x1 x2 σ h
    unfold wp_X5_startOf_L4 at h
    refine x_iload_n C 5 rfl 2 dX5_startOf_4 rfl rfl ?_
    refine x_aload_n C 6 rfl 0 dX5_startOf_5 rfl rfl ?_
    refine x_get C 9 rfl (ref := RX5) 0 0 (gM_M ad ct _) rfl in_X5_startOf_X5 (by decide) fl_X5_startOf_62 rfl rfl dX5_startOf_6 ?_
    refine x_icmp_ge C 31 12 dX5_startOf_9 (by decide) rfl (fun c9 => ?_) (fun c9 => ?_)
    · have h := h.1 c9
      refine x_iload_n C 32 rfl 1 dX5_startOf_31 rfl rfl ?_
      exact hR _ _ _ _ dX5_startOf_32 h
    · have h := h.2 c9
      refine x_iload_n C 13 rfl 1 dX5_startOf_12 rfl rfl ?_
      refine x_aload_n C 14 rfl 0 dX5_startOf_13 rfl rfl ?_
      refine x_get C 17 rfl (ref := RX5) 0 2 (gM_M ad ct _) rfl in_X5_startOf_X5 (by decide) fl_X5_startOf_13 rfl rfl dX5_startOf_14 ?_
      refine x_iload_n C 18 rfl 2 dX5_startOf_17 rfl rfl ?_
      have i1 := h.1
      have h := h.2
      refine x_iald C 19 rfl 2 0 (gM_M_first ad ct _) rfl i1 dX5_startOf_18 ?_
      refine x_iconst C 20 rfl 2 dX5_startOf_19 rfl ?_
      refine x_iload_n C 21 rfl 2 dX5_startOf_20 rfl rfl ?_
      refine x_imul C 22 rfl dX5_startOf_21 ?_
      refine x_ishl C 23 rfl dX5_startOf_22 ?_
      refine x_ior C 24 rfl dX5_startOf_23 ?_
      refine x_ni (fun w2 ew2 => ?_)
      have h := h w2 ew2
      refine x_istore_n C 25 rfl [(1, .int w2), (0, .ref (ad 0)), (2, .int x2)] dX5_startOf_24 rfl (by decide) rfl ?_
      refine x_iinc C 28 rfl 2 (x2 + 1) [(2, .int (x2 + 1)), (1, .int w2), (0, .ref (ad 0))] dX5_startOf_25 rfl rfl (by decide) rfl ?_
      refine x_goto C 4 dX5_startOf_28 (by decide) ?_
      refine x_sub (lv' := [(0, .ref (ad 0)), (1, .int w2), (2, .int (x2 + 1))]) [2, 1, 0] rfl ?_
      exact ih _ _ _ h
set_option maxRecDepth 100000 in
set_option maxHeartbeats 4000000 in
theorem m_X5_startOf (l : Launch) (D : va_G) (ad : Nat → Nat) (ct : Nat → ClassId) (σ : ST) (Q : Int32 → ST → Prop) (h : wp_X5_startOf σ Q) : CtI l D (tysF ct) (wM ad ct) yX5_startOf wsX5_startOf rm_X5_startOf [.ref (ad 0)] σ Q := by
  refine CtI.of (wM_adr ad ct) (maxL := 3) [(0, .ref (ad 0))] RX5 (by decide) rfl rfl (by show (lg_sl [.ref (ad 0)]).length ≤ 3; exact Nat.le_of_ble_eq_true rfl) rfl rfl rfl ?_
  intro E C hR
  unfold wp_X5_startOf at h
  refine x_iconst C 1 rfl 0 dX5_startOf_0 rfl ?_
  refine x_istore_n C 2 rfl [(1, .int 0), (0, .ref (ad 0))] dX5_startOf_1 rfl (by decide) rfl ?_
  refine x_iconst C 3 rfl 0 dX5_startOf_2 rfl ?_
  refine x_istore_n C 4 rfl [(2, .int 0), (1, .int 0), (0, .ref (ad 0))] dX5_startOf_3 rfl (by decide) rfl ?_
  refine x_sub (lv' := [(0, .ref (ad 0)), (1, .int 0), (2, .int 0)]) [2, 1, 0] rfl ?_
  obtain ⟨n3, h⟩ := h
  refine v_X5_startOf_L4 C hR n3 _ _ _ h
abbrev rm_X5_part : Room := { frames := 0, cells := 0, slots := 0, locals := 0 }
set_option maxRecDepth 100000 in
set_option maxHeartbeats 4000000 in
theorem m_X5_part (l : Launch) (D : va_G) (ad : Nat → Nat) (ct : Nat → ClassId) (x0 : Int32) (x1 : Int32) (σ : ST) (Q : Int32 → ST → Prop) (h : wp_X5_part x0 x1 σ Q) : CtI l D (tysF ct) (wM ad ct) yX5_part wsX5_part rm_X5_part [.int x0, .int x1] σ Q := by
  refine CtI.of (wM_adr ad ct) (maxL := 2) [(0, .int x0), (1, .int x1)] RX5 (by decide) rfl rfl (by show (lg_sl [.int x0, .int x1]).length ≤ 2; exact Nat.le_of_ble_eq_true rfl) rfl rfl rfl ?_
  intro E C hR
  unfold wp_X5_part at h
  refine x_iload_n C 1 rfl 0 dX5_part_0 rfl rfl ?_
  refine x_iconst C 2 rfl 2 dX5_part_1 rfl ?_
  refine x_iload_n C 3 rfl 1 dX5_part_2 rfl rfl ?_
  refine x_imul C 4 rfl dX5_part_3 ?_
  refine x_ishr C 5 rfl dX5_part_4 ?_
  refine x_iconst C 6 rfl 3 dX5_part_5 rfl ?_
  refine x_iand C 7 rfl dX5_part_6 ?_
  exact hR _ _ _ _ dX5_part_7 h
abbrev rm_X5_with : Room := { frames := 0, cells := 0, slots := 0, locals := 0 }
set_option maxRecDepth 100000 in
set_option maxHeartbeats 4000000 in
theorem m_X5_with (l : Launch) (D : va_G) (ad : Nat → Nat) (ct : Nat → ClassId) (x0 : Int32) (x1 : Int32) (x2 : Int32) (σ : ST) (Q : Int32 → ST → Prop) (h : wp_X5_with x0 x1 x2 σ Q) : CtI l D (tysF ct) (wM ad ct) yX5_with wsX5_with rm_X5_with [.int x0, .int x1, .int x2] σ Q := by
  refine CtI.of (wM_adr ad ct) (maxL := 3) [(0, .int x0), (1, .int x1), (2, .int x2)] RX5 (by decide) rfl rfl (by show (lg_sl [.int x0, .int x1, .int x2]).length ≤ 3; exact Nat.le_of_ble_eq_true rfl) rfl rfl rfl ?_
  intro E C hR
  unfold wp_X5_with at h
  refine x_iload_n C 1 rfl 0 dX5_with_0 rfl rfl ?_
  refine x_iconst C 2 rfl 3 dX5_with_1 rfl ?_
  refine x_iconst C 3 rfl 2 dX5_with_2 rfl ?_
  refine x_iload_n C 4 rfl 1 dX5_with_3 rfl rfl ?_
  refine x_imul C 5 rfl dX5_with_4 ?_
  refine x_ishl C 6 rfl dX5_with_5 ?_
  refine x_iconst C 7 rfl (-1) dX5_with_6 rfl ?_
  refine x_ixor C 8 rfl dX5_with_7 ?_
  refine x_iand C 9 rfl dX5_with_8 ?_
  refine x_iload_n C 10 rfl 2 dX5_with_9 rfl rfl ?_
  refine x_iconst C 11 rfl 2 dX5_with_10 rfl ?_
  refine x_iload_n C 12 rfl 1 dX5_with_11 rfl rfl ?_
  refine x_imul C 13 rfl dX5_with_12 ?_
  refine x_ishl C 14 rfl dX5_with_13 ?_
  refine x_ior C 15 rfl dX5_with_14 ?_
  exact hR _ _ _ _ dX5_with_15 h
abbrev rm_X5_sent : Room := { frames := 2, cells := 0, slots := 0, locals := 48 }
theorem in_X5_sent_X5 : ∀ w ∈ u_ws RX5 TX5 20, w ∈ wsX5_sent := by decide +kernel
theorem fl_X5_sent_62 : Cond.fieldLink RX5 62 RX5 (TX5 0).2.1 (TX5 0).2.2.1 ∈ wsX5_sent := by decide +kernel
theorem fl_X5_sent_16 : Cond.fieldLink RX5 16 RX5 (TX5 3).2.1 (TX5 3).2.2.1 ∈ wsX5_sent := by decide +kernel
theorem fl_X5_sent_19 : Cond.fieldLink RX5 19 RX5 (TX5 4).2.1 (TX5 4).2.2.1 ∈ wsX5_sent := by decide +kernel
theorem fl_X5_sent_13 : Cond.fieldLink RX5 13 RX5 (TX5 2).2.1 (TX5 2).2.2.1 ∈ wsX5_sent := by decide +kernel
set_option maxRecDepth 100000 in
set_option maxHeartbeats 4000000 in
theorem v_X5_sent_L40 {l : Launch} {D : va_G} {ad : Nat → Nat} {ct : Nat → ClassId} {E : XE}  {Q : Int32 → ST → Prop} (C : XFix D (tysF ct) (wM ad ct) rm_X5_sent 6 E cX5_sent RX5 wsX5_sent) (x3 : Int32) (hR : RetI l D (tysF ct) (wM ad ct) rm_X5_sent 6 E cX5_sent Q) :
    ∀ (n : Nat) (x4 : Int32) (x5 : Int32) (σ : ST), wp_X5_sent_L40 x3 Q n x4 x5 σ → V l D (tysF ct) (wM ad ct) rm_X5_sent 6 E 40 [(0, .ref (ad 0)), (3, .int x3), (4, .int x4), (5, .int x5)] [] σ := by
  intro n
  induction n with
  | zero => intro x4 x5 σ h; exact (h : False).elim
  | succ n ih =>
    intro x4 x5 σ h
    unfold wp_X5_sent_L40 at h
    refine x_iload C 42 rfl 3 dX5_sent_40 rfl ?_
    refine x_aload_n C 43 rfl 0 dX5_sent_42 rfl rfl ?_
    refine x_get C 46 rfl (ref := RX5) 0 0 (gM_M ad ct _) rfl in_X5_sent_X5 (by decide) fl_X5_sent_62 rfl rfl dX5_sent_43 ?_
    refine x_icmp_ge C 96 49 dX5_sent_46 (by decide) rfl (fun c46 => ?_) (fun c46 => ?_)
    · have h := h.1 c46
      refine x_iload C 98 rfl 2 dX5_sent_96 rfl ?_
      exact hR _ _ _ _ dX5_sent_98 h
    · have h := h.2 c46
      refine x_aload_n C 50 rfl 0 dX5_sent_49 rfl rfl ?_
      refine x_get C 53 rfl (ref := RX5) 0 3 (gM_M ad ct _) rfl in_X5_sent_X5 (by decide) fl_X5_sent_16 rfl rfl dX5_sent_50 ?_
      refine x_iload C 55 rfl 3 dX5_sent_53 rfl ?_
      have i1 := h.1
      have h := h.2
      refine x_iald C 56 rfl 3 0 (gM_M_wall ad ct _) rfl i1 dX5_sent_55 ?_
      refine x_iconst C 57 rfl 1 dX5_sent_56 rfl ?_
      refine x_icmp_ne C 90 60 dX5_sent_57 (by decide) rfl (fun c57 => ?_) (fun c57 => ?_)
      · have h := h.1 c57
        refine x_iinc C 93 rfl 3 (x5 + 1) [(5, .int (x5 + 1)), (0, .ref (ad 0)), (3, .int x3), (4, .int x4)] dX5_sent_90 rfl rfl (by decide) rfl ?_
        refine x_goto C 40 dX5_sent_93 (by decide) ?_
        refine x_sub (lv' := [(0, .ref (ad 0)), (3, .int x3), (4, .int x4), (5, .int (x5 + 1))]) [1, 2, 3, 0] rfl ?_
        exact ih _ _ _ h
      · have h := h.2 c57
        refine x_iload_n C 61 rfl 1 dX5_sent_60 rfl rfl ?_
        refine x_iconst C 62 rfl 1 dX5_sent_61 rfl ?_
        refine x_iadd C 63 rfl dX5_sent_62 ?_
        refine x_aload_n C 64 rfl 0 dX5_sent_63 rfl rfl ?_
        refine x_get C 67 rfl (ref := RX5) 0 4 (gM_M ad ct _) rfl in_X5_sent_X5 (by decide) fl_X5_sent_19 rfl rfl dX5_sent_64 ?_
        refine x_iload C 69 rfl 3 dX5_sent_67 rfl ?_
        refine x_iald C 70 rfl 4 0 (gM_M_clean ad ct _) rfl i1 dX5_sent_69 ?_
        have z2 := h.1
        have h := h.2
        refine x_irem C 71 rfl dX5_sent_70 z2 ?_
        refine x_if_ne C 90 74 dX5_sent_71 (by decide) rfl (fun c71 => ?_) (fun c71 => ?_)
        · have h := h.1 c71
          refine x_iinc C 93 rfl 3 (x5 + 1) [(5, .int (x5 + 1)), (0, .ref (ad 0)), (3, .int x3), (4, .int x4)] dX5_sent_90 rfl rfl (by decide) rfl ?_
          refine x_goto C 40 dX5_sent_93 (by decide) ?_
          refine x_sub (lv' := [(0, .ref (ad 0)), (3, .int x3), (4, .int x4), (5, .int (x5 + 1))]) [1, 2, 3, 0] rfl ?_
          exact ih _ _ _ h
        · have h := h.2 c71
          refine x_iload C 76 rfl 2 dX5_sent_74 rfl ?_
          refine x_iload C 78 rfl 3 dX5_sent_76 rfl ?_
          refine x_aload_n C 79 rfl 0 dX5_sent_78 rfl rfl ?_
          refine x_get C 82 rfl (ref := RX5) 0 2 (gM_M ad ct _) rfl in_X5_sent_X5 (by decide) fl_X5_sent_13 rfl rfl dX5_sent_79 ?_
          refine x_iload C 84 rfl 3 dX5_sent_82 rfl ?_
          refine x_iald C 85 rfl 2 0 (gM_M_first ad ct _) rfl i1 dX5_sent_84 ?_
          refine x_cSI C 88 rfl (m_X5_with l D ad ct _ _ _ _ _ h) (va_cwS 3 C.1.2.2.2.2 gX5_sent_X5_with rfl rfl rfl (by decide +kernel) ⟨Nat.le_of_ble_eq_true rfl, Nat.le_of_ble_eq_true rfl⟩) rfl rfl (Nat.le_of_ble_eq_true rfl) dX5_sent_85 ?_
          intro r4 σ3 h
          refine x_istore C 90 rfl [(4, .int r4), (0, .ref (ad 0)), (3, .int x3), (5, .int x5)] dX5_sent_88 (by decide) rfl ?_
          refine x_iinc C 93 rfl 3 (x5 + 1) [(5, .int (x5 + 1)), (4, .int r4), (0, .ref (ad 0)), (3, .int x3)] dX5_sent_90 rfl rfl (by decide) rfl ?_
          refine x_goto C 40 dX5_sent_93 (by decide) ?_
          refine x_sub (lv' := [(0, .ref (ad 0)), (3, .int x3), (4, .int r4), (5, .int (x5 + 1))]) [2, 3, 1, 0] rfl ?_
          exact ih _ _ _ h
set_option maxRecDepth 100000 in
set_option maxHeartbeats 4000000 in
theorem m_X5_sent (l : Launch) (D : va_G) (ad : Nat → Nat) (ct : Nat → ClassId) (x1 : Int32) (x2 : Int32) (x3 : Int32) (σ : ST) (Q : Int32 → ST → Prop) (h : wp_X5_sent x1 x2 x3 σ Q) : CtI l D (tysF ct) (wM ad ct) yX5_sent wsX5_sent rm_X5_sent [.ref (ad 0), .int x1, .int x2, .int x3] σ Q := by
  refine CtI.of (wM_adr ad ct) (maxL := 6) [(0, .ref (ad 0)), (1, .int x1), (2, .int x2), (3, .int x3)] RX5 (by decide) rfl rfl (by show (lg_sl [.ref (ad 0), .int x1, .int x2, .int x3]).length ≤ 6; exact Nat.le_of_ble_eq_true rfl) rfl rfl rfl ?_
  intro E C hR
  unfold wp_X5_sent at h
  refine x_iload_n C 1 rfl 1 dX5_sent_0 rfl rfl ?_
  refine x_istore C 3 rfl [(4, .int x1), (0, .ref (ad 0)), (1, .int x1), (2, .int x2), (3, .int x3)] dX5_sent_1 (by decide) rfl ?_
  refine x_iload_n C 4 rfl 3 dX5_sent_3 rfl rfl ?_
  refine x_bipush C 6 rfl 9 dX5_sent_4 rfl ?_
  refine x_icmp_eq C 37 9 dX5_sent_6 (by decide) rfl (fun c6 => ?_) (fun c6 => ?_)
  · have h := h.1 c6
    refine x_iconst C 38 rfl 0 dX5_sent_37 rfl ?_
    refine x_istore C 40 rfl [(5, .int 0), (4, .int x1), (0, .ref (ad 0)), (1, .int x1), (2, .int x2), (3, .int x3)] dX5_sent_38 (by decide) rfl ?_
    refine x_sub (lv' := [(0, .ref (ad 0)), (3, .int x3), (4, .int x1), (5, .int 0)]) [2, 5, 1, 0] rfl ?_
    obtain ⟨n5, h⟩ := h
    refine v_X5_sent_L40 C x3 hR n5 _ _ _ h
  · have h := h.2 c6
    refine x_iload C 11 rfl 0 dX5_sent_9 rfl ?_
    refine x_iload_n C 12 rfl 3 dX5_sent_11 rfl rfl ?_
    refine x_iconst C 13 rfl 3 dX5_sent_12 rfl ?_
    refine x_idiv C 14 rfl dX5_sent_13 (by decide) ?_
    refine x_aload_n C 15 rfl 1 dX5_sent_14 rfl rfl ?_
    refine x_iload_n C 16 rfl 3 dX5_sent_15 rfl rfl ?_
    refine x_iconst C 17 rfl 3 dX5_sent_16 rfl ?_
    refine x_idiv C 18 rfl dX5_sent_17 (by decide) ?_
    refine x_iload C 20 rfl 0 dX5_sent_18 rfl ?_
    refine x_iload_n C 21 rfl 3 dX5_sent_20 rfl rfl ?_
    refine x_iconst C 22 rfl 3 dX5_sent_21 rfl ?_
    refine x_idiv C 23 rfl dX5_sent_22 (by decide) ?_
    refine x_cSI C 26 rfl (m_X5_part l D ad ct _ _ _ _ h) (va_cwS 2 C.1.2.2.2.2 gX5_sent_X5_part rfl rfl rfl (by decide +kernel) ⟨Nat.le_of_ble_eq_true rfl, Nat.le_of_ble_eq_true rfl⟩) rfl rfl (Nat.le_of_ble_eq_true rfl) dX5_sent_23 ?_
    intro r7 σ6 h
    refine x_iload_n C 27 rfl 3 dX5_sent_26 rfl rfl ?_
    refine x_iconst C 28 rfl 3 dX5_sent_27 rfl ?_
    refine x_irem C 29 rfl dX5_sent_28 (by decide) ?_
    refine x_cVI C 32 rfl (m_X5_sends l D ad ct _ _ _ _ _ h) (cwV 3 C.1.2.2.2.2 gX5_sent_X5_sends rfl rfl rfl (by decide +kernel) ⟨Nat.le_of_ble_eq_true rfl, Nat.le_of_ble_eq_true rfl⟩) ⟨0, 5, _, _, _, (gM_M ad ct _), rfl⟩ rfl rfl (Nat.le_of_ble_eq_true rfl) dX5_sent_29 ?_
    intro r9 σ8 h
    refine x_cSI C 35 rfl (m_X5_with l D ad ct _ _ _ _ _ h) (va_cwS 3 C.1.2.2.2.2 gX5_sent_X5_with rfl rfl rfl (by decide +kernel) ⟨Nat.le_of_ble_eq_true rfl, Nat.le_of_ble_eq_true rfl⟩) rfl rfl (Nat.le_of_ble_eq_true rfl) dX5_sent_32 ?_
    intro r11 σ10 h
    refine x_istore C 37 rfl [(4, .int r11), (0, .ref (ad 0)), (1, .int x1), (2, .int x2), (3, .int x3)] dX5_sent_35 (by decide) rfl ?_
    refine x_iconst C 38 rfl 0 dX5_sent_37 rfl ?_
    refine x_istore C 40 rfl [(5, .int 0), (4, .int r11), (0, .ref (ad 0)), (1, .int x1), (2, .int x2), (3, .int x3)] dX5_sent_38 (by decide) rfl ?_
    refine x_sub (lv' := [(0, .ref (ad 0)), (3, .int x3), (4, .int r11), (5, .int 0)]) [2, 5, 1, 0] rfl ?_
    obtain ⟨n12, h⟩ := h
    refine v_X5_sent_L40 C x3 hR n12 _ _ _ h
abbrev rm_X5_heard : Room := { frames := 2, cells := 0, slots := 0, locals := 48 }
set_option maxRecDepth 100000 in
set_option maxHeartbeats 4000000 in
theorem m_X5_heard (l : Launch) (D : va_G) (ad : Nat → Nat) (ct : Nat → ClassId) (x1 : Int32) (x2 : Int32) (σ : ST) (Q : Int32 → ST → Prop) (h : wp_X5_heard x1 x2 σ Q) : CtI l D (tysF ct) (wM ad ct) yX5_heard wsX5_heard rm_X5_heard [.ref (ad 0), .int x1, .int x2] σ Q := by
  refine CtI.of (wM_adr ad ct) (maxL := 3) [(0, .ref (ad 0)), (1, .int x1), (2, .int x2)] RX5 (by decide) rfl rfl (by show (lg_sl [.ref (ad 0), .int x1, .int x2]).length ≤ 3; exact Nat.le_of_ble_eq_true rfl) rfl rfl rfl ?_
  intro E C hR
  unfold wp_X5_heard at h
  refine x_iload_n C 1 rfl 2 dX5_heard_0 rfl rfl ?_
  refine x_bipush C 3 rfl 9 dX5_heard_1 rfl ?_
  refine x_icmp_ne C 10 6 dX5_heard_3 (by decide) rfl (fun c3 => ?_) (fun c3 => ?_)
  · have h := h.1 c3
    refine x_iload_n C 11 rfl 1 dX5_heard_10 rfl rfl ?_
    refine x_iload_n C 12 rfl 2 dX5_heard_11 rfl rfl ?_
    refine x_iconst C 13 rfl 3 dX5_heard_12 rfl ?_
    refine x_idiv C 14 rfl dX5_heard_13 (by decide) ?_
    refine x_aload_n C 15 rfl 0 dX5_heard_14 rfl rfl ?_
    refine x_iload_n C 16 rfl 2 dX5_heard_15 rfl rfl ?_
    refine x_iconst C 17 rfl 3 dX5_heard_16 rfl ?_
    refine x_idiv C 18 rfl dX5_heard_17 (by decide) ?_
    refine x_iload_n C 19 rfl 1 dX5_heard_18 rfl rfl ?_
    refine x_iload_n C 20 rfl 2 dX5_heard_19 rfl rfl ?_
    refine x_iconst C 21 rfl 3 dX5_heard_20 rfl ?_
    refine x_idiv C 22 rfl dX5_heard_21 (by decide) ?_
    refine x_cSI C 25 rfl (m_X5_part l D ad ct _ _ _ _ h) (va_cwS 2 C.1.2.2.2.2 gX5_heard_X5_part rfl rfl rfl (by decide +kernel) ⟨Nat.le_of_ble_eq_true rfl, Nat.le_of_ble_eq_true rfl⟩) rfl rfl (Nat.le_of_ble_eq_true rfl) dX5_heard_22 ?_
    intro r2 σ1 h
    refine x_iload_n C 26 rfl 2 dX5_heard_25 rfl rfl ?_
    refine x_iconst C 27 rfl 3 dX5_heard_26 rfl ?_
    refine x_irem C 28 rfl dX5_heard_27 (by decide) ?_
    refine x_cVI C 31 rfl (m_X5_hears l D ad ct _ _ _ _ _ h) (cwV 3 C.1.2.2.2.2 gX5_heard_X5_hears rfl rfl rfl (by decide +kernel) ⟨Nat.le_of_ble_eq_true rfl, Nat.le_of_ble_eq_true rfl⟩) ⟨0, 5, _, _, _, (gM_M ad ct _), rfl⟩ rfl rfl (Nat.le_of_ble_eq_true rfl) dX5_heard_28 ?_
    intro r4 σ3 h
    refine x_cSI C 34 rfl (m_X5_with l D ad ct _ _ _ _ _ h) (va_cwS 3 C.1.2.2.2.2 gX5_heard_X5_with rfl rfl rfl (by decide +kernel) ⟨Nat.le_of_ble_eq_true rfl, Nat.le_of_ble_eq_true rfl⟩) rfl rfl (Nat.le_of_ble_eq_true rfl) dX5_heard_31 ?_
    intro r6 σ5 h
    exact hR _ _ _ _ dX5_heard_34 h
  · have h := h.2 c3
    refine x_iload_n C 7 rfl 1 dX5_heard_6 rfl rfl ?_
    refine x_goto C 34 dX5_heard_7 (by decide) ?_
    exact hR _ _ _ _ dX5_heard_34 h
abbrev rm_X5_told : Room := { frames := 2, cells := 0, slots := 0, locals := 49 }
set_option maxRecDepth 100000 in
set_option maxHeartbeats 4000000 in
theorem m_X5_told (l : Launch) (D : va_G) (ad : Nat → Nat) (ct : Nat → ClassId) (x1 : Int32) (x2 : Int32) (σ : ST) (Q : Int32 → ST → Prop) (h : wp_X5_told x1 x2 σ Q) : CtI l D (tysF ct) (wM ad ct) yX5_told wsX5_told rm_X5_told [.ref (ad 0), .int x1, .int x2] σ Q := by
  refine CtI.of (wM_adr ad ct) (maxL := 3) [(0, .ref (ad 0)), (1, .int x1), (2, .int x2)] RX5 (by decide) rfl rfl (by show (lg_sl [.ref (ad 0), .int x1, .int x2]).length ≤ 3; exact Nat.le_of_ble_eq_true rfl) rfl rfl rfl ?_
  intro E C hR
  unfold wp_X5_told at h
  refine x_iload_n C 1 rfl 2 dX5_told_0 rfl rfl ?_
  refine x_bipush C 3 rfl 9 dX5_told_1 rfl ?_
  refine x_icmp_ne C 10 6 dX5_told_3 (by decide) rfl (fun c3 => ?_) (fun c3 => ?_)
  · have h := h.1 c3
    refine x_aload_n C 11 rfl 0 dX5_told_10 rfl rfl ?_
    refine x_iload_n C 12 rfl 2 dX5_told_11 rfl rfl ?_
    refine x_iconst C 13 rfl 3 dX5_told_12 rfl ?_
    refine x_idiv C 14 rfl dX5_told_13 (by decide) ?_
    refine x_iload_n C 15 rfl 1 dX5_told_14 rfl rfl ?_
    refine x_iload_n C 16 rfl 2 dX5_told_15 rfl rfl ?_
    refine x_iconst C 17 rfl 3 dX5_told_16 rfl ?_
    refine x_idiv C 18 rfl dX5_told_17 (by decide) ?_
    refine x_cSI C 21 rfl (m_X5_part l D ad ct _ _ _ _ h) (va_cwS 2 C.1.2.2.2.2 gX5_told_X5_part rfl rfl rfl (by decide +kernel) ⟨Nat.le_of_ble_eq_true rfl, Nat.le_of_ble_eq_true rfl⟩) rfl rfl (Nat.le_of_ble_eq_true rfl) dX5_told_18 ?_
    intro r2 σ1 h
    refine x_iload_n C 22 rfl 2 dX5_told_21 rfl rfl ?_
    refine x_iconst C 23 rfl 3 dX5_told_22 rfl ?_
    refine x_irem C 24 rfl dX5_told_23 (by decide) ?_
    refine x_cVI C 27 rfl (m_X5_answers l D ad ct _ _ _ _ _ h) (cwV 3 C.1.2.2.2.2 gX5_told_X5_answers rfl rfl rfl (by decide +kernel) ⟨Nat.le_of_ble_eq_true rfl, Nat.le_of_ble_eq_true rfl⟩) ⟨0, 5, _, _, _, (gM_M ad ct _), rfl⟩ rfl rfl (Nat.le_of_ble_eq_true rfl) dX5_told_24 ?_
    intro r4 σ3 h
    exact hR _ _ _ _ dX5_told_27 h
  · have h := h.2 c3
    refine x_iconst C 7 rfl 0 dX5_told_6 rfl ?_
    refine x_goto C 27 dX5_told_7 (by decide) ?_
    exact hR _ _ _ _ dX5_told_27 h
abbrev rm_X5_spreads : Room := { frames := 3, cells := 0, slots := 0, locals := 73 }
set_option maxRecDepth 100000 in
set_option maxHeartbeats 4000000 in
theorem v_X5_spreads_L30 {l : Launch} {D : va_G} {ad : Nat → Nat} {ct : Nat → ClassId} {E : XE}  {Q : Int64 → ST → Prop} (C : XFix D (tysF ct) (wM ad ct) rm_X5_spreads 8 E cX5_spreads RX5 wsX5_spreads) (x1 : Int64) (x3 : Int32) (x6 : Int32) {K : Int64 → ST → Prop} (hK : ∀ (x4 : Int64) (σ : ST), K x4 σ → V l D (tysF ct) (wM ad ct) rm_X5_spreads 8 E 68 [(0, .ref (ad 0)), (1, .long x1), (3, .int x3), (4, .long x4), (6, .int x6)] [] σ) (hR : RetL l D (tysF ct) (wM ad ct) rm_X5_spreads 8 E cX5_spreads Q) :
    ∀ (n : Nat) (x4 : Int64) (x7 : Int32) (σ : ST), wp_X5_spreads_L30 x1 x3 x6 K Q n x4 x7 σ → V l D (tysF ct) (wM ad ct) rm_X5_spreads 8 E 30 [(0, .ref (ad 0)), (1, .long x1), (3, .int x3), (4, .long x4), (6, .int x6), (7, .int x7)] [] σ := by
  intro n
  induction n with
  | zero => intro x4 x7 σ h; exact (h : False).elim
  | succ n ih =>
    intro x4 x7 σ h
    unfold wp_X5_spreads_L30 at h
    refine x_iload C 32 rfl 5 dX5_spreads_30 rfl ?_
    refine x_bipush C 34 rfl 9 dX5_spreads_32 rfl ?_
    refine x_icmp_gt C 68 37 dX5_spreads_34 (by decide) rfl (fun c34 => ?_) (fun c34 => ?_)
    · have h := h.1 c34
      refine x_sub (lv' := [(0, .ref (ad 0)), (1, .long x1), (3, .int x3), (4, .long x4), (6, .int x6)]) [0, 1, 2, 3, 4] rfl ?_
      exact hK _ _ h
    · have h := h.2 c34
      refine x_aload_n C 38 rfl 0 dX5_spreads_37 rfl rfl ?_
      refine x_iload C 40 rfl 5 dX5_spreads_38 rfl ?_
      refine x_cVI C 43 rfl (m_X5_isAct l D ad ct _ _ _ h) (cwV 1 C.1.2.2.2.2 gX5_spreads_X5_isAct rfl rfl rfl (by decide +kernel) ⟨Nat.le_of_ble_eq_true rfl, Nat.le_of_ble_eq_true rfl⟩) ⟨0, 5, _, _, _, (gM_M ad ct _), rfl⟩ rfl rfl (Nat.le_of_ble_eq_true rfl) dX5_spreads_40 ?_
      intro r2 σ1 h
      refine x_if_eq C 62 46 dX5_spreads_43 (by decide) rfl (fun c43 => ?_) (fun c43 => ?_)
      · have h := h.1 c43
        refine x_iinc C 65 rfl 5 (x7 + 1) [(7, .int (x7 + 1)), (0, .ref (ad 0)), (1, .long x1), (3, .int x3), (4, .long x4), (6, .int x6)] dX5_spreads_62 rfl rfl (by decide) rfl ?_
        refine x_goto C 30 dX5_spreads_65 (by decide) ?_
        refine x_sub (lv' := [(0, .ref (ad 0)), (1, .long x1), (3, .int x3), (4, .long x4), (6, .int x6), (7, .int (x7 + 1))]) [1, 2, 3, 4, 5, 0] rfl ?_
        exact ih _ _ _ h
      · have h := h.2 c43
        refine x_lload C 48 rfl 3 dX5_spreads_46 rfl ?_
        refine x_lconst C 49 rfl 1 dX5_spreads_48 rfl ?_
        refine x_aload_n C 50 rfl 0 dX5_spreads_49 rfl rfl ?_
        refine x_iload C 52 rfl 4 dX5_spreads_50 rfl ?_
        refine x_iload C 54 rfl 5 dX5_spreads_52 rfl ?_
        refine x_iload_n C 55 rfl 2 dX5_spreads_54 rfl rfl ?_
        refine x_cVI C 58 rfl (m_X5_sent l D ad ct _ _ _ _ _ h) (cwV 3 C.1.2.2.2.2 gX5_spreads_X5_sent rfl rfl rfl (by decide +kernel) ⟨Nat.le_of_ble_eq_true rfl, Nat.le_of_ble_eq_true rfl⟩) ⟨0, 5, _, _, _, (gM_M ad ct _), rfl⟩ rfl rfl (Nat.le_of_ble_eq_true rfl) dX5_spreads_55 ?_
        intro r4 σ3 h
        refine x_lshl C 59 rfl dX5_spreads_58 ?_
        refine x_lor C 60 rfl dX5_spreads_59 ?_
        refine x_nl (fun w5 ew5 => ?_)
        have h := h w5 ew5
        refine x_lstore C 62 rfl [(4, .long w5), (0, .ref (ad 0)), (1, .long x1), (3, .int x3), (6, .int x6), (7, .int x7)] dX5_spreads_60 (by decide) rfl ?_
        refine x_iinc C 65 rfl 5 (x7 + 1) [(7, .int (x7 + 1)), (4, .long w5), (0, .ref (ad 0)), (1, .long x1), (3, .int x3), (6, .int x6)] dX5_spreads_62 rfl rfl (by decide) rfl ?_
        refine x_goto C 30 dX5_spreads_65 (by decide) ?_
        refine x_sub (lv' := [(0, .ref (ad 0)), (1, .long x1), (3, .int x3), (4, .long w5), (6, .int x6), (7, .int (x7 + 1))]) [2, 3, 4, 1, 5, 0] rfl ?_
        exact ih _ _ _ h
set_option maxRecDepth 100000 in
set_option maxHeartbeats 4000000 in
theorem v_X5_spreads_L6 {l : Launch} {D : va_G} {ad : Nat → Nat} {ct : Nat → ClassId} {E : XE}  {Q : Int64 → ST → Prop} (C : XFix D (tysF ct) (wM ad ct) rm_X5_spreads 8 E cX5_spreads RX5 wsX5_spreads) (x1 : Int64) (x3 : Int32) (hR : RetL l D (tysF ct) (wM ad ct) rm_X5_spreads 8 E cX5_spreads Q) :
    ∀ (n : Nat) (x4 : Int64) (x6 : Int32) (σ : ST), wp_X5_spreads_L6 x1 x3 Q n x4 x6 σ → V l D (tysF ct) (wM ad ct) rm_X5_spreads 8 E 6 [(0, .ref (ad 0)), (1, .long x1), (3, .int x3), (4, .long x4), (6, .int x6)] [] σ := by
  intro n
  induction n with
  | zero => intro x4 x6 σ h; exact (h : False).elim
  | succ n ih =>
    intro x4 x6 σ h
    unfold wp_X5_spreads_L6 at h
    refine x_iload C 8 rfl 4 dX5_spreads_6 rfl ?_
    refine x_bipush C 10 rfl 64 dX5_spreads_8 rfl ?_
    refine x_icmp_ge C 74 13 dX5_spreads_10 (by decide) rfl (fun c10 => ?_) (fun c10 => ?_)
    · have h := h.1 c10
      refine x_lload C 76 rfl 3 dX5_spreads_74 rfl ?_
      exact hR _ _ _ _ dX5_spreads_76 h
    · have h := h.2 c10
      refine x_lload_n C 14 rfl 1 dX5_spreads_13 rfl rfl ?_
      refine x_iload C 16 rfl 4 dX5_spreads_14 rfl ?_
      refine x_lshr C 17 rfl dX5_spreads_16 ?_
      refine x_lconst C 18 rfl 1 dX5_spreads_17 rfl ?_
      refine x_land C 19 rfl dX5_spreads_18 ?_
      refine x_lconst C 20 rfl 0 dX5_spreads_19 rfl ?_
      refine x_lcmp C 21 rfl dX5_spreads_20 ?_
      refine x_if_ne C 27 24 dX5_spreads_21 (by decide) rfl (fun c21 => ?_) (fun c21 => ?_)
      · have h := h.1 c21
        refine x_iconst C 28 rfl 0 dX5_spreads_27 rfl ?_
        refine x_istore C 30 rfl [(7, .int 0), (0, .ref (ad 0)), (1, .long x1), (3, .int x3), (4, .long x4), (6, .int x6)] dX5_spreads_28 (by decide) rfl ?_
        refine x_sub (lv' := [(0, .ref (ad 0)), (1, .long x1), (3, .int x3), (4, .long x4), (6, .int x6), (7, .int 0)]) [1, 2, 3, 4, 5, 0] rfl ?_
        obtain ⟨n6, h⟩ := h
        refine v_X5_spreads_L30 C x1 x3 x6 ?_ hR n6 _ _ _ h
        · intro y4_7 σ8 h
          refine x_iinc C 71 rfl 4 (x6 + 1) [(6, .int (x6 + 1)), (0, .ref (ad 0)), (1, .long x1), (3, .int x3), (4, .long y4_7)] dX5_spreads_68 rfl rfl (by decide) rfl ?_
          refine x_goto C 6 dX5_spreads_71 (by decide) ?_
          refine x_sub (lv' := [(0, .ref (ad 0)), (1, .long x1), (3, .int x3), (4, .long y4_7), (6, .int (x6 + 1))]) [1, 2, 3, 4, 0] rfl ?_
          exact ih _ _ _ h
      · have h := h.2 c21
        refine x_goto C 68 dX5_spreads_24 (by decide) ?_
        refine x_iinc C 71 rfl 4 (x6 + 1) [(6, .int (x6 + 1)), (0, .ref (ad 0)), (1, .long x1), (3, .int x3), (4, .long x4)] dX5_spreads_68 rfl rfl (by decide) rfl ?_
        refine x_goto C 6 dX5_spreads_71 (by decide) ?_
        refine x_sub (lv' := [(0, .ref (ad 0)), (1, .long x1), (3, .int x3), (4, .long x4), (6, .int (x6 + 1))]) [1, 2, 3, 4, 0] rfl ?_
        exact ih _ _ _ h
set_option maxRecDepth 100000 in
set_option maxHeartbeats 4000000 in
theorem m_X5_spreads (l : Launch) (D : va_G) (ad : Nat → Nat) (ct : Nat → ClassId) (x1 : Int64) (x3 : Int32) (σ : ST) (Q : Int64 → ST → Prop) (h : wp_X5_spreads x1 x3 σ Q) : CtL l D (tysF ct) (wM ad ct) yX5_spreads wsX5_spreads rm_X5_spreads [.ref (ad 0), .long x1, .int x3] σ Q := by
  refine CtL.of (wM_adr ad ct) (maxL := 8) [(0, .ref (ad 0)), (1, .long x1), (3, .int x3)] RX5 (by decide) rfl rfl (by show (lg_sl [.ref (ad 0), .long x1, .int x3]).length ≤ 8; exact Nat.le_of_ble_eq_true rfl) rfl rfl rfl ?_
  intro E C hR
  unfold wp_X5_spreads at h
  refine x_lconst C 1 rfl 0 dX5_spreads_0 rfl ?_
  refine x_lstore C 3 rfl [(4, .long 0), (0, .ref (ad 0)), (1, .long x1), (3, .int x3)] dX5_spreads_1 (by decide) rfl ?_
  refine x_iconst C 4 rfl 0 dX5_spreads_3 rfl ?_
  refine x_istore C 6 rfl [(6, .int 0), (4, .long 0), (0, .ref (ad 0)), (1, .long x1), (3, .int x3)] dX5_spreads_4 (by decide) rfl ?_
  refine x_sub (lv' := [(0, .ref (ad 0)), (1, .long x1), (3, .int x3), (4, .long 0), (6, .int 0)]) [2, 3, 4, 1, 0] rfl ?_
  obtain ⟨n9, h⟩ := h
  refine v_X5_spreads_L6 C x1 x3 hR n9 _ _ _ h
abbrev rm_X5_parts : Room := { frames := 3, cells := 0, slots := 0, locals := 71 }
set_option maxRecDepth 100000 in
set_option maxHeartbeats 4000000 in
theorem v_X5_parts_L6 {l : Launch} {D : va_G} {ad : Nat → Nat} {ct : Nat → ClassId} {E : XE}  {Q : Int64 → ST → Prop} (C : XFix D (tysF ct) (wM ad ct) rm_X5_parts 8 E cX5_parts RX5 wsX5_parts) (x1 : Int64) (x3 : Int32) (x4 : Int32) (hR : RetL l D (tysF ct) (wM ad ct) rm_X5_parts 8 E cX5_parts Q) :
    ∀ (n : Nat) (x5 : Int64) (x7 : Int32) (σ : ST), wp_X5_parts_L6 x1 x3 x4 Q n x5 x7 σ → V l D (tysF ct) (wM ad ct) rm_X5_parts 8 E 6 [(0, .ref (ad 0)), (1, .long x1), (3, .int x3), (4, .int x4), (5, .long x5), (7, .int x7)] [] σ := by
  intro n
  induction n with
  | zero => intro x5 x7 σ h; exact (h : False).elim
  | succ n ih =>
    intro x5 x7 σ h
    unfold wp_X5_parts_L6 at h
    refine x_iload C 8 rfl 5 dX5_parts_6 rfl ?_
    refine x_bipush C 10 rfl 64 dX5_parts_8 rfl ?_
    refine x_icmp_ge C 56 13 dX5_parts_10 (by decide) rfl (fun c10 => ?_) (fun c10 => ?_)
    · have h := h.1 c10
      refine x_lload C 58 rfl 4 dX5_parts_56 rfl ?_
      exact hR _ _ _ _ dX5_parts_58 h
    · have h := h.2 c10
      refine x_lload_n C 14 rfl 1 dX5_parts_13 rfl rfl ?_
      refine x_iload C 16 rfl 5 dX5_parts_14 rfl ?_
      refine x_lshr C 17 rfl dX5_parts_16 ?_
      refine x_lconst C 18 rfl 1 dX5_parts_17 rfl ?_
      refine x_land C 19 rfl dX5_parts_18 ?_
      refine x_lconst C 20 rfl 1 dX5_parts_19 rfl ?_
      refine x_lcmp C 21 rfl dX5_parts_20 ?_
      refine x_if_ne C 50 24 dX5_parts_21 (by decide) rfl (fun c21 => ?_) (fun c21 => ?_)
      · have h := h.1 c21
        refine x_iinc C 53 rfl 5 (x7 + 1) [(7, .int (x7 + 1)), (0, .ref (ad 0)), (1, .long x1), (3, .int x3), (4, .int x4), (5, .long x5)] dX5_parts_50 rfl rfl (by decide) rfl ?_
        refine x_goto C 6 dX5_parts_53 (by decide) ?_
        refine x_sub (lv' := [(0, .ref (ad 0)), (1, .long x1), (3, .int x3), (4, .int x4), (5, .long x5), (7, .int (x7 + 1))]) [1, 2, 3, 4, 5, 0] rfl ?_
        exact ih _ _ _ h
      · have h := h.2 c21
        refine x_aload_n C 25 rfl 0 dX5_parts_24 rfl rfl ?_
        refine x_iload C 27 rfl 5 dX5_parts_25 rfl ?_
        refine x_iload_n C 28 rfl 2 dX5_parts_27 rfl rfl ?_
        refine x_cVI C 31 rfl (m_X5_told l D ad ct _ _ _ _ h) (cwV 2 C.1.2.2.2.2 gX5_parts_X5_told rfl rfl rfl (by decide +kernel) ⟨Nat.le_of_ble_eq_true rfl, Nat.le_of_ble_eq_true rfl⟩) ⟨0, 5, _, _, _, (gM_M ad ct _), rfl⟩ rfl rfl (Nat.le_of_ble_eq_true rfl) dX5_parts_28 ?_
        intro r2 σ1 h
        refine x_iload C 33 rfl 3 dX5_parts_31 rfl ?_
        refine x_icmp_ne C 50 36 dX5_parts_33 (by decide) rfl (fun c33 => ?_) (fun c33 => ?_)
        · have h := h.1 c33
          refine x_iinc C 53 rfl 5 (x7 + 1) [(7, .int (x7 + 1)), (0, .ref (ad 0)), (1, .long x1), (3, .int x3), (4, .int x4), (5, .long x5)] dX5_parts_50 rfl rfl (by decide) rfl ?_
          refine x_goto C 6 dX5_parts_53 (by decide) ?_
          refine x_sub (lv' := [(0, .ref (ad 0)), (1, .long x1), (3, .int x3), (4, .int x4), (5, .long x5), (7, .int (x7 + 1))]) [1, 2, 3, 4, 5, 0] rfl ?_
          exact ih _ _ _ h
        · have h := h.2 c33
          refine x_lload C 38 rfl 4 dX5_parts_36 rfl ?_
          refine x_lconst C 39 rfl 1 dX5_parts_38 rfl ?_
          refine x_aload_n C 40 rfl 0 dX5_parts_39 rfl rfl ?_
          refine x_iload C 42 rfl 5 dX5_parts_40 rfl ?_
          refine x_iload_n C 43 rfl 2 dX5_parts_42 rfl rfl ?_
          refine x_cVI C 46 rfl (m_X5_heard l D ad ct _ _ _ _ h) (cwV 2 C.1.2.2.2.2 gX5_parts_X5_heard rfl rfl rfl (by decide +kernel) ⟨Nat.le_of_ble_eq_true rfl, Nat.le_of_ble_eq_true rfl⟩) ⟨0, 5, _, _, _, (gM_M ad ct _), rfl⟩ rfl rfl (Nat.le_of_ble_eq_true rfl) dX5_parts_43 ?_
          intro r4 σ3 h
          refine x_lshl C 47 rfl dX5_parts_46 ?_
          refine x_lor C 48 rfl dX5_parts_47 ?_
          refine x_nl (fun w5 ew5 => ?_)
          have h := h w5 ew5
          refine x_lstore C 50 rfl [(5, .long w5), (0, .ref (ad 0)), (1, .long x1), (3, .int x3), (4, .int x4), (7, .int x7)] dX5_parts_48 (by decide) rfl ?_
          refine x_iinc C 53 rfl 5 (x7 + 1) [(7, .int (x7 + 1)), (5, .long w5), (0, .ref (ad 0)), (1, .long x1), (3, .int x3), (4, .int x4)] dX5_parts_50 rfl rfl (by decide) rfl ?_
          refine x_goto C 6 dX5_parts_53 (by decide) ?_
          refine x_sub (lv' := [(0, .ref (ad 0)), (1, .long x1), (3, .int x3), (4, .int x4), (5, .long w5), (7, .int (x7 + 1))]) [2, 3, 4, 5, 1, 0] rfl ?_
          exact ih _ _ _ h
set_option maxRecDepth 100000 in
set_option maxHeartbeats 4000000 in
theorem m_X5_parts (l : Launch) (D : va_G) (ad : Nat → Nat) (ct : Nat → ClassId) (x1 : Int64) (x3 : Int32) (x4 : Int32) (σ : ST) (Q : Int64 → ST → Prop) (h : wp_X5_parts x1 x3 x4 σ Q) : CtL l D (tysF ct) (wM ad ct) yX5_parts wsX5_parts rm_X5_parts [.ref (ad 0), .long x1, .int x3, .int x4] σ Q := by
  refine CtL.of (wM_adr ad ct) (maxL := 8) [(0, .ref (ad 0)), (1, .long x1), (3, .int x3), (4, .int x4)] RX5 (by decide) rfl rfl (by show (lg_sl [.ref (ad 0), .long x1, .int x3, .int x4]).length ≤ 8; exact Nat.le_of_ble_eq_true rfl) rfl rfl rfl ?_
  intro E C hR
  unfold wp_X5_parts at h
  refine x_lconst C 1 rfl 0 dX5_parts_0 rfl ?_
  refine x_lstore C 3 rfl [(5, .long 0), (0, .ref (ad 0)), (1, .long x1), (3, .int x3), (4, .int x4)] dX5_parts_1 (by decide) rfl ?_
  refine x_iconst C 4 rfl 0 dX5_parts_3 rfl ?_
  refine x_istore C 6 rfl [(7, .int 0), (5, .long 0), (0, .ref (ad 0)), (1, .long x1), (3, .int x3), (4, .int x4)] dX5_parts_4 (by decide) rfl ?_
  refine x_sub (lv' := [(0, .ref (ad 0)), (1, .long x1), (3, .int x3), (4, .int x4), (5, .long 0), (7, .int 0)]) [2, 3, 4, 5, 1, 0] rfl ?_
  obtain ⟨n6, h⟩ := h
  refine v_X5_parts_L6 C x1 x3 x4 hR n6 _ _ _ h
abbrev rm_X5_answersOf : Room := { frames := 3, cells := 0, slots := 0, locals := 71 }
set_option maxRecDepth 100000 in
set_option maxHeartbeats 4000000 in
theorem v_X5_answersOf_L6 {l : Launch} {D : va_G} {ad : Nat → Nat} {ct : Nat → ClassId} {E : XE}  {Q : Int32 → ST → Prop} (C : XFix D (tysF ct) (wM ad ct) rm_X5_answersOf 6 E cX5_answersOf RX5 wsX5_answersOf) (x1 : Int64) (x3 : Int32) {K : Int32 → ST → Prop} (hK : ∀ (x4 : Int32) (σ : ST), K x4 σ → V l D (tysF ct) (wM ad ct) rm_X5_answersOf 6 E 51 [(4, .int x4)] [] σ) (hR : RetI l D (tysF ct) (wM ad ct) rm_X5_answersOf 6 E cX5_answersOf Q) :
    ∀ (n : Nat) (x4 : Int32) (x5 : Int32) (σ : ST), wp_X5_answersOf_L6 x1 x3 K Q n x4 x5 σ → V l D (tysF ct) (wM ad ct) rm_X5_answersOf 6 E 6 [(0, .ref (ad 0)), (1, .long x1), (3, .int x3), (4, .int x4), (5, .int x5)] [] σ := by
  intro n
  induction n with
  | zero => intro x4 x5 σ h; exact (h : False).elim
  | succ n ih =>
    intro x4 x5 σ h
    unfold wp_X5_answersOf_L6 at h
    refine x_iload C 8 rfl 4 dX5_answersOf_6 rfl ?_
    refine x_bipush C 10 rfl 64 dX5_answersOf_8 rfl ?_
    refine x_icmp_ge C 51 13 dX5_answersOf_10 (by decide) rfl (fun c10 => ?_) (fun c10 => ?_)
    · have h := h.1 c10
      refine x_sub (lv' := [(4, .int x4)]) [3] rfl ?_
      exact hK _ _ h
    · have h := h.2 c10
      refine x_iload C 15 rfl 3 dX5_answersOf_13 rfl ?_
      refine x_bipush C 17 rfl 15 dX5_answersOf_15 rfl ?_
      refine x_icmp_eq C 51 20 dX5_answersOf_17 (by decide) rfl (fun c17 => ?_) (fun c17 => ?_)
      · have h := h.1 c17
        refine x_sub (lv' := [(4, .int x4)]) [3] rfl ?_
        exact hK _ _ h
      · have h := h.2 c17
        refine x_lload_n C 21 rfl 1 dX5_answersOf_20 rfl rfl ?_
        refine x_iload C 23 rfl 4 dX5_answersOf_21 rfl ?_
        refine x_lshr C 24 rfl dX5_answersOf_23 ?_
        refine x_lconst C 25 rfl 1 dX5_answersOf_24 rfl ?_
        refine x_land C 26 rfl dX5_answersOf_25 ?_
        refine x_lconst C 27 rfl 1 dX5_answersOf_26 rfl ?_
        refine x_lcmp C 28 rfl dX5_answersOf_27 ?_
        refine x_if_ne C 45 31 dX5_answersOf_28 (by decide) rfl (fun c28 => ?_) (fun c28 => ?_)
        · have h := h.1 c28
          refine x_iinc C 48 rfl 4 (x5 + 1) [(5, .int (x5 + 1)), (0, .ref (ad 0)), (1, .long x1), (3, .int x3), (4, .int x4)] dX5_answersOf_45 rfl rfl (by decide) rfl ?_
          refine x_goto C 6 dX5_answersOf_48 (by decide) ?_
          refine x_sub (lv' := [(0, .ref (ad 0)), (1, .long x1), (3, .int x3), (4, .int x4), (5, .int (x5 + 1))]) [1, 2, 3, 4, 0] rfl ?_
          exact ih _ _ _ h
        · have h := h.2 c28
          refine x_iload C 33 rfl 3 dX5_answersOf_31 rfl ?_
          refine x_iconst C 34 rfl 1 dX5_answersOf_33 rfl ?_
          refine x_aload_n C 35 rfl 0 dX5_answersOf_34 rfl rfl ?_
          refine x_iload C 37 rfl 4 dX5_answersOf_35 rfl ?_
          refine x_iload_n C 38 rfl 2 dX5_answersOf_37 rfl rfl ?_
          refine x_cVI C 41 rfl (m_X5_told l D ad ct _ _ _ _ h) (cwV 2 C.1.2.2.2.2 gX5_answersOf_X5_told rfl rfl rfl (by decide +kernel) ⟨Nat.le_of_ble_eq_true rfl, Nat.le_of_ble_eq_true rfl⟩) ⟨0, 5, _, _, _, (gM_M ad ct _), rfl⟩ rfl rfl (Nat.le_of_ble_eq_true rfl) dX5_answersOf_38 ?_
          intro r2 σ1 h
          refine x_ishl C 42 rfl dX5_answersOf_41 ?_
          refine x_ior C 43 rfl dX5_answersOf_42 ?_
          refine x_ni (fun w3 ew3 => ?_)
          have h := h w3 ew3
          refine x_istore C 45 rfl [(4, .int w3), (0, .ref (ad 0)), (1, .long x1), (3, .int x3), (5, .int x5)] dX5_answersOf_43 (by decide) rfl ?_
          refine x_iinc C 48 rfl 4 (x5 + 1) [(5, .int (x5 + 1)), (4, .int w3), (0, .ref (ad 0)), (1, .long x1), (3, .int x3)] dX5_answersOf_45 rfl rfl (by decide) rfl ?_
          refine x_goto C 6 dX5_answersOf_48 (by decide) ?_
          refine x_sub (lv' := [(0, .ref (ad 0)), (1, .long x1), (3, .int x3), (4, .int w3), (5, .int (x5 + 1))]) [2, 3, 4, 1, 0] rfl ?_
          exact ih _ _ _ h
set_option maxRecDepth 100000 in
set_option maxHeartbeats 4000000 in
theorem m_X5_answersOf (l : Launch) (D : va_G) (ad : Nat → Nat) (ct : Nat → ClassId) (x1 : Int64) (x3 : Int32) (σ : ST) (Q : Int32 → ST → Prop) (h : wp_X5_answersOf x1 x3 σ Q) : CtI l D (tysF ct) (wM ad ct) yX5_answersOf wsX5_answersOf rm_X5_answersOf [.ref (ad 0), .long x1, .int x3] σ Q := by
  refine CtI.of (wM_adr ad ct) (maxL := 6) [(0, .ref (ad 0)), (1, .long x1), (3, .int x3)] RX5 (by decide) rfl rfl (by show (lg_sl [.ref (ad 0), .long x1, .int x3]).length ≤ 6; exact Nat.le_of_ble_eq_true rfl) rfl rfl rfl ?_
  intro E C hR
  unfold wp_X5_answersOf at h
  refine x_iconst C 1 rfl 0 dX5_answersOf_0 rfl ?_
  refine x_istore C 3 rfl [(4, .int 0), (0, .ref (ad 0)), (1, .long x1), (3, .int x3)] dX5_answersOf_1 (by decide) rfl ?_
  refine x_iconst C 4 rfl 0 dX5_answersOf_3 rfl ?_
  refine x_istore C 6 rfl [(5, .int 0), (4, .int 0), (0, .ref (ad 0)), (1, .long x1), (3, .int x3)] dX5_answersOf_4 (by decide) rfl ?_
  refine x_sub (lv' := [(0, .ref (ad 0)), (1, .long x1), (3, .int x3), (4, .int 0), (5, .int 0)]) [2, 3, 4, 1, 0] rfl ?_
  obtain ⟨n4, h⟩ := h
  refine v_X5_answersOf_L6 C x1 x3 ?_ hR n4 _ _ _ h
  · intro y4_5 σ6 h
    refine x_iload C 53 rfl 0 dX5_answersOf_51 rfl ?_
    refine x_iconst C 54 rfl 1 dX5_answersOf_53 rfl ?_
    refine x_iand C 55 rfl dX5_answersOf_54 ?_
    refine x_iload C 57 rfl 0 dX5_answersOf_55 rfl ?_
    refine x_iconst C 58 rfl 1 dX5_answersOf_57 rfl ?_
    refine x_ishr C 59 rfl dX5_answersOf_58 ?_
    refine x_iconst C 60 rfl 1 dX5_answersOf_59 rfl ?_
    refine x_iand C 61 rfl dX5_answersOf_60 ?_
    refine x_iadd C 62 rfl dX5_answersOf_61 ?_
    refine x_iload C 64 rfl 0 dX5_answersOf_62 rfl ?_
    refine x_iconst C 65 rfl 2 dX5_answersOf_64 rfl ?_
    refine x_ishr C 66 rfl dX5_answersOf_65 ?_
    refine x_iconst C 67 rfl 1 dX5_answersOf_66 rfl ?_
    refine x_iand C 68 rfl dX5_answersOf_67 ?_
    refine x_iadd C 69 rfl dX5_answersOf_68 ?_
    refine x_iload C 71 rfl 0 dX5_answersOf_69 rfl ?_
    refine x_iconst C 72 rfl 3 dX5_answersOf_71 rfl ?_
    refine x_ishr C 73 rfl dX5_answersOf_72 ?_
    refine x_iconst C 74 rfl 1 dX5_answersOf_73 rfl ?_
    refine x_iand C 75 rfl dX5_answersOf_74 ?_
    refine x_iadd C 76 rfl dX5_answersOf_75 ?_
    exact hR _ _ _ _ dX5_answersOf_76 h
abbrev rm_X5_by (rmr : Room) : Room := { frames := rmr.frames + 4, cells := 0, slots := 0, locals := rmr.locals + 98 }
set_option maxRecDepth 100000 in
set_option maxHeartbeats 4000000 in
theorem v_X5_by_L6 {l : Launch} {D : va_G} {ad : Nat → Nat} {ct : Nat → ClassId} {E : XE}  {rec : Int64 → Int32 → Int32 → ST → (Int32 → ST → Prop) → Prop} {rmr : Room} (hrec : rmr.cells = 0 ∧ rmr.slots = 0 ∧ ∀ (x1 : Int64) (x3 : Int32) (x4 : Int32) (σ : ST) (Q : Int32 → ST → Prop), rec x1 x3 x4 σ Q → CtI l D (tysF ct) (wM ad ct) yX5_most wsX5_most rmr [.ref (ad 0), .long x1, .int x3, .int x4] σ Q) {Q : Int32 → ST → Prop} (C : XFix D (tysF ct) (wM ad ct) (rm_X5_by rmr) 8 E cX5_by RX5 wsX5_by) (x1 : Int64) (x3 : Int32) (x4 : Int32) (x5 : Int32) (hR : RetI l D (tysF ct) (wM ad ct) (rm_X5_by rmr) 8 E cX5_by Q) :
    ∀ (n : Nat) (x6 : Int32) (x7 : Int32) (σ : ST), wp_X5_by_L6 rec x1 x3 x4 x5 Q n x6 x7 σ → V l D (tysF ct) (wM ad ct) (rm_X5_by rmr) 8 E 6 [(0, .ref (ad 0)), (1, .long x1), (3, .int x3), (4, .int x4), (5, .int x5), (6, .int x6), (7, .int x7)] [] σ := by
  intro n
  induction n with
  | zero => intro x6 x7 σ h; exact (h : False).elim
  | succ n ih =>
    intro x6 x7 σ h
    unfold wp_X5_by_L6 at h
    refine x_iload C 8 rfl 6 dX5_by_6 rfl ?_
    refine x_iconst C 9 rfl 4 dX5_by_8 rfl ?_
    refine x_icmp_ge C 41 12 dX5_by_9 (by decide) rfl (fun c9 => ?_) (fun c9 => ?_)
    · have h := h.1 c9
      refine x_iload C 43 rfl 5 dX5_by_41 rfl ?_
      exact hR _ _ _ _ dX5_by_43 h
    · have h := h.2 c9
      refine x_iload C 14 rfl 5 dX5_by_12 rfl ?_
      refine x_aload_n C 15 rfl 0 dX5_by_14 rfl rfl ?_
      refine x_aload_n C 16 rfl 0 dX5_by_15 rfl rfl ?_
      refine x_lload_n C 17 rfl 1 dX5_by_16 rfl rfl ?_
      refine x_iload C 19 rfl 4 dX5_by_17 rfl ?_
      refine x_iload C 21 rfl 6 dX5_by_19 rfl ?_
      refine x_cVL C 24 rfl (m_X5_parts l D ad ct _ _ _ _ _ h) (cwV 3 C.1.2.2.2.2 gX5_by_X5_parts rfl rfl rfl (by decide +kernel) ⟨by show 3 + 1 ≤ rmr.frames + 4; omega, by show 8 + (8 + 11) + (71) ≤ rmr.locals + 98; omega⟩) ⟨0, 5, _, _, _, (gM_M ad ct _), rfl⟩ rfl rfl (Nat.le_of_ble_eq_true rfl) dX5_by_21 ?_
      intro r2 σ1 h
      refine x_iload_n C 25 rfl 2 dX5_by_24 rfl rfl ?_
      refine x_iconst C 26 rfl 1 dX5_by_25 rfl ?_
      refine x_iadd C 27 rfl dX5_by_26 ?_
      refine x_iload C 29 rfl 3 dX5_by_27 rfl ?_
      refine x_cVI C 32 rfl (hrec.2.2 _ _ _ _ _ h) (cwV 3 C.1.2.2.2.2 gX5_by_X5_most rfl hrec.1 hrec.2.1 (by decide +kernel) ⟨by show rmr.frames + 1 ≤ rmr.frames + 4; omega, by show 8 + (11 + 11) + (rmr.locals) ≤ rmr.locals + 98; omega⟩) ⟨0, 5, _, _, _, (gM_M ad ct _), rfl⟩ rfl rfl (Nat.le_of_ble_eq_true rfl) dX5_by_29 ?_
      intro r4 σ3 h
      refine x_iadd C 33 rfl dX5_by_32 ?_
      refine x_istore C 35 rfl [(6, .int (x6 + r4)), (0, .ref (ad 0)), (1, .long x1), (3, .int x3), (4, .int x4), (5, .int x5), (7, .int x7)] dX5_by_33 (by decide) rfl ?_
      refine x_iinc C 38 rfl 6 (x7 + 1) [(7, .int (x7 + 1)), (6, .int (x6 + r4)), (0, .ref (ad 0)), (1, .long x1), (3, .int x3), (4, .int x4), (5, .int x5)] dX5_by_35 rfl rfl (by decide) rfl ?_
      refine x_goto C 6 dX5_by_38 (by decide) ?_
      refine x_sub (lv' := [(0, .ref (ad 0)), (1, .long x1), (3, .int x3), (4, .int x4), (5, .int x5), (6, .int (x6 + r4)), (7, .int (x7 + 1))]) [2, 3, 4, 5, 6, 1, 0] rfl ?_
      exact ih _ _ _ h
set_option maxRecDepth 100000 in
set_option maxHeartbeats 4000000 in
theorem m_X5_by (l : Launch) (D : va_G) (ad : Nat → Nat) (ct : Nat → ClassId) (rec : Int64 → Int32 → Int32 → ST → (Int32 → ST → Prop) → Prop) (rmr : Room) (hrec : rmr.cells = 0 ∧ rmr.slots = 0 ∧ ∀ (x1 : Int64) (x3 : Int32) (x4 : Int32) (σ : ST) (Q : Int32 → ST → Prop), rec x1 x3 x4 σ Q → CtI l D (tysF ct) (wM ad ct) yX5_most wsX5_most rmr [.ref (ad 0), .long x1, .int x3, .int x4] σ Q) (x1 : Int64) (x3 : Int32) (x4 : Int32) (x5 : Int32) (σ : ST) (Q : Int32 → ST → Prop) (h : wp_X5_by rec x1 x3 x4 x5 σ Q) : CtI l D (tysF ct) (wM ad ct) yX5_by wsX5_by (rm_X5_by rmr) [.ref (ad 0), .long x1, .int x3, .int x4, .int x5] σ Q := by
  refine CtI.of (wM_adr ad ct) (maxL := 8) [(0, .ref (ad 0)), (1, .long x1), (3, .int x3), (4, .int x4), (5, .int x5)] RX5 (by decide) rfl rfl (by show (lg_sl [.ref (ad 0), .long x1, .int x3, .int x4, .int x5]).length ≤ 8; exact Nat.le_of_ble_eq_true rfl) rfl rfl rfl ?_
  intro E C hR
  unfold wp_X5_by at h
  refine x_iconst C 1 rfl 0 dX5_by_0 rfl ?_
  refine x_istore C 3 rfl [(6, .int 0), (0, .ref (ad 0)), (1, .long x1), (3, .int x3), (4, .int x4), (5, .int x5)] dX5_by_1 (by decide) rfl ?_
  refine x_iconst C 4 rfl 0 dX5_by_3 rfl ?_
  refine x_istore C 6 rfl [(7, .int 0), (6, .int 0), (0, .ref (ad 0)), (1, .long x1), (3, .int x3), (4, .int x4), (5, .int x5)] dX5_by_4 (by decide) rfl ?_
  refine x_sub (lv' := [(0, .ref (ad 0)), (1, .long x1), (3, .int x3), (4, .int x4), (5, .int x5), (6, .int 0), (7, .int 0)]) [2, 3, 4, 5, 6, 1, 0] rfl ?_
  obtain ⟨n5, h⟩ := h
  refine v_X5_by_L6 hrec C x1 x3 x4 x5 hR n5 _ _ _ h
abbrev rm_X5_mosto (rmr : Room) : Room := { frames := rmr.frames + 5, cells := 0, slots := 0, locals := rmr.locals + 125 }
theorem lc_X5_most_150 : Cond.constantLong RX5 150 (31) ∈ wsX5_most := by decide +kernel
theorem lc_X5_most_152 : Cond.constantLong RX5 152 (1021) ∈ wsX5_most := by decide +kernel
theorem lc_X5_most_154 : Cond.constantLong RX5 154 (4095) ∈ wsX5_most := by decide +kernel
theorem in_X5_most_X5 : ∀ w ∈ u_ws RX5 TX5 20, w ∈ wsX5_most := by decide +kernel
theorem fl_X5_most_47 : Cond.fieldLink RX5 47 RX5 (TX5 14).2.1 (TX5 14).2.2.1 ∈ wsX5_most := by decide +kernel
theorem fl_X5_most_156 : Cond.fieldLink RX5 156 RX5 (TX5 16).2.1 (TX5 16).2.2.1 ∈ wsX5_most := by decide +kernel
theorem fl_X5_most_41 : Cond.fieldLink RX5 41 RX5 (TX5 12).2.1 (TX5 12).2.2.1 ∈ wsX5_most := by decide +kernel
theorem fl_X5_most_44 : Cond.fieldLink RX5 44 RX5 (TX5 13).2.1 (TX5 13).2.2.1 ∈ wsX5_most := by decide +kernel
theorem fl_X5_most_50 : Cond.fieldLink RX5 50 RX5 (TX5 15).2.1 (TX5 15).2.2.1 ∈ wsX5_most := by decide +kernel
set_option maxRecDepth 100000 in
set_option maxHeartbeats 4000000 in
theorem v_X5_most_L104 {l : Launch} {D : va_G} {ad : Nat → Nat} {ct : Nat → ClassId} {E : XE}  {rec : Int64 → Int32 → Int32 → ST → (Int32 → ST → Prop) → Prop} {rmr : Room} (hrec : rmr.cells = 0 ∧ rmr.slots = 0 ∧ ∀ (x1 : Int64) (x3 : Int32) (x4 : Int32) (σ : ST) (Q : Int32 → ST → Prop), rec x1 x3 x4 σ Q → CtI l D (tysF ct) (wM ad ct) yX5_most wsX5_most rmr [.ref (ad 0), .long x1, .int x3, .int x4] σ Q) {Q : Int32 → ST → Prop} (C : XFix D (tysF ct) (wM ad ct) (rm_X5_mosto rmr) 11 E cX5_most RX5 wsX5_most) (x1 : Int64) (x3 : Int32) (x4 : Int32) (x5 : Int32) (x6 : Int64) {K : Int32 → ST → Prop} (hK : ∀ (x8 : Int32) (σ : ST), K x8 σ → V l D (tysF ct) (wM ad ct) (rm_X5_mosto rmr) 11 E 178 [(0, .ref (ad 0)), (1, .long x1), (3, .int x3), (5, .int x5), (8, .int x8)] [] σ) (hR : RetI l D (tysF ct) (wM ad ct) (rm_X5_mosto rmr) 11 E cX5_most Q) :
    ∀ (n : Nat) (x8 : Int32) (x9 : Int32) (σ : ST), wp_X5_most_L104 rec x1 x3 x4 x5 x6 K Q n x8 x9 σ → V l D (tysF ct) (wM ad ct) (rm_X5_mosto rmr) 11 E 104 [(0, .ref (ad 0)), (1, .long x1), (3, .int x3), (4, .int x4), (5, .int x5), (6, .long x6), (8, .int x8), (9, .int x9)] [] σ := by
  intro n
  induction n with
  | zero => intro x8 x9 σ h; exact (h : False).elim
  | succ n ih =>
    intro x8 x9 σ h
    unfold wp_X5_most_L104 at h
    refine x_iload C 106 rfl 7 dX5_most_104 rfl ?_
    refine x_bipush C 108 rfl 9 dX5_most_106 rfl ?_
    refine x_icmp_gt C 178 111 dX5_most_108 (by decide) rfl (fun c108 => ?_) (fun c108 => ?_)
    · have h := h.1 c108
      refine x_sub (lv' := [(0, .ref (ad 0)), (1, .long x1), (3, .int x3), (5, .int x5), (8, .int x8)]) [0, 1, 2, 4, 6] rfl ?_
      exact hK _ _ h
    · have h := h.2 c108
      refine x_aload_n C 112 rfl 0 dX5_most_111 rfl rfl ?_
      refine x_iload C 114 rfl 7 dX5_most_112 rfl ?_
      refine x_cVI C 117 rfl (m_X5_isAct l D ad ct _ _ _ h) (cwV 1 C.1.2.2.2.2 gX5_most_X5_isAct rfl rfl rfl (by decide +kernel) ⟨by show 1 + 1 ≤ rmr.frames + 5; omega, by show 8 + (2 + 11) + (22) ≤ rmr.locals + 125; omega⟩) ⟨0, 5, _, _, _, (gM_M ad ct _), rfl⟩ rfl rfl (Nat.le_of_ble_eq_true rfl) dX5_most_114 ?_
      intro r6 σ5 h
      refine x_if_ne C 124 120 dX5_most_117 (by decide) rfl (fun c117 => ?_) (fun c117 => ?_)
      · have h := h.1 c117
        refine x_iload_n C 125 rfl 2 dX5_most_124 rfl rfl ?_
        refine x_iload C 127 rfl 3 dX5_most_125 rfl ?_
        refine x_iconst C 128 rfl 1 dX5_most_127 rfl ?_
        refine x_isub C 129 rfl dX5_most_128 ?_
        refine x_icmp_ne C 143 132 dX5_most_129 (by decide) rfl (fun c129 => ?_) (fun c129 => ?_)
        · have h := h.1 c129
          refine x_aload_n C 144 rfl 0 dX5_most_143 rfl rfl ?_
          refine x_lload C 146 rfl 5 dX5_most_144 rfl ?_
          refine x_iload_n C 147 rfl 2 dX5_most_146 rfl rfl ?_
          refine x_iload C 149 rfl 3 dX5_most_147 rfl ?_
          refine x_iload C 151 rfl 7 dX5_most_149 rfl ?_
          refine x_cVI C 154 rfl (m_X5_by l D ad ct rec rmr hrec _ _ _ _ _ _ h) (cwV 4 C.1.2.2.2.2 gX5_most_X5_by rfl rfl rfl (by decide +kernel) ⟨by show rmr.frames + 4 + 1 ≤ rmr.frames + 5; omega, by show 8 + (8 + 11) + (rmr.locals + 98) ≤ rmr.locals + 125; omega⟩) ⟨0, 5, _, _, _, (gM_M ad ct _), rfl⟩ rfl rfl (Nat.le_of_ble_eq_true rfl) dX5_most_151 ?_
          intro r8 σ7 h
          refine x_istore C 156 rfl [(10, .int r8), (0, .ref (ad 0)), (1, .long x1), (3, .int x3), (4, .int x4), (5, .int x5), (6, .long x6), (8, .int x8), (9, .int x9)] dX5_most_154 (by decide) rfl ?_
          refine x_iload C 158 rfl 0 dX5_most_156 rfl ?_
          refine x_iload C 160 rfl 7 dX5_most_158 rfl ?_
          refine x_icmp_le C 168 163 dX5_most_160 (by decide) rfl (fun c160 => ?_) (fun c160 => ?_)
          · have h := h.1 c160
            refine x_iload C 170 rfl 7 dX5_most_168 rfl ?_
            refine x_istore C 172 rfl [(8, .int x8), (10, .int r8), (0, .ref (ad 0)), (1, .long x1), (3, .int x3), (4, .int x4), (5, .int x5), (6, .long x6), (9, .int x9)] dX5_most_170 (by decide) rfl ?_
            refine x_iinc C 175 rfl 8 (x9 + 1) [(9, .int (x9 + 1)), (8, .int x8), (10, .int r8), (0, .ref (ad 0)), (1, .long x1), (3, .int x3), (4, .int x4), (5, .int x5), (6, .long x6)] dX5_most_172 rfl rfl (by decide) rfl ?_
            refine x_goto C 104 dX5_most_175 (by decide) ?_
            refine x_sub (lv' := [(0, .ref (ad 0)), (1, .long x1), (3, .int x3), (4, .int x4), (5, .int x5), (6, .long x6), (8, .int x8), (9, .int (x9 + 1))]) [3, 4, 5, 6, 7, 8, 1, 0] rfl ?_
            exact ih _ _ _ h
          · have h := h.2 c160
            refine x_iload C 165 rfl 0 dX5_most_163 rfl ?_
            refine x_goto C 170 dX5_most_165 (by decide) ?_
            refine x_istore C 172 rfl [(8, .int r8), (10, .int r8), (0, .ref (ad 0)), (1, .long x1), (3, .int x3), (4, .int x4), (5, .int x5), (6, .long x6), (9, .int x9)] dX5_most_170 (by decide) rfl ?_
            refine x_iinc C 175 rfl 8 (x9 + 1) [(9, .int (x9 + 1)), (8, .int r8), (10, .int r8), (0, .ref (ad 0)), (1, .long x1), (3, .int x3), (4, .int x4), (5, .int x5), (6, .long x6)] dX5_most_172 rfl rfl (by decide) rfl ?_
            refine x_goto C 104 dX5_most_175 (by decide) ?_
            refine x_sub (lv' := [(0, .ref (ad 0)), (1, .long x1), (3, .int x3), (4, .int x4), (5, .int x5), (6, .long x6), (8, .int r8), (9, .int (x9 + 1))]) [3, 4, 5, 6, 7, 8, 1, 0] rfl ?_
            exact ih _ _ _ h
        · have h := h.2 c129
          refine x_aload_n C 133 rfl 0 dX5_most_132 rfl rfl ?_
          refine x_lload C 135 rfl 5 dX5_most_133 rfl ?_
          refine x_iload C 137 rfl 7 dX5_most_135 rfl ?_
          refine x_cVI C 140 rfl (m_X5_answersOf l D ad ct _ _ _ _ h) (cwV 2 C.1.2.2.2.2 gX5_most_X5_answersOf rfl rfl rfl (by decide +kernel) ⟨by show 3 + 1 ≤ rmr.frames + 5; omega, by show 8 + (6 + 11) + (71) ≤ rmr.locals + 125; omega⟩) ⟨0, 5, _, _, _, (gM_M ad ct _), rfl⟩ rfl rfl (Nat.le_of_ble_eq_true rfl) dX5_most_137 ?_
          intro r10 σ9 h
          refine x_goto C 154 dX5_most_140 (by decide) ?_
          refine x_istore C 156 rfl [(10, .int r10), (0, .ref (ad 0)), (1, .long x1), (3, .int x3), (4, .int x4), (5, .int x5), (6, .long x6), (8, .int x8), (9, .int x9)] dX5_most_154 (by decide) rfl ?_
          refine x_iload C 158 rfl 0 dX5_most_156 rfl ?_
          refine x_iload C 160 rfl 7 dX5_most_158 rfl ?_
          refine x_icmp_le C 168 163 dX5_most_160 (by decide) rfl (fun c160 => ?_) (fun c160 => ?_)
          · have h := h.1 c160
            refine x_iload C 170 rfl 7 dX5_most_168 rfl ?_
            refine x_istore C 172 rfl [(8, .int x8), (10, .int r10), (0, .ref (ad 0)), (1, .long x1), (3, .int x3), (4, .int x4), (5, .int x5), (6, .long x6), (9, .int x9)] dX5_most_170 (by decide) rfl ?_
            refine x_iinc C 175 rfl 8 (x9 + 1) [(9, .int (x9 + 1)), (8, .int x8), (10, .int r10), (0, .ref (ad 0)), (1, .long x1), (3, .int x3), (4, .int x4), (5, .int x5), (6, .long x6)] dX5_most_172 rfl rfl (by decide) rfl ?_
            refine x_goto C 104 dX5_most_175 (by decide) ?_
            refine x_sub (lv' := [(0, .ref (ad 0)), (1, .long x1), (3, .int x3), (4, .int x4), (5, .int x5), (6, .long x6), (8, .int x8), (9, .int (x9 + 1))]) [3, 4, 5, 6, 7, 8, 1, 0] rfl ?_
            exact ih _ _ _ h
          · have h := h.2 c160
            refine x_iload C 165 rfl 0 dX5_most_163 rfl ?_
            refine x_goto C 170 dX5_most_165 (by decide) ?_
            refine x_istore C 172 rfl [(8, .int r10), (10, .int r10), (0, .ref (ad 0)), (1, .long x1), (3, .int x3), (4, .int x4), (5, .int x5), (6, .long x6), (9, .int x9)] dX5_most_170 (by decide) rfl ?_
            refine x_iinc C 175 rfl 8 (x9 + 1) [(9, .int (x9 + 1)), (8, .int r10), (10, .int r10), (0, .ref (ad 0)), (1, .long x1), (3, .int x3), (4, .int x4), (5, .int x5), (6, .long x6)] dX5_most_172 rfl rfl (by decide) rfl ?_
            refine x_goto C 104 dX5_most_175 (by decide) ?_
            refine x_sub (lv' := [(0, .ref (ad 0)), (1, .long x1), (3, .int x3), (4, .int x4), (5, .int x5), (6, .long x6), (8, .int r10), (9, .int (x9 + 1))]) [3, 4, 5, 6, 7, 8, 1, 0] rfl ?_
            exact ih _ _ _ h
      · have h := h.2 c117
        refine x_iconst C 121 rfl 0 dX5_most_120 rfl ?_
        refine x_goto C 154 dX5_most_121 (by decide) ?_
        refine x_istore C 156 rfl [(10, .int 0), (0, .ref (ad 0)), (1, .long x1), (3, .int x3), (4, .int x4), (5, .int x5), (6, .long x6), (8, .int x8), (9, .int x9)] dX5_most_154 (by decide) rfl ?_
        refine x_iload C 158 rfl 0 dX5_most_156 rfl ?_
        refine x_iload C 160 rfl 7 dX5_most_158 rfl ?_
        refine x_icmp_le C 168 163 dX5_most_160 (by decide) rfl (fun c160 => ?_) (fun c160 => ?_)
        · have h := h.1 c160
          refine x_iload C 170 rfl 7 dX5_most_168 rfl ?_
          refine x_istore C 172 rfl [(8, .int x8), (10, .int 0), (0, .ref (ad 0)), (1, .long x1), (3, .int x3), (4, .int x4), (5, .int x5), (6, .long x6), (9, .int x9)] dX5_most_170 (by decide) rfl ?_
          refine x_iinc C 175 rfl 8 (x9 + 1) [(9, .int (x9 + 1)), (8, .int x8), (10, .int 0), (0, .ref (ad 0)), (1, .long x1), (3, .int x3), (4, .int x4), (5, .int x5), (6, .long x6)] dX5_most_172 rfl rfl (by decide) rfl ?_
          refine x_goto C 104 dX5_most_175 (by decide) ?_
          refine x_sub (lv' := [(0, .ref (ad 0)), (1, .long x1), (3, .int x3), (4, .int x4), (5, .int x5), (6, .long x6), (8, .int x8), (9, .int (x9 + 1))]) [3, 4, 5, 6, 7, 8, 1, 0] rfl ?_
          exact ih _ _ _ h
        · have h := h.2 c160
          refine x_iload C 165 rfl 0 dX5_most_163 rfl ?_
          refine x_goto C 170 dX5_most_165 (by decide) ?_
          refine x_istore C 172 rfl [(8, .int 0), (10, .int 0), (0, .ref (ad 0)), (1, .long x1), (3, .int x3), (4, .int x4), (5, .int x5), (6, .long x6), (9, .int x9)] dX5_most_170 (by decide) rfl ?_
          refine x_iinc C 175 rfl 8 (x9 + 1) [(9, .int (x9 + 1)), (8, .int 0), (10, .int 0), (0, .ref (ad 0)), (1, .long x1), (3, .int x3), (4, .int x4), (5, .int x5), (6, .long x6)] dX5_most_172 rfl rfl (by decide) rfl ?_
          refine x_goto C 104 dX5_most_175 (by decide) ?_
          refine x_sub (lv' := [(0, .ref (ad 0)), (1, .long x1), (3, .int x3), (4, .int x4), (5, .int x5), (6, .long x6), (8, .int 0), (9, .int (x9 + 1))]) [3, 4, 5, 6, 7, 8, 1, 0] rfl ?_
          exact ih _ _ _ h
set_option maxRecDepth 100000 in
set_option maxHeartbeats 4000000 in
theorem m_X5_mosto (l : Launch) (D : va_G) (ad : Nat → Nat) (ct : Nat → ClassId) (rec : Int64 → Int32 → Int32 → ST → (Int32 → ST → Prop) → Prop) (rmr : Room) (hrec : rmr.cells = 0 ∧ rmr.slots = 0 ∧ ∀ (x1 : Int64) (x3 : Int32) (x4 : Int32) (σ : ST) (Q : Int32 → ST → Prop), rec x1 x3 x4 σ Q → CtI l D (tysF ct) (wM ad ct) yX5_most wsX5_most rmr [.ref (ad 0), .long x1, .int x3, .int x4] σ Q) (x1 : Int64) (x3 : Int32) (x4 : Int32) (σ : ST) (Q : Int32 → ST → Prop) (h : wp_X5_mosto rec x1 x3 x4 σ Q) : CtI l D (tysF ct) (wM ad ct) yX5_most wsX5_most (rm_X5_mosto rmr) [.ref (ad 0), .long x1, .int x3, .int x4] σ Q := by
  refine CtI.of (wM_adr ad ct) (maxL := 11) [(0, .ref (ad 0)), (1, .long x1), (3, .int x3), (4, .int x4)] RX5 (by decide) rfl rfl (by show (lg_sl [.ref (ad 0), .long x1, .int x3, .int x4]).length ≤ 11; exact Nat.le_of_ble_eq_true rfl) rfl rfl rfl ?_
  intro E C hR
  unfold wp_X5_mosto at h
  refine x_lload_n C 1 rfl 1 dX5_most_0 rfl rfl ?_
  refine x_lconst C 2 rfl 0 dX5_most_1 rfl ?_
  refine x_lcmp C 3 rfl dX5_most_2 ?_
  refine x_if_ne C 8 6 dX5_most_3 (by decide) rfl (fun c3 => ?_) (fun c3 => ?_)
  · have h := h.1 c3
    refine x_iload_n C 9 rfl 2 dX5_most_8 rfl rfl ?_
    refine x_iload C 11 rfl 3 dX5_most_9 rfl ?_
    refine x_icmp_ne C 16 14 dX5_most_11 (by decide) rfl (fun c11 => ?_) (fun c11 => ?_)
    · have h := h.1 c11
      refine x_lload_n C 17 rfl 1 dX5_most_16 rfl rfl ?_
      refine x_lload_n C 18 rfl 1 dX5_most_17 rfl rfl ?_
      refine x_bipush C 20 rfl 23 dX5_most_18 rfl ?_
      refine x_lushr C 21 rfl dX5_most_20 ?_
      refine x_lxor C 22 rfl dX5_most_21 ?_
      refine x_lload_n C 23 rfl 1 dX5_most_22 rfl rfl ?_
      refine x_bipush C 25 rfl 41 dX5_most_23 rfl ?_
      refine x_lushr C 26 rfl dX5_most_25 ?_
      refine x_lxor C 27 rfl dX5_most_26 ?_
      refine x_ldc2 C 30 rfl 31 lc_X5_most_150 dX5_most_27 ?_
      refine x_lmul C 31 rfl dX5_most_30 ?_
      refine x_ldc2 C 34 rfl 1021 lc_X5_most_152 dX5_most_31 ?_
      refine x_iload_n C 35 rfl 2 dX5_most_34 rfl rfl ?_
      refine x_i2l C 36 rfl dX5_most_35 ?_
      refine x_lmul C 37 rfl dX5_most_36 ?_
      refine x_ladd C 38 rfl dX5_most_37 ?_
      refine x_ldc2 C 41 rfl 4095 lc_X5_most_154 dX5_most_38 ?_
      refine x_land C 42 rfl dX5_most_41 ?_
      refine x_l2i C 43 rfl dX5_most_42 ?_
      refine x_ni (fun w1 ew1 => ?_)
      have h := h w1 ew1
      refine x_istore C 45 rfl [(5, .int w1), (0, .ref (ad 0)), (1, .long x1), (3, .int x3), (4, .int x4)] dX5_most_43 (by decide) rfl ?_
      refine x_aload_n C 46 rfl 1 dX5_most_45 rfl rfl ?_
      refine x_get C 49 rfl (ref := RX5) 0 14 (gM_M ad ct _) rfl in_X5_most_X5 (by decide) fl_X5_most_47 rfl rfl dX5_most_46 ?_
      refine x_iload C 51 rfl 0 dX5_most_49 rfl ?_
      have i2 := h.1
      have h := h.2
      refine x_iald C 52 rfl 13 0 (gM_M_knownIn ad ct _) rfl i2 dX5_most_51 ?_
      refine x_aload_n C 53 rfl 1 dX5_most_52 rfl rfl ?_
      refine x_get C 56 rfl (ref := RX5) 0 16 (gM_M ad ct _) rfl in_X5_most_X5 (by decide) fl_X5_most_156 rfl rfl dX5_most_53 ?_
      refine x_icmp_ne C 90 59 dX5_most_56 (by decide) rfl (fun c56 => ?_) (fun c56 => ?_)
      · have h := h.1 c56
        refine x_aload_n C 91 rfl 1 dX5_most_90 rfl rfl ?_
        refine x_lload_n C 92 rfl 2 dX5_most_91 rfl rfl ?_
        refine x_iload_n C 93 rfl 3 dX5_most_92 rfl rfl ?_
        refine x_cVL C 96 rfl (m_X5_spreads l D ad ct _ _ _ _ h) (cwV 2 C.1.2.2.2.2 gX5_most_X5_spreads rfl rfl rfl (by decide +kernel) ⟨by show 3 + 1 ≤ rmr.frames + 5; omega, by show 8 + (8 + 11) + (73) ≤ rmr.locals + 125; omega⟩) ⟨0, 5, _, _, _, (gM_M ad ct _), rfl⟩ rfl rfl (Nat.le_of_ble_eq_true rfl) dX5_most_93 ?_
        intro r4 σ3 h
        refine x_lstore C 98 rfl [(6, .long r4), (5, .int w1), (0, .ref (ad 0)), (1, .long x1), (3, .int x3), (4, .int x4)] dX5_most_96 (by decide) rfl ?_
        refine x_iconst C 99 rfl 0 dX5_most_98 rfl ?_
        refine x_istore C 101 rfl [(8, .int 0), (6, .long r4), (5, .int w1), (0, .ref (ad 0)), (1, .long x1), (3, .int x3), (4, .int x4)] dX5_most_99 (by decide) rfl ?_
        refine x_iconst C 102 rfl 0 dX5_most_101 rfl ?_
        refine x_istore C 104 rfl [(9, .int 0), (8, .int 0), (6, .long r4), (5, .int w1), (0, .ref (ad 0)), (1, .long x1), (3, .int x3), (4, .int x4)] dX5_most_102 (by decide) rfl ?_
        refine x_sub (lv' := [(0, .ref (ad 0)), (1, .long x1), (3, .int x3), (4, .int x4), (5, .int w1), (6, .long r4), (8, .int 0), (9, .int 0)]) [4, 5, 6, 7, 3, 2, 1, 0] rfl ?_
        obtain ⟨n11, h⟩ := h
        refine v_X5_most_L104 hrec C x1 x3 x4 w1 r4 ?_ hR n11 _ _ _ h
        · intro y8_12 σ13 h
          refine x_aload_n C 179 rfl 0 dX5_most_178 rfl rfl ?_
          refine x_get C 182 rfl (ref := RX5) 0 14 (gM_M ad ct _) rfl in_X5_most_X5 (by decide) fl_X5_most_47 rfl rfl dX5_most_179 ?_
          refine x_iload C 184 rfl 3 dX5_most_182 rfl ?_
          refine x_aload_n C 185 rfl 0 dX5_most_184 rfl rfl ?_
          refine x_get C 188 rfl (ref := RX5) 0 16 (gM_M ad ct _) rfl in_X5_most_X5 (by decide) fl_X5_most_156 rfl rfl dX5_most_185 ?_
          obtain ⟨σ14, eσ14⟩ : ∃ z, z = sR σ13 13 (Int32.toNatClampNeg w1) (σ13.1 0 16) := ⟨_, rfl⟩
          have h := h σ14 eσ14
          refine x_iast C 189 rfl (σ' := σ14) 13 0 (gM_M_knownIn ad ct _) rfl i2 (by rw [eσ14]; exact (sM_M_knownIn ad ct _)) dX5_most_188 ?_
          refine x_aload_n C 190 rfl 0 dX5_most_189 rfl rfl ?_
          refine x_get C 193 rfl (ref := RX5) 0 12 (gM_M ad ct _) rfl in_X5_most_X5 (by decide) fl_X5_most_41 rfl rfl dX5_most_190 ?_
          refine x_iload C 195 rfl 3 dX5_most_193 rfl ?_
          refine x_lload_n C 196 rfl 1 dX5_most_195 rfl rfl ?_
          obtain ⟨σ15, eσ15⟩ : ∃ z, z = sJ σ14 11 (Int32.toNatClampNeg w1) x1 := ⟨_, rfl⟩
          have h := h σ15 eσ15
          refine x_last C 197 rfl (σ' := σ15) 11 1 (gM_M_knownSet ad ct _) rfl i2 (by rw [eσ15]; exact (sM_M_knownSet ad ct _)) dX5_most_196 ?_
          refine x_aload_n C 198 rfl 0 dX5_most_197 rfl rfl ?_
          refine x_get C 201 rfl (ref := RX5) 0 13 (gM_M ad ct _) rfl in_X5_most_X5 (by decide) fl_X5_most_44 rfl rfl dX5_most_198 ?_
          refine x_iload C 203 rfl 3 dX5_most_201 rfl ?_
          refine x_iload_n C 204 rfl 2 dX5_most_203 rfl rfl ?_
          obtain ⟨σ16, eσ16⟩ : ∃ z, z = sR σ15 12 (Int32.toNatClampNeg w1) x3 := ⟨_, rfl⟩
          have h := h σ16 eσ16
          refine x_iast C 205 rfl (σ' := σ16) 12 0 (gM_M_knownTick ad ct _) rfl i2 (by rw [eσ16]; exact (sM_M_knownTick ad ct _)) dX5_most_204 ?_
          refine x_aload_n C 206 rfl 0 dX5_most_205 rfl rfl ?_
          refine x_get C 209 rfl (ref := RX5) 0 15 (gM_M ad ct _) rfl in_X5_most_X5 (by decide) fl_X5_most_50 rfl rfl dX5_most_206 ?_
          refine x_iload C 211 rfl 3 dX5_most_209 rfl ?_
          refine x_iload C 213 rfl 4 dX5_most_211 rfl ?_
          obtain ⟨σ17, eσ17⟩ : ∃ z, z = sR σ16 14 (Int32.toNatClampNeg w1) y8_12 := ⟨_, rfl⟩
          have h := h σ17 eσ17
          refine x_iast C 214 rfl (σ' := σ17) 14 0 (gM_M_knownMost ad ct _) rfl i2 (by rw [eσ17]; exact (sM_M_knownMost ad ct _)) dX5_most_213 ?_
          refine x_iload C 216 rfl 4 dX5_most_214 rfl ?_
          exact hR _ _ _ _ dX5_most_216 h
      · have h := h.2 c56
        refine x_aload_n C 60 rfl 1 dX5_most_59 rfl rfl ?_
        refine x_get C 63 rfl (ref := RX5) 0 12 (gM_M ad ct _) rfl in_X5_most_X5 (by decide) fl_X5_most_41 rfl rfl dX5_most_60 ?_
        refine x_iload C 65 rfl 0 dX5_most_63 rfl ?_
        refine x_lald C 66 rfl 11 1 (gM_M_knownSet ad ct _) rfl i2 dX5_most_65 ?_
        refine x_lload_n C 67 rfl 2 dX5_most_66 rfl rfl ?_
        refine x_lcmp C 68 rfl dX5_most_67 ?_
        refine x_if_ne C 90 71 dX5_most_68 (by decide) rfl (fun c68 => ?_) (fun c68 => ?_)
        · have h := h.1 c68
          refine x_aload_n C 91 rfl 1 dX5_most_90 rfl rfl ?_
          refine x_lload_n C 92 rfl 2 dX5_most_91 rfl rfl ?_
          refine x_iload_n C 93 rfl 3 dX5_most_92 rfl rfl ?_
          refine x_cVL C 96 rfl (m_X5_spreads l D ad ct _ _ _ _ h) (cwV 2 C.1.2.2.2.2 gX5_most_X5_spreads rfl rfl rfl (by decide +kernel) ⟨by show 3 + 1 ≤ rmr.frames + 5; omega, by show 8 + (8 + 11) + (73) ≤ rmr.locals + 125; omega⟩) ⟨0, 5, _, _, _, (gM_M ad ct _), rfl⟩ rfl rfl (Nat.le_of_ble_eq_true rfl) dX5_most_93 ?_
          intro r19 σ18 h
          refine x_lstore C 98 rfl [(6, .long r19), (5, .int w1), (0, .ref (ad 0)), (1, .long x1), (3, .int x3), (4, .int x4)] dX5_most_96 (by decide) rfl ?_
          refine x_iconst C 99 rfl 0 dX5_most_98 rfl ?_
          refine x_istore C 101 rfl [(8, .int 0), (6, .long r19), (5, .int w1), (0, .ref (ad 0)), (1, .long x1), (3, .int x3), (4, .int x4)] dX5_most_99 (by decide) rfl ?_
          refine x_iconst C 102 rfl 0 dX5_most_101 rfl ?_
          refine x_istore C 104 rfl [(9, .int 0), (8, .int 0), (6, .long r19), (5, .int w1), (0, .ref (ad 0)), (1, .long x1), (3, .int x3), (4, .int x4)] dX5_most_102 (by decide) rfl ?_
          refine x_sub (lv' := [(0, .ref (ad 0)), (1, .long x1), (3, .int x3), (4, .int x4), (5, .int w1), (6, .long r19), (8, .int 0), (9, .int 0)]) [4, 5, 6, 7, 3, 2, 1, 0] rfl ?_
          obtain ⟨n20, h⟩ := h
          refine v_X5_most_L104 hrec C x1 x3 x4 w1 r19 ?_ hR n20 _ _ _ h
          · intro y8_21 σ22 h
            refine x_aload_n C 179 rfl 0 dX5_most_178 rfl rfl ?_
            refine x_get C 182 rfl (ref := RX5) 0 14 (gM_M ad ct _) rfl in_X5_most_X5 (by decide) fl_X5_most_47 rfl rfl dX5_most_179 ?_
            refine x_iload C 184 rfl 3 dX5_most_182 rfl ?_
            refine x_aload_n C 185 rfl 0 dX5_most_184 rfl rfl ?_
            refine x_get C 188 rfl (ref := RX5) 0 16 (gM_M ad ct _) rfl in_X5_most_X5 (by decide) fl_X5_most_156 rfl rfl dX5_most_185 ?_
            obtain ⟨σ23, eσ23⟩ : ∃ z, z = sR σ22 13 (Int32.toNatClampNeg w1) (σ22.1 0 16) := ⟨_, rfl⟩
            have h := h σ23 eσ23
            refine x_iast C 189 rfl (σ' := σ23) 13 0 (gM_M_knownIn ad ct _) rfl i2 (by rw [eσ23]; exact (sM_M_knownIn ad ct _)) dX5_most_188 ?_
            refine x_aload_n C 190 rfl 0 dX5_most_189 rfl rfl ?_
            refine x_get C 193 rfl (ref := RX5) 0 12 (gM_M ad ct _) rfl in_X5_most_X5 (by decide) fl_X5_most_41 rfl rfl dX5_most_190 ?_
            refine x_iload C 195 rfl 3 dX5_most_193 rfl ?_
            refine x_lload_n C 196 rfl 1 dX5_most_195 rfl rfl ?_
            obtain ⟨σ24, eσ24⟩ : ∃ z, z = sJ σ23 11 (Int32.toNatClampNeg w1) x1 := ⟨_, rfl⟩
            have h := h σ24 eσ24
            refine x_last C 197 rfl (σ' := σ24) 11 1 (gM_M_knownSet ad ct _) rfl i2 (by rw [eσ24]; exact (sM_M_knownSet ad ct _)) dX5_most_196 ?_
            refine x_aload_n C 198 rfl 0 dX5_most_197 rfl rfl ?_
            refine x_get C 201 rfl (ref := RX5) 0 13 (gM_M ad ct _) rfl in_X5_most_X5 (by decide) fl_X5_most_44 rfl rfl dX5_most_198 ?_
            refine x_iload C 203 rfl 3 dX5_most_201 rfl ?_
            refine x_iload_n C 204 rfl 2 dX5_most_203 rfl rfl ?_
            obtain ⟨σ25, eσ25⟩ : ∃ z, z = sR σ24 12 (Int32.toNatClampNeg w1) x3 := ⟨_, rfl⟩
            have h := h σ25 eσ25
            refine x_iast C 205 rfl (σ' := σ25) 12 0 (gM_M_knownTick ad ct _) rfl i2 (by rw [eσ25]; exact (sM_M_knownTick ad ct _)) dX5_most_204 ?_
            refine x_aload_n C 206 rfl 0 dX5_most_205 rfl rfl ?_
            refine x_get C 209 rfl (ref := RX5) 0 15 (gM_M ad ct _) rfl in_X5_most_X5 (by decide) fl_X5_most_50 rfl rfl dX5_most_206 ?_
            refine x_iload C 211 rfl 3 dX5_most_209 rfl ?_
            refine x_iload C 213 rfl 4 dX5_most_211 rfl ?_
            obtain ⟨σ26, eσ26⟩ : ∃ z, z = sR σ25 14 (Int32.toNatClampNeg w1) y8_21 := ⟨_, rfl⟩
            have h := h σ26 eσ26
            refine x_iast C 214 rfl (σ' := σ26) 14 0 (gM_M_knownMost ad ct _) rfl i2 (by rw [eσ26]; exact (sM_M_knownMost ad ct _)) dX5_most_213 ?_
            refine x_iload C 216 rfl 4 dX5_most_214 rfl ?_
            exact hR _ _ _ _ dX5_most_216 h
        · have h := h.2 c68
          refine x_aload_n C 72 rfl 1 dX5_most_71 rfl rfl ?_
          refine x_get C 75 rfl (ref := RX5) 0 13 (gM_M ad ct _) rfl in_X5_most_X5 (by decide) fl_X5_most_44 rfl rfl dX5_most_72 ?_
          refine x_iload C 77 rfl 0 dX5_most_75 rfl ?_
          refine x_iald C 78 rfl 12 0 (gM_M_knownTick ad ct _) rfl i2 dX5_most_77 ?_
          refine x_iload_n C 79 rfl 3 dX5_most_78 rfl rfl ?_
          refine x_icmp_ne C 90 82 dX5_most_79 (by decide) rfl (fun c79 => ?_) (fun c79 => ?_)
          · have h := h.1 c79
            refine x_aload_n C 91 rfl 1 dX5_most_90 rfl rfl ?_
            refine x_lload_n C 92 rfl 2 dX5_most_91 rfl rfl ?_
            refine x_iload_n C 93 rfl 3 dX5_most_92 rfl rfl ?_
            refine x_cVL C 96 rfl (m_X5_spreads l D ad ct _ _ _ _ h) (cwV 2 C.1.2.2.2.2 gX5_most_X5_spreads rfl rfl rfl (by decide +kernel) ⟨by show 3 + 1 ≤ rmr.frames + 5; omega, by show 8 + (8 + 11) + (73) ≤ rmr.locals + 125; omega⟩) ⟨0, 5, _, _, _, (gM_M ad ct _), rfl⟩ rfl rfl (Nat.le_of_ble_eq_true rfl) dX5_most_93 ?_
            intro r28 σ27 h
            refine x_lstore C 98 rfl [(6, .long r28), (5, .int w1), (0, .ref (ad 0)), (1, .long x1), (3, .int x3), (4, .int x4)] dX5_most_96 (by decide) rfl ?_
            refine x_iconst C 99 rfl 0 dX5_most_98 rfl ?_
            refine x_istore C 101 rfl [(8, .int 0), (6, .long r28), (5, .int w1), (0, .ref (ad 0)), (1, .long x1), (3, .int x3), (4, .int x4)] dX5_most_99 (by decide) rfl ?_
            refine x_iconst C 102 rfl 0 dX5_most_101 rfl ?_
            refine x_istore C 104 rfl [(9, .int 0), (8, .int 0), (6, .long r28), (5, .int w1), (0, .ref (ad 0)), (1, .long x1), (3, .int x3), (4, .int x4)] dX5_most_102 (by decide) rfl ?_
            refine x_sub (lv' := [(0, .ref (ad 0)), (1, .long x1), (3, .int x3), (4, .int x4), (5, .int w1), (6, .long r28), (8, .int 0), (9, .int 0)]) [4, 5, 6, 7, 3, 2, 1, 0] rfl ?_
            obtain ⟨n29, h⟩ := h
            refine v_X5_most_L104 hrec C x1 x3 x4 w1 r28 ?_ hR n29 _ _ _ h
            · intro y8_30 σ31 h
              refine x_aload_n C 179 rfl 0 dX5_most_178 rfl rfl ?_
              refine x_get C 182 rfl (ref := RX5) 0 14 (gM_M ad ct _) rfl in_X5_most_X5 (by decide) fl_X5_most_47 rfl rfl dX5_most_179 ?_
              refine x_iload C 184 rfl 3 dX5_most_182 rfl ?_
              refine x_aload_n C 185 rfl 0 dX5_most_184 rfl rfl ?_
              refine x_get C 188 rfl (ref := RX5) 0 16 (gM_M ad ct _) rfl in_X5_most_X5 (by decide) fl_X5_most_156 rfl rfl dX5_most_185 ?_
              obtain ⟨σ32, eσ32⟩ : ∃ z, z = sR σ31 13 (Int32.toNatClampNeg w1) (σ31.1 0 16) := ⟨_, rfl⟩
              have h := h σ32 eσ32
              refine x_iast C 189 rfl (σ' := σ32) 13 0 (gM_M_knownIn ad ct _) rfl i2 (by rw [eσ32]; exact (sM_M_knownIn ad ct _)) dX5_most_188 ?_
              refine x_aload_n C 190 rfl 0 dX5_most_189 rfl rfl ?_
              refine x_get C 193 rfl (ref := RX5) 0 12 (gM_M ad ct _) rfl in_X5_most_X5 (by decide) fl_X5_most_41 rfl rfl dX5_most_190 ?_
              refine x_iload C 195 rfl 3 dX5_most_193 rfl ?_
              refine x_lload_n C 196 rfl 1 dX5_most_195 rfl rfl ?_
              obtain ⟨σ33, eσ33⟩ : ∃ z, z = sJ σ32 11 (Int32.toNatClampNeg w1) x1 := ⟨_, rfl⟩
              have h := h σ33 eσ33
              refine x_last C 197 rfl (σ' := σ33) 11 1 (gM_M_knownSet ad ct _) rfl i2 (by rw [eσ33]; exact (sM_M_knownSet ad ct _)) dX5_most_196 ?_
              refine x_aload_n C 198 rfl 0 dX5_most_197 rfl rfl ?_
              refine x_get C 201 rfl (ref := RX5) 0 13 (gM_M ad ct _) rfl in_X5_most_X5 (by decide) fl_X5_most_44 rfl rfl dX5_most_198 ?_
              refine x_iload C 203 rfl 3 dX5_most_201 rfl ?_
              refine x_iload_n C 204 rfl 2 dX5_most_203 rfl rfl ?_
              obtain ⟨σ34, eσ34⟩ : ∃ z, z = sR σ33 12 (Int32.toNatClampNeg w1) x3 := ⟨_, rfl⟩
              have h := h σ34 eσ34
              refine x_iast C 205 rfl (σ' := σ34) 12 0 (gM_M_knownTick ad ct _) rfl i2 (by rw [eσ34]; exact (sM_M_knownTick ad ct _)) dX5_most_204 ?_
              refine x_aload_n C 206 rfl 0 dX5_most_205 rfl rfl ?_
              refine x_get C 209 rfl (ref := RX5) 0 15 (gM_M ad ct _) rfl in_X5_most_X5 (by decide) fl_X5_most_50 rfl rfl dX5_most_206 ?_
              refine x_iload C 211 rfl 3 dX5_most_209 rfl ?_
              refine x_iload C 213 rfl 4 dX5_most_211 rfl ?_
              obtain ⟨σ35, eσ35⟩ : ∃ z, z = sR σ34 14 (Int32.toNatClampNeg w1) y8_30 := ⟨_, rfl⟩
              have h := h σ35 eσ35
              refine x_iast C 214 rfl (σ' := σ35) 14 0 (gM_M_knownMost ad ct _) rfl i2 (by rw [eσ35]; exact (sM_M_knownMost ad ct _)) dX5_most_213 ?_
              refine x_iload C 216 rfl 4 dX5_most_214 rfl ?_
              exact hR _ _ _ _ dX5_most_216 h
          · have h := h.2 c79
            refine x_aload_n C 83 rfl 1 dX5_most_82 rfl rfl ?_
            refine x_get C 86 rfl (ref := RX5) 0 15 (gM_M ad ct _) rfl in_X5_most_X5 (by decide) fl_X5_most_50 rfl rfl dX5_most_83 ?_
            refine x_iload C 88 rfl 0 dX5_most_86 rfl ?_
            refine x_iald C 89 rfl 14 0 (gM_M_knownMost ad ct _) rfl i2 dX5_most_88 ?_
            exact hR _ _ _ _ dX5_most_89 h
    · have h := h.2 c11
      refine x_iconst C 15 rfl 1 dX5_most_14 rfl ?_
      exact hR _ _ _ _ dX5_most_15 h
  · have h := h.2 c3
    refine x_iconst C 7 rfl 0 dX5_most_6 rfl ?_
    exact hR _ _ _ _ dX5_most_7 h
def rm_X5_most : Nat → Room
  | 0 => { frames := 0, cells := 0, slots := 0, locals := 0 }
  | d + 1 => rm_X5_mosto (rm_X5_most d)
theorem rm_X5_most_0 (d : Nat) : (rm_X5_most d).cells = 0 ∧ (rm_X5_most d).slots = 0 := by cases d <;> exact ⟨rfl, rfl⟩
theorem m_X5_most (l : Launch) (D : va_G) (ad : Nat → Nat) (ct : Nat → ClassId) : ∀ (d : Nat) (x1 : Int64) (x3 : Int32) (x4 : Int32) (σ : ST) (Q : Int32 → ST → Prop), wp_X5_most d x1 x3 x4 σ Q → CtI l D (tysF ct) (wM ad ct) yX5_most wsX5_most (rm_X5_most d) [.ref (ad 0), .long x1, .int x3, .int x4] σ Q := by
  intro d
  induction d with
  | zero => intro x1 x3 x4 σ Q h; exact (h : False).elim
  | succ d ih => intro x1 x3 x4 σ Q h; exact m_X5_mosto l D ad ct (wp_X5_most d) (rm_X5_most d) ⟨(rm_X5_most_0 d).1, (rm_X5_most_0 d).2, ih⟩ x1 x3 x4 σ Q h
