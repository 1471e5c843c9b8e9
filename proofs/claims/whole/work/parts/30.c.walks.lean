abbrev rm_J6_bitCount_0f7a4 : Room := { frames := 0, cells := 0, slots := 0, locals := 0 }
theorem lc_J6_bitCount_0f7a4_265 : Cond.constant RJ6 265 (1431655765) ∈ wsJ6_bitCount_0f7a4 := by decide +kernel
theorem lc_J6_bitCount_0f7a4_266 : Cond.constant RJ6 266 (858993459) ∈ wsJ6_bitCount_0f7a4 := by decide +kernel
theorem lc_J6_bitCount_0f7a4_267 : Cond.constant RJ6 267 (252645135) ∈ wsJ6_bitCount_0f7a4 := by decide +kernel
set_option maxRecDepth 100000 in
set_option maxHeartbeats 4000000 in
theorem m_J6_bitCount_0f7a4 (l : Launch) (D : va_G) (ad : Nat → Nat) (ct : Nat → ClassId) (x0 : Int32) (σ : ST) (Q : Int32 → ST → Prop) (h : wp_J6_bitCount_0f7a4 x0 σ Q) : CtI l D (tysF ct) (wC ad ct) yJ6_bitCount_0f7a4 wsJ6_bitCount_0f7a4 rm_J6_bitCount_0f7a4 [.int x0] σ Q := by
  refine CtI.of (wC_adr ad ct) (maxL := 1) [(0, .int x0)] RJ6 (by decide) rfl rfl (by show (lg_sl [.int x0]).length ≤ 1; exact Nat.le_of_ble_eq_true rfl) rfl rfl rfl ?_
  intro E C hR
  unfold wp_J6_bitCount_0f7a4 at h
  refine x_iload_n C 1 rfl 0 dJ6_bitCount_0f7a4_0 rfl rfl ?_
  refine x_iload_n C 2 rfl 0 dJ6_bitCount_0f7a4_1 rfl rfl ?_
  refine x_iconst C 3 rfl 1 dJ6_bitCount_0f7a4_2 rfl ?_
  refine x_iushr C 4 rfl dJ6_bitCount_0f7a4_3 ?_
  refine x_ldcw C 7 rfl 1431655765 lc_J6_bitCount_0f7a4_265 dJ6_bitCount_0f7a4_4 ?_
  refine x_iand C 8 rfl dJ6_bitCount_0f7a4_7 ?_
  refine x_isub C 9 rfl dJ6_bitCount_0f7a4_8 ?_
  refine x_ni (fun w1 ew1 => ?_)
  have h := h w1 ew1
  refine x_istore_n C 10 rfl [(0, .int w1)] dJ6_bitCount_0f7a4_9 rfl (by decide) rfl ?_
  refine x_iload_n C 11 rfl 0 dJ6_bitCount_0f7a4_10 rfl rfl ?_
  refine x_ldcw C 14 rfl 858993459 lc_J6_bitCount_0f7a4_266 dJ6_bitCount_0f7a4_11 ?_
  refine x_iand C 15 rfl dJ6_bitCount_0f7a4_14 ?_
  refine x_iload_n C 16 rfl 0 dJ6_bitCount_0f7a4_15 rfl rfl ?_
  refine x_iconst C 17 rfl 2 dJ6_bitCount_0f7a4_16 rfl ?_
  refine x_iushr C 18 rfl dJ6_bitCount_0f7a4_17 ?_
  refine x_ldcw C 21 rfl 858993459 lc_J6_bitCount_0f7a4_266 dJ6_bitCount_0f7a4_18 ?_
  refine x_iand C 22 rfl dJ6_bitCount_0f7a4_21 ?_
  refine x_iadd C 23 rfl dJ6_bitCount_0f7a4_22 ?_
  refine x_ni (fun w2 ew2 => ?_)
  have h := h w2 ew2
  refine x_istore_n C 24 rfl [(0, .int w2)] dJ6_bitCount_0f7a4_23 rfl (by decide) rfl ?_
  refine x_iload_n C 25 rfl 0 dJ6_bitCount_0f7a4_24 rfl rfl ?_
  refine x_iload_n C 26 rfl 0 dJ6_bitCount_0f7a4_25 rfl rfl ?_
  refine x_iconst C 27 rfl 4 dJ6_bitCount_0f7a4_26 rfl ?_
  refine x_iushr C 28 rfl dJ6_bitCount_0f7a4_27 ?_
  refine x_iadd C 29 rfl dJ6_bitCount_0f7a4_28 ?_
  refine x_ldcw C 32 rfl 252645135 lc_J6_bitCount_0f7a4_267 dJ6_bitCount_0f7a4_29 ?_
  refine x_iand C 33 rfl dJ6_bitCount_0f7a4_32 ?_
  refine x_ni (fun w3 ew3 => ?_)
  have h := h w3 ew3
  refine x_istore_n C 34 rfl [(0, .int w3)] dJ6_bitCount_0f7a4_33 rfl (by decide) rfl ?_
  refine x_iload_n C 35 rfl 0 dJ6_bitCount_0f7a4_34 rfl rfl ?_
  refine x_iload_n C 36 rfl 0 dJ6_bitCount_0f7a4_35 rfl rfl ?_
  refine x_bipush C 38 rfl 8 dJ6_bitCount_0f7a4_36 rfl ?_
  refine x_iushr C 39 rfl dJ6_bitCount_0f7a4_38 ?_
  refine x_iadd C 40 rfl dJ6_bitCount_0f7a4_39 ?_
  refine x_ni (fun w4 ew4 => ?_)
  have h := h w4 ew4
  refine x_istore_n C 41 rfl [(0, .int w4)] dJ6_bitCount_0f7a4_40 rfl (by decide) rfl ?_
  refine x_iload_n C 42 rfl 0 dJ6_bitCount_0f7a4_41 rfl rfl ?_
  refine x_iload_n C 43 rfl 0 dJ6_bitCount_0f7a4_42 rfl rfl ?_
  refine x_bipush C 45 rfl 16 dJ6_bitCount_0f7a4_43 rfl ?_
  refine x_iushr C 46 rfl dJ6_bitCount_0f7a4_45 ?_
  refine x_iadd C 47 rfl dJ6_bitCount_0f7a4_46 ?_
  refine x_ni (fun w5 ew5 => ?_)
  have h := h w5 ew5
  refine x_istore_n C 48 rfl [(0, .int w5)] dJ6_bitCount_0f7a4_47 rfl (by decide) rfl ?_
  refine x_iload_n C 49 rfl 0 dJ6_bitCount_0f7a4_48 rfl rfl ?_
  refine x_bipush C 51 rfl 63 dJ6_bitCount_0f7a4_49 rfl ?_
  refine x_iand C 52 rfl dJ6_bitCount_0f7a4_51 ?_
  exact hR _ _ _ _ dJ6_bitCount_0f7a4_52 h
abbrev rm_X1_heard : Room := { frames := 1, cells := 0, slots := 0, locals := 26 }
theorem in_X1_heard_X1 : ∀ w ∈ u_ws RX1 TX1 7, w ∈ wsX1_heard := by decide +kernel
theorem fl_X1_heard_27 : Cond.fieldLink RX1 27 RX1 (TX1 5).2.1 (TX1 5).2.2.1 ∈ wsX1_heard := by decide +kernel
theorem fl_X1_heard_18 : Cond.fieldLink RX1 18 RX1 (TX1 2).2.1 (TX1 2).2.2.1 ∈ wsX1_heard := by decide +kernel
theorem fl_X1_heard_15 : Cond.fieldLink RX1 15 RX1 (TX1 1).2.1 (TX1 1).2.2.1 ∈ wsX1_heard := by decide +kernel
set_option maxRecDepth 100000 in
set_option maxHeartbeats 4000000 in
theorem v_X1_heard_L25 {l : Launch} {D : va_G} {ad : Nat → Nat} {ct : Nat → ClassId} {E : XE}  {Q : Int64 → ST → Prop} (C : XFix D (tysF ct) (wC ad ct) rm_X1_heard 8 E cX1_heard RX1 wsX1_heard) (x1 : Int64) (x3 : Int32) (x4 : Int32) (hR : RetL l D (tysF ct) (wC ad ct) rm_X1_heard 8 E cX1_heard Q) :
    ∀ (n : Nat) (x5 : Int64) (x7 : Int32) (σ : ST), wp_X1_heard_L25 x1 x3 x4 Q n x5 x7 σ → V l D (tysF ct) (wC ad ct) rm_X1_heard 8 E 25 [(0, .ref (ad 10)), (1, .long x1), (3, .int x3), (4, .int x4), (5, .long x5), (7, .int x7)] [] σ := by
  intro n
  induction n with
  | zero => intro x5 x7 σ h; exact (h : False).elim
  | succ n ih =>
    intro x5 x7 σ h
    unfold wp_X1_heard_L25 at h
    refine x_iload C 27 rfl 5 dX1_heard_25 rfl ?_
    refine x_iconst C 28 rfl 4 dX1_heard_27 rfl ?_
    refine x_icmp_ge C 78 31 dX1_heard_28 (by decide) rfl (fun c28 => ?_) (fun c28 => ?_)
    · have h := h.1 c28
      refine x_lload C 80 rfl 4 dX1_heard_78 rfl ?_
      exact hR _ _ _ _ dX1_heard_80 h
    · have h := h.2 c28
      refine x_aload_n C 32 rfl 0 dX1_heard_31 rfl rfl ?_
      refine x_get C 35 rfl (ref := RX1) 10 2 (gC_R ad ct _) rfl in_X1_heard_X1 (by decide) fl_X1_heard_18 rfl rfl dX1_heard_32 ?_
      refine x_iconst C 36 rfl 4 dX1_heard_35 rfl ?_
      refine x_iload_n C 37 rfl 2 dX1_heard_36 rfl rfl ?_
      refine x_imul C 38 rfl dX1_heard_37 ?_
      refine x_iload C 40 rfl 5 dX1_heard_38 rfl ?_
      refine x_iadd C 41 rfl dX1_heard_40 ?_
      have i1 := h.1
      have h := h.2
      refine x_iald C 42 rfl 13 0 (gC_R_heardAs ad ct _) rfl i1 dX1_heard_41 ?_
      refine x_iload C 44 rfl 3 dX1_heard_42 rfl ?_
      refine x_icmp_ne C 72 47 dX1_heard_44 (by decide) rfl (fun c44 => ?_) (fun c44 => ?_)
      · have h := h.1 c44
        refine x_iinc C 75 rfl 5 (x7 + 1) [(7, .int (x7 + 1)), (0, .ref (ad 10)), (1, .long x1), (3, .int x3), (4, .int x4), (5, .long x5)] dX1_heard_72 rfl rfl (by decide) rfl ?_
        refine x_goto C 25 dX1_heard_75 (by decide) ?_
        refine x_sub (lv' := [(0, .ref (ad 10)), (1, .long x1), (3, .int x3), (4, .int x4), (5, .long x5), (7, .int (x7 + 1))]) [1, 2, 3, 4, 5, 0] rfl ?_
        exact ih _ _ _ h
      · have h := h.2 c44
        refine x_lload C 49 rfl 4 dX1_heard_47 rfl ?_
        refine x_lload_n C 50 rfl 1 dX1_heard_49 rfl rfl ?_
        refine x_iload_n C 51 rfl 2 dX1_heard_50 rfl rfl ?_
        refine x_iconst C 52 rfl 3 dX1_heard_51 rfl ?_
        refine x_idiv C 53 rfl dX1_heard_52 (by decide) ?_
        refine x_iload C 55 rfl 5 dX1_heard_53 rfl ?_
        refine x_aload_n C 56 rfl 0 dX1_heard_55 rfl rfl ?_
        refine x_get C 59 rfl (ref := RX1) 10 1 (gC_R ad ct _) rfl in_X1_heard_X1 (by decide) fl_X1_heard_15 rfl rfl dX1_heard_56 ?_
        refine x_iconst C 60 rfl 4 dX1_heard_59 rfl ?_
        refine x_iload_n C 61 rfl 2 dX1_heard_60 rfl rfl ?_
        refine x_imul C 62 rfl dX1_heard_61 ?_
        refine x_iload C 64 rfl 5 dX1_heard_62 rfl ?_
        refine x_iadd C 65 rfl dX1_heard_64 ?_
        refine x_iald C 66 rfl 12 0 (gC_R_heardTo ad ct _) rfl i1 dX1_heard_65 ?_
        refine x_cSL C 69 rfl (m_X1_moved l D ad ct _ _ _ _ _ _ h) (va_cwS 4 C.1.2.2.2.2 gX1_heard_X1_moved rfl rfl rfl (by decide +kernel) ⟨Nat.le_of_ble_eq_true rfl, Nat.le_of_ble_eq_true rfl⟩) rfl rfl (Nat.le_of_ble_eq_true rfl) dX1_heard_66 ?_
        intro r3 σ2 h
        refine x_lor C 70 rfl dX1_heard_69 ?_
        refine x_lstore C 72 rfl [(5, .long (x5 ||| r3)), (0, .ref (ad 10)), (1, .long x1), (3, .int x3), (4, .int x4), (7, .int x7)] dX1_heard_70 (by decide) rfl ?_
        refine x_iinc C 75 rfl 5 (x7 + 1) [(7, .int (x7 + 1)), (5, .long (x5 ||| r3)), (0, .ref (ad 10)), (1, .long x1), (3, .int x3), (4, .int x4)] dX1_heard_72 rfl rfl (by decide) rfl ?_
        refine x_goto C 25 dX1_heard_75 (by decide) ?_
        refine x_sub (lv' := [(0, .ref (ad 10)), (1, .long x1), (3, .int x3), (4, .int x4), (5, .long (x5 ||| r3)), (7, .int (x7 + 1))]) [2, 3, 4, 5, 1, 0] rfl ?_
        exact ih _ _ _ h
set_option maxRecDepth 100000 in
set_option maxHeartbeats 4000000 in
theorem m_X1_heard (l : Launch) (D : va_G) (ad : Nat → Nat) (ct : Nat → ClassId) (x1 : Int64) (x3 : Int32) (x4 : Int32) (σ : ST) (Q : Int64 → ST → Prop) (h : wp_X1_heard x1 x3 x4 σ Q) : CtL l D (tysF ct) (wC ad ct) yX1_heard wsX1_heard rm_X1_heard [.ref (ad 10), .long x1, .int x3, .int x4] σ Q := by
  refine CtL.of (wC_adr ad ct) (maxL := 8) [(0, .ref (ad 10)), (1, .long x1), (3, .int x3), (4, .int x4)] RX1 (by decide) rfl rfl (by show (lg_sl [.ref (ad 10), .long x1, .int x3, .int x4]).length ≤ 8; exact Nat.le_of_ble_eq_true rfl) rfl rfl rfl ?_
  intro E C hR
  unfold wp_X1_heard at h
  refine x_iload_n C 1 rfl 2 dX1_heard_0 rfl rfl ?_
  refine x_aload_n C 2 rfl 0 dX1_heard_1 rfl rfl ?_
  refine x_get C 5 rfl (ref := RX1) 10 5 (gC_R ad ct _) rfl in_X1_heard_X1 (by decide) fl_X1_heard_27 rfl rfl dX1_heard_2 ?_
  refine x_icmp_lt C 19 8 dX1_heard_5 (by decide) rfl (fun c5 => ?_) (fun c5 => ?_)
  · have h := h.1 c5
    refine x_lconst C 20 rfl 0 dX1_heard_19 rfl ?_
    refine x_lstore C 22 rfl [(5, .long 0), (0, .ref (ad 10)), (1, .long x1), (3, .int x3), (4, .int x4)] dX1_heard_20 (by decide) rfl ?_
    refine x_iconst C 23 rfl 0 dX1_heard_22 rfl ?_
    refine x_istore C 25 rfl [(7, .int 0), (5, .long 0), (0, .ref (ad 10)), (1, .long x1), (3, .int x3), (4, .int x4)] dX1_heard_23 (by decide) rfl ?_
    refine x_sub (lv' := [(0, .ref (ad 10)), (1, .long x1), (3, .int x3), (4, .int x4), (5, .long 0), (7, .int 0)]) [2, 3, 4, 5, 1, 0] rfl ?_
    obtain ⟨n4, h⟩ := h
    refine v_X1_heard_L25 C x1 x3 x4 hR n4 _ _ _ h
  · have h := h.2 c5
    refine x_iload C 10 rfl 3 dX1_heard_8 rfl ?_
    refine x_if_ne C 17 13 dX1_heard_10 (by decide) rfl (fun c10 => ?_) (fun c10 => ?_)
    · have h := h.1 c10
      refine x_lconst C 18 rfl 0 dX1_heard_17 rfl ?_
      exact hR _ _ _ _ dX1_heard_18 h
    · have h := h.2 c10
      refine x_lload_n C 14 rfl 1 dX1_heard_13 rfl rfl ?_
      refine x_goto C 18 dX1_heard_14 (by decide) ?_
      exact hR _ _ _ _ dX1_heard_18 h
abbrev rm_X4_mostBy (rmr : Room) : Room := { frames := rmr.frames + 2, cells := 0, slots := 0, locals := rmr.locals + 53 }
set_option maxRecDepth 100000 in
set_option maxHeartbeats 4000000 in
theorem v_X4_mostBy_L29 {l : Launch} {D : va_G} {ad : Nat → Nat} {ct : Nat → ClassId} {E : XE}  {rec : Int64 → Int32 → Int32 → ST → (Int32 → ST → Prop) → Prop} {rmr : Room} (hrec : rmr.cells = 0 ∧ rmr.slots = 0 ∧ ∀ (x1 : Int64) (x3 : Int32) (x4 : Int32) (σ : ST) (Q : Int32 → ST → Prop), rec x1 x3 x4 σ Q → CtI l D (tysF ct) (wC ad ct) yX4_most wsX4_most rmr [.ref (ad 10), .long x1, .int x3, .int x4] σ Q) {Q : Int32 → ST → Prop} (C : XFix D (tysF ct) (wC ad ct) (rm_X4_mostBy rmr) 9 E cX4_mostBy RX4 wsX4_mostBy) (x1 : Int64) (x3 : Int32) (x4 : Int32) (x5 : Int32) (x6 : Int32) (hR : RetI l D (tysF ct) (wC ad ct) (rm_X4_mostBy rmr) 9 E cX4_mostBy Q) :
    ∀ (n : Nat) (x7 : Int32) (x8 : Int32) (σ : ST), wp_X4_mostBy_L29 rec x1 x3 x4 x5 x6 Q n x7 x8 σ → V l D (tysF ct) (wC ad ct) (rm_X4_mostBy rmr) 9 E 29 [(0, .ref (ad 10)), (1, .long x1), (3, .int x3), (4, .int x4), (5, .int x5), (6, .int x6), (7, .int x7), (8, .int x8)] [] σ := by
  intro n
  induction n with
  | zero => intro x7 x8 σ h; exact (h : False).elim
  | succ n ih =>
    intro x7 x8 σ h
    unfold wp_X4_mostBy_L29 at h
    refine x_iload C 31 rfl 7 dX4_mostBy_29 rfl ?_
    refine x_iconst C 32 rfl 4 dX4_mostBy_31 rfl ?_
    refine x_icmp_ge C 74 35 dX4_mostBy_32 (by decide) rfl (fun c32 => ?_) (fun c32 => ?_)
    · have h := h.1 c32
      refine x_iload C 76 rfl 6 dX4_mostBy_74 rfl ?_
      exact hR _ _ _ _ dX4_mostBy_76 h
    · have h := h.2 c32
      refine x_iload C 37 rfl 5 dX4_mostBy_35 rfl ?_
      refine x_iload C 39 rfl 7 dX4_mostBy_37 rfl ?_
      refine x_ishr C 40 rfl dX4_mostBy_39 ?_
      refine x_iconst C 41 rfl 1 dX4_mostBy_40 rfl ?_
      refine x_iand C 42 rfl dX4_mostBy_41 ?_
      refine x_if_eq C 68 45 dX4_mostBy_42 (by decide) rfl (fun c42 => ?_) (fun c42 => ?_)
      · have h := h.1 c42
        refine x_iinc C 71 rfl 7 (x8 + 1) [(8, .int (x8 + 1)), (0, .ref (ad 10)), (1, .long x1), (3, .int x3), (4, .int x4), (5, .int x5), (6, .int x6), (7, .int x7)] dX4_mostBy_68 rfl rfl (by decide) rfl ?_
        refine x_goto C 29 dX4_mostBy_71 (by decide) ?_
        refine x_sub (lv' := [(0, .ref (ad 10)), (1, .long x1), (3, .int x3), (4, .int x4), (5, .int x5), (6, .int x6), (7, .int x7), (8, .int (x8 + 1))]) [1, 2, 3, 4, 5, 6, 7, 0] rfl ?_
        exact ih _ _ _ h
      · have h := h.2 c42
        refine x_iload C 47 rfl 6 dX4_mostBy_45 rfl ?_
        refine x_aload_n C 48 rfl 0 dX4_mostBy_47 rfl rfl ?_
        refine x_aload_n C 49 rfl 0 dX4_mostBy_48 rfl rfl ?_
        refine x_lload_n C 50 rfl 1 dX4_mostBy_49 rfl rfl ?_
        refine x_iload_n C 51 rfl 2 dX4_mostBy_50 rfl rfl ?_
        refine x_iload C 53 rfl 7 dX4_mostBy_51 rfl ?_
        refine x_cVL C 56 rfl (m_X1_heard l D ad ct _ _ _ _ _ h) (cwV 3 C.1.2.2.2.2 gX4_mostBy_X1_heard rfl rfl rfl (by decide +kernel) ⟨by show 1 + 1 ≤ rmr.frames + 2; omega, by show 8 + (8 + 11) + (26) ≤ rmr.locals + 53; omega⟩) ⟨10, 1, _, _, _, (gC_R ad ct _), rfl⟩ rfl rfl (Nat.le_of_ble_eq_true rfl) dX4_mostBy_53 ?_
        intro r4 σ3 h
        refine x_iload C 58 rfl 3 dX4_mostBy_56 rfl ?_
        refine x_iconst C 59 rfl 1 dX4_mostBy_58 rfl ?_
        refine x_iadd C 60 rfl dX4_mostBy_59 ?_
        refine x_iload C 62 rfl 4 dX4_mostBy_60 rfl ?_
        refine x_cSI C 65 rfl (hrec.2.2 _ _ _ _ _ h) (va_cwS 4 C.1.2.2.2.2 gX4_mostBy_X4_most rfl hrec.1 hrec.2.1 (by decide +kernel) ⟨by show rmr.frames + 1 ≤ rmr.frames + 2; omega, by show 8 + (9 + 11) + (rmr.locals) ≤ rmr.locals + 53; omega⟩) rfl rfl (Nat.le_of_ble_eq_true rfl) dX4_mostBy_62 ?_
        intro r6 σ5 h
        refine x_iadd C 66 rfl dX4_mostBy_65 ?_
        refine x_istore C 68 rfl [(7, .int (x7 + r6)), (0, .ref (ad 10)), (1, .long x1), (3, .int x3), (4, .int x4), (5, .int x5), (6, .int x6), (8, .int x8)] dX4_mostBy_66 (by decide) rfl ?_
        refine x_iinc C 71 rfl 7 (x8 + 1) [(8, .int (x8 + 1)), (7, .int (x7 + r6)), (0, .ref (ad 10)), (1, .long x1), (3, .int x3), (4, .int x4), (5, .int x5), (6, .int x6)] dX4_mostBy_68 rfl rfl (by decide) rfl ?_
        refine x_goto C 29 dX4_mostBy_71 (by decide) ?_
        refine x_sub (lv' := [(0, .ref (ad 10)), (1, .long x1), (3, .int x3), (4, .int x4), (5, .int x5), (6, .int x6), (7, .int (x7 + r6)), (8, .int (x8 + 1))]) [2, 3, 4, 5, 6, 7, 1, 0] rfl ?_
        exact ih _ _ _ h
set_option maxRecDepth 100000 in
set_option maxHeartbeats 4000000 in
theorem m_X4_mostBy (l : Launch) (D : va_G) (ad : Nat → Nat) (ct : Nat → ClassId) (rec : Int64 → Int32 → Int32 → ST → (Int32 → ST → Prop) → Prop) (rmr : Room) (hrec : rmr.cells = 0 ∧ rmr.slots = 0 ∧ ∀ (x1 : Int64) (x3 : Int32) (x4 : Int32) (σ : ST) (Q : Int32 → ST → Prop), rec x1 x3 x4 σ Q → CtI l D (tysF ct) (wC ad ct) yX4_most wsX4_most rmr [.ref (ad 10), .long x1, .int x3, .int x4] σ Q) (x1 : Int64) (x3 : Int32) (x4 : Int32) (x5 : Int32) (σ : ST) (Q : Int32 → ST → Prop) (h : wp_X4_mostBy rec x1 x3 x4 x5 σ Q) : CtI l D (tysF ct) (wC ad ct) yX4_mostBy wsX4_mostBy (rm_X4_mostBy rmr) [.ref (ad 10), .long x1, .int x3, .int x4, .int x5] σ Q := by
  refine CtI.of (wC_adr ad ct) (maxL := 9) [(0, .ref (ad 10)), (1, .long x1), (3, .int x3), (4, .int x4), (5, .int x5)] RX4 (by decide) rfl rfl (by show (lg_sl [.ref (ad 10), .long x1, .int x3, .int x4, .int x5]).length ≤ 9; exact Nat.le_of_ble_eq_true rfl) rfl rfl rfl ?_
  intro E C hR
  unfold wp_X4_mostBy at h
  refine x_aload_n C 1 rfl 0 dX4_mostBy_0 rfl rfl ?_
  refine x_lload_n C 2 rfl 1 dX4_mostBy_1 rfl rfl ?_
  refine x_iload_n C 3 rfl 2 dX4_mostBy_2 rfl rfl ?_
  refine x_cVI C 6 rfl (m_X1_answers l D ad ct _ _ _ _ h) (cwV 2 C.1.2.2.2.2 gX4_mostBy_X1_answers rfl rfl rfl (by decide +kernel) ⟨by show 1 + 1 ≤ rmr.frames + 2; omega, by show 8 + (6 + 11) + (26) ≤ rmr.locals + 53; omega⟩) ⟨10, 1, _, _, _, (gC_R ad ct _), rfl⟩ rfl rfl (Nat.le_of_ble_eq_true rfl) dX4_mostBy_3 ?_
  intro r2 σ1 h
  refine x_istore C 8 rfl [(6, .int r2), (0, .ref (ad 10)), (1, .long x1), (3, .int x3), (4, .int x4), (5, .int x5)] dX4_mostBy_6 (by decide) rfl ?_
  refine x_iload C 10 rfl 4 dX4_mostBy_8 rfl ?_
  refine x_iconst C 11 rfl 1 dX4_mostBy_10 rfl ?_
  refine x_iadd C 12 rfl dX4_mostBy_11 ?_
  refine x_iload C 14 rfl 5 dX4_mostBy_12 rfl ?_
  refine x_icmp_lt C 23 17 dX4_mostBy_14 (by decide) rfl (fun c14 => ?_) (fun c14 => ?_)
  · have h := h.1 c14
    refine x_iconst C 24 rfl 0 dX4_mostBy_23 rfl ?_
    refine x_istore C 26 rfl [(7, .int 0), (6, .int r2), (0, .ref (ad 10)), (1, .long x1), (3, .int x3), (4, .int x4), (5, .int x5)] dX4_mostBy_24 (by decide) rfl ?_
    refine x_iconst C 27 rfl 0 dX4_mostBy_26 rfl ?_
    refine x_istore C 29 rfl [(8, .int 0), (7, .int 0), (6, .int r2), (0, .ref (ad 10)), (1, .long x1), (3, .int x3), (4, .int x4), (5, .int x5)] dX4_mostBy_27 (by decide) rfl ?_
    refine x_sub (lv' := [(0, .ref (ad 10)), (1, .long x1), (3, .int x3), (4, .int x4), (5, .int x5), (6, .int r2), (7, .int 0), (8, .int 0)]) [3, 4, 5, 6, 7, 2, 1, 0] rfl ?_
    obtain ⟨n7, h⟩ := h
    refine v_X4_mostBy_L29 hrec C x1 x3 x4 x5 r2 hR n7 _ _ _ h
  · have h := h.2 c14
    refine x_iload C 19 rfl 0 dX4_mostBy_17 rfl ?_
    refine x_cSI C 22 rfl (m_J6_bitCount_0f7a4 l D ad ct _ _ _ h) (va_cwS 1 C.1.2.2.2.2 gX4_mostBy_J6_bitCount_0f7a4 rfl rfl rfl (by decide +kernel) ⟨by show 0 + 1 ≤ rmr.frames + 2; omega, by show 8 + (1 + 11) + (0) ≤ rmr.locals + 53; omega⟩) rfl rfl (Nat.le_of_ble_eq_true rfl) dX4_mostBy_19 ?_
    intro r9 σ8 h
    exact hR _ _ _ _ dX4_mostBy_22 h
abbrev rm_X4_mosto (rmr : Room) : Room := { frames := rmr.frames + 3, cells := 0, slots := 0, locals := rmr.locals + 81 }
theorem in_X4_most_X1 : ∀ w ∈ u_ws RX1 TX1 7, w ∈ wsX4_most := by decide +kernel
theorem fl_X4_most_178 : Cond.fieldLink RX4 178 RX1 (TX1 5).2.1 (TX1 5).2.2.1 ∈ wsX4_most := by decide +kernel
theorem mm_X4_most_max_189 : ∀ w ∈ ([.methodLink RX4 189 Lib.Math.max.name, .static Lib.Math.max.name, .initialized "java/lang/Math", .code Lib.Math.max.name Lib.Math.max.code 2 (some .int)] : List Cond), w ∈ wsX4_most := by decide +kernel
set_option maxRecDepth 100000 in
set_option maxHeartbeats 4000000 in
theorem v_X4_most_L27 {l : Launch} {D : va_G} {ad : Nat → Nat} {ct : Nat → ClassId} {E : XE}  {rec : Int64 → Int32 → Int32 → ST → (Int32 → ST → Prop) → Prop} {rmr : Room} (hrec : rmr.cells = 0 ∧ rmr.slots = 0 ∧ ∀ (x1 : Int64) (x3 : Int32) (x4 : Int32) (σ : ST) (Q : Int32 → ST → Prop), rec x1 x3 x4 σ Q → CtI l D (tysF ct) (wC ad ct) yX4_most wsX4_most rmr [.ref (ad 10), .long x1, .int x3, .int x4] σ Q) {Q : Int32 → ST → Prop} (C : XFix D (tysF ct) (wC ad ct) (rm_X4_mosto rmr) 9 E cX4_most RX4 wsX4_most) (x3 : Int32) (x4 : Int32) (x5 : Int64) (hR : RetI l D (tysF ct) (wC ad ct) (rm_X4_mosto rmr) 9 E cX4_most Q) :
    ∀ (n : Nat) (x7 : Int32) (x8 : Int32) (σ : ST), wp_X4_most_L27 rec x3 x4 x5 Q n x7 x8 σ → V l D (tysF ct) (wC ad ct) (rm_X4_mosto rmr) 9 E 27 [(0, .ref (ad 10)), (3, .int x3), (4, .int x4), (5, .long x5), (7, .int x7), (8, .int x8)] [] σ := by
  intro n
  induction n with
  | zero => intro x7 x8 σ h; exact (h : False).elim
  | succ n ih =>
    intro x7 x8 σ h
    unfold wp_X4_most_L27 at h
    refine x_iload C 29 rfl 5 dX4_most_27 rfl ?_
    refine x_aload_n C 30 rfl 0 dX4_most_29 rfl rfl ?_
    refine x_get C 33 rfl (ref := RX1) 10 5 (gC_R ad ct _) rfl in_X4_most_X1 (by decide) fl_X4_most_178 rfl rfl dX4_most_30 ?_
    refine x_icmp_gt C 60 36 dX4_most_33 (by decide) rfl (fun c33 => ?_) (fun c33 => ?_)
    · have h := h.1 c33
      refine x_iload C 62 rfl 4 dX4_most_60 rfl ?_
      exact hR _ _ _ _ dX4_most_62 h
    · have h := h.2 c33
      refine x_iload C 38 rfl 4 dX4_most_36 rfl ?_
      refine x_aload_n C 39 rfl 0 dX4_most_38 rfl rfl ?_
      refine x_lload C 41 rfl 3 dX4_most_39 rfl ?_
      refine x_iload C 43 rfl 5 dX4_most_41 rfl ?_
      refine x_iload_n C 44 rfl 1 dX4_most_43 rfl rfl ?_
      refine x_iload C 46 rfl 2 dX4_most_44 rfl ?_
      refine x_cSI C 49 rfl (m_X4_mostBy l D ad ct rec rmr hrec _ _ _ _ _ _ h) (va_cwS 5 C.1.2.2.2.2 gX4_most_X4_mostBy rfl rfl rfl (by decide +kernel) ⟨by show rmr.frames + 2 + 1 ≤ rmr.frames + 3; omega, by show 8 + (9 + 11) + (rmr.locals + 53) ≤ rmr.locals + 81; omega⟩) rfl rfl (Nat.le_of_ble_eq_true rfl) dX4_most_46 ?_
      intro r4 σ3 h
      refine x_max C 52 rfl mm_X4_most_max_189 (by show 1 ≤ rmr.frames + 3; omega) (by show _ + 13 ≤ rmr.locals + 81; simp only [List.map, List.sum_cons, List.sum_nil, Value.category]; omega) dX4_most_49 ?_
      refine x_istore C 54 rfl [(7, .int (if x7 < r4 then r4 else x7)), (0, .ref (ad 10)), (3, .int x3), (4, .int x4), (5, .long x5), (8, .int x8)] dX4_most_52 (by decide) rfl ?_
      refine x_iinc C 57 rfl 5 (x8 + 1) [(8, .int (x8 + 1)), (7, .int (if x7 < r4 then r4 else x7)), (0, .ref (ad 10)), (3, .int x3), (4, .int x4), (5, .long x5)] dX4_most_54 rfl rfl (by decide) rfl ?_
      refine x_goto C 27 dX4_most_57 (by decide) ?_
      refine x_sub (lv' := [(0, .ref (ad 10)), (3, .int x3), (4, .int x4), (5, .long x5), (7, .int (if x7 < r4 then r4 else x7)), (8, .int (x8 + 1))]) [2, 3, 4, 5, 1, 0] rfl ?_
      exact ih _ _ _ h
set_option maxRecDepth 100000 in
set_option maxHeartbeats 4000000 in
theorem m_X4_mosto (l : Launch) (D : va_G) (ad : Nat → Nat) (ct : Nat → ClassId) (rec : Int64 → Int32 → Int32 → ST → (Int32 → ST → Prop) → Prop) (rmr : Room) (hrec : rmr.cells = 0 ∧ rmr.slots = 0 ∧ ∀ (x1 : Int64) (x3 : Int32) (x4 : Int32) (σ : ST) (Q : Int32 → ST → Prop), rec x1 x3 x4 σ Q → CtI l D (tysF ct) (wC ad ct) yX4_most wsX4_most rmr [.ref (ad 10), .long x1, .int x3, .int x4] σ Q) (x1 : Int64) (x3 : Int32) (x4 : Int32) (σ : ST) (Q : Int32 → ST → Prop) (h : wp_X4_mosto rec x1 x3 x4 σ Q) : CtI l D (tysF ct) (wC ad ct) yX4_most wsX4_most (rm_X4_mosto rmr) [.ref (ad 10), .long x1, .int x3, .int x4] σ Q := by
  refine CtI.of (wC_adr ad ct) (maxL := 9) [(0, .ref (ad 10)), (1, .long x1), (3, .int x3), (4, .int x4)] RX4 (by decide) rfl rfl (by show (lg_sl [.ref (ad 10), .long x1, .int x3, .int x4]).length ≤ 9; exact Nat.le_of_ble_eq_true rfl) rfl rfl rfl ?_
  intro E C hR
  unfold wp_X4_mosto at h
  refine x_iload_n C 1 rfl 2 dX4_most_0 rfl rfl ?_
  refine x_iload C 3 rfl 3 dX4_most_1 rfl ?_
  refine x_icmp_lt C 8 6 dX4_most_3 (by decide) rfl (fun c3 => ?_) (fun c3 => ?_)
  · have h := h.1 c3
    refine x_aload_n C 9 rfl 0 dX4_most_8 rfl rfl ?_
    refine x_lload_n C 10 rfl 1 dX4_most_9 rfl rfl ?_
    refine x_iconst C 11 rfl 0 dX4_most_10 rfl ?_
    refine x_aload_n C 12 rfl 0 dX4_most_11 rfl rfl ?_
    refine x_get C 15 rfl (ref := RX1) 10 5 (gC_R ad ct _) rfl in_X4_most_X1 (by decide) fl_X4_most_178 rfl rfl dX4_most_12 ?_
    refine x_iload_n C 16 rfl 2 dX4_most_15 rfl rfl ?_
    refine x_cVL C 19 rfl (m_X1_sent l D ad ct _ _ _ _ _ _ h) (cwV 4 C.1.2.2.2.2 gX4_most_X1_sent rfl rfl rfl (by decide +kernel) ⟨by show 1 + 1 ≤ rmr.frames + 3; omega, by show 8 + (12 + 11) + (26) ≤ rmr.locals + 81; omega⟩) ⟨10, 1, _, _, _, (gC_R ad ct _), rfl⟩ rfl rfl (Nat.le_of_ble_eq_true rfl) dX4_most_16 ?_
    intro r2 σ1 h
    refine x_lstore C 21 rfl [(5, .long r2), (0, .ref (ad 10)), (1, .long x1), (3, .int x3), (4, .int x4)] dX4_most_19 (by decide) rfl ?_
    refine x_iconst C 22 rfl 0 dX4_most_21 rfl ?_
    refine x_istore C 24 rfl [(7, .int 0), (5, .long r2), (0, .ref (ad 10)), (1, .long x1), (3, .int x3), (4, .int x4)] dX4_most_22 (by decide) rfl ?_
    refine x_iconst C 25 rfl 0 dX4_most_24 rfl ?_
    refine x_istore C 27 rfl [(8, .int 0), (7, .int 0), (5, .long r2), (0, .ref (ad 10)), (1, .long x1), (3, .int x3), (4, .int x4)] dX4_most_25 (by decide) rfl ?_
    refine x_sub (lv' := [(0, .ref (ad 10)), (3, .int x3), (4, .int x4), (5, .long r2), (7, .int 0), (8, .int 0)]) [3, 5, 6, 2, 1, 0] rfl ?_
    obtain ⟨n5, h⟩ := h
    refine v_X4_most_L27 hrec C x3 x4 r2 hR n5 _ _ _ h
  · have h := h.2 c3
    refine x_iconst C 7 rfl 1 dX4_most_6 rfl ?_
    exact hR _ _ _ _ dX4_most_7 h
def rm_X4_most : Nat → Room
  | 0 => { frames := 0, cells := 0, slots := 0, locals := 0 }
  | d + 1 => rm_X4_mosto (rm_X4_most d)
theorem rm_X4_most_0 (d : Nat) : (rm_X4_most d).cells = 0 ∧ (rm_X4_most d).slots = 0 := by cases d <;> exact ⟨rfl, rfl⟩
theorem m_X4_most (l : Launch) (D : va_G) (ad : Nat → Nat) (ct : Nat → ClassId) : ∀ (d : Nat) (x1 : Int64) (x3 : Int32) (x4 : Int32) (σ : ST) (Q : Int32 → ST → Prop), wp_X4_most d x1 x3 x4 σ Q → CtI l D (tysF ct) (wC ad ct) yX4_most wsX4_most (rm_X4_most d) [.ref (ad 10), .long x1, .int x3, .int x4] σ Q := by
  intro d
  induction d with
  | zero => intro x1 x3 x4 σ Q h; exact (h : False).elim
  | succ d ih => intro x1 x3 x4 σ Q h; exact m_X4_mosto l D ad ct (wp_X4_most d) (rm_X4_most d) ⟨(rm_X4_most_0 d).1, (rm_X4_most_0 d).2, ih⟩ x1 x3 x4 σ Q h
abbrev rm_X3_growo (rmr : Room) : Room := { frames := rmr.frames + 15, cells := 0, slots := 0, locals := rmr.locals + 405 }
theorem in_X3_grow_X3 : ∀ w ∈ u_ws RX3 TX3 6, w ∈ wsX3_grow := by decide +kernel
theorem fl_X3_grow_25 : Cond.fieldLink RX3 25 RX3 (TX3 3).2.1 (TX3 3).2.2.1 ∈ wsX3_grow := by decide +kernel
theorem in_X3_grow_X1 : ∀ w ∈ u_ws RX1 TX1 7, w ∈ wsX3_grow := by decide +kernel
theorem fl_X3_grow_31 : Cond.fieldLink RX3 31 RX1 (TX1 5).2.1 (TX1 5).2.2.1 ∈ wsX3_grow := by decide +kernel
theorem ini_X3_grow_X4_mostBy : Cond.initialized RX4 ∈ wsX3_grow := by decide +kernel
theorem stc_X3_grow_X4_mostBy : Cond.static yX4_mostBy ∈ wsX3_grow := by decide +kernel
theorem fl_X3_grow_15 : Cond.fieldLink RX3 15 RX3 (TX3 1).2.1 (TX3 1).2.2.1 ∈ wsX3_grow := by decide +kernel
theorem fl_X3_grow_18 : Cond.fieldLink RX3 18 RX3 (TX3 2).2.1 (TX3 2).2.2.1 ∈ wsX3_grow := by decide +kernel
set_option maxRecDepth 100000 in
set_option maxHeartbeats 4000000 in
theorem v_X3_grow_L37 {l : Launch} {D : va_G} {ad : Nat → Nat} {ct : Nat → ClassId} {E : XE}  {rec : Nat → Int64 → Int32 → ST → (ST → Prop) → Prop} {rmr : Room} (hrec : rmr.cells = 0 ∧ rmr.slots = 0 ∧ ∀ (k0 : Nat) (hk0 : k0 < 4) (x2 : Int64) (x4 : Int32) (σ : ST) (Q : ST → Prop), rec k0 x2 x4 σ Q → CtV l D (tysF ct) (wC ad ct) yX3_grow wsX3_grow rmr [.ref (ad (34 + 4 * k0)), .ref (ad 10), .long x2, .int x4] σ Q) {Q : ST → Prop} (C : XFix D (tysF ct) (wC ad ct) (rm_X3_growo rmr) 11 E cX3_grow RX3 wsX3_grow) (k0 : Nat) (hk0 : k0 < 4) (x4 : Int32) (x5 : Int64) {K : Int32 → ST → Prop} (hK : ∀ (x7 : Int32) (σ : ST), K x7 σ → V l D (tysF ct) (wC ad ct) (rm_X3_growo rmr) 11 E 83 [(0, .ref (ad (34 + 4 * k0))), (1, .ref (ad 10)), (4, .int x4), (5, .long x5), (7, .int x7)] [] σ) (hR : RetV l D (tysF ct) (wC ad ct) (rm_X3_growo rmr) 11 E cX3_grow Q) :
    ∀ (n : Nat) (x7 : Int32) (x8 : Int32) (x9 : Int32) (σ : ST), wp_X3_grow_L37 k0 rec x4 x5 K Q n x7 x8 x9 σ → V l D (tysF ct) (wC ad ct) (rm_X3_growo rmr) 11 E 37 [(0, .ref (ad (34 + 4 * k0))), (1, .ref (ad 10)), (4, .int x4), (5, .long x5), (7, .int x7), (8, .int x8), (9, .int x9)] [] σ := by
  intro n
  induction n with
  | zero => intro x7 x8 x9 σ h; exact (h : False).elim
  | succ n ih =>
    intro x7 x8 x9 σ h
    unfold wp_X3_grow_L37 at h
    refine x_iload C 39 rfl 6 dX3_grow_37 rfl ?_
    refine x_aload_n C 40 rfl 1 dX3_grow_39 rfl rfl ?_
    refine x_get C 43 rfl (ref := RX1) 10 5 (gC_R ad ct _) rfl in_X3_grow_X1 (by decide) fl_X3_grow_31 rfl rfl dX3_grow_40 ?_
    refine x_icmp_gt C 83 46 dX3_grow_43 (by decide) rfl (fun c43 => ?_) (fun c43 => ?_)
    · have h := h.1 c43
      refine x_sub (lv' := [(0, .ref (ad (34 + 4 * k0))), (1, .ref (ad 10)), (4, .int x4), (5, .long x5), (7, .int x7)]) [0, 1, 2, 3, 4] rfl ?_
      exact hK _ _ h
    · have h := h.2 c43
      refine x_aload_n C 47 rfl 1 dX3_grow_46 rfl rfl ?_
      refine x_lload C 49 rfl 3 dX3_grow_47 rfl ?_
      refine x_iload C 51 rfl 6 dX3_grow_49 rfl ?_
      refine x_iload C 53 rfl 2 dX3_grow_51 rfl ?_
      refine x_aload_n C 54 rfl 0 dX3_grow_53 rfl rfl ?_
      refine x_get C 57 rfl (ref := RX3) (34 + 4 * k0) 3 (gC_H ad ct _ hk0) rfl in_X3_grow_X3 (by decide) fl_X3_grow_25 rfl rfl dX3_grow_54 ?_
      refine x_cNI C 60 rfl (m_X4_mostBy l D ad ct (wp_X4_most 4) (rm_X4_most 4) ⟨rfl, rfl, m_X4_most l D ad ct 4⟩ _ _ _ _ _ _ h) (va_cnB 5 C.1.2.2.2.2 ggX3_grow_X4_mostBy rfl rfl rfl C.2.2.2.2.2.2.2.2.1 (C.1.2.2.2.2 _ ini_X3_grow_X4_mostBy) (by decide +kernel) ⟨by show 14 + 1 ≤ rmr.frames + 15; omega, by show 8 + (9 + 11) + (377) ≤ rmr.locals + 405; omega⟩) (C.1.2.2.2.2 _ stc_X3_grow_X4_mostBy) rfl rfl (Nat.le_of_ble_eq_true rfl) dX3_grow_57 ?_
      intro r4 σ3 h
      refine x_istore C 62 rfl [(10, .int r4), (0, .ref (ad (34 + 4 * k0))), (1, .ref (ad 10)), (4, .int x4), (5, .long x5), (7, .int x7), (8, .int x8), (9, .int x9)] dX3_grow_60 (by decide) rfl ?_
      refine x_iload C 64 rfl 0 dX3_grow_62 rfl ?_
      refine x_iload C 66 rfl 6 dX3_grow_64 rfl ?_
      refine x_icmp_le C 77 69 dX3_grow_66 (by decide) rfl (fun c66 => ?_) (fun c66 => ?_)
      · have h := h.1 c66
        refine x_iinc C 80 rfl 7 (x9 + 1) [(9, .int (x9 + 1)), (10, .int r4), (0, .ref (ad (34 + 4 * k0))), (1, .ref (ad 10)), (4, .int x4), (5, .long x5), (7, .int x7), (8, .int x8)] dX3_grow_77 rfl rfl (by decide) rfl ?_
        refine x_goto C 37 dX3_grow_80 (by decide) ?_
        refine x_sub (lv' := [(0, .ref (ad (34 + 4 * k0))), (1, .ref (ad 10)), (4, .int x4), (5, .long x5), (7, .int x7), (8, .int x8), (9, .int (x9 + 1))]) [2, 3, 4, 5, 6, 7, 0] rfl ?_
        exact ih _ _ _ _ h
      · have h := h.2 c66
        refine x_iload C 71 rfl 7 dX3_grow_69 rfl ?_
        refine x_istore C 73 rfl [(7, .int x9), (10, .int r4), (0, .ref (ad (34 + 4 * k0))), (1, .ref (ad 10)), (4, .int x4), (5, .long x5), (8, .int x8), (9, .int x9)] dX3_grow_71 (by decide) rfl ?_
        refine x_iload C 75 rfl 1 dX3_grow_73 rfl ?_
        refine x_istore C 77 rfl [(8, .int r4), (7, .int x9), (10, .int r4), (0, .ref (ad (34 + 4 * k0))), (1, .ref (ad 10)), (4, .int x4), (5, .long x5), (9, .int x9)] dX3_grow_75 (by decide) rfl ?_
        refine x_iinc C 80 rfl 7 (x9 + 1) [(9, .int (x9 + 1)), (8, .int r4), (7, .int x9), (10, .int r4), (0, .ref (ad (34 + 4 * k0))), (1, .ref (ad 10)), (4, .int x4), (5, .long x5)] dX3_grow_77 rfl rfl (by decide) rfl ?_
        refine x_goto C 37 dX3_grow_80 (by decide) ?_
        refine x_sub (lv' := [(0, .ref (ad (34 + 4 * k0))), (1, .ref (ad 10)), (4, .int x4), (5, .long x5), (7, .int x9), (8, .int r4), (9, .int (x9 + 1))]) [4, 5, 6, 7, 2, 1, 0] rfl ?_
        exact ih _ _ _ _ h
set_option maxRecDepth 100000 in
set_option maxHeartbeats 4000000 in
theorem v_X3_grow_L96 {l : Launch} {D : va_G} {ad : Nat → Nat} {ct : Nat → ClassId} {E : XE}  {rec : Nat → Int64 → Int32 → ST → (ST → Prop) → Prop} {rmr : Room} (hrec : rmr.cells = 0 ∧ rmr.slots = 0 ∧ ∀ (k0 : Nat) (hk0 : k0 < 4) (x2 : Int64) (x4 : Int32) (σ : ST) (Q : ST → Prop), rec k0 x2 x4 σ Q → CtV l D (tysF ct) (wC ad ct) yX3_grow wsX3_grow rmr [.ref (ad (34 + 4 * k0)), .ref (ad 10), .long x2, .int x4] σ Q) {Q : ST → Prop} (C : XFix D (tysF ct) (wC ad ct) (rm_X3_growo rmr) 11 E cX3_grow RX3 wsX3_grow) (k0 : Nat) (hk0 : k0 < 4) (x4 : Int32) (x5 : Int64) (x7 : Int32) (x9 : Int32) (hR : RetV l D (tysF ct) (wC ad ct) (rm_X3_growo rmr) 11 E cX3_grow Q) :
    ∀ (n : Nat) (x10 : Int32) (σ : ST), wp_X3_grow_L96 k0 rec x4 x5 x7 x9 Q n x10 σ → V l D (tysF ct) (wC ad ct) (rm_X3_growo rmr) 11 E 96 [(0, .ref (ad (34 + 4 * k0))), (1, .ref (ad 10)), (4, .int x4), (5, .long x5), (7, .int x7), (9, .int x9), (10, .int x10)] [] σ := by
  intro n
  induction n with
  | zero => intro x10 σ h; exact (h : False).elim
  | succ n ih =>
    intro x10 σ h
    unfold wp_X3_grow_L96 at h
    refine x_iload C 98 rfl 6 dX3_grow_96 rfl ?_
    refine x_iconst C 99 rfl 4 dX3_grow_98 rfl ?_
    refine x_icmp_ge C 169 102 dX3_grow_99 (by decide) rfl (fun c99 => ?_) (fun c99 => ?_)
    · have h := h.1 c99
      exact hR _ _ _ dX3_grow_169 h
    · have h := h.2 c99
      refine x_iload C 104 rfl 5 dX3_grow_102 rfl ?_
      refine x_iload C 106 rfl 6 dX3_grow_104 rfl ?_
      refine x_ishr C 107 rfl dX3_grow_106 ?_
      refine x_iconst C 108 rfl 1 dX3_grow_107 rfl ?_
      refine x_iand C 109 rfl dX3_grow_108 ?_
      refine x_if_eq C 163 112 dX3_grow_109 (by decide) rfl (fun c109 => ?_) (fun c109 => ?_)
      · have h := h.1 c109
        refine x_iinc C 166 rfl 6 (x10 + 1) [(10, .int (x10 + 1)), (0, .ref (ad (34 + 4 * k0))), (1, .ref (ad 10)), (4, .int x4), (5, .long x5), (7, .int x7), (9, .int x9)] dX3_grow_163 rfl rfl (by decide) rfl ?_
        refine x_goto C 96 dX3_grow_166 (by decide) ?_
        refine x_sub (lv' := [(0, .ref (ad (34 + 4 * k0))), (1, .ref (ad 10)), (4, .int x4), (5, .long x5), (7, .int x7), (9, .int x9), (10, .int (x10 + 1))]) [1, 2, 3, 4, 5, 6, 0] rfl ?_
        exact ih _ _ h
      · have h := h.2 c109
        refine x_aload_n C 113 rfl 0 dX3_grow_112 rfl rfl ?_
        refine x_get C 116 rfl (ref := RX3) (34 + 4 * k0) 1 (gC_H ad ct _ hk0) rfl in_X3_grow_X3 (by decide) fl_X3_grow_15 rfl rfl dX3_grow_113 ?_
        refine x_iload C 118 rfl 2 dX3_grow_116 rfl ?_
        refine x_iload C 120 rfl 4 dX3_grow_118 rfl ?_
        refine x_aload_n C 121 rfl 1 dX3_grow_120 rfl rfl ?_
        refine x_get C 124 rfl (ref := RX1) 10 5 (gC_R ad ct _) rfl in_X3_grow_X1 (by decide) fl_X3_grow_31 rfl rfl dX3_grow_121 ?_
        refine x_icmp_ge C 132 127 dX3_grow_124 (by decide) rfl (fun c124 => ?_) (fun c124 => ?_)
        · have h := h.1 c124
          refine x_bipush C 134 rfl 9 dX3_grow_132 rfl ?_
          have i10 := h.1
          have h := h.2
          obtain ⟨σ11, eσ11⟩ : ∃ z, z = sR σ (36 + 4 * k0) (Int32.toNatClampNeg x4) 9 := ⟨_, rfl⟩
          have h := h σ11 eσ11
          refine x_iast C 135 rfl (σ' := σ11) (36 + 4 * k0) 0 (gC_H_acts ad ct _ hk0) rfl i10 (by rw [eσ11]; exact (sC_H_acts ad ct _ hk0)) dX3_grow_134 ?_
          refine x_aload_n C 136 rfl 0 dX3_grow_135 rfl rfl ?_
          refine x_get C 139 rfl (ref := RX3) (34 + 4 * k0) 2 (gC_H ad ct _ hk0) rfl in_X3_grow_X3 (by decide) fl_X3_grow_18 rfl rfl dX3_grow_136 ?_
          refine x_iload C 141 rfl 2 dX3_grow_139 rfl ?_
          refine x_iload C 143 rfl 6 dX3_grow_141 rfl ?_
          obtain ⟨σ12, eσ12⟩ : ∃ z, z = sR σ11 (37 + 4 * k0) (Int32.toNatClampNeg x4) x10 := ⟨_, rfl⟩
          have h := h σ12 eσ12
          refine x_iast C 144 rfl (σ' := σ12) (37 + 4 * k0) 0 (gC_H_answers ad ct _ hk0) rfl i10 (by rw [eσ12]; exact (sC_H_answers ad ct _ hk0)) dX3_grow_143 ?_
          refine x_aload_n C 145 rfl 0 dX3_grow_144 rfl rfl ?_
          refine x_aload_n C 146 rfl 1 dX3_grow_145 rfl rfl ?_
          refine x_aload_n C 147 rfl 1 dX3_grow_146 rfl rfl ?_
          refine x_lload C 149 rfl 3 dX3_grow_147 rfl ?_
          refine x_iload C 151 rfl 4 dX3_grow_149 rfl ?_
          refine x_iload C 153 rfl 6 dX3_grow_151 rfl ?_
          refine x_cVL C 156 rfl (m_X1_heard l D ad ct _ _ _ _ _ h) (cwV 3 C.1.2.2.2.2 gX3_grow_X1_heard rfl rfl rfl (by decide +kernel) ⟨by show 1 + 1 ≤ rmr.frames + 15; omega, by show 8 + (8 + 11) + (26) ≤ rmr.locals + 405; omega⟩) ⟨10, 1, _, _, _, (gC_R ad ct _), rfl⟩ rfl rfl (Nat.le_of_ble_eq_true rfl) dX3_grow_153 ?_
          intro r14 σ13 h
          refine x_iload C 158 rfl 2 dX3_grow_156 rfl ?_
          refine x_iconst C 159 rfl 1 dX3_grow_158 rfl ?_
          refine x_iadd C 160 rfl dX3_grow_159 ?_
          refine x_cSV C 163 rfl (hrec.2.2 k0 hk0 _ _ _ _ h) (va_cwS 4 C.1.2.2.2.2 gX3_grow_X3_grow rfl hrec.1 hrec.2.1 (by decide +kernel) ⟨by show rmr.frames + 1 ≤ rmr.frames + 15; omega, by show 8 + (11 + 11) + (rmr.locals) ≤ rmr.locals + 405; omega⟩) rfl rfl (Nat.le_of_ble_eq_true rfl) dX3_grow_160 ?_
          intro σ15 h
          refine x_iinc C 166 rfl 6 (x10 + 1) [(10, .int (x10 + 1)), (0, .ref (ad (34 + 4 * k0))), (1, .ref (ad 10)), (4, .int x4), (5, .long x5), (7, .int x7), (9, .int x9)] dX3_grow_163 rfl rfl (by decide) rfl ?_
          refine x_goto C 96 dX3_grow_166 (by decide) ?_
          refine x_sub (lv' := [(0, .ref (ad (34 + 4 * k0))), (1, .ref (ad 10)), (4, .int x4), (5, .long x5), (7, .int x7), (9, .int x9), (10, .int (x10 + 1))]) [1, 2, 3, 4, 5, 6, 0] rfl ?_
          exact ih _ _ h
        · have h := h.2 c124
          refine x_iload C 129 rfl 4 dX3_grow_127 rfl ?_
          refine x_goto C 134 dX3_grow_129 (by decide) ?_
          have i16 := h.1
          have h := h.2
          obtain ⟨σ17, eσ17⟩ : ∃ z, z = sR σ (36 + 4 * k0) (Int32.toNatClampNeg x4) x7 := ⟨_, rfl⟩
          have h := h σ17 eσ17
          refine x_iast C 135 rfl (σ' := σ17) (36 + 4 * k0) 0 (gC_H_acts ad ct _ hk0) rfl i16 (by rw [eσ17]; exact (sC_H_acts ad ct _ hk0)) dX3_grow_134 ?_
          refine x_aload_n C 136 rfl 0 dX3_grow_135 rfl rfl ?_
          refine x_get C 139 rfl (ref := RX3) (34 + 4 * k0) 2 (gC_H ad ct _ hk0) rfl in_X3_grow_X3 (by decide) fl_X3_grow_18 rfl rfl dX3_grow_136 ?_
          refine x_iload C 141 rfl 2 dX3_grow_139 rfl ?_
          refine x_iload C 143 rfl 6 dX3_grow_141 rfl ?_
          obtain ⟨σ18, eσ18⟩ : ∃ z, z = sR σ17 (37 + 4 * k0) (Int32.toNatClampNeg x4) x10 := ⟨_, rfl⟩
          have h := h σ18 eσ18
          refine x_iast C 144 rfl (σ' := σ18) (37 + 4 * k0) 0 (gC_H_answers ad ct _ hk0) rfl i16 (by rw [eσ18]; exact (sC_H_answers ad ct _ hk0)) dX3_grow_143 ?_
          refine x_aload_n C 145 rfl 0 dX3_grow_144 rfl rfl ?_
          refine x_aload_n C 146 rfl 1 dX3_grow_145 rfl rfl ?_
          refine x_aload_n C 147 rfl 1 dX3_grow_146 rfl rfl ?_
          refine x_lload C 149 rfl 3 dX3_grow_147 rfl ?_
          refine x_iload C 151 rfl 4 dX3_grow_149 rfl ?_
          refine x_iload C 153 rfl 6 dX3_grow_151 rfl ?_
          refine x_cVL C 156 rfl (m_X1_heard l D ad ct _ _ _ _ _ h) (cwV 3 C.1.2.2.2.2 gX3_grow_X1_heard rfl rfl rfl (by decide +kernel) ⟨by show 1 + 1 ≤ rmr.frames + 15; omega, by show 8 + (8 + 11) + (26) ≤ rmr.locals + 405; omega⟩) ⟨10, 1, _, _, _, (gC_R ad ct _), rfl⟩ rfl rfl (Nat.le_of_ble_eq_true rfl) dX3_grow_153 ?_
          intro r20 σ19 h
          refine x_iload C 158 rfl 2 dX3_grow_156 rfl ?_
          refine x_iconst C 159 rfl 1 dX3_grow_158 rfl ?_
          refine x_iadd C 160 rfl dX3_grow_159 ?_
          refine x_cSV C 163 rfl (hrec.2.2 k0 hk0 _ _ _ _ h) (va_cwS 4 C.1.2.2.2.2 gX3_grow_X3_grow rfl hrec.1 hrec.2.1 (by decide +kernel) ⟨by show rmr.frames + 1 ≤ rmr.frames + 15; omega, by show 8 + (11 + 11) + (rmr.locals) ≤ rmr.locals + 405; omega⟩) rfl rfl (Nat.le_of_ble_eq_true rfl) dX3_grow_160 ?_
          intro σ21 h
          refine x_iinc C 166 rfl 6 (x10 + 1) [(10, .int (x10 + 1)), (0, .ref (ad (34 + 4 * k0))), (1, .ref (ad 10)), (4, .int x4), (5, .long x5), (7, .int x7), (9, .int x9)] dX3_grow_163 rfl rfl (by decide) rfl ?_
          refine x_goto C 96 dX3_grow_166 (by decide) ?_
          refine x_sub (lv' := [(0, .ref (ad (34 + 4 * k0))), (1, .ref (ad 10)), (4, .int x4), (5, .long x5), (7, .int x7), (9, .int x9), (10, .int (x10 + 1))]) [1, 2, 3, 4, 5, 6, 0] rfl ?_
          exact ih _ _ h
set_option maxRecDepth 100000 in
set_option maxHeartbeats 4000000 in
theorem m_X3_growo (l : Launch) (D : va_G) (ad : Nat → Nat) (ct : Nat → ClassId) (rec : Nat → Int64 → Int32 → ST → (ST → Prop) → Prop) (rmr : Room) (hrec : rmr.cells = 0 ∧ rmr.slots = 0 ∧ ∀ (k0 : Nat) (hk0 : k0 < 4) (x2 : Int64) (x4 : Int32) (σ : ST) (Q : ST → Prop), rec k0 x2 x4 σ Q → CtV l D (tysF ct) (wC ad ct) yX3_grow wsX3_grow rmr [.ref (ad (34 + 4 * k0)), .ref (ad 10), .long x2, .int x4] σ Q) (k0 : Nat) (hk0 : k0 < 4) (x2 : Int64) (x4 : Int32) (σ : ST) (Q : ST → Prop) (h : wp_X3_growo rec k0 x2 x4 σ Q) : CtV l D (tysF ct) (wC ad ct) yX3_grow wsX3_grow (rm_X3_growo rmr) [.ref (ad (34 + 4 * k0)), .ref (ad 10), .long x2, .int x4] σ Q := by
  refine CtV.of (wC_adr ad ct) (maxL := 11) [(0, .ref (ad (34 + 4 * k0))), (1, .ref (ad 10)), (2, .long x2), (4, .int x4)] RX3 (by decide) rfl rfl (by show (lg_sl [.ref (ad (34 + 4 * k0)), .ref (ad 10), .long x2, .int x4]).length ≤ 11; exact Nat.le_of_ble_eq_true rfl) rfl rfl rfl ?_
  intro E C hR
  unfold wp_X3_growo at h
  refine x_iload C 2 rfl 3 dX3_grow_0 rfl ?_
  refine x_aload_n C 3 rfl 0 dX3_grow_2 rfl rfl ?_
  refine x_get C 6 rfl (ref := RX3) (34 + 4 * k0) 3 (gC_H ad ct _ hk0) rfl in_X3_grow_X3 (by decide) fl_X3_grow_25 rfl rfl dX3_grow_3 ?_
  refine x_icmp_lt C 14 9 dX3_grow_6 (by decide) rfl (fun c6 => ?_) (fun c6 => ?_)
  · have h := h.1 c6
    refine x_aload_n C 15 rfl 1 dX3_grow_14 rfl rfl ?_
    refine x_lload_n C 16 rfl 2 dX3_grow_15 rfl rfl ?_
    refine x_iconst C 17 rfl 0 dX3_grow_16 rfl ?_
    refine x_aload_n C 18 rfl 1 dX3_grow_17 rfl rfl ?_
    refine x_get C 21 rfl (ref := RX1) 10 5 (gC_R ad ct _) rfl in_X3_grow_X1 (by decide) fl_X3_grow_31 rfl rfl dX3_grow_18 ?_
    refine x_iload C 23 rfl 3 dX3_grow_21 rfl ?_
    refine x_cVL C 26 rfl (m_X1_sent l D ad ct _ _ _ _ _ _ h) (cwV 4 C.1.2.2.2.2 gX3_grow_X1_sent rfl rfl rfl (by decide +kernel) ⟨by show 1 + 1 ≤ rmr.frames + 15; omega, by show 8 + (12 + 11) + (26) ≤ rmr.locals + 405; omega⟩) ⟨10, 1, _, _, _, (gC_R ad ct _), rfl⟩ rfl rfl (Nat.le_of_ble_eq_true rfl) dX3_grow_23 ?_
    intro r2 σ1 h
    refine x_lstore C 28 rfl [(5, .long r2), (0, .ref (ad (34 + 4 * k0))), (1, .ref (ad 10)), (2, .long x2), (4, .int x4)] dX3_grow_26 (by decide) rfl ?_
    refine x_iconst C 29 rfl 0 dX3_grow_28 rfl ?_
    refine x_istore C 31 rfl [(7, .int 0), (5, .long r2), (0, .ref (ad (34 + 4 * k0))), (1, .ref (ad 10)), (2, .long x2), (4, .int x4)] dX3_grow_29 (by decide) rfl ?_
    refine x_iconst C 32 rfl 0 dX3_grow_31 rfl ?_
    refine x_istore C 34 rfl [(8, .int 0), (7, .int 0), (5, .long r2), (0, .ref (ad (34 + 4 * k0))), (1, .ref (ad 10)), (2, .long x2), (4, .int x4)] dX3_grow_32 (by decide) rfl ?_
    refine x_iconst C 35 rfl 0 dX3_grow_34 rfl ?_
    refine x_istore C 37 rfl [(9, .int 0), (8, .int 0), (7, .int 0), (5, .long r2), (0, .ref (ad (34 + 4 * k0))), (1, .ref (ad 10)), (2, .long x2), (4, .int x4)] dX3_grow_35 (by decide) rfl ?_
    refine x_sub (lv' := [(0, .ref (ad (34 + 4 * k0))), (1, .ref (ad 10)), (4, .int x4), (5, .long r2), (7, .int 0), (8, .int 0), (9, .int 0)]) [4, 5, 7, 3, 2, 1, 0] rfl ?_
    obtain ⟨n5, h⟩ := h
    refine v_X3_grow_L37 hrec C k0 hk0 x4 r2 ?_ hR n5 _ _ _ _ h
    · intro y7_6 σ7 h
      refine x_aload_n C 84 rfl 1 dX3_grow_83 rfl rfl ?_
      refine x_lload C 86 rfl 3 dX3_grow_84 rfl ?_
      refine x_iload C 88 rfl 4 dX3_grow_86 rfl ?_
      refine x_cVI C 91 rfl (m_X1_answers l D ad ct _ _ _ _ h) (cwV 2 C.1.2.2.2.2 gX3_grow_X1_answers rfl rfl rfl (by decide +kernel) ⟨by show 1 + 1 ≤ rmr.frames + 15; omega, by show 8 + (6 + 11) + (26) ≤ rmr.locals + 405; omega⟩) ⟨10, 1, _, _, _, (gC_R ad ct _), rfl⟩ rfl rfl (Nat.le_of_ble_eq_true rfl) dX3_grow_88 ?_
      intro r9 σ8 h
      refine x_istore C 93 rfl [(9, .int r9), (0, .ref (ad (34 + 4 * k0))), (1, .ref (ad 10)), (4, .int x4), (5, .long r2), (7, .int y7_6)] dX3_grow_91 (by decide) rfl ?_
      refine x_iconst C 94 rfl 0 dX3_grow_93 rfl ?_
      refine x_istore C 96 rfl [(10, .int 0), (9, .int r9), (0, .ref (ad (34 + 4 * k0))), (1, .ref (ad 10)), (4, .int x4), (5, .long r2), (7, .int y7_6)] dX3_grow_94 (by decide) rfl ?_
      refine x_sub (lv' := [(0, .ref (ad (34 + 4 * k0))), (1, .ref (ad 10)), (4, .int x4), (5, .long r2), (7, .int y7_6), (9, .int r9), (10, .int 0)]) [2, 3, 4, 5, 6, 1, 0] rfl ?_
      obtain ⟨n22, h⟩ := h
      refine v_X3_grow_L96 hrec C k0 hk0 x4 r2 y7_6 r9 hR n22 _ _ h
  · have h := h.2 c6
    refine x_aload_n C 10 rfl 0 dX3_grow_9 rfl rfl ?_
    refine x_cVV C 13 rfl (m_X3_addLetter l D ad ct k0 hk0 _ _ h) (cwV 0 C.1.2.2.2.2 gX3_grow_X3_addLetter rfl rfl rfl (by decide +kernel) ⟨by show 1 + 1 ≤ rmr.frames + 15; omega, by show 8 + (2 + 11) + (21) ≤ rmr.locals + 405; omega⟩) ⟨(34 + 4 * k0), 3, _, _, _, (gC_H ad ct _ hk0), rfl⟩ rfl rfl (Nat.le_of_ble_eq_true rfl) dX3_grow_10 ?_
    intro σ23 h
    exact hR _ _ _ dX3_grow_13 h
def rm_X3_grow : Nat → Room
  | 0 => { frames := 0, cells := 0, slots := 0, locals := 0 }
  | d + 1 => rm_X3_growo (rm_X3_grow d)
theorem rm_X3_grow_0 (d : Nat) : (rm_X3_grow d).cells = 0 ∧ (rm_X3_grow d).slots = 0 := by cases d <;> exact ⟨rfl, rfl⟩
theorem m_X3_grow (l : Launch) (D : va_G) (ad : Nat → Nat) (ct : Nat → ClassId) : ∀ (d : Nat) (k0 : Nat) (hk0 : k0 < 4) (x2 : Int64) (x4 : Int32) (σ : ST) (Q : ST → Prop), wp_X3_grow d k0 x2 x4 σ Q → CtV l D (tysF ct) (wC ad ct) yX3_grow wsX3_grow (rm_X3_grow d) [.ref (ad (34 + 4 * k0)), .ref (ad 10), .long x2, .int x4] σ Q := by
  intro d
  induction d with
  | zero => intro k0 hk0 x2 x4 σ Q h; exact (h : False).elim
  | succ d ih => intro k0 hk0 x2 x4 σ Q h; exact m_X3_growo l D ad ct (wp_X3_grow d) (rm_X3_grow d) ⟨(rm_X3_grow_0 d).1, (rm_X3_grow_0 d).2, ih⟩ k0 hk0 x2 x4 σ Q h
abbrev rm_X3_step : Room := { frames := 2, cells := 0, slots := 0, locals := 57 }
theorem in_X3_step_X3 : ∀ w ∈ u_ws RX3 TX3 6, w ∈ wsX3_step := by decide +kernel
theorem fl_X3_step_11 : Cond.fieldLink RX3 11 RX3 (TX3 0).2.1 (TX3 0).2.2.1 ∈ wsX3_step := by decide +kernel
set_option maxRecDepth 100000 in
set_option maxHeartbeats 4000000 in
theorem m_X3_step (l : Launch) (D : va_G) (ad : Nat → Nat) (ct : Nat → ClassId) (k : Nat) (hk : k < 4) (x2 : Int64) (x4 : Int32) (x5 : Int32) (x6 : Int32) (σ : ST) (Q : Int64 → ST → Prop) (h : wp_X3_step k x2 x4 x5 x6 σ Q) : CtL l D (tysF ct) (wC ad ct) yX3_step wsX3_step rm_X3_step [.ref (ad (34 + 4 * k)), .ref (ad 10), .long x2, .int x4, .int x5, .int x6] σ Q := by
  refine CtL.of (wC_adr ad ct) (maxL := 7) [(0, .ref (ad (34 + 4 * k))), (1, .ref (ad 10)), (2, .long x2), (4, .int x4), (5, .int x5), (6, .int x6)] RX3 (by decide) rfl rfl (by show (lg_sl [.ref (ad (34 + 4 * k)), .ref (ad 10), .long x2, .int x4, .int x5, .int x6]).length ≤ 7; exact Nat.le_of_ble_eq_true rfl) rfl rfl rfl ?_
  intro E C hR
  unfold wp_X3_step at h
  refine x_aload_n C 1 rfl 1 dX3_step_0 rfl rfl ?_
  refine x_aload_n C 2 rfl 1 dX3_step_1 rfl rfl ?_
  refine x_lload_n C 3 rfl 2 dX3_step_2 rfl rfl ?_
  refine x_iload C 5 rfl 3 dX3_step_3 rfl ?_
  refine x_iload C 7 rfl 3 dX3_step_5 rfl ?_
  refine x_iload C 9 rfl 5 dX3_step_7 rfl ?_
  refine x_cVL C 12 rfl (m_X1_sent l D ad ct _ _ _ _ _ _ h) (cwV 4 C.1.2.2.2.2 gX3_step_X1_sent rfl rfl rfl (by decide +kernel) ⟨Nat.le_of_ble_eq_true rfl, Nat.le_of_ble_eq_true rfl⟩) ⟨10, 1, _, _, _, (gC_R ad ct _), rfl⟩ rfl rfl (Nat.le_of_ble_eq_true rfl) dX3_step_9 ?_
  intro r2 σ1 h
  refine x_aload_n C 13 rfl 0 dX3_step_12 rfl rfl ?_
  refine x_get C 16 rfl (ref := RX3) (34 + 4 * k) 0 (gC_H ad ct _ hk) rfl in_X3_step_X3 (by decide) fl_X3_step_11 rfl rfl dX3_step_13 ?_
  refine x_iload C 18 rfl 4 dX3_step_16 rfl ?_
  refine x_iload C 20 rfl 5 dX3_step_18 rfl ?_
  refine x_cSI C 23 rfl (m_X3_place l D ad ct _ _ _ _ h) (va_cwS 2 C.1.2.2.2.2 gX3_step_X3_place rfl rfl rfl (by decide +kernel) ⟨Nat.le_of_ble_eq_true rfl, Nat.le_of_ble_eq_true rfl⟩) rfl rfl (Nat.le_of_ble_eq_true rfl) dX3_step_20 ?_
  intro r4 σ3 h
  have i5 := h.1
  have h := h.2
  refine x_iald C 24 rfl (35 + 4 * k) 0 (gC_H_rows ad ct _ hk) rfl i5 dX3_step_23 ?_
  refine x_aload_n C 25 rfl 0 dX3_step_24 rfl rfl ?_
  refine x_get C 28 rfl (ref := RX3) (34 + 4 * k) 0 (gC_H ad ct _ hk) rfl in_X3_step_X3 (by decide) fl_X3_step_11 rfl rfl dX3_step_25 ?_
  refine x_iload C 30 rfl 4 dX3_step_28 rfl ?_
  refine x_iload C 32 rfl 5 dX3_step_30 rfl ?_
  refine x_cSI C 35 rfl (m_X3_place l D ad ct _ _ _ _ h) (va_cwS 2 C.1.2.2.2.2 gX3_step_X3_place rfl rfl rfl (by decide +kernel) ⟨Nat.le_of_ble_eq_true rfl, Nat.le_of_ble_eq_true rfl⟩) rfl rfl (Nat.le_of_ble_eq_true rfl) dX3_step_32 ?_
  intro r7 σ6 h
  refine x_iconst C 36 rfl 1 dX3_step_35 rfl ?_
  refine x_iadd C 37 rfl dX3_step_36 ?_
  have i8 := h.1
  have h := h.2
  refine x_iald C 38 rfl (35 + 4 * k) 0 (gC_H_rows ad ct _ hk) rfl i8 dX3_step_37 ?_
  refine x_cVL C 41 rfl (m_X1_heard l D ad ct _ _ _ _ _ h) (cwV 3 C.1.2.2.2.2 gX3_step_X1_heard rfl rfl rfl (by decide +kernel) ⟨Nat.le_of_ble_eq_true rfl, Nat.le_of_ble_eq_true rfl⟩) ⟨10, 1, _, _, _, (gC_R ad ct _), rfl⟩ rfl rfl (Nat.le_of_ble_eq_true rfl) dX3_step_38 ?_
  intro r10 σ9 h
  exact hR _ _ _ _ dX3_step_41 h
abbrev rm_X3_leads : Room := { frames := 2, cells := 0, slots := 0, locals := 57 }
theorem in_X3_leads_X3 : ∀ w ∈ u_ws RX3 TX3 6, w ∈ wsX3_leads := by decide +kernel
theorem fl_X3_leads_25 : Cond.fieldLink RX3 25 RX3 (TX3 3).2.1 (TX3 3).2.2.1 ∈ wsX3_leads := by decide +kernel
theorem in_X3_leads_X1 : ∀ w ∈ u_ws RX1 TX1 7, w ∈ wsX3_leads := by decide +kernel
theorem fl_X3_leads_31 : Cond.fieldLink RX3 31 RX1 (TX1 5).2.1 (TX1 5).2.2.1 ∈ wsX3_leads := by decide +kernel
theorem fl_X3_leads_11 : Cond.fieldLink RX3 11 RX3 (TX3 0).2.1 (TX3 0).2.2.1 ∈ wsX3_leads := by decide +kernel
set_option maxRecDepth 100000 in
set_option maxHeartbeats 4000000 in
theorem v_X3_leads_L7 {l : Launch} {D : va_G} {ad : Nat → Nat} {ct : Nat → ClassId} {E : XE}  {Q : Int32 → ST → Prop} (C : XFix D (tysF ct) (wC ad ct) rm_X3_leads 9 E cX3_leads RX3 wsX3_leads) (k : Nat) (hk : k < 4) (x4 : Int32) (hR : RetZ l D (tysF ct) (wC ad ct) rm_X3_leads 9 E cX3_leads Q) :
    ∀ (n : Nat) (x6 : Int64) (x8 : Int32) (σ : ST), wp_X3_leads_L7 k x4 Q n x6 x8 σ → V l D (tysF ct) (wC ad ct) rm_X3_leads 9 E 7 [(0, .ref (ad (34 + 4 * k))), (1, .ref (ad 10)), (4, .int x4), (6, .long x6), (8, .int x8)] [] σ := by
  intro n
  induction n with
  | zero => intro x6 x8 σ h; exact (h : False).elim
  | succ n ih =>
    intro x6 x8 σ h
    unfold wp_X3_leads_L7 at h
    refine x_iload C 9 rfl 4 dX3_leads_7 rfl ?_
    refine x_aload_n C 10 rfl 0 dX3_leads_9 rfl rfl ?_
    refine x_get C 13 rfl (ref := RX3) (34 + 4 * k) 3 (gC_H ad ct _ hk) rfl in_X3_leads_X3 (by decide) fl_X3_leads_25 rfl rfl dX3_leads_10 ?_
    refine x_icmp_ge C 74 16 dX3_leads_13 (by decide) rfl (fun c13 => ?_) (fun c13 => ?_)
    · have h := h.1 c13
      refine x_lload C 76 rfl 3 dX3_leads_74 rfl ?_
      refine x_lconst C 77 rfl 0 dX3_leads_76 rfl ?_
      refine x_lcmp C 78 rfl dX3_leads_77 ?_
      refine x_if_eq C 85 81 dX3_leads_78 (by decide) rfl (fun c78 => ?_) (fun c78 => ?_)
      · have h := h.1 c78
        refine x_iconst C 86 rfl 0 dX3_leads_85 rfl ?_
        exact hR _ _ _ _ dX3_leads_86 (by decide) h
      · have h := h.2 c78
        refine x_iconst C 82 rfl 1 dX3_leads_81 rfl ?_
        refine x_goto C 86 dX3_leads_82 (by decide) ?_
        exact hR _ _ _ _ dX3_leads_86 (by decide) h
    · have h := h.2 c13
      refine x_lload C 18 rfl 3 dX3_leads_16 rfl ?_
      refine x_lconst C 19 rfl 0 dX3_leads_18 rfl ?_
      refine x_lcmp C 20 rfl dX3_leads_19 ?_
      refine x_if_eq C 74 23 dX3_leads_20 (by decide) rfl (fun c20 => ?_) (fun c20 => ?_)
      · have h := h.1 c20
        refine x_lload C 76 rfl 3 dX3_leads_74 rfl ?_
        refine x_lconst C 77 rfl 0 dX3_leads_76 rfl ?_
        refine x_lcmp C 78 rfl dX3_leads_77 ?_
        refine x_if_eq C 85 81 dX3_leads_78 (by decide) rfl (fun c78 => ?_) (fun c78 => ?_)
        · have h := h.1 c78
          refine x_iconst C 86 rfl 0 dX3_leads_85 rfl ?_
          exact hR _ _ _ _ dX3_leads_86 (by decide) h
        · have h := h.2 c78
          refine x_iconst C 82 rfl 1 dX3_leads_81 rfl ?_
          refine x_goto C 86 dX3_leads_82 (by decide) ?_
          exact hR _ _ _ _ dX3_leads_86 (by decide) h
      · have h := h.2 c20
        refine x_aload_n C 24 rfl 1 dX3_leads_23 rfl rfl ?_
        refine x_aload_n C 25 rfl 1 dX3_leads_24 rfl rfl ?_
        refine x_lload C 27 rfl 3 dX3_leads_25 rfl ?_
        refine x_iconst C 28 rfl 0 dX3_leads_27 rfl ?_
        refine x_aload_n C 29 rfl 1 dX3_leads_28 rfl rfl ?_
        refine x_get C 32 rfl (ref := RX1) 10 5 (gC_R ad ct _) rfl in_X3_leads_X1 (by decide) fl_X3_leads_31 rfl rfl dX3_leads_29 ?_
        refine x_iload C 34 rfl 4 dX3_leads_32 rfl ?_
        refine x_cVL C 37 rfl (m_X1_sent l D ad ct _ _ _ _ _ _ h) (cwV 4 C.1.2.2.2.2 gX3_leads_X1_sent rfl rfl rfl (by decide +kernel) ⟨Nat.le_of_ble_eq_true rfl, Nat.le_of_ble_eq_true rfl⟩) ⟨10, 1, _, _, _, (gC_R ad ct _), rfl⟩ rfl rfl (Nat.le_of_ble_eq_true rfl) dX3_leads_34 ?_
        intro r2 σ1 h
        refine x_aload_n C 38 rfl 0 dX3_leads_37 rfl rfl ?_
        refine x_get C 41 rfl (ref := RX3) (34 + 4 * k) 0 (gC_H ad ct _ hk) rfl in_X3_leads_X3 (by decide) fl_X3_leads_11 rfl rfl dX3_leads_38 ?_
        refine x_iload C 43 rfl 2 dX3_leads_41 rfl ?_
        refine x_iload C 45 rfl 4 dX3_leads_43 rfl ?_
        refine x_cSI C 48 rfl (m_X3_place l D ad ct _ _ _ _ h) (va_cwS 2 C.1.2.2.2.2 gX3_leads_X3_place rfl rfl rfl (by decide +kernel) ⟨Nat.le_of_ble_eq_true rfl, Nat.le_of_ble_eq_true rfl⟩) rfl rfl (Nat.le_of_ble_eq_true rfl) dX3_leads_45 ?_
        intro r4 σ3 h
        have i5 := h.1
        have h := h.2
        refine x_iald C 49 rfl (35 + 4 * k) 0 (gC_H_rows ad ct _ hk) rfl i5 dX3_leads_48 ?_
        refine x_aload_n C 50 rfl 0 dX3_leads_49 rfl rfl ?_
        refine x_get C 53 rfl (ref := RX3) (34 + 4 * k) 0 (gC_H ad ct _ hk) rfl in_X3_leads_X3 (by decide) fl_X3_leads_11 rfl rfl dX3_leads_50 ?_
        refine x_iload C 55 rfl 2 dX3_leads_53 rfl ?_
        refine x_iload C 57 rfl 4 dX3_leads_55 rfl ?_
        refine x_cSI C 60 rfl (m_X3_place l D ad ct _ _ _ _ h) (va_cwS 2 C.1.2.2.2.2 gX3_leads_X3_place rfl rfl rfl (by decide +kernel) ⟨Nat.le_of_ble_eq_true rfl, Nat.le_of_ble_eq_true rfl⟩) rfl rfl (Nat.le_of_ble_eq_true rfl) dX3_leads_57 ?_
        intro r7 σ6 h
        refine x_iconst C 61 rfl 1 dX3_leads_60 rfl ?_
        refine x_iadd C 62 rfl dX3_leads_61 ?_
        have i8 := h.1
        have h := h.2
        refine x_iald C 63 rfl (35 + 4 * k) 0 (gC_H_rows ad ct _ hk) rfl i8 dX3_leads_62 ?_
        refine x_cVL C 66 rfl (m_X1_heard l D ad ct _ _ _ _ _ h) (cwV 3 C.1.2.2.2.2 gX3_leads_X1_heard rfl rfl rfl (by decide +kernel) ⟨Nat.le_of_ble_eq_true rfl, Nat.le_of_ble_eq_true rfl⟩) ⟨10, 1, _, _, _, (gC_R ad ct _), rfl⟩ rfl rfl (Nat.le_of_ble_eq_true rfl) dX3_leads_63 ?_
        intro r10 σ9 h
        refine x_lstore C 68 rfl [(6, .long r10), (0, .ref (ad (34 + 4 * k))), (1, .ref (ad 10)), (4, .int x4), (8, .int x8)] dX3_leads_66 (by decide) rfl ?_
        refine x_iinc C 71 rfl 4 (x8 + 1) [(8, .int (x8 + 1)), (6, .long r10), (0, .ref (ad (34 + 4 * k))), (1, .ref (ad 10)), (4, .int x4)] dX3_leads_68 rfl rfl (by decide) rfl ?_
        refine x_goto C 7 dX3_leads_71 (by decide) ?_
        refine x_sub (lv' := [(0, .ref (ad (34 + 4 * k))), (1, .ref (ad 10)), (4, .int x4), (6, .long r10), (8, .int (x8 + 1))]) [2, 3, 4, 1, 0] rfl ?_
        exact ih _ _ _ h
set_option maxRecDepth 100000 in
set_option maxHeartbeats 4000000 in
theorem m_X3_leads (l : Launch) (D : va_G) (ad : Nat → Nat) (ct : Nat → ClassId) (k : Nat) (hk : k < 4) (x2 : Int64) (x4 : Int32) (x5 : Int32) (σ : ST) (Q : Int32 → ST → Prop) (h : wp_X3_leads k x2 x4 x5 σ Q) : CtI l D (tysF ct) (wC ad ct) yX3_leads wsX3_leads rm_X3_leads [.ref (ad (34 + 4 * k)), .ref (ad 10), .long x2, .int x4, .int x5] σ Q := by
  refine CtI.ofZ (wC_adr ad ct) (maxL := 9) [(0, .ref (ad (34 + 4 * k))), (1, .ref (ad 10)), (2, .long x2), (4, .int x4), (5, .int x5)] RX3 (by decide) rfl rfl (by show (lg_sl [.ref (ad (34 + 4 * k)), .ref (ad 10), .long x2, .int x4, .int x5]).length ≤ 9; exact Nat.le_of_ble_eq_true rfl) rfl rfl rfl ?_
  intro E C hR
  unfold wp_X3_leads at h
  refine x_lload_n C 1 rfl 2 dX3_leads_0 rfl rfl ?_
  refine x_lstore C 3 rfl [(6, .long x2), (0, .ref (ad (34 + 4 * k))), (1, .ref (ad 10)), (2, .long x2), (4, .int x4), (5, .int x5)] dX3_leads_1 (by decide) rfl ?_
  refine x_iload C 5 rfl 5 dX3_leads_3 rfl ?_
  refine x_istore C 7 rfl [(8, .int x5), (6, .long x2), (0, .ref (ad (34 + 4 * k))), (1, .ref (ad 10)), (2, .long x2), (4, .int x4), (5, .int x5)] dX3_leads_5 (by decide) rfl ?_
  refine x_sub (lv' := [(0, .ref (ad (34 + 4 * k))), (1, .ref (ad 10)), (4, .int x4), (6, .long x2), (8, .int x5)]) [2, 3, 5, 1, 0] rfl ?_
  obtain ⟨n11, h⟩ := h
  refine v_X3_leads_L7 C k hk x4 hR n11 _ _ _ h
abbrev rm_X3_addSenders : Room := { frames := 3, cells := 0, slots := 0, locals := 85 }
theorem in_X3_addSenders_X3 : ∀ w ∈ u_ws RX3 TX3 6, w ∈ wsX3_addSenders := by decide +kernel
theorem fl_X3_addSenders_54 : Cond.fieldLink RX3 54 RX3 (TX3 4).2.1 (TX3 4).2.2.1 ∈ wsX3_addSenders := by decide +kernel
theorem in_X3_addSenders_X1 : ∀ w ∈ u_ws RX1 TX1 7, w ∈ wsX3_addSenders := by decide +kernel
theorem fl_X3_addSenders_61 : Cond.fieldLink RX3 61 RX1 (TX1 6).2.1 (TX1 6).2.2.1 ∈ wsX3_addSenders := by decide +kernel
theorem fl_X3_addSenders_25 : Cond.fieldLink RX3 25 RX3 (TX3 3).2.1 (TX3 3).2.2.1 ∈ wsX3_addSenders := by decide +kernel
theorem fl_X3_addSenders_31 : Cond.fieldLink RX3 31 RX1 (TX1 5).2.1 (TX1 5).2.2.1 ∈ wsX3_addSenders := by decide +kernel
theorem fl_X3_addSenders_11 : Cond.fieldLink RX3 11 RX3 (TX3 0).2.1 (TX3 0).2.2.1 ∈ wsX3_addSenders := by decide +kernel
set_option maxRecDepth 100000 in
set_option maxHeartbeats 4000000 in
theorem v_X3_addSenders_L30 {l : Launch} {D : va_G} {ad : Nat → Nat} {ct : Nat → ClassId} {E : XE}  {Q : ST → Prop} (C : XFix D (tysF ct) (wC ad ct) rm_X3_addSenders 7 E cX3_addSenders RX3 wsX3_addSenders) (k : Nat) (hk : k < 4) (x2 : Int32) (x3 : Int64) (x5 : Int32) {K : Int32 → ST → Prop} (hK : ∀ (x6 : Int32) (σ : ST), K x6 σ → V l D (tysF ct) (wC ad ct) rm_X3_addSenders 7 E 69 [(0, .ref (ad (34 + 4 * k))), (1, .ref (ad 10)), (2, .int x2), (3, .long x3), (5, .int x5), (6, .int x6)] [] σ) (hR : RetV l D (tysF ct) (wC ad ct) rm_X3_addSenders 7 E cX3_addSenders Q) :
    ∀ (n : Nat) (x6 : Int32) (σ : ST), wp_X3_addSenders_L30 k x2 x3 x5 K Q n x6 σ → V l D (tysF ct) (wC ad ct) rm_X3_addSenders 7 E 30 [(0, .ref (ad (34 + 4 * k))), (1, .ref (ad 10)), (2, .int x2), (3, .long x3), (5, .int x5), (6, .int x6)] [] σ := by
  intro n
  induction n with
  | zero => intro x6 σ h; exact (h : False).elim
  | succ n ih =>
    intro x6 σ h
    unfold wp_X3_addSenders_L30 at h
    refine x_iload C 32 rfl 5 dX3_addSenders_30 rfl ?_
    refine x_aload_n C 33 rfl 1 dX3_addSenders_32 rfl rfl ?_
    refine x_get C 36 rfl (ref := RX1) 10 5 (gC_R ad ct _) rfl in_X3_addSenders_X1 (by decide) fl_X3_addSenders_31 rfl rfl dX3_addSenders_33 ?_
    refine x_icmp_ge C 69 39 dX3_addSenders_36 (by decide) rfl (fun c36 => ?_) (fun c36 => ?_)
    · have h := h.1 c36
      exact hK _ _ h
    · have h := h.2 c36
      refine x_aload_n C 40 rfl 0 dX3_addSenders_39 rfl rfl ?_
      refine x_aload_n C 41 rfl 1 dX3_addSenders_40 rfl rfl ?_
      refine x_aload_n C 42 rfl 0 dX3_addSenders_41 rfl rfl ?_
      refine x_aload_n C 43 rfl 1 dX3_addSenders_42 rfl rfl ?_
      refine x_lload_n C 44 rfl 3 dX3_addSenders_43 rfl rfl ?_
      refine x_iload C 46 rfl 5 dX3_addSenders_44 rfl ?_
      refine x_iload_n C 47 rfl 2 dX3_addSenders_46 rfl rfl ?_
      refine x_iload C 49 rfl 4 dX3_addSenders_47 rfl ?_
      refine x_cVL C 52 rfl (m_X3_step l D ad ct k hk _ _ _ _ _ _ h) (cwV 5 C.1.2.2.2.2 gX3_addSenders_X3_step rfl rfl rfl (by decide +kernel) ⟨Nat.le_of_ble_eq_true rfl, Nat.le_of_ble_eq_true rfl⟩) ⟨(34 + 4 * k), 3, _, _, _, (gC_H ad ct _ hk), rfl⟩ rfl rfl (Nat.le_of_ble_eq_true rfl) dX3_addSenders_49 ?_
      intro r2 σ1 h
      refine x_iload_n C 53 rfl 2 dX3_addSenders_52 rfl rfl ?_
      refine x_iload C 55 rfl 4 dX3_addSenders_53 rfl ?_
      refine x_iconst C 56 rfl 1 dX3_addSenders_55 rfl ?_
      refine x_iadd C 57 rfl dX3_addSenders_56 ?_
      refine x_cVI C 60 rfl (m_X3_leads l D ad ct k hk _ _ _ _ _ h) (cwV 4 C.1.2.2.2.2 gX3_addSenders_X3_leads rfl rfl rfl (by decide +kernel) ⟨Nat.le_of_ble_eq_true rfl, Nat.le_of_ble_eq_true rfl⟩) ⟨(34 + 4 * k), 3, _, _, _, (gC_H ad ct _ hk), rfl⟩ rfl rfl (Nat.le_of_ble_eq_true rfl) dX3_addSenders_57 ?_
      intro r4 σ3 h
      refine x_if_ne C 69 63 dX3_addSenders_60 (by decide) rfl (fun c60 => ?_) (fun c60 => ?_)
      · have h := h.1 c60
        exact hK _ _ h
      · have h := h.2 c60
        refine x_iinc C 66 rfl 5 (x6 + 1) [(6, .int (x6 + 1)), (0, .ref (ad (34 + 4 * k))), (1, .ref (ad 10)), (2, .int x2), (3, .long x3), (5, .int x5)] dX3_addSenders_63 rfl rfl (by decide) rfl ?_
        refine x_goto C 30 dX3_addSenders_66 (by decide) ?_
        refine x_sub (lv' := [(0, .ref (ad (34 + 4 * k))), (1, .ref (ad 10)), (2, .int x2), (3, .long x3), (5, .int x5), (6, .int (x6 + 1))]) [1, 2, 3, 4, 5, 0] rfl ?_
        exact ih _ _ h
set_option maxRecDepth 100000 in
set_option maxHeartbeats 4000000 in
theorem v_X3_addSenders_L18 {l : Launch} {D : va_G} {ad : Nat → Nat} {ct : Nat → ClassId} {E : XE}  {Q : ST → Prop} (C : XFix D (tysF ct) (wC ad ct) rm_X3_addSenders 7 E cX3_addSenders RX3 wsX3_addSenders) (k : Nat) (hk : k < 4) (x2 : Int32) {K : ST → Prop} (hK : ∀ (σ : ST), K σ → V l D (tysF ct) (wC ad ct) rm_X3_addSenders 7 E 116 [(0, .ref (ad (34 + 4 * k))), (1, .ref (ad 10)), (2, .int x2)] [] σ) (hR : RetV l D (tysF ct) (wC ad ct) rm_X3_addSenders 7 E cX3_addSenders Q) :
    ∀ (n : Nat) (x3 : Int64) (x5 : Int32) (σ : ST), wp_X3_addSenders_L18 k x2 K Q n x3 x5 σ → V l D (tysF ct) (wC ad ct) rm_X3_addSenders 7 E 18 [(0, .ref (ad (34 + 4 * k))), (1, .ref (ad 10)), (2, .int x2), (3, .long x3), (5, .int x5)] [] σ := by
  intro n
  induction n with
  | zero => intro x3 x5 σ h; exact (h : False).elim
  | succ n ih =>
    intro x3 x5 σ h
    unfold wp_X3_addSenders_L18 at h
    refine x_iload C 20 rfl 4 dX3_addSenders_18 rfl ?_
    refine x_aload_n C 21 rfl 0 dX3_addSenders_20 rfl rfl ?_
    refine x_get C 24 rfl (ref := RX3) (34 + 4 * k) 3 (gC_H ad ct _ hk) rfl in_X3_addSenders_X3 (by decide) fl_X3_addSenders_25 rfl rfl dX3_addSenders_21 ?_
    refine x_icmp_ge C 116 27 dX3_addSenders_24 (by decide) rfl (fun c24 => ?_) (fun c24 => ?_)
    · have h := h.1 c24
      refine x_sub (lv' := [(0, .ref (ad (34 + 4 * k))), (1, .ref (ad 10)), (2, .int x2)]) [0, 1, 2] rfl ?_
      exact hK  _ h
    · have h := h.2 c24
      refine x_iconst C 28 rfl 0 dX3_addSenders_27 rfl ?_
      refine x_istore C 30 rfl [(6, .int 0), (0, .ref (ad (34 + 4 * k))), (1, .ref (ad 10)), (2, .int x2), (3, .long x3), (5, .int x5)] dX3_addSenders_28 (by decide) rfl ?_
      refine x_sub (lv' := [(0, .ref (ad (34 + 4 * k))), (1, .ref (ad 10)), (2, .int x2), (3, .long x3), (5, .int x5), (6, .int 0)]) [1, 2, 3, 4, 5, 0] rfl ?_
      obtain ⟨n5, h⟩ := h
      refine v_X3_addSenders_L30 C k hk x2 x3 x5 ?_ hR n5 _ _ h
      · intro y6_6 σ7 h
        refine x_aload_n C 70 rfl 0 dX3_addSenders_69 rfl rfl ?_
        refine x_get C 73 rfl (ref := RX3) (34 + 4 * k) 0 (gC_H ad ct _ hk) rfl in_X3_addSenders_X3 (by decide) fl_X3_addSenders_11 rfl rfl dX3_addSenders_70 ?_
        refine x_iload_n C 74 rfl 2 dX3_addSenders_73 rfl rfl ?_
        refine x_iload C 76 rfl 4 dX3_addSenders_74 rfl ?_
        refine x_cSI C 79 rfl (m_X3_place l D ad ct _ _ _ _ h) (va_cwS 2 C.1.2.2.2.2 gX3_addSenders_X3_place rfl rfl rfl (by decide +kernel) ⟨Nat.le_of_ble_eq_true rfl, Nat.le_of_ble_eq_true rfl⟩) rfl rfl (Nat.le_of_ble_eq_true rfl) dX3_addSenders_76 ?_
        intro r9 σ8 h
        refine x_iconst C 80 rfl 2 dX3_addSenders_79 rfl ?_
        refine x_iadd C 81 rfl dX3_addSenders_80 ?_
        refine x_iload C 83 rfl 5 dX3_addSenders_81 rfl ?_
        refine x_aload_n C 84 rfl 1 dX3_addSenders_83 rfl rfl ?_
        refine x_get C 87 rfl (ref := RX1) 10 5 (gC_R ad ct _) rfl in_X3_addSenders_X1 (by decide) fl_X3_addSenders_31 rfl rfl dX3_addSenders_84 ?_
        refine x_icmp_ge C 95 90 dX3_addSenders_87 (by decide) rfl (fun c87 => ?_) (fun c87 => ?_)
        · have h := h.1 c87
          refine x_bipush C 97 rfl 9 dX3_addSenders_95 rfl ?_
          have i10 := h.1
          have h := h.2
          obtain ⟨σ11, eσ11⟩ : ∃ z, z = sR σ8 (35 + 4 * k) (Int32.toNatClampNeg (r9 + 2)) 9 := ⟨_, rfl⟩
          have h := h σ11 eσ11
          refine x_iast C 98 rfl (σ' := σ11) (35 + 4 * k) 0 (gC_H_rows ad ct _ hk) rfl i10 (by rw [eσ11]; exact (sC_H_rows ad ct _ hk)) dX3_addSenders_97 ?_
          refine x_aload_n C 99 rfl 0 dX3_addSenders_98 rfl rfl ?_
          refine x_aload_n C 100 rfl 1 dX3_addSenders_99 rfl rfl ?_
          refine x_lload_n C 101 rfl 3 dX3_addSenders_100 rfl rfl ?_
          refine x_iload C 103 rfl 5 dX3_addSenders_101 rfl ?_
          refine x_iload_n C 104 rfl 2 dX3_addSenders_103 rfl rfl ?_
          refine x_iload C 106 rfl 4 dX3_addSenders_104 rfl ?_
          refine x_cVL C 109 rfl (m_X3_step l D ad ct k hk _ _ _ _ _ _ h) (cwV 5 C.1.2.2.2.2 gX3_addSenders_X3_step rfl rfl rfl (by decide +kernel) ⟨Nat.le_of_ble_eq_true rfl, Nat.le_of_ble_eq_true rfl⟩) ⟨(34 + 4 * k), 3, _, _, _, (gC_H ad ct _ hk), rfl⟩ rfl rfl (Nat.le_of_ble_eq_true rfl) dX3_addSenders_106 ?_
          intro r13 σ12 h
          refine x_lstore_n C 110 rfl [(3, .long r13), (0, .ref (ad (34 + 4 * k))), (1, .ref (ad 10)), (2, .int x2), (5, .int x5), (6, .int y6_6)] dX3_addSenders_109 rfl (by decide) rfl ?_
          refine x_iinc C 113 rfl 4 (x5 + 1) [(5, .int (x5 + 1)), (3, .long r13), (0, .ref (ad (34 + 4 * k))), (1, .ref (ad 10)), (2, .int x2), (6, .int y6_6)] dX3_addSenders_110 rfl rfl (by decide) rfl ?_
          refine x_goto C 18 dX3_addSenders_113 (by decide) ?_
          refine x_sub (lv' := [(0, .ref (ad (34 + 4 * k))), (1, .ref (ad 10)), (2, .int x2), (3, .long r13), (5, .int (x5 + 1))]) [2, 3, 4, 1, 0] rfl ?_
          exact ih _ _ _ h
        · have h := h.2 c87
          refine x_iload C 92 rfl 5 dX3_addSenders_90 rfl ?_
          refine x_goto C 97 dX3_addSenders_92 (by decide) ?_
          have i14 := h.1
          have h := h.2
          obtain ⟨σ15, eσ15⟩ : ∃ z, z = sR σ8 (35 + 4 * k) (Int32.toNatClampNeg (r9 + 2)) y6_6 := ⟨_, rfl⟩
          have h := h σ15 eσ15
          refine x_iast C 98 rfl (σ' := σ15) (35 + 4 * k) 0 (gC_H_rows ad ct _ hk) rfl i14 (by rw [eσ15]; exact (sC_H_rows ad ct _ hk)) dX3_addSenders_97 ?_
          refine x_aload_n C 99 rfl 0 dX3_addSenders_98 rfl rfl ?_
          refine x_aload_n C 100 rfl 1 dX3_addSenders_99 rfl rfl ?_
          refine x_lload_n C 101 rfl 3 dX3_addSenders_100 rfl rfl ?_
          refine x_iload C 103 rfl 5 dX3_addSenders_101 rfl ?_
          refine x_iload_n C 104 rfl 2 dX3_addSenders_103 rfl rfl ?_
          refine x_iload C 106 rfl 4 dX3_addSenders_104 rfl ?_
          refine x_cVL C 109 rfl (m_X3_step l D ad ct k hk _ _ _ _ _ _ h) (cwV 5 C.1.2.2.2.2 gX3_addSenders_X3_step rfl rfl rfl (by decide +kernel) ⟨Nat.le_of_ble_eq_true rfl, Nat.le_of_ble_eq_true rfl⟩) ⟨(34 + 4 * k), 3, _, _, _, (gC_H ad ct _ hk), rfl⟩ rfl rfl (Nat.le_of_ble_eq_true rfl) dX3_addSenders_106 ?_
          intro r17 σ16 h
          refine x_lstore_n C 110 rfl [(3, .long r17), (0, .ref (ad (34 + 4 * k))), (1, .ref (ad 10)), (2, .int x2), (5, .int x5), (6, .int y6_6)] dX3_addSenders_109 rfl (by decide) rfl ?_
          refine x_iinc C 113 rfl 4 (x5 + 1) [(5, .int (x5 + 1)), (3, .long r17), (0, .ref (ad (34 + 4 * k))), (1, .ref (ad 10)), (2, .int x2), (6, .int y6_6)] dX3_addSenders_110 rfl rfl (by decide) rfl ?_
          refine x_goto C 18 dX3_addSenders_113 (by decide) ?_
          refine x_sub (lv' := [(0, .ref (ad (34 + 4 * k))), (1, .ref (ad 10)), (2, .int x2), (3, .long r17), (5, .int (x5 + 1))]) [2, 3, 4, 1, 0] rfl ?_
          exact ih _ _ _ h
set_option maxRecDepth 100000 in
set_option maxHeartbeats 4000000 in
theorem v_X3_addSenders_L2 {l : Launch} {D : va_G} {ad : Nat → Nat} {ct : Nat → ClassId} {E : XE}  {Q : ST → Prop} (C : XFix D (tysF ct) (wC ad ct) rm_X3_addSenders 7 E cX3_addSenders RX3 wsX3_addSenders) (k : Nat) (hk : k < 4) (hR : RetV l D (tysF ct) (wC ad ct) rm_X3_addSenders 7 E cX3_addSenders Q) :
    ∀ (n : Nat) (x2 : Int32) (σ : ST), wp_X3_addSenders_L2 k Q n x2 σ → V l D (tysF ct) (wC ad ct) rm_X3_addSenders 7 E 2 [(0, .ref (ad (34 + 4 * k))), (1, .ref (ad 10)), (2, .int x2)] [] σ := by
  intro n
  induction n with
  | zero => intro x2 σ h; exact (h : False).elim
  | succ n ih =>
    intro x2 σ h
    unfold wp_X3_addSenders_L2 at h
    refine x_iload_n C 3 rfl 2 dX3_addSenders_2 rfl rfl ?_
    refine x_aload_n C 4 rfl 0 dX3_addSenders_3 rfl rfl ?_
    refine x_get C 7 rfl (ref := RX3) (34 + 4 * k) 4 (gC_H ad ct _ hk) rfl in_X3_addSenders_X3 (by decide) fl_X3_addSenders_54 rfl rfl dX3_addSenders_4 ?_
    refine x_icmp_ge C 122 10 dX3_addSenders_7 (by decide) rfl (fun c7 => ?_) (fun c7 => ?_)
    · have h := h.1 c7
      exact hR _ _ _ dX3_addSenders_122 h
    · have h := h.2 c7
      refine x_aload_n C 11 rfl 1 dX3_addSenders_10 rfl rfl ?_
      refine x_get C 14 rfl (ref := RX1) 10 6 (gC_R ad ct _) rfl in_X3_addSenders_X1 (by decide) fl_X3_addSenders_61 rfl rfl dX3_addSenders_11 ?_
      refine x_lstore_n C 15 rfl [(3, .long (σ.2.1 10 6)), (0, .ref (ad (34 + 4 * k))), (1, .ref (ad 10)), (2, .int x2)] dX3_addSenders_14 rfl (by decide) rfl ?_
      refine x_iconst C 16 rfl 0 dX3_addSenders_15 rfl ?_
      refine x_istore C 18 rfl [(5, .int 0), (3, .long (σ.2.1 10 6)), (0, .ref (ad (34 + 4 * k))), (1, .ref (ad 10)), (2, .int x2)] dX3_addSenders_16 (by decide) rfl ?_
      refine x_sub (lv' := [(0, .ref (ad (34 + 4 * k))), (1, .ref (ad 10)), (2, .int x2), (3, .long (σ.2.1 10 6)), (5, .int 0)]) [2, 3, 4, 1, 0] rfl ?_
      obtain ⟨n18, h⟩ := h
      refine v_X3_addSenders_L18 C k hk x2 ?_ hR n18 _ _ _ h
      · intro σ19 h
        refine x_iinc C 119 rfl 2 (x2 + 1) [(2, .int (x2 + 1)), (0, .ref (ad (34 + 4 * k))), (1, .ref (ad 10))] dX3_addSenders_116 rfl rfl (by decide) rfl ?_
        refine x_goto C 2 dX3_addSenders_119 (by decide) ?_
        refine x_sub (lv' := [(0, .ref (ad (34 + 4 * k))), (1, .ref (ad 10)), (2, .int (x2 + 1))]) [1, 2, 0] rfl ?_
        exact ih _ _ h
set_option maxRecDepth 100000 in
set_option maxHeartbeats 4000000 in
theorem m_X3_addSenders (l : Launch) (D : va_G) (ad : Nat → Nat) (ct : Nat → ClassId) (k : Nat) (hk : k < 4) (σ : ST) (Q : ST → Prop) (h : wp_X3_addSenders k σ Q) : CtV l D (tysF ct) (wC ad ct) yX3_addSenders wsX3_addSenders rm_X3_addSenders [.ref (ad (34 + 4 * k)), .ref (ad 10)] σ Q := by
  refine CtV.of (wC_adr ad ct) (maxL := 7) [(0, .ref (ad (34 + 4 * k))), (1, .ref (ad 10))] RX3 (by decide) rfl rfl (by show (lg_sl [.ref (ad (34 + 4 * k)), .ref (ad 10)]).length ≤ 7; exact Nat.le_of_ble_eq_true rfl) rfl rfl rfl ?_
  intro E C hR
  unfold wp_X3_addSenders at h
  refine x_iconst C 1 rfl 0 dX3_addSenders_0 rfl ?_
  refine x_istore_n C 2 rfl [(2, .int 0), (0, .ref (ad (34 + 4 * k))), (1, .ref (ad 10))] dX3_addSenders_1 rfl (by decide) rfl ?_
  refine x_sub (lv' := [(0, .ref (ad (34 + 4 * k))), (1, .ref (ad 10)), (2, .int 0)]) [1, 2, 0] rfl ?_
  obtain ⟨n20, h⟩ := h
  refine v_X3_addSenders_L2 C k hk hR n20 _ _ h
abbrev rm_X4_whisperOf : Room := { frames := 61, cells := 0, slots := 0, locals := 1650 }
theorem in_X4_whisperOf_X4 : ∀ w ∈ u_ws RX4 TX4 7, w ∈ wsX4_whisperOf := by decide +kernel
theorem fl_X4_whisperOf_23 : Cond.fieldLink RX4 23 RX4 (TX4 2).2.1 (TX4 2).2.2.1 ∈ wsX4_whisperOf := by decide +kernel
theorem in_X4_whisperOf_X3 : ∀ w ∈ u_ws RX3 TX3 6, w ∈ wsX4_whisperOf := by decide +kernel
theorem fl_X4_whisperOf_161 : Cond.fieldLink RX4 161 RX3 (TX3 5).2.1 (TX3 5).2.2.1 ∈ wsX4_whisperOf := by decide +kernel
theorem fl_X4_whisperOf_43 : Cond.fieldLink RX4 43 RX4 (TX4 6).2.1 (TX4 6).2.2.1 ∈ wsX4_whisperOf := by decide +kernel
theorem fl_X4_whisperOf_30 : Cond.fieldLink RX4 30 RX4 (TX4 3).2.1 (TX4 3).2.2.1 ∈ wsX4_whisperOf := by decide +kernel
theorem fl_X4_whisperOf_11 : Cond.fieldLink RX4 11 RX4 (TX4 0).2.1 (TX4 0).2.2.1 ∈ wsX4_whisperOf := by decide +kernel
theorem fl_X4_whisperOf_39 : Cond.fieldLink RX4 39 RX4 (TX4 4).2.1 (TX4 4).2.2.1 ∈ wsX4_whisperOf := by decide +kernel
theorem fl_X4_whisperOf_116 : Cond.fieldLink RX4 116 RX3 (TX3 4).2.1 (TX3 4).2.2.1 ∈ wsX4_whisperOf := by decide +kernel
theorem in_X4_whisperOf_X1 : ∀ w ∈ u_ws RX1 TX1 7, w ∈ wsX4_whisperOf := by decide +kernel
theorem fl_X4_whisperOf_162 : Cond.fieldLink RX4 162 RX1 (TX1 6).2.1 (TX1 6).2.2.1 ∈ wsX4_whisperOf := by decide +kernel
theorem ini_X4_whisperOf_X3_grow : Cond.initialized RX3 ∈ wsX4_whisperOf := by decide +kernel
theorem stc_X4_whisperOf_X3_grow : Cond.static yX3_grow ∈ wsX4_whisperOf := by decide +kernel
set_option maxRecDepth 100000 in
set_option maxHeartbeats 4000000 in
theorem m_X4_whisperOf (l : Launch) (D : va_G) (ad : Nat → Nat) (ct : Nat → ClassId) (x1 : Int32) (σ : ST) (Q : Nat → ST → Prop) (h : wp_X4_whisperOf x1 σ Q) : CtA l D (tysF ct) (wC ad ct) ad yX4_whisperOf wsX4_whisperOf rm_X4_whisperOf [.ref (ad 0), .int x1] σ Q := by
  refine CtA.of (wC_adr ad ct) (maxL := 3) [(0, .ref (ad 0)), (1, .int x1)] RX4 (by decide) rfl rfl (by show (lg_sl [.ref (ad 0), .int x1]).length ≤ 3; exact Nat.le_of_ble_eq_true rfl) rfl rfl rfl ?_
  intro E C hR
  unfold wp_X4_whisperOf at h
  refine x_aload_n C 1 rfl 0 dX4_whisperOf_0 rfl rfl ?_
  refine x_get C 4 rfl (ref := RX4) 0 2 (gC_J ad ct _) rfl in_X4_whisperOf_X4 (by decide) fl_X4_whisperOf_23 rfl rfl dX4_whisperOf_1 ?_
  refine x_iload_n C 5 rfl 1 dX4_whisperOf_4 rfl rfl ?_
  have i1 := h.1
  have h := h.2
  have hk2 : (Int32.toNatClampNeg x1) < 4 := Nat.not_le.mp fun q => i1 (Or.inr q)
  refine x_aald C 6 rfl (q := ad (34 + 4 * (Int32.toNatClampNeg x1))) 3 4 (gC_J_whispers ad ct _) rfl i1 rfl dX4_whisperOf_5 ?_
  refine x_astore_n C 7 rfl [(2, .ref (ad (34 + 4 * (Int32.toNatClampNeg x1)))), (0, .ref (ad 0)), (1, .int x1)] dX4_whisperOf_6 rfl (by decide) rfl ?_
  refine x_aload_n C 8 rfl 0 dX4_whisperOf_7 rfl rfl ?_
  refine x_get C 11 rfl (ref := RX3) (34 + 4 * (Int32.toNatClampNeg x1)) 5 (gC_H ad ct _ hk2) rfl in_X4_whisperOf_X3 (by decide) fl_X4_whisperOf_161 rfl rfl dX4_whisperOf_8 ?_
  refine x_aload_n C 12 rfl 1 dX4_whisperOf_11 rfl rfl ?_
  refine x_get C 15 rfl (ref := RX4) 0 6 (gC_J ad ct _) rfl in_X4_whisperOf_X4 (by decide) fl_X4_whisperOf_43 rfl rfl dX4_whisperOf_12 ?_
  refine x_icmp_eq C 74 18 dX4_whisperOf_15 (by decide) rfl (fun c15 => ?_) (fun c15 => ?_)
  · have h := h.1 c15
    refine x_aload_n C 75 rfl 0 dX4_whisperOf_74 rfl rfl ?_
    exact hR _ _ _ _ dX4_whisperOf_75 h
  · have h := h.2 c15
    refine x_aload_n C 19 rfl 1 dX4_whisperOf_18 rfl rfl ?_
    refine x_get C 22 rfl (ref := RX4) 0 3 (gC_J ad ct _) rfl in_X4_whisperOf_X4 (by decide) fl_X4_whisperOf_30 rfl rfl dX4_whisperOf_19 ?_
    refine x_aload_n C 23 rfl 1 dX4_whisperOf_22 rfl rfl ?_
    refine x_get C 26 rfl (ref := RX4) 0 0 (gC_J ad ct _) rfl in_X4_whisperOf_X4 (by decide) fl_X4_whisperOf_11 rfl rfl dX4_whisperOf_23 ?_
    refine x_aload_n C 27 rfl 1 dX4_whisperOf_26 rfl rfl ?_
    refine x_get C 30 rfl (ref := RX4) 0 4 (gC_J ad ct _) rfl in_X4_whisperOf_X4 (by decide) fl_X4_whisperOf_39 rfl rfl dX4_whisperOf_27 ?_
    refine x_aload_n C 31 rfl 1 dX4_whisperOf_30 rfl rfl ?_
    refine x_cVI C 34 rfl (m_X4_wallsNow l D ad ct _ _ h) (cwV 0 C.1.2.2.2.2 gX4_whisperOf_X4_wallsNow rfl rfl rfl (by decide +kernel) ⟨Nat.le_of_ble_eq_true rfl, Nat.le_of_ble_eq_true rfl⟩) ⟨0, 4, _, _, _, (gC_J ad ct _), rfl⟩ rfl rfl (Nat.le_of_ble_eq_true rfl) dX4_whisperOf_31 ?_
    intro r4 σ3 h
    refine x_cVV C 37 rfl (m_X1_build l D ad ct _ _ _ _ h) (cwV 3 C.1.2.2.2.2 gX4_whisperOf_X1_build rfl rfl rfl (by decide +kernel) ⟨Nat.le_of_ble_eq_true rfl, Nat.le_of_ble_eq_true rfl⟩) ⟨10, 1, _, _, _, (gC_R ad ct _), rfl⟩ rfl rfl (Nat.le_of_ble_eq_true rfl) dX4_whisperOf_34 ?_
    intro σ5 h
    refine x_aload_n C 38 rfl 0 dX4_whisperOf_37 rfl rfl ?_
    refine x_iconst C 39 rfl 0 dX4_whisperOf_38 rfl ?_
    obtain ⟨σ6, eσ6⟩ : ∃ z, z = sI σ5 (34 + 4 * (Int32.toNatClampNeg x1)) 4 0 := ⟨_, rfl⟩
    have h := h σ6 eσ6
    refine x_put C 42 rfl (ref := RX3) (ty := .int) (σ' := σ6) (34 + 4 * (Int32.toNatClampNeg x1)) 4 (gC_H ad ct _ hk2) rfl in_X4_whisperOf_X3 tyX3 tyX3_ok nmX3 (by decide) fl_X4_whisperOf_116 rfl rfl (by decide +kernel) rfl rfl (by show 4 < 6; decide) (by rw [eσ6]; exact (sC_H_many ad ct _ hk2)) dX4_whisperOf_39 ?_
    refine x_aload_n C 43 rfl 0 dX4_whisperOf_42 rfl rfl ?_
    refine x_aload_n C 44 rfl 1 dX4_whisperOf_43 rfl rfl ?_
    refine x_get C 47 rfl (ref := RX4) 0 3 (gC_J ad ct _) rfl in_X4_whisperOf_X4 (by decide) fl_X4_whisperOf_30 rfl rfl dX4_whisperOf_44 ?_
    refine x_aload_n C 48 rfl 1 dX4_whisperOf_47 rfl rfl ?_
    refine x_get C 51 rfl (ref := RX4) 0 3 (gC_J ad ct _) rfl in_X4_whisperOf_X4 (by decide) fl_X4_whisperOf_30 rfl rfl dX4_whisperOf_48 ?_
    refine x_get C 54 rfl (ref := RX1) 10 6 (gC_R ad ct _) rfl in_X4_whisperOf_X1 (by decide) fl_X4_whisperOf_162 rfl rfl dX4_whisperOf_51 ?_
    refine x_iconst C 55 rfl 0 dX4_whisperOf_54 rfl ?_
    refine x_cNV C 58 rfl (m_X3_grow l D ad ct 4 (Int32.toNatClampNeg x1) hk2 _ _ _ _ h) (va_cnB 4 C.1.2.2.2.2 ggX4_whisperOf_X3_grow rfl rfl rfl C.2.2.2.2.2.2.2.1 (C.1.2.2.2.2 _ ini_X4_whisperOf_X3_grow) (by decide +kernel) ⟨Nat.le_of_ble_eq_true rfl, Nat.le_of_ble_eq_true rfl⟩) (C.1.2.2.2.2 _ stc_X4_whisperOf_X3_grow) rfl rfl (Nat.le_of_ble_eq_true rfl) dX4_whisperOf_55 ?_
    intro σ7 h
    refine x_aload_n C 59 rfl 0 dX4_whisperOf_58 rfl rfl ?_
    refine x_aload_n C 60 rfl 1 dX4_whisperOf_59 rfl rfl ?_
    refine x_get C 63 rfl (ref := RX4) 0 3 (gC_J ad ct _) rfl in_X4_whisperOf_X4 (by decide) fl_X4_whisperOf_30 rfl rfl dX4_whisperOf_60 ?_
    refine x_cVV C 66 rfl (m_X3_addSenders l D ad ct (Int32.toNatClampNeg x1) hk2 _ _ h) (cwV 1 C.1.2.2.2.2 gX4_whisperOf_X3_addSenders rfl rfl rfl (by decide +kernel) ⟨Nat.le_of_ble_eq_true rfl, Nat.le_of_ble_eq_true rfl⟩) ⟨(34 + 4 * (Int32.toNatClampNeg x1)), 3, _, _, _, (gC_H ad ct _ hk2), rfl⟩ rfl rfl (Nat.le_of_ble_eq_true rfl) dX4_whisperOf_63 ?_
    intro σ8 h
    refine x_aload_n C 67 rfl 0 dX4_whisperOf_66 rfl rfl ?_
    refine x_aload_n C 68 rfl 1 dX4_whisperOf_67 rfl rfl ?_
    refine x_get C 71 rfl (ref := RX4) 0 6 (gC_J ad ct _) rfl in_X4_whisperOf_X4 (by decide) fl_X4_whisperOf_43 rfl rfl dX4_whisperOf_68 ?_
    obtain ⟨σ9, eσ9⟩ : ∃ z, z = sI σ8 (34 + 4 * (Int32.toNatClampNeg x1)) 5 (σ8.1 0 6) := ⟨_, rfl⟩
    have h := h σ9 eσ9
    refine x_put C 74 rfl (ref := RX3) (ty := .int) (σ' := σ9) (34 + 4 * (Int32.toNatClampNeg x1)) 5 (gC_H ad ct _ hk2) rfl in_X4_whisperOf_X3 tyX3 tyX3_ok nmX3 (by decide) fl_X4_whisperOf_161 rfl rfl (by decide +kernel) rfl rfl (by show 5 < 6; decide) (by rw [eσ9]; exact (sC_H_asOf ad ct _ hk2)) dX4_whisperOf_71 ?_
    refine x_aload_n C 75 rfl 0 dX4_whisperOf_74 rfl rfl ?_
    exact hR _ _ _ _ dX4_whisperOf_75 h
abbrev rm_X4_letters : Room := { frames := 62, cells := 0, slots := 0, locals := 1672 }
theorem in_X4_letters_X3 : ∀ w ∈ u_ws RX3 TX3 6, w ∈ wsX4_letters := by decide +kernel
theorem fl_X4_letters_116 : Cond.fieldLink RX4 116 RX3 (TX3 4).2.1 (TX3 4).2.2.1 ∈ wsX4_letters := by decide +kernel
set_option maxRecDepth 100000 in
set_option maxHeartbeats 4000000 in
theorem m_X4_letters (l : Launch) (D : va_G) (ad : Nat → Nat) (ct : Nat → ClassId) (x1 : Int32) (σ : ST) (Q : Int32 → ST → Prop) (h : wp_X4_letters x1 σ Q) : CtI l D (tysF ct) (wC ad ct) yX4_letters wsX4_letters rm_X4_letters [.ref (ad 0), .int x1] σ Q := by
  refine CtI.of (wC_adr ad ct) (maxL := 2) [(0, .ref (ad 0)), (1, .int x1)] RX4 (by decide) rfl rfl (by show (lg_sl [.ref (ad 0), .int x1]).length ≤ 2; exact Nat.le_of_ble_eq_true rfl) rfl rfl rfl ?_
  intro E C hR
  unfold wp_X4_letters at h
  refine x_iload_n C 1 rfl 1 dX4_letters_0 rfl rfl ?_
  refine x_if_lt C 9 4 dX4_letters_1 (by decide) rfl (fun c1 => ?_) (fun c1 => ?_)
  · have h := h.1 c1
    refine x_iconst C 10 rfl (-1) dX4_letters_9 rfl ?_
    refine x_goto C 21 dX4_letters_10 (by decide) ?_
    exact hR _ _ _ _ dX4_letters_21 h
  · have h := h.2 c1
    refine x_iload_n C 5 rfl 1 dX4_letters_4 rfl rfl ?_
    refine x_iconst C 6 rfl 3 dX4_letters_5 rfl ?_
    refine x_icmp_le C 13 9 dX4_letters_6 (by decide) rfl (fun c6 => ?_) (fun c6 => ?_)
    · have h := h.1 c6
      refine x_aload_n C 14 rfl 0 dX4_letters_13 rfl rfl ?_
      refine x_iload_n C 15 rfl 1 dX4_letters_14 rfl rfl ?_
      refine x_cVA C 18 rfl (m_X4_whisperOf l D ad ct _ _ _ h) (cwV 1 C.1.2.2.2.2 gX4_letters_X4_whisperOf rfl rfl rfl (by decide +kernel) ⟨Nat.le_of_ble_eq_true rfl, Nat.le_of_ble_eq_true rfl⟩) ⟨0, 4, _, _, _, (gC_J ad ct _), rfl⟩ rfl rfl (Nat.le_of_ble_eq_true rfl) dX4_letters_15 ?_
      intro r2 σ1 h
      obtain ⟨kk3, hk4, he, h⟩ := h
      subst he
      refine x_get C 21 rfl (ref := RX3) (34 + 4 * kk3) 4 (gC_H ad ct _ hk4) rfl in_X4_letters_X3 (by decide) fl_X4_letters_116 rfl rfl dX4_letters_18 ?_
      exact hR _ _ _ _ dX4_letters_21 h
    · have h := h.2 c6
      refine x_iconst C 10 rfl (-1) dX4_letters_9 rfl ?_
      refine x_goto C 21 dX4_letters_10 (by decide) ?_
      exact hR _ _ _ _ dX4_letters_21 h
abbrev rm_X4_letter : Room := { frames := 62, cells := 0, slots := 0, locals := 1672 }
theorem in_X4_letter_X3 : ∀ w ∈ u_ws RX3 TX3 6, w ∈ wsX4_letter := by decide +kernel
theorem fl_X4_letter_116 : Cond.fieldLink RX4 116 RX3 (TX3 4).2.1 (TX3 4).2.2.1 ∈ wsX4_letter := by decide +kernel
theorem fl_X4_letter_119 : Cond.fieldLink RX4 119 RX3 (TX3 0).2.1 (TX3 0).2.2.1 ∈ wsX4_letter := by decide +kernel
set_option maxRecDepth 100000 in
set_option maxHeartbeats 4000000 in
theorem m_X4_letter (l : Launch) (D : va_G) (ad : Nat → Nat) (ct : Nat → ClassId) (x1 : Int32) (x2 : Int32) (x3 : Int32) (x4 : Int32) (σ : ST) (Q : Int32 → ST → Prop) (h : wp_X4_letter x1 x2 x3 x4 σ Q) : CtI l D (tysF ct) (wC ad ct) yX4_letter wsX4_letter rm_X4_letter [.ref (ad 0), .int x1, .int x2, .int x3, .int x4] σ Q := by
  refine CtI.of (wC_adr ad ct) (maxL := 5) [(0, .ref (ad 0)), (1, .int x1), (2, .int x2), (3, .int x3), (4, .int x4)] RX4 (by decide) rfl rfl (by show (lg_sl [.ref (ad 0), .int x1, .int x2, .int x3, .int x4]).length ≤ 5; exact Nat.le_of_ble_eq_true rfl) rfl rfl rfl ?_
  intro E C hR
  unfold wp_X4_letter at h
  refine x_iload_n C 1 rfl 1 dX4_letter_0 rfl rfl ?_
  refine x_if_lt C 25 4 dX4_letter_1 (by decide) rfl (fun c1 => ?_) (fun c1 => ?_)
  · have h := h.1 c1
    refine x_iconst C 26 rfl (-1) dX4_letter_25 rfl ?_
    exact hR _ _ _ _ dX4_letter_26 h
  · have h := h.2 c1
    refine x_iload_n C 5 rfl 1 dX4_letter_4 rfl rfl ?_
    refine x_iconst C 6 rfl 3 dX4_letter_5 rfl ?_
    refine x_icmp_gt C 25 9 dX4_letter_6 (by decide) rfl (fun c6 => ?_) (fun c6 => ?_)
    · have h := h.1 c6
      refine x_iconst C 26 rfl (-1) dX4_letter_25 rfl ?_
      exact hR _ _ _ _ dX4_letter_26 h
    · have h := h.2 c6
      refine x_iload_n C 10 rfl 2 dX4_letter_9 rfl rfl ?_
      refine x_if_lt C 25 13 dX4_letter_10 (by decide) rfl (fun c10 => ?_) (fun c10 => ?_)
      · have h := h.1 c10
        refine x_iconst C 26 rfl (-1) dX4_letter_25 rfl ?_
        exact hR _ _ _ _ dX4_letter_26 h
      · have h := h.2 c10
        refine x_iload_n C 14 rfl 2 dX4_letter_13 rfl rfl ?_
        refine x_aload_n C 15 rfl 0 dX4_letter_14 rfl rfl ?_
        refine x_iload_n C 16 rfl 1 dX4_letter_15 rfl rfl ?_
        refine x_cVA C 19 rfl (m_X4_whisperOf l D ad ct _ _ _ h) (cwV 1 C.1.2.2.2.2 gX4_letter_X4_whisperOf rfl rfl rfl (by decide +kernel) ⟨Nat.le_of_ble_eq_true rfl, Nat.le_of_ble_eq_true rfl⟩) ⟨0, 4, _, _, _, (gC_J ad ct _), rfl⟩ rfl rfl (Nat.le_of_ble_eq_true rfl) dX4_letter_16 ?_
        intro r2 σ1 h
        obtain ⟨kk3, hk4, he, h⟩ := h
        subst he
        refine x_get C 22 rfl (ref := RX3) (34 + 4 * kk3) 4 (gC_H ad ct _ hk4) rfl in_X4_letter_X3 (by decide) fl_X4_letter_116 rfl rfl dX4_letter_19 ?_
        refine x_icmp_lt C 27 25 dX4_letter_22 (by decide) rfl (fun c22 => ?_) (fun c22 => ?_)
        · have h := h.1 c22
          refine x_iload_n C 28 rfl 3 dX4_letter_27 rfl rfl ?_
          refine x_if_lt C 47 31 dX4_letter_28 (by decide) rfl (fun c28 => ?_) (fun c28 => ?_)
          · have h := h.1 c28
            refine x_iconst C 48 rfl (-1) dX4_letter_47 rfl ?_
            exact hR _ _ _ _ dX4_letter_48 h
          · have h := h.2 c28
            refine x_iload_n C 32 rfl 3 dX4_letter_31 rfl rfl ?_
            refine x_iload_n C 33 rfl 1 dX4_letter_32 rfl rfl ?_
            refine x_icmp_ge C 47 36 dX4_letter_33 (by decide) rfl (fun c33 => ?_) (fun c33 => ?_)
            · have h := h.1 c33
              refine x_iconst C 48 rfl (-1) dX4_letter_47 rfl ?_
              exact hR _ _ _ _ dX4_letter_48 h
            · have h := h.2 c33
              refine x_iload C 38 rfl 4 dX4_letter_36 rfl ?_
              refine x_if_lt C 47 41 dX4_letter_38 (by decide) rfl (fun c38 => ?_) (fun c38 => ?_)
              · have h := h.1 c38
                refine x_iconst C 48 rfl (-1) dX4_letter_47 rfl ?_
                exact hR _ _ _ _ dX4_letter_48 h
              · have h := h.2 c38
                refine x_iload C 43 rfl 4 dX4_letter_41 rfl ?_
                refine x_iconst C 44 rfl 3 dX4_letter_43 rfl ?_
                refine x_icmp_lt C 49 47 dX4_letter_44 (by decide) rfl (fun c44 => ?_) (fun c44 => ?_)
                · have h := h.1 c44
                  refine x_aload_n C 50 rfl 0 dX4_letter_49 rfl rfl ?_
                  refine x_iload_n C 51 rfl 1 dX4_letter_50 rfl rfl ?_
                  refine x_cVA C 54 rfl (m_X4_whisperOf l D ad ct _ _ _ h) (cwV 1 C.1.2.2.2.2 gX4_letter_X4_whisperOf rfl rfl rfl (by decide +kernel) ⟨Nat.le_of_ble_eq_true rfl, Nat.le_of_ble_eq_true rfl⟩) ⟨0, 4, _, _, _, (gC_J ad ct _), rfl⟩ rfl rfl (Nat.le_of_ble_eq_true rfl) dX4_letter_51 ?_
                  intro r6 σ5 h
                  obtain ⟨kk7, hk8, he, h⟩ := h
                  subst he
                  refine x_get C 57 rfl (ref := RX3) (34 + 4 * kk7) 0 (gC_H ad ct _ hk8) rfl in_X4_letter_X3 (by decide) fl_X4_letter_119 rfl rfl dX4_letter_54 ?_
                  refine x_iload_n C 58 rfl 2 dX4_letter_57 rfl rfl ?_
                  refine x_iload_n C 59 rfl 3 dX4_letter_58 rfl rfl ?_
                  refine x_cSI C 62 rfl (m_X3_place l D ad ct _ _ _ _ h) (va_cwS 2 C.1.2.2.2.2 gX4_letter_X3_place rfl rfl rfl (by decide +kernel) ⟨Nat.le_of_ble_eq_true rfl, Nat.le_of_ble_eq_true rfl⟩) rfl rfl (Nat.le_of_ble_eq_true rfl) dX4_letter_59 ?_
                  intro r10 σ9 h
                  refine x_iload C 64 rfl 4 dX4_letter_62 rfl ?_
                  refine x_iadd C 65 rfl dX4_letter_64 ?_
                  have i11 := h.1
                  have h := h.2
                  refine x_iald C 66 rfl (35 + 4 * kk7) 0 (gC_H_rows ad ct _ hk8) rfl i11 dX4_letter_65 ?_
                  exact hR _ _ _ _ dX4_letter_66 h
                · have h := h.2 c44
                  refine x_iconst C 48 rfl (-1) dX4_letter_47 rfl ?_
                  exact hR _ _ _ _ dX4_letter_48 h
        · have h := h.2 c22
          refine x_iconst C 26 rfl (-1) dX4_letter_25 rfl ?_
          exact hR _ _ _ _ dX4_letter_26 h
abbrev rm_X4_begin : Room := { frames := 0, cells := 0, slots := 0, locals := 0 }
theorem in_X4_begin_X4 : ∀ w ∈ u_ws RX4 TX4 7, w ∈ wsX4_begin := by decide +kernel
theorem fl_X4_begin_39 : Cond.fieldLink RX4 39 RX4 (TX4 4).2.1 (TX4 4).2.2.1 ∈ wsX4_begin := by decide +kernel
theorem fl_X4_begin_11 : Cond.fieldLink RX4 11 RX4 (TX4 0).2.1 (TX4 0).2.2.1 ∈ wsX4_begin := by decide +kernel
theorem in_X4_begin_X2 : ∀ w ∈ u_ws RX2 TX2 9, w ∈ wsX4_begin := by decide +kernel
theorem fl_X4_begin_83 : Cond.fieldLink RX4 83 RX2 (TX2 2).2.1 (TX2 2).2.2.1 ∈ wsX4_begin := by decide +kernel
theorem fl_X4_begin_124 : Cond.fieldLink RX4 124 RX2 (TX2 6).2.1 (TX2 6).2.2.1 ∈ wsX4_begin := by decide +kernel
theorem fl_X4_begin_127 : Cond.fieldLink RX4 127 RX4 (TX4 5).2.1 (TX4 5).2.2.1 ∈ wsX4_begin := by decide +kernel
set_option maxRecDepth 100000 in
set_option maxHeartbeats 4000000 in
theorem v_X4_begin_L2 {l : Launch} {D : va_G} {ad : Nat → Nat} {ct : Nat → ClassId} {E : XE}  {Q : ST → Prop} (C : XFix D (tysF ct) (wC ad ct) rm_X4_begin 2 E cX4_begin RX4 wsX4_begin) {K : ST → Prop} (hK : ∀ (σ : ST), K σ → V l D (tysF ct) (wC ad ct) rm_X4_begin 2 E 34 [(0, .ref (ad 0))] [] σ) (hR : RetV l D (tysF ct) (wC ad ct) rm_X4_begin 2 E cX4_begin Q) :
    ∀ (n : Nat) (x1 : Int32) (σ : ST), wp_X4_begin_L2 K Q n x1 σ → V l D (tysF ct) (wC ad ct) rm_X4_begin 2 E 2 [(0, .ref (ad 0)), (1, .int x1)] [] σ := by
  intro n
  induction n with
  | zero => intro x1 σ h; exact (h : False).elim
  | succ n ih =>
    intro x1 σ h
    unfold wp_X4_begin_L2 at h
    refine x_iload_n C 3 rfl 1 dX4_begin_2 rfl rfl ?_
    refine x_aload_n C 4 rfl 0 dX4_begin_3 rfl rfl ?_
    refine x_get C 7 rfl (ref := RX4) 0 4 (gC_J ad ct _) rfl in_X4_begin_X4 (by decide) fl_X4_begin_39 rfl rfl dX4_begin_4 ?_
    refine x_icmp_ge C 34 10 dX4_begin_7 (by decide) rfl (fun c7 => ?_) (fun c7 => ?_)
    · have h := h.1 c7
      refine x_sub (lv' := [(0, .ref (ad 0))]) [0] rfl ?_
      exact hK  _ h
    · have h := h.2 c7
      refine x_aload_n C 11 rfl 0 dX4_begin_10 rfl rfl ?_
      refine x_get C 14 rfl (ref := RX4) 0 0 (gC_J ad ct _) rfl in_X4_begin_X4 (by decide) fl_X4_begin_11 rfl rfl dX4_begin_11 ?_
      refine x_iload_n C 15 rfl 1 dX4_begin_14 rfl rfl ?_
      have i1 := h.1
      have h := h.2
      have hk2 : (Int32.toNatClampNeg x1) < 3 := Nat.not_le.mp fun q => i1 (Or.inr q)
      refine x_aald C 16 rfl (q := ad (4 + 2 * (Int32.toNatClampNeg x1))) 1 2 (gC_J_things ad ct _) rfl i1 rfl dX4_begin_15 ?_
      refine x_aload_n C 17 rfl 0 dX4_begin_16 rfl rfl ?_
      refine x_get C 20 rfl (ref := RX4) 0 0 (gC_J ad ct _) rfl in_X4_begin_X4 (by decide) fl_X4_begin_11 rfl rfl dX4_begin_17 ?_
      refine x_iload_n C 21 rfl 1 dX4_begin_20 rfl rfl ?_
      have hk3 : (Int32.toNatClampNeg x1) < 3 := Nat.not_le.mp fun q => i1 (Or.inr q)
      refine x_aald C 22 rfl (q := ad (4 + 2 * (Int32.toNatClampNeg x1))) 1 2 (gC_J_things ad ct _) rfl i1 rfl dX4_begin_21 ?_
      refine x_get C 25 rfl (ref := RX2) (4 + 2 * (Int32.toNatClampNeg x1)) 2 (gC_T ad ct _ hk3) rfl in_X4_begin_X2 (by decide) fl_X4_begin_83 rfl rfl dX4_begin_22 ?_
      obtain ⟨σ4, eσ4⟩ : ∃ z, z = sI σ (4 + 2 * (Int32.toNatClampNeg x1)) 6 (σ.1 (4 + 2 * (Int32.toNatClampNeg x1)) 2) := ⟨_, rfl⟩
      have h := h σ4 eσ4
      refine x_put C 28 rfl (ref := RX2) (ty := .int) (σ' := σ4) (4 + 2 * (Int32.toNatClampNeg x1)) 6 (gC_T ad ct _ hk2) rfl in_X4_begin_X2 tyX2 tyX2_ok nmX2 (by decide) fl_X4_begin_124 rfl rfl (by decide +kernel) rfl rfl (by show 6 < 9; decide) (by rw [eσ4]; exact (sC_T_now ad ct _ hk2)) dX4_begin_25 ?_
      refine x_iinc C 31 rfl 1 (x1 + 1) [(1, .int (x1 + 1)), (0, .ref (ad 0))] dX4_begin_28 rfl rfl (by decide) rfl ?_
      refine x_goto C 2 dX4_begin_31 (by decide) ?_
      refine x_sub (lv' := [(0, .ref (ad 0)), (1, .int (x1 + 1))]) [1, 0] rfl ?_
      exact ih _ _ h
set_option maxRecDepth 100000 in
set_option maxHeartbeats 4000000 in
theorem m_X4_begin (l : Launch) (D : va_G) (ad : Nat → Nat) (ct : Nat → ClassId) (σ : ST) (Q : ST → Prop) (h : wp_X4_begin σ Q) : CtV l D (tysF ct) (wC ad ct) yX4_begin wsX4_begin rm_X4_begin [.ref (ad 0)] σ Q := by
  refine CtV.of (wC_adr ad ct) (maxL := 2) [(0, .ref (ad 0))] RX4 (by decide) rfl rfl (by show (lg_sl [.ref (ad 0)]).length ≤ 2; exact Nat.le_of_ble_eq_true rfl) rfl rfl rfl ?_
  intro E C hR
  unfold wp_X4_begin at h
  refine x_iconst C 1 rfl 0 dX4_begin_0 rfl ?_
  refine x_istore_n C 2 rfl [(1, .int 0), (0, .ref (ad 0))] dX4_begin_1 rfl (by decide) rfl ?_
  refine x_sub (lv' := [(0, .ref (ad 0)), (1, .int 0)]) [1, 0] rfl ?_
  obtain ⟨n5, h⟩ := h
  refine v_X4_begin_L2 C ?_ hR n5 _ _ h
  · intro σ6 h
    refine x_aload_n C 35 rfl 0 dX4_begin_34 rfl rfl ?_
    refine x_iconst C 36 rfl 0 dX4_begin_35 rfl ?_
    obtain ⟨σ7, eσ7⟩ : ∃ z, z = sI σ6 0 5 0 := ⟨_, rfl⟩
    have h := h σ7 eσ7
    refine x_put C 39 rfl (ref := RX4) (ty := .int) (σ' := σ7) 0 5 (gC_J ad ct _) rfl in_X4_begin_X4 tyX4 tyX4_ok nmX4 (by decide) fl_X4_begin_127 rfl rfl (by decide +kernel) rfl rfl (by show 5 < 7; decide) (by rw [eσ7]; exact (sC_J_ticks ad ct _)) dX4_begin_36 ?_
    exact hR _ _ _ dX4_begin_39 h
abbrev rm_X4_isAct : Room := { frames := 0, cells := 0, slots := 0, locals := 0 }
theorem in_X4_isAct_X4 : ∀ w ∈ u_ws RX4 TX4 7, w ∈ wsX4_isAct := by decide +kernel
theorem fl_X4_isAct_39 : Cond.fieldLink RX4 39 RX4 (TX4 4).2.1 (TX4 4).2.2.1 ∈ wsX4_isAct := by decide +kernel
set_option maxRecDepth 100000 in
set_option maxHeartbeats 4000000 in
theorem m_X4_isAct (l : Launch) (D : va_G) (ad : Nat → Nat) (ct : Nat → ClassId) (x1 : Int32) (σ : ST) (Q : Int32 → ST → Prop) (h : wp_X4_isAct x1 σ Q) : CtI l D (tysF ct) (wC ad ct) yX4_isAct wsX4_isAct rm_X4_isAct [.ref (ad 0), .int x1] σ Q := by
  refine CtI.ofZ (wC_adr ad ct) (maxL := 2) [(0, .ref (ad 0)), (1, .int x1)] RX4 (by decide) rfl rfl (by show (lg_sl [.ref (ad 0), .int x1]).length ≤ 2; exact Nat.le_of_ble_eq_true rfl) rfl rfl rfl ?_
  intro E C hR
  unfold wp_X4_isAct at h
  refine x_iload_n C 1 rfl 1 dX4_isAct_0 rfl rfl ?_
  refine x_bipush C 3 rfl 9 dX4_isAct_1 rfl ?_
  refine x_icmp_eq C 20 6 dX4_isAct_3 (by decide) rfl (fun c3 => ?_) (fun c3 => ?_)
  · have h := h.1 c3
    refine x_iconst C 21 rfl 1 dX4_isAct_20 rfl ?_
    refine x_goto C 25 dX4_isAct_21 (by decide) ?_
    exact hR _ _ _ _ dX4_isAct_25 (by decide) h
  · have h := h.2 c3
    refine x_iload_n C 7 rfl 1 dX4_isAct_6 rfl rfl ?_
    refine x_if_lt C 24 10 dX4_isAct_7 (by decide) rfl (fun c7 => ?_) (fun c7 => ?_)
    · have h := h.1 c7
      refine x_iconst C 25 rfl 0 dX4_isAct_24 rfl ?_
      exact hR _ _ _ _ dX4_isAct_25 (by decide) h
    · have h := h.2 c7
      refine x_iload_n C 11 rfl 1 dX4_isAct_10 rfl rfl ?_
      refine x_iconst C 12 rfl 3 dX4_isAct_11 rfl ?_
      refine x_aload_n C 13 rfl 0 dX4_isAct_12 rfl rfl ?_
      refine x_get C 16 rfl (ref := RX4) 0 4 (gC_J ad ct _) rfl in_X4_isAct_X4 (by decide) fl_X4_isAct_39 rfl rfl dX4_isAct_13 ?_
      refine x_imul C 17 rfl dX4_isAct_16 ?_
      refine x_icmp_ge C 24 20 dX4_isAct_17 (by decide) rfl (fun c17 => ?_) (fun c17 => ?_)
      · have h := h.1 c17
        refine x_iconst C 25 rfl 0 dX4_isAct_24 rfl ?_
        exact hR _ _ _ _ dX4_isAct_25 (by decide) h
      · have h := h.2 c17
        refine x_iconst C 21 rfl 1 dX4_isAct_20 rfl ?_
        refine x_goto C 25 dX4_isAct_21 (by decide) ?_
        exact hR _ _ _ _ dX4_isAct_25 (by decide) h
abbrev rm_X4_run : Room := { frames := 5, cells := 0, slots := 0, locals := 127 }
theorem in_X4_run_X4 : ∀ w ∈ u_ws RX4 TX4 7, w ∈ wsX4_run := by decide +kernel
theorem fl_X4_run_30 : Cond.fieldLink RX4 30 RX4 (TX4 3).2.1 (TX4 3).2.2.1 ∈ wsX4_run := by decide +kernel
theorem fl_X4_run_11 : Cond.fieldLink RX4 11 RX4 (TX4 0).2.1 (TX4 0).2.2.1 ∈ wsX4_run := by decide +kernel
theorem fl_X4_run_39 : Cond.fieldLink RX4 39 RX4 (TX4 4).2.1 (TX4 4).2.2.1 ∈ wsX4_run := by decide +kernel
theorem in_X4_run_X2 : ∀ w ∈ u_ws RX2 TX2 9, w ∈ wsX4_run := by decide +kernel
theorem fl_X4_run_124 : Cond.fieldLink RX4 124 RX2 (TX2 6).2.1 (TX2 6).2.2.1 ∈ wsX4_run := by decide +kernel
theorem fl_X4_run_127 : Cond.fieldLink RX4 127 RX4 (TX4 5).2.1 (TX4 5).2.2.1 ∈ wsX4_run := by decide +kernel
set_option maxRecDepth 100000 in
set_option maxHeartbeats 4000000 in
theorem v_X4_run_L39 {l : Launch} {D : va_G} {ad : Nat → Nat} {ct : Nat → ClassId} {E : XE}  {Q : Int32 → ST → Prop} (C : XFix D (tysF ct) (wC ad ct) rm_X4_run 5 E cX4_run RX4 wsX4_run) (x1 : Int32) (x2 : Int32) {K : ST → Prop} (hK : ∀ (σ : ST), K σ → V l D (tysF ct) (wC ad ct) rm_X4_run 5 E 101 [(0, .ref (ad 0)), (2, .int x2)] [] σ) (hR : RetI l D (tysF ct) (wC ad ct) rm_X4_run 5 E cX4_run Q) :
    ∀ (n : Nat) (x3 : Int32) (σ : ST), wp_X4_run_L39 x1 x2 K Q n x3 σ → V l D (tysF ct) (wC ad ct) rm_X4_run 5 E 39 [(0, .ref (ad 0)), (1, .int x1), (2, .int x2), (3, .int x3)] [] σ := by
  intro n
  induction n with
  | zero => intro x3 σ h; exact (h : False).elim
  | succ n ih =>
    intro x3 σ h
    unfold wp_X4_run_L39 at h
    refine x_iload_n C 40 rfl 3 dX4_run_39 rfl rfl ?_
    refine x_aload_n C 41 rfl 0 dX4_run_40 rfl rfl ?_
    refine x_get C 44 rfl (ref := RX4) 0 4 (gC_J ad ct _) rfl in_X4_run_X4 (by decide) fl_X4_run_39 rfl rfl dX4_run_41 ?_
    refine x_icmp_ge C 101 47 dX4_run_44 (by decide) rfl (fun c44 => ?_) (fun c44 => ?_)
    · have h := h.1 c44
      refine x_sub (lv' := [(0, .ref (ad 0)), (2, .int x2)]) [0, 2] rfl ?_
      exact hK  _ h
    · have h := h.2 c44
      refine x_iload_n C 48 rfl 1 dX4_run_47 rfl rfl ?_
      refine x_iconst C 49 rfl 3 dX4_run_48 rfl ?_
      refine x_idiv C 50 rfl dX4_run_49 (by decide) ?_
      refine x_iload_n C 51 rfl 3 dX4_run_50 rfl rfl ?_
      refine x_icmp_ne C 60 54 dX4_run_51 (by decide) rfl (fun c51 => ?_) (fun c51 => ?_)
      · have h := h.1 c51
        refine x_iconst C 61 rfl 3 dX4_run_60 rfl ?_
        refine x_istore C 63 rfl [(4, .int 3), (0, .ref (ad 0)), (1, .int x1), (2, .int x2), (3, .int x3)] dX4_run_61 (by decide) rfl ?_
        refine x_aload_n C 64 rfl 1 dX4_run_63 rfl rfl ?_
        refine x_get C 67 rfl (ref := RX4) 0 0 (gC_J ad ct _) rfl in_X4_run_X4 (by decide) fl_X4_run_11 rfl rfl dX4_run_64 ?_
        refine x_iload_n C 68 rfl 4 dX4_run_67 rfl rfl ?_
        have i8 := h.1
        have h := h.2
        have hk9 : (Int32.toNatClampNeg x3) < 3 := Nat.not_le.mp fun q => i8 (Or.inr q)
        refine x_aald C 69 rfl (q := ad (4 + 2 * (Int32.toNatClampNeg x3))) 1 2 (gC_J_things ad ct _) rfl i8 rfl dX4_run_68 ?_
        refine x_aload_n C 70 rfl 1 dX4_run_69 rfl rfl ?_
        refine x_get C 73 rfl (ref := RX4) 0 3 (gC_J ad ct _) rfl in_X4_run_X4 (by decide) fl_X4_run_30 rfl rfl dX4_run_70 ?_
        refine x_iload_n C 74 rfl 4 dX4_run_73 rfl rfl ?_
        refine x_aload_n C 75 rfl 1 dX4_run_74 rfl rfl ?_
        refine x_get C 78 rfl (ref := RX4) 0 0 (gC_J ad ct _) rfl in_X4_run_X4 (by decide) fl_X4_run_11 rfl rfl dX4_run_75 ?_
        refine x_iload_n C 79 rfl 4 dX4_run_78 rfl rfl ?_
        have hk10 : (Int32.toNatClampNeg x3) < 3 := Nat.not_le.mp fun q => i8 (Or.inr q)
        refine x_aald C 80 rfl (q := ad (4 + 2 * (Int32.toNatClampNeg x3))) 1 2 (gC_J_things ad ct _) rfl i8 rfl dX4_run_79 ?_
        refine x_get C 83 rfl (ref := RX2) (4 + 2 * (Int32.toNatClampNeg x3)) 6 (gC_T ad ct _ hk10) rfl in_X4_run_X2 (by decide) fl_X4_run_124 rfl rfl dX4_run_80 ?_
        refine x_iload C 85 rfl 0 dX4_run_83 rfl ?_
        refine x_aload_n C 86 rfl 1 dX4_run_85 rfl rfl ?_
        refine x_get C 89 rfl (ref := RX4) 0 5 (gC_J ad ct _) rfl in_X4_run_X4 (by decide) fl_X4_run_127 rfl rfl dX4_run_86 ?_
        refine x_cVI C 92 rfl (m_X1_met l D ad ct _ _ _ _ _ _ h) (cwV 4 C.1.2.2.2.2 gX4_run_X1_met rfl rfl rfl (by decide +kernel) ⟨Nat.le_of_ble_eq_true rfl, Nat.le_of_ble_eq_true rfl⟩) ⟨10, 1, _, _, _, (gC_R ad ct _), rfl⟩ rfl rfl (Nat.le_of_ble_eq_true rfl) dX4_run_89 ?_
        intro r12 σ11 h
        obtain ⟨σ13, eσ13⟩ : ∃ z, z = sI σ11 (4 + 2 * (Int32.toNatClampNeg x3)) 6 r12 := ⟨_, rfl⟩
        have h := h σ13 eσ13
        refine x_put C 95 rfl (ref := RX2) (ty := .int) (σ' := σ13) (4 + 2 * (Int32.toNatClampNeg x3)) 6 (gC_T ad ct _ hk9) rfl in_X4_run_X2 tyX2 tyX2_ok nmX2 (by decide) fl_X4_run_124 rfl rfl (by decide +kernel) rfl rfl (by show 6 < 9; decide) (by rw [eσ13]; exact (sC_T_now ad ct _ hk9)) dX4_run_92 ?_
        refine x_iinc C 98 rfl 4 (x3 + 1) [(3, .int (x3 + 1)), (4, .int 3), (0, .ref (ad 0)), (1, .int x1), (2, .int x2)] dX4_run_95 rfl rfl (by decide) rfl ?_
        refine x_goto C 39 dX4_run_98 (by decide) ?_
        refine x_sub (lv' := [(0, .ref (ad 0)), (1, .int x1), (2, .int x2), (3, .int (x3 + 1))]) [2, 3, 4, 0] rfl ?_
        exact ih _ _ h
      · have h := h.2 c51
        refine x_iload_n C 55 rfl 1 dX4_run_54 rfl rfl ?_
        refine x_iconst C 56 rfl 3 dX4_run_55 rfl ?_
        refine x_irem C 57 rfl dX4_run_56 (by decide) ?_
        refine x_goto C 61 dX4_run_57 (by decide) ?_
        refine x_istore C 63 rfl [(4, .int (x1 - x1 / 3 * 3)), (0, .ref (ad 0)), (1, .int x1), (2, .int x2), (3, .int x3)] dX4_run_61 (by decide) rfl ?_
        refine x_aload_n C 64 rfl 1 dX4_run_63 rfl rfl ?_
        refine x_get C 67 rfl (ref := RX4) 0 0 (gC_J ad ct _) rfl in_X4_run_X4 (by decide) fl_X4_run_11 rfl rfl dX4_run_64 ?_
        refine x_iload_n C 68 rfl 4 dX4_run_67 rfl rfl ?_
        have i14 := h.1
        have h := h.2
        have hk15 : (Int32.toNatClampNeg x3) < 3 := Nat.not_le.mp fun q => i14 (Or.inr q)
        refine x_aald C 69 rfl (q := ad (4 + 2 * (Int32.toNatClampNeg x3))) 1 2 (gC_J_things ad ct _) rfl i14 rfl dX4_run_68 ?_
        refine x_aload_n C 70 rfl 1 dX4_run_69 rfl rfl ?_
        refine x_get C 73 rfl (ref := RX4) 0 3 (gC_J ad ct _) rfl in_X4_run_X4 (by decide) fl_X4_run_30 rfl rfl dX4_run_70 ?_
        refine x_iload_n C 74 rfl 4 dX4_run_73 rfl rfl ?_
        refine x_aload_n C 75 rfl 1 dX4_run_74 rfl rfl ?_
        refine x_get C 78 rfl (ref := RX4) 0 0 (gC_J ad ct _) rfl in_X4_run_X4 (by decide) fl_X4_run_11 rfl rfl dX4_run_75 ?_
        refine x_iload_n C 79 rfl 4 dX4_run_78 rfl rfl ?_
        have hk16 : (Int32.toNatClampNeg x3) < 3 := Nat.not_le.mp fun q => i14 (Or.inr q)
        refine x_aald C 80 rfl (q := ad (4 + 2 * (Int32.toNatClampNeg x3))) 1 2 (gC_J_things ad ct _) rfl i14 rfl dX4_run_79 ?_
        refine x_get C 83 rfl (ref := RX2) (4 + 2 * (Int32.toNatClampNeg x3)) 6 (gC_T ad ct _ hk16) rfl in_X4_run_X2 (by decide) fl_X4_run_124 rfl rfl dX4_run_80 ?_
        refine x_iload C 85 rfl 0 dX4_run_83 rfl ?_
        refine x_aload_n C 86 rfl 1 dX4_run_85 rfl rfl ?_
        refine x_get C 89 rfl (ref := RX4) 0 5 (gC_J ad ct _) rfl in_X4_run_X4 (by decide) fl_X4_run_127 rfl rfl dX4_run_86 ?_
        refine x_cVI C 92 rfl (m_X1_met l D ad ct _ _ _ _ _ _ h) (cwV 4 C.1.2.2.2.2 gX4_run_X1_met rfl rfl rfl (by decide +kernel) ⟨Nat.le_of_ble_eq_true rfl, Nat.le_of_ble_eq_true rfl⟩) ⟨10, 1, _, _, _, (gC_R ad ct _), rfl⟩ rfl rfl (Nat.le_of_ble_eq_true rfl) dX4_run_89 ?_
        intro r18 σ17 h
        obtain ⟨σ19, eσ19⟩ : ∃ z, z = sI σ17 (4 + 2 * (Int32.toNatClampNeg x3)) 6 r18 := ⟨_, rfl⟩
        have h := h σ19 eσ19
        refine x_put C 95 rfl (ref := RX2) (ty := .int) (σ' := σ19) (4 + 2 * (Int32.toNatClampNeg x3)) 6 (gC_T ad ct _ hk15) rfl in_X4_run_X2 tyX2 tyX2_ok nmX2 (by decide) fl_X4_run_124 rfl rfl (by decide +kernel) rfl rfl (by show 6 < 9; decide) (by rw [eσ19]; exact (sC_T_now ad ct _ hk15)) dX4_run_92 ?_
        refine x_iinc C 98 rfl 4 (x3 + 1) [(3, .int (x3 + 1)), (4, .int (x1 - x1 / 3 * 3)), (0, .ref (ad 0)), (1, .int x1), (2, .int x2)] dX4_run_95 rfl rfl (by decide) rfl ?_
        refine x_goto C 39 dX4_run_98 (by decide) ?_
        refine x_sub (lv' := [(0, .ref (ad 0)), (1, .int x1), (2, .int x2), (3, .int (x3 + 1))]) [2, 3, 4, 0] rfl ?_
        exact ih _ _ h
set_option maxRecDepth 100000 in
set_option maxHeartbeats 4000000 in
theorem m_X4_run (l : Launch) (D : va_G) (ad : Nat → Nat) (ct : Nat → ClassId) (x1 : Int32) (x2 : Int32) (σ : ST) (Q : Int32 → ST → Prop) (h : wp_X4_run x1 x2 σ Q) : CtI l D (tysF ct) (wC ad ct) yX4_run wsX4_run rm_X4_run [.ref (ad 0), .int x1, .int x2] σ Q := by
  refine CtI.of (wC_adr ad ct) (maxL := 5) [(0, .ref (ad 0)), (1, .int x1), (2, .int x2)] RX4 (by decide) rfl rfl (by show (lg_sl [.ref (ad 0), .int x1, .int x2]).length ≤ 5; exact Nat.le_of_ble_eq_true rfl) rfl rfl rfl ?_
  intro E C hR
  unfold wp_X4_run at h
  refine x_aload_n C 1 rfl 0 dX4_run_0 rfl rfl ?_
  refine x_iload_n C 2 rfl 1 dX4_run_1 rfl rfl ?_
  refine x_cVI C 5 rfl (m_X4_isAct l D ad ct _ _ _ h) (cwV 1 C.1.2.2.2.2 gX4_run_X4_isAct rfl rfl rfl (by decide +kernel) ⟨Nat.le_of_ble_eq_true rfl, Nat.le_of_ble_eq_true rfl⟩) ⟨0, 4, _, _, _, (gC_J ad ct _), rfl⟩ rfl rfl (Nat.le_of_ble_eq_true rfl) dX4_run_2 ?_
  intro r2 σ1 h
  refine x_if_eq C 16 8 dX4_run_5 (by decide) rfl (fun c5 => ?_) (fun c5 => ?_)
  · have h := h.1 c5
    refine x_iconst C 17 rfl (-1) dX4_run_16 rfl ?_
    exact hR _ _ _ _ dX4_run_17 h
  · have h := h.2 c5
    refine x_aload_n C 9 rfl 0 dX4_run_8 rfl rfl ?_
    refine x_iload_n C 10 rfl 2 dX4_run_9 rfl rfl ?_
    refine x_cVI C 13 rfl (m_X4_isAct l D ad ct _ _ _ h) (cwV 1 C.1.2.2.2.2 gX4_run_X4_isAct rfl rfl rfl (by decide +kernel) ⟨Nat.le_of_ble_eq_true rfl, Nat.le_of_ble_eq_true rfl⟩) ⟨0, 4, _, _, _, (gC_J ad ct _), rfl⟩ rfl rfl (Nat.le_of_ble_eq_true rfl) dX4_run_10 ?_
    intro r4 σ3 h
    refine x_if_ne C 18 16 dX4_run_13 (by decide) rfl (fun c13 => ?_) (fun c13 => ?_)
    · have h := h.1 c13
      refine x_aload_n C 19 rfl 0 dX4_run_18 rfl rfl ?_
      refine x_get C 22 rfl (ref := RX4) 0 3 (gC_J ad ct _) rfl in_X4_run_X4 (by decide) fl_X4_run_30 rfl rfl dX4_run_19 ?_
      refine x_aload_n C 23 rfl 0 dX4_run_22 rfl rfl ?_
      refine x_get C 26 rfl (ref := RX4) 0 0 (gC_J ad ct _) rfl in_X4_run_X4 (by decide) fl_X4_run_11 rfl rfl dX4_run_23 ?_
      refine x_aload_n C 27 rfl 0 dX4_run_26 rfl rfl ?_
      refine x_get C 30 rfl (ref := RX4) 0 4 (gC_J ad ct _) rfl in_X4_run_X4 (by decide) fl_X4_run_39 rfl rfl dX4_run_27 ?_
      refine x_aload_n C 31 rfl 0 dX4_run_30 rfl rfl ?_
      refine x_cVI C 34 rfl (m_X4_wallsNow l D ad ct _ _ h) (cwV 0 C.1.2.2.2.2 gX4_run_X4_wallsNow rfl rfl rfl (by decide +kernel) ⟨Nat.le_of_ble_eq_true rfl, Nat.le_of_ble_eq_true rfl⟩) ⟨0, 4, _, _, _, (gC_J ad ct _), rfl⟩ rfl rfl (Nat.le_of_ble_eq_true rfl) dX4_run_31 ?_
      intro r6 σ5 h
      refine x_cVV C 37 rfl (m_X1_build l D ad ct _ _ _ _ h) (cwV 3 C.1.2.2.2.2 gX4_run_X1_build rfl rfl rfl (by decide +kernel) ⟨Nat.le_of_ble_eq_true rfl, Nat.le_of_ble_eq_true rfl⟩) ⟨10, 1, _, _, _, (gC_R ad ct _), rfl⟩ rfl rfl (Nat.le_of_ble_eq_true rfl) dX4_run_34 ?_
      intro σ7 h
      refine x_iconst C 38 rfl 0 dX4_run_37 rfl ?_
      refine x_istore_n C 39 rfl [(3, .int 0), (0, .ref (ad 0)), (1, .int x1), (2, .int x2)] dX4_run_38 rfl (by decide) rfl ?_
      refine x_sub (lv' := [(0, .ref (ad 0)), (1, .int x1), (2, .int x2), (3, .int 0)]) [1, 2, 3, 0] rfl ?_
      obtain ⟨n20, h⟩ := h
      refine v_X4_run_L39 C x1 x2 ?_ hR n20 _ _ h
      · intro σ21 h
        refine x_aload_n C 102 rfl 0 dX4_run_101 rfl rfl ?_
        refine x_dup C 103 rfl dX4_run_102 rfl ?_
        refine x_get C 106 rfl (ref := RX4) 0 5 (gC_J ad ct _) rfl in_X4_run_X4 (by decide) fl_X4_run_127 rfl rfl dX4_run_103 ?_
        refine x_iconst C 107 rfl 1 dX4_run_106 rfl ?_
        refine x_iadd C 108 rfl dX4_run_107 ?_
        obtain ⟨σ22, eσ22⟩ : ∃ z, z = sI σ21 0 5 ((σ21.1 0 5) + 1) := ⟨_, rfl⟩
        have h := h σ22 eσ22
        refine x_put C 111 rfl (ref := RX4) (ty := .int) (σ' := σ22) 0 5 (gC_J ad ct _) rfl in_X4_run_X4 tyX4 tyX4_ok nmX4 (by decide) fl_X4_run_127 rfl rfl (by decide +kernel) rfl rfl (by show 5 < 7; decide) (by rw [eσ22]; exact (sC_J_ticks ad ct _)) dX4_run_108 ?_
        refine x_iload_n C 112 rfl 1 dX4_run_111 rfl rfl ?_
        refine x_bipush C 114 rfl 9 dX4_run_112 rfl ?_
        refine x_icmp_ne C 119 117 dX4_run_114 (by decide) rfl (fun c114 => ?_) (fun c114 => ?_)
        · have h := h.1 c114
          refine x_aload_n C 120 rfl 0 dX4_run_119 rfl rfl ?_
          refine x_get C 123 rfl (ref := RX4) 0 0 (gC_J ad ct _) rfl in_X4_run_X4 (by decide) fl_X4_run_11 rfl rfl dX4_run_120 ?_
          refine x_iload_n C 124 rfl 1 dX4_run_123 rfl rfl ?_
          refine x_iconst C 125 rfl 3 dX4_run_124 rfl ?_
          refine x_idiv C 126 rfl dX4_run_125 (by decide) ?_
          have i23 := h.1
          have h := h.2
          have hk24 : (Int32.toNatClampNeg (x2 / 3)) < 3 := Nat.not_le.mp fun q => i23 (Or.inr q)
          refine x_aald C 127 rfl (q := ad (4 + 2 * (Int32.toNatClampNeg (x2 / 3)))) 1 2 (gC_J_things ad ct _) rfl i23 rfl dX4_run_126 ?_
          refine x_astore_n C 128 rfl [(3, .ref (ad (4 + 2 * (Int32.toNatClampNeg (x2 / 3))))), (0, .ref (ad 0)), (2, .int x2)] dX4_run_127 rfl (by decide) rfl ?_
          refine x_aload_n C 129 rfl 1 dX4_run_128 rfl rfl ?_
          refine x_get C 132 rfl (ref := RX4) 0 3 (gC_J ad ct _) rfl in_X4_run_X4 (by decide) fl_X4_run_30 rfl rfl dX4_run_129 ?_
          refine x_iload_n C 133 rfl 2 dX4_run_132 rfl rfl ?_
          refine x_iconst C 134 rfl 3 dX4_run_133 rfl ?_
          refine x_idiv C 135 rfl dX4_run_134 (by decide) ?_
          refine x_aload_n C 136 rfl 0 dX4_run_135 rfl rfl ?_
          refine x_get C 139 rfl (ref := RX2) (4 + 2 * (Int32.toNatClampNeg (x2 / 3))) 6 (gC_T ad ct _ hk24) rfl in_X4_run_X2 (by decide) fl_X4_run_124 rfl rfl dX4_run_136 ?_
          refine x_iload_n C 140 rfl 2 dX4_run_139 rfl rfl ?_
          refine x_iconst C 141 rfl 3 dX4_run_140 rfl ?_
          refine x_irem C 142 rfl dX4_run_141 (by decide) ?_
          refine x_cVI C 145 rfl (m_X1_answer l D ad ct _ _ _ _ _ h) (cwV 3 C.1.2.2.2.2 gX4_run_X1_answer rfl rfl rfl (by decide +kernel) ⟨Nat.le_of_ble_eq_true rfl, Nat.le_of_ble_eq_true rfl⟩) ⟨10, 1, _, _, _, (gC_R ad ct _), rfl⟩ rfl rfl (Nat.le_of_ble_eq_true rfl) dX4_run_142 ?_
          intro r26 σ25 h
          refine x_istore C 147 rfl [(4, .int r26), (3, .ref (ad (4 + 2 * (Int32.toNatClampNeg (x2 / 3))))), (0, .ref (ad 0)), (2, .int x2)] dX4_run_145 (by decide) rfl ?_
          refine x_aload_n C 148 rfl 1 dX4_run_147 rfl rfl ?_
          refine x_aload_n C 149 rfl 2 dX4_run_148 rfl rfl ?_
          refine x_get C 152 rfl (ref := RX4) 0 3 (gC_J ad ct _) rfl in_X4_run_X4 (by decide) fl_X4_run_30 rfl rfl dX4_run_149 ?_
          refine x_iload_n C 153 rfl 3 dX4_run_152 rfl rfl ?_
          refine x_iconst C 154 rfl 3 dX4_run_153 rfl ?_
          refine x_idiv C 155 rfl dX4_run_154 (by decide) ?_
          refine x_aload_n C 156 rfl 1 dX4_run_155 rfl rfl ?_
          refine x_get C 159 rfl (ref := RX2) (4 + 2 * (Int32.toNatClampNeg (x2 / 3))) 6 (gC_T ad ct _ hk24) rfl in_X4_run_X2 (by decide) fl_X4_run_124 rfl rfl dX4_run_156 ?_
          refine x_iload_n C 160 rfl 3 dX4_run_159 rfl rfl ?_
          refine x_iconst C 161 rfl 3 dX4_run_160 rfl ?_
          refine x_irem C 162 rfl dX4_run_161 (by decide) ?_
          refine x_cVI C 165 rfl (m_X1_left l D ad ct _ _ _ _ _ h) (cwV 3 C.1.2.2.2.2 gX4_run_X1_left rfl rfl rfl (by decide +kernel) ⟨Nat.le_of_ble_eq_true rfl, Nat.le_of_ble_eq_true rfl⟩) ⟨10, 1, _, _, _, (gC_R ad ct _), rfl⟩ rfl rfl (Nat.le_of_ble_eq_true rfl) dX4_run_162 ?_
          intro r28 σ27 h
          obtain ⟨σ29, eσ29⟩ : ∃ z, z = sI σ27 (4 + 2 * (Int32.toNatClampNeg (x2 / 3))) 6 r28 := ⟨_, rfl⟩
          have h := h σ29 eσ29
          refine x_put C 168 rfl (ref := RX2) (ty := .int) (σ' := σ29) (4 + 2 * (Int32.toNatClampNeg (x2 / 3))) 6 (gC_T ad ct _ hk24) rfl in_X4_run_X2 tyX2 tyX2_ok nmX2 (by decide) fl_X4_run_124 rfl rfl (by decide +kernel) rfl rfl (by show 6 < 9; decide) (by rw [eσ29]; exact (sC_T_now ad ct _ hk24)) dX4_run_165 ?_
          refine x_iload C 170 rfl 0 dX4_run_168 rfl ?_
          exact hR _ _ _ _ dX4_run_170 h
        · have h := h.2 c114
          refine x_iconst C 118 rfl 0 dX4_run_117 rfl ?_
          exact hR _ _ _ _ dX4_run_118 h
    · have h := h.2 c13
      refine x_iconst C 17 rfl (-1) dX4_run_16 rfl ?_
      exact hR _ _ _ _ dX4_run_17 h
abbrev rm_X4_state : Room := { frames := 1, cells := 0, slots := 0, locals := 21 }
theorem in_X4_state_X4 : ∀ w ∈ u_ws RX4 TX4 7, w ∈ wsX4_state := by decide +kernel
theorem fl_X4_state_11 : Cond.fieldLink RX4 11 RX4 (TX4 0).2.1 (TX4 0).2.2.1 ∈ wsX4_state := by decide +kernel
theorem in_X4_state_X2 : ∀ w ∈ u_ws RX2 TX2 9, w ∈ wsX4_state := by decide +kernel
theorem fl_X4_state_124 : Cond.fieldLink RX4 124 RX2 (TX2 6).2.1 (TX2 6).2.2.1 ∈ wsX4_state := by decide +kernel
set_option maxRecDepth 100000 in
set_option maxHeartbeats 4000000 in
theorem m_X4_state (l : Launch) (D : va_G) (ad : Nat → Nat) (ct : Nat → ClassId) (x1 : Int32) (σ : ST) (Q : Int32 → ST → Prop) (h : wp_X4_state x1 σ Q) : CtI l D (tysF ct) (wC ad ct) yX4_state wsX4_state rm_X4_state [.ref (ad 0), .int x1] σ Q := by
  refine CtI.of (wC_adr ad ct) (maxL := 2) [(0, .ref (ad 0)), (1, .int x1)] RX4 (by decide) rfl rfl (by show (lg_sl [.ref (ad 0), .int x1]).length ≤ 2; exact Nat.le_of_ble_eq_true rfl) rfl rfl rfl ?_
  intro E C hR
  unfold wp_X4_state at h
  refine x_aload_n C 1 rfl 0 dX4_state_0 rfl rfl ?_
  refine x_iload_n C 2 rfl 1 dX4_state_1 rfl rfl ?_
  refine x_cVI C 5 rfl (m_X4_isThing l D ad ct _ _ _ h) (cwV 1 C.1.2.2.2.2 gX4_state_X4_isThing rfl rfl rfl (by decide +kernel) ⟨Nat.le_of_ble_eq_true rfl, Nat.le_of_ble_eq_true rfl⟩) ⟨0, 4, _, _, _, (gC_J ad ct _), rfl⟩ rfl rfl (Nat.le_of_ble_eq_true rfl) dX4_state_2 ?_
  intro r2 σ1 h
  refine x_if_eq C 20 8 dX4_state_5 (by decide) rfl (fun c5 => ?_) (fun c5 => ?_)
  · have h := h.1 c5
    refine x_iconst C 21 rfl (-1) dX4_state_20 rfl ?_
    exact hR _ _ _ _ dX4_state_21 h
  · have h := h.2 c5
    refine x_aload_n C 9 rfl 0 dX4_state_8 rfl rfl ?_
    refine x_get C 12 rfl (ref := RX4) 0 0 (gC_J ad ct _) rfl in_X4_state_X4 (by decide) fl_X4_state_11 rfl rfl dX4_state_9 ?_
    refine x_iload_n C 13 rfl 1 dX4_state_12 rfl rfl ?_
    have i3 := h.1
    have h := h.2
    have hk4 : (Int32.toNatClampNeg x1) < 3 := Nat.not_le.mp fun q => i3 (Or.inr q)
    refine x_aald C 14 rfl (q := ad (4 + 2 * (Int32.toNatClampNeg x1))) 1 2 (gC_J_things ad ct _) rfl i3 rfl dX4_state_13 ?_
    refine x_get C 17 rfl (ref := RX2) (4 + 2 * (Int32.toNatClampNeg x1)) 6 (gC_T ad ct _ hk4) rfl in_X4_state_X2 (by decide) fl_X4_state_124 rfl rfl dX4_state_14 ?_
    refine x_goto C 21 dX4_state_17 (by decide) ?_
    exact hR _ _ _ _ dX4_state_21 h
abbrev rm_X4_ticks : Room := { frames := 0, cells := 0, slots := 0, locals := 0 }
theorem in_X4_ticks_X4 : ∀ w ∈ u_ws RX4 TX4 7, w ∈ wsX4_ticks := by decide +kernel
theorem fl_X4_ticks_127 : Cond.fieldLink RX4 127 RX4 (TX4 5).2.1 (TX4 5).2.2.1 ∈ wsX4_ticks := by decide +kernel
set_option maxRecDepth 100000 in
set_option maxHeartbeats 4000000 in
theorem m_X4_ticks (l : Launch) (D : va_G) (ad : Nat → Nat) (ct : Nat → ClassId) (σ : ST) (Q : Int32 → ST → Prop) (h : wp_X4_ticks σ Q) : CtI l D (tysF ct) (wC ad ct) yX4_ticks wsX4_ticks rm_X4_ticks [.ref (ad 0)] σ Q := by
  refine CtI.of (wC_adr ad ct) (maxL := 1) [(0, .ref (ad 0))] RX4 (by decide) rfl rfl (by show (lg_sl [.ref (ad 0)]).length ≤ 1; exact Nat.le_of_ble_eq_true rfl) rfl rfl rfl ?_
  intro E C hR
  unfold wp_X4_ticks at h
  refine x_aload_n C 1 rfl 0 dX4_ticks_0 rfl rfl ?_
  refine x_get C 4 rfl (ref := RX4) 0 5 (gC_J ad ct _) rfl in_X4_ticks_X4 (by decide) fl_X4_ticks_127 rfl rfl dX4_ticks_1 ?_
  exact hR _ _ _ _ dX4_ticks_4 h
abbrev rm_X4_lettersBehind : Room := { frames := 13, cells := 0, slots := 0, locals := 352 }
theorem in_X4_lettersBehind_X4 : ∀ w ∈ u_ws RX4 TX4 7, w ∈ wsX4_lettersBehind := by decide +kernel
theorem fl_X4_lettersBehind_30 : Cond.fieldLink RX4 30 RX4 (TX4 3).2.1 (TX4 3).2.2.1 ∈ wsX4_lettersBehind := by decide +kernel
theorem fl_X4_lettersBehind_11 : Cond.fieldLink RX4 11 RX4 (TX4 0).2.1 (TX4 0).2.2.1 ∈ wsX4_lettersBehind := by decide +kernel
theorem fl_X4_lettersBehind_39 : Cond.fieldLink RX4 39 RX4 (TX4 4).2.1 (TX4 4).2.2.1 ∈ wsX4_lettersBehind := by decide +kernel
theorem in_X4_lettersBehind_X1 : ∀ w ∈ u_ws RX1 TX1 7, w ∈ wsX4_lettersBehind := by decide +kernel
theorem fl_X4_lettersBehind_162 : Cond.fieldLink RX4 162 RX1 (TX1 6).2.1 (TX1 6).2.2.1 ∈ wsX4_lettersBehind := by decide +kernel
set_option maxRecDepth 100000 in
set_option maxHeartbeats 4000000 in
theorem m_X4_lettersBehind (l : Launch) (D : va_G) (ad : Nat → Nat) (ct : Nat → ClassId) (x1 : Int32) (x2 : Int32) (σ : ST) (Q : Int32 → ST → Prop) (h : wp_X4_lettersBehind x1 x2 σ Q) : CtI l D (tysF ct) (wC ad ct) yX4_lettersBehind wsX4_lettersBehind rm_X4_lettersBehind [.ref (ad 0), .int x1, .int x2] σ Q := by
  refine CtI.of (wC_adr ad ct) (maxL := 3) [(0, .ref (ad 0)), (1, .int x1), (2, .int x2)] RX4 (by decide) rfl rfl (by show (lg_sl [.ref (ad 0), .int x1, .int x2]).length ≤ 3; exact Nat.le_of_ble_eq_true rfl) rfl rfl rfl ?_
  intro E C hR
  unfold wp_X4_lettersBehind at h
  refine x_aload_n C 1 rfl 0 dX4_lettersBehind_0 rfl rfl ?_
  refine x_get C 4 rfl (ref := RX4) 0 3 (gC_J ad ct _) rfl in_X4_lettersBehind_X4 (by decide) fl_X4_lettersBehind_30 rfl rfl dX4_lettersBehind_1 ?_
  refine x_aload_n C 5 rfl 0 dX4_lettersBehind_4 rfl rfl ?_
  refine x_get C 8 rfl (ref := RX4) 0 0 (gC_J ad ct _) rfl in_X4_lettersBehind_X4 (by decide) fl_X4_lettersBehind_11 rfl rfl dX4_lettersBehind_5 ?_
  refine x_aload_n C 9 rfl 0 dX4_lettersBehind_8 rfl rfl ?_
  refine x_get C 12 rfl (ref := RX4) 0 4 (gC_J ad ct _) rfl in_X4_lettersBehind_X4 (by decide) fl_X4_lettersBehind_39 rfl rfl dX4_lettersBehind_9 ?_
  refine x_iload_n C 13 rfl 1 dX4_lettersBehind_12 rfl rfl ?_
  refine x_cVV C 16 rfl (m_X1_build l D ad ct _ _ _ _ h) (cwV 3 C.1.2.2.2.2 gX4_lettersBehind_X1_build rfl rfl rfl (by decide +kernel) ⟨Nat.le_of_ble_eq_true rfl, Nat.le_of_ble_eq_true rfl⟩) ⟨10, 1, _, _, _, (gC_R ad ct _), rfl⟩ rfl rfl (Nat.le_of_ble_eq_true rfl) dX4_lettersBehind_13 ?_
  intro σ1 h
  refine x_aload_n C 17 rfl 0 dX4_lettersBehind_16 rfl rfl ?_
  refine x_get C 20 rfl (ref := RX4) 0 3 (gC_J ad ct _) rfl in_X4_lettersBehind_X4 (by decide) fl_X4_lettersBehind_30 rfl rfl dX4_lettersBehind_17 ?_
  refine x_aload_n C 21 rfl 0 dX4_lettersBehind_20 rfl rfl ?_
  refine x_get C 24 rfl (ref := RX4) 0 3 (gC_J ad ct _) rfl in_X4_lettersBehind_X4 (by decide) fl_X4_lettersBehind_30 rfl rfl dX4_lettersBehind_21 ?_
  refine x_get C 27 rfl (ref := RX1) 10 6 (gC_R ad ct _) rfl in_X4_lettersBehind_X1 (by decide) fl_X4_lettersBehind_162 rfl rfl dX4_lettersBehind_24 ?_
  refine x_iconst C 28 rfl 0 dX4_lettersBehind_27 rfl ?_
  refine x_iload_n C 29 rfl 2 dX4_lettersBehind_28 rfl rfl ?_
  refine x_cSI C 32 rfl (m_X4_most l D ad ct 4 _ _ _ _ _ h) (va_cwS 4 C.1.2.2.2.2 gX4_lettersBehind_X4_most rfl rfl rfl (by decide +kernel) ⟨Nat.le_of_ble_eq_true rfl, Nat.le_of_ble_eq_true rfl⟩) rfl rfl (Nat.le_of_ble_eq_true rfl) dX4_lettersBehind_29 ?_
  intro r3 σ2 h
  exact hR _ _ _ _ dX4_lettersBehind_32 h
abbrev rm_X4_walls : Room := { frames := 14, cells := 0, slots := 0, locals := 374 }
theorem in_X4_walls_X4 : ∀ w ∈ u_ws RX4 TX4 7, w ∈ wsX4_walls := by decide +kernel
theorem fl_X4_walls_39 : Cond.fieldLink RX4 39 RX4 (TX4 4).2.1 (TX4 4).2.2.1 ∈ wsX4_walls := by decide +kernel
set_option maxRecDepth 100000 in
set_option maxHeartbeats 4000000 in
theorem v_X4_walls_L38 {l : Launch} {D : va_G} {ad : Nat → Nat} {ct : Nat → ClassId} {E : XE}  {Q : Int32 → ST → Prop} (C : XFix D (tysF ct) (wC ad ct) rm_X4_walls 7 E cX4_walls RX4 wsX4_walls) (x1 : Int32) (x2 : Int32) (x3 : Int32) {K : Int32 → ST → Prop} (hK : ∀ (x4 : Int32) (σ : ST), K x4 σ → V l D (tysF ct) (wC ad ct) rm_X4_walls 7 E 105 [(0, .ref (ad 0)), (3, .int x3), (4, .int x4)] [] σ) (hR : RetI l D (tysF ct) (wC ad ct) rm_X4_walls 7 E cX4_walls Q) :
    ∀ (n : Nat) (x4 : Int32) (x5 : Int32) (σ : ST), wp_X4_walls_L38 x1 x2 x3 K Q n x4 x5 σ → V l D (tysF ct) (wC ad ct) rm_X4_walls 7 E 38 [(0, .ref (ad 0)), (1, .int x1), (2, .int x2), (3, .int x3), (4, .int x4), (5, .int x5)] [] σ := by
  intro n
  induction n with
  | zero => intro x4 x5 σ h; exact (h : False).elim
  | succ n ih =>
    intro x4 x5 σ h
    unfold wp_X4_walls_L38 at h
    refine x_iload C 40 rfl 5 dX4_walls_38 rfl ?_
    refine x_iconst C 41 rfl 1 dX4_walls_40 rfl ?_
    refine x_iconst C 42 rfl 2 dX4_walls_41 rfl ?_
    refine x_aload_n C 43 rfl 0 dX4_walls_42 rfl rfl ?_
    refine x_get C 46 rfl (ref := RX4) 0 4 (gC_J ad ct _) rfl in_X4_walls_X4 (by decide) fl_X4_walls_39 rfl rfl dX4_walls_43 ?_
    refine x_imul C 47 rfl dX4_walls_46 ?_
    refine x_ishl C 48 rfl dX4_walls_47 ?_
    refine x_icmp_ge C 105 51 dX4_walls_48 (by decide) rfl (fun c48 => ?_) (fun c48 => ?_)
    · have h := h.1 c48
      refine x_sub (lv' := [(0, .ref (ad 0)), (3, .int x3), (4, .int x4)]) [0, 3, 4] rfl ?_
      exact hK _ _ h
    · have h := h.2 c48
      refine x_iload C 53 rfl 4 dX4_walls_51 rfl ?_
      refine x_iconst C 54 rfl (-1) dX4_walls_53 rfl ?_
      refine x_icmp_eq C 72 57 dX4_walls_54 (by decide) rfl (fun c54 => ?_) (fun c54 => ?_)
      · have h := h.1 c54
        refine x_iconst C 73 rfl 1 dX4_walls_72 rfl ?_
        refine x_goto C 77 dX4_walls_73 (by decide) ?_
        refine x_istore C 79 rfl [(6, .int 1), (0, .ref (ad 0)), (1, .int x1), (2, .int x2), (3, .int x3), (4, .int x4), (5, .int x5)] dX4_walls_77 (by decide) rfl ?_
        refine x_iload C 81 rfl 0 dX4_walls_79 rfl ?_
        refine x_if_eq C 99 84 dX4_walls_81 (by decide) rfl (fun q => absurd q (by decide)) (fun _ => ?_)
        refine x_aload_n C 85 rfl 1 dX4_walls_84 rfl rfl ?_
        refine x_iload C 87 rfl 6 dX4_walls_85 rfl ?_
        refine x_iload_n C 88 rfl 3 dX4_walls_87 rfl rfl ?_
        refine x_cVI C 91 rfl (m_X4_lettersBehind l D ad ct _ _ _ _ h) (cwV 2 C.1.2.2.2.2 gX4_walls_X4_lettersBehind rfl rfl rfl (by decide +kernel) ⟨Nat.le_of_ble_eq_true rfl, Nat.le_of_ble_eq_true rfl⟩) ⟨0, 4, _, _, _, (gC_J ad ct _), rfl⟩ rfl rfl (Nat.le_of_ble_eq_true rfl) dX4_walls_88 ?_
        intro r2 σ1 h
        refine x_iload_n C 92 rfl 2 dX4_walls_91 rfl rfl ?_
        refine x_icmp_gt C 99 95 dX4_walls_92 (by decide) rfl (fun c92 => ?_) (fun c92 => ?_)
        · have h := h.1 c92
          refine x_iinc C 102 rfl 6 (x5 + 1) [(5, .int (x5 + 1)), (6, .int 1), (0, .ref (ad 0)), (1, .int x1), (2, .int x2), (3, .int x3), (4, .int x4)] dX4_walls_99 rfl rfl (by decide) rfl ?_
          refine x_goto C 38 dX4_walls_102 (by decide) ?_
          refine x_sub (lv' := [(0, .ref (ad 0)), (1, .int x1), (2, .int x2), (3, .int x3), (4, .int x4), (5, .int (x5 + 1))]) [2, 3, 4, 5, 6, 0] rfl ?_
          exact ih _ _ _ h
        · have h := h.2 c92
          refine x_iload C 97 rfl 6 dX4_walls_95 rfl ?_
          refine x_istore C 99 rfl [(4, .int x5), (6, .int 1), (0, .ref (ad 0)), (1, .int x1), (2, .int x2), (3, .int x3), (5, .int x5)] dX4_walls_97 (by decide) rfl ?_
          refine x_iinc C 102 rfl 6 (x5 + 1) [(5, .int (x5 + 1)), (4, .int x5), (6, .int 1), (0, .ref (ad 0)), (1, .int x1), (2, .int x2), (3, .int x3)] dX4_walls_99 rfl rfl (by decide) rfl ?_
          refine x_goto C 38 dX4_walls_102 (by decide) ?_
          refine x_sub (lv' := [(0, .ref (ad 0)), (1, .int x1), (2, .int x2), (3, .int x3), (4, .int x5), (5, .int (x5 + 1))]) [3, 4, 5, 6, 1, 0] rfl ?_
          exact ih _ _ _ h
      · have h := h.2 c54
        refine x_aload_n C 58 rfl 0 dX4_walls_57 rfl rfl ?_
        refine x_iload C 60 rfl 5 dX4_walls_58 rfl ?_
        refine x_cVI C 63 rfl (m_X4_sumOf l D ad ct _ _ _ h) (cwV 1 C.1.2.2.2.2 gX4_walls_X4_sumOf rfl rfl rfl (by decide +kernel) ⟨Nat.le_of_ble_eq_true rfl, Nat.le_of_ble_eq_true rfl⟩) ⟨0, 4, _, _, _, (gC_J ad ct _), rfl⟩ rfl rfl (Nat.le_of_ble_eq_true rfl) dX4_walls_60 ?_
        intro r4 σ3 h
        refine x_aload_n C 64 rfl 0 dX4_walls_63 rfl rfl ?_
        refine x_iload C 66 rfl 4 dX4_walls_64 rfl ?_
        refine x_cVI C 69 rfl (m_X4_sumOf l D ad ct _ _ _ h) (cwV 1 C.1.2.2.2.2 gX4_walls_X4_sumOf rfl rfl rfl (by decide +kernel) ⟨Nat.le_of_ble_eq_true rfl, Nat.le_of_ble_eq_true rfl⟩) ⟨0, 4, _, _, _, (gC_J ad ct _), rfl⟩ rfl rfl (Nat.le_of_ble_eq_true rfl) dX4_walls_66 ?_
        intro r6 σ5 h
        refine x_icmp_ge C 76 72 dX4_walls_69 (by decide) rfl (fun c69 => ?_) (fun c69 => ?_)
        · have h := h.1 c69
          refine x_iconst C 77 rfl 0 dX4_walls_76 rfl ?_
          refine x_istore C 79 rfl [(6, .int 0), (0, .ref (ad 0)), (1, .int x1), (2, .int x2), (3, .int x3), (4, .int x4), (5, .int x5)] dX4_walls_77 (by decide) rfl ?_
          refine x_iload C 81 rfl 0 dX4_walls_79 rfl ?_
          refine x_if_eq C 99 84 dX4_walls_81 (by decide) rfl (fun _ => ?_) (fun q => absurd q (by decide))
          refine x_iinc C 102 rfl 6 (x5 + 1) [(5, .int (x5 + 1)), (6, .int 0), (0, .ref (ad 0)), (1, .int x1), (2, .int x2), (3, .int x3), (4, .int x4)] dX4_walls_99 rfl rfl (by decide) rfl ?_
          refine x_goto C 38 dX4_walls_102 (by decide) ?_
          refine x_sub (lv' := [(0, .ref (ad 0)), (1, .int x1), (2, .int x2), (3, .int x3), (4, .int x4), (5, .int (x5 + 1))]) [2, 3, 4, 5, 6, 0] rfl ?_
          exact ih _ _ _ h
        · have h := h.2 c69
          refine x_iconst C 73 rfl 1 dX4_walls_72 rfl ?_
          refine x_goto C 77 dX4_walls_73 (by decide) ?_
          refine x_istore C 79 rfl [(6, .int 1), (0, .ref (ad 0)), (1, .int x1), (2, .int x2), (3, .int x3), (4, .int x4), (5, .int x5)] dX4_walls_77 (by decide) rfl ?_
          refine x_iload C 81 rfl 0 dX4_walls_79 rfl ?_
          refine x_if_eq C 99 84 dX4_walls_81 (by decide) rfl (fun q => absurd q (by decide)) (fun _ => ?_)
          refine x_aload_n C 85 rfl 1 dX4_walls_84 rfl rfl ?_
          refine x_iload C 87 rfl 6 dX4_walls_85 rfl ?_
          refine x_iload_n C 88 rfl 3 dX4_walls_87 rfl rfl ?_
          refine x_cVI C 91 rfl (m_X4_lettersBehind l D ad ct _ _ _ _ h) (cwV 2 C.1.2.2.2.2 gX4_walls_X4_lettersBehind rfl rfl rfl (by decide +kernel) ⟨Nat.le_of_ble_eq_true rfl, Nat.le_of_ble_eq_true rfl⟩) ⟨0, 4, _, _, _, (gC_J ad ct _), rfl⟩ rfl rfl (Nat.le_of_ble_eq_true rfl) dX4_walls_88 ?_
          intro r8 σ7 h
          refine x_iload_n C 92 rfl 2 dX4_walls_91 rfl rfl ?_
          refine x_icmp_gt C 99 95 dX4_walls_92 (by decide) rfl (fun c92 => ?_) (fun c92 => ?_)
          · have h := h.1 c92
            refine x_iinc C 102 rfl 6 (x5 + 1) [(5, .int (x5 + 1)), (6, .int 1), (0, .ref (ad 0)), (1, .int x1), (2, .int x2), (3, .int x3), (4, .int x4)] dX4_walls_99 rfl rfl (by decide) rfl ?_
            refine x_goto C 38 dX4_walls_102 (by decide) ?_
            refine x_sub (lv' := [(0, .ref (ad 0)), (1, .int x1), (2, .int x2), (3, .int x3), (4, .int x4), (5, .int (x5 + 1))]) [2, 3, 4, 5, 6, 0] rfl ?_
            exact ih _ _ _ h
          · have h := h.2 c92
            refine x_iload C 97 rfl 6 dX4_walls_95 rfl ?_
            refine x_istore C 99 rfl [(4, .int x5), (6, .int 1), (0, .ref (ad 0)), (1, .int x1), (2, .int x2), (3, .int x3), (5, .int x5)] dX4_walls_97 (by decide) rfl ?_
            refine x_iinc C 102 rfl 6 (x5 + 1) [(5, .int (x5 + 1)), (4, .int x5), (6, .int 1), (0, .ref (ad 0)), (1, .int x1), (2, .int x2), (3, .int x3)] dX4_walls_99 rfl rfl (by decide) rfl ?_
            refine x_goto C 38 dX4_walls_102 (by decide) ?_
            refine x_sub (lv' := [(0, .ref (ad 0)), (1, .int x1), (2, .int x2), (3, .int x3), (4, .int x5), (5, .int (x5 + 1))]) [3, 4, 5, 6, 1, 0] rfl ?_
            exact ih _ _ _ h
set_option maxRecDepth 100000 in
set_option maxHeartbeats 4000000 in
theorem m_X4_walls (l : Launch) (D : va_G) (ad : Nat → Nat) (ct : Nat → ClassId) (x1 : Int32) (x2 : Int32) (x3 : Int32) (σ : ST) (Q : Int32 → ST → Prop) (h : wp_X4_walls x1 x2 x3 σ Q) : CtI l D (tysF ct) (wC ad ct) yX4_walls wsX4_walls rm_X4_walls [.ref (ad 0), .int x1, .int x2, .int x3] σ Q := by
  refine CtI.of (wC_adr ad ct) (maxL := 7) [(0, .ref (ad 0)), (1, .int x1), (2, .int x2), (3, .int x3)] RX4 (by decide) rfl rfl (by show (lg_sl [.ref (ad 0), .int x1, .int x2, .int x3]).length ≤ 7; exact Nat.le_of_ble_eq_true rfl) rfl rfl rfl ?_
  intro E C hR
  unfold wp_X4_walls at h
  refine x_iload_n C 1 rfl 1 dX4_walls_0 rfl rfl ?_
  refine x_iconst C 2 rfl 1 dX4_walls_1 rfl ?_
  refine x_icmp_lt C 30 5 dX4_walls_2 (by decide) rfl (fun c2 => ?_) (fun c2 => ?_)
  · have h := h.1 c2
    refine x_iconst C 31 rfl (-1) dX4_walls_30 rfl ?_
    exact hR _ _ _ _ dX4_walls_31 h
  · have h := h.2 c2
    refine x_iload_n C 6 rfl 1 dX4_walls_5 rfl rfl ?_
    refine x_sipush C 9 rfl 4096 dX4_walls_6 rfl ?_
    refine x_icmp_gt C 30 12 dX4_walls_9 (by decide) rfl (fun c9 => ?_) (fun c9 => ?_)
    · have h := h.1 c9
      refine x_iconst C 31 rfl (-1) dX4_walls_30 rfl ?_
      exact hR _ _ _ _ dX4_walls_31 h
    · have h := h.2 c9
      refine x_iload_n C 13 rfl 2 dX4_walls_12 rfl rfl ?_
      refine x_if_lt C 30 16 dX4_walls_13 (by decide) rfl (fun c13 => ?_) (fun c13 => ?_)
      · have h := h.1 c13
        refine x_iconst C 31 rfl (-1) dX4_walls_30 rfl ?_
        exact hR _ _ _ _ dX4_walls_31 h
      · have h := h.2 c13
        refine x_iload_n C 17 rfl 2 dX4_walls_16 rfl rfl ?_
        refine x_iconst C 18 rfl 2 dX4_walls_17 rfl ?_
        refine x_icmp_gt C 30 21 dX4_walls_18 (by decide) rfl (fun c18 => ?_) (fun c18 => ?_)
        · have h := h.1 c18
          refine x_iconst C 31 rfl (-1) dX4_walls_30 rfl ?_
          exact hR _ _ _ _ dX4_walls_31 h
        · have h := h.2 c18
          refine x_iload_n C 22 rfl 3 dX4_walls_21 rfl rfl ?_
          refine x_if_lt C 30 25 dX4_walls_22 (by decide) rfl (fun c22 => ?_) (fun c22 => ?_)
          · have h := h.1 c22
            refine x_iconst C 31 rfl (-1) dX4_walls_30 rfl ?_
            exact hR _ _ _ _ dX4_walls_31 h
          · have h := h.2 c22
            refine x_iload_n C 26 rfl 3 dX4_walls_25 rfl rfl ?_
            refine x_iconst C 27 rfl 1 dX4_walls_26 rfl ?_
            refine x_icmp_le C 32 30 dX4_walls_27 (by decide) rfl (fun c27 => ?_) (fun c27 => ?_)
            · have h := h.1 c27
              refine x_iconst C 33 rfl (-1) dX4_walls_32 rfl ?_
              refine x_istore C 35 rfl [(4, .int (-1)), (0, .ref (ad 0)), (1, .int x1), (2, .int x2), (3, .int x3)] dX4_walls_33 (by decide) rfl ?_
              refine x_iconst C 36 rfl 0 dX4_walls_35 rfl ?_
              refine x_istore C 38 rfl [(5, .int 0), (4, .int (-1)), (0, .ref (ad 0)), (1, .int x1), (2, .int x2), (3, .int x3)] dX4_walls_36 (by decide) rfl ?_
              refine x_sub (lv' := [(0, .ref (ad 0)), (1, .int x1), (2, .int x2), (3, .int x3), (4, .int (-1)), (5, .int 0)]) [2, 3, 4, 5, 1, 0] rfl ?_
              obtain ⟨n9, h⟩ := h
              refine v_X4_walls_L38 C x1 x2 x3 ?_ hR n9 _ _ _ h
              · intro y4_10 σ11 h
                refine x_iload_n C 106 rfl 1 dX4_walls_105 rfl rfl ?_
                refine x_if_ne C 124 109 dX4_walls_106 (by decide) rfl (fun c106 => ?_) (fun c106 => ?_)
                · have h := h.1 c106
                  refine x_iload C 126 rfl 2 dX4_walls_124 rfl ?_
                  exact hR _ _ _ _ dX4_walls_126 h
                · have h := h.2 c106
                  refine x_iload C 111 rfl 2 dX4_walls_109 rfl ?_
                  refine x_iconst C 112 rfl (-1) dX4_walls_111 rfl ?_
                  refine x_icmp_eq C 124 115 dX4_walls_112 (by decide) rfl (fun c112 => ?_) (fun c112 => ?_)
                  · have h := h.1 c112
                    refine x_iload C 126 rfl 2 dX4_walls_124 rfl ?_
                    exact hR _ _ _ _ dX4_walls_126 h
                  · have h := h.2 c112
                    refine x_aload_n C 116 rfl 0 dX4_walls_115 rfl rfl ?_
                    refine x_iload C 118 rfl 2 dX4_walls_116 rfl ?_
                    refine x_cVI C 121 rfl (m_X4_sumOf l D ad ct _ _ _ h) (cwV 1 C.1.2.2.2.2 gX4_walls_X4_sumOf rfl rfl rfl (by decide +kernel) ⟨Nat.le_of_ble_eq_true rfl, Nat.le_of_ble_eq_true rfl⟩) ⟨0, 4, _, _, _, (gC_J ad ct _), rfl⟩ rfl rfl (Nat.le_of_ble_eq_true rfl) dX4_walls_118 ?_
                    intro r13 σ12 h
                    refine x_goto C 126 dX4_walls_121 (by decide) ?_
                    exact hR _ _ _ _ dX4_walls_126 h
            · have h := h.2 c27
              refine x_iconst C 31 rfl (-1) dX4_walls_30 rfl ?_
              exact hR _ _ _ _ dX4_walls_31 h
