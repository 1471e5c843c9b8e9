/-! ===== what each method does, read off its bytecode by program ===== -/
def wp_X4_clear (σ : ST) (Q : ST → Prop) : Prop :=
  (∀ σ1, σ1 = sI σ 0 4 0 →
  (∀ σ2, σ2 = sI σ1 0 6 ((σ1.1 0 6) + 1) →
  Q σ2))
def wp_X4_canBe (x0 : Int32) (x1 : Int32) (σ : ST) (Q : Int32 → ST → Prop) : Prop :=
  ((x1 < 0 → Q 0 σ) ∧
  (¬ x1 < 0 → ((x0 = 0 → ((3 ≤ x1 → Q 0 σ) ∧
  (¬ 3 ≤ x1 → Q 1 σ))) ∧
  (¬ x0 = 0 → ((¬ x0 = 2 → ((4 ≤ x1 → Q 0 σ) ∧
  (¬ 4 ≤ x1 → Q 1 σ))) ∧
  (x0 = 2 → ((3 ≤ x1 → Q 0 σ) ∧
  (¬ 3 ≤ x1 → Q 1 σ))))))))
def wp_J7_fill_53178_L5 (q nl : Nat) (x1 : Int32) (x3 : Int32) (Q : ST → Prop) : Nat → Int32 → ST → Prop
  | 0, _, _ => False
  | n + 1, x2, σ =>
  ((x3 ≤ x2 → Q σ) ∧
  (¬ x3 ≤ x2 → (vp_in x2 nl ∧ (∀ σ2, σ2 = sR σ q (Int32.toNatClampNeg x2) x1 →
  wp_J7_fill_53178_L5 q nl x1 x3 Q n (x2 + 1) σ2))))
def wp_J7_fill_53178 (q nl : Nat) (x1 : Int32) (σ : ST) (Q : ST → Prop) : Prop :=
  (∃ m5, wp_J7_fill_53178_L5 q nl x1 (Int32.ofNat nl) Q m5 0 σ)
def wp_X2_come (k : Nat) (x1 : Int32) (x2 : Int32) (x3 : Int64) (x5 : Int64) (σ : ST) (Q : ST → Prop) : Prop :=
  (∀ σ1, σ1 = sI σ (4 + 2 * k) 1 x1 →
  (∀ σ2, σ2 = sI σ1 (4 + 2 * k) 2 x2 →
  (∀ σ3, σ3 = sI σ2 (4 + 2 * k) 6 x2 →
  (∀ σ4, σ4 = sL σ3 (4 + 2 * k) 7 x3 →
  (∀ σ5, σ5 = sL σ4 (4 + 2 * k) 8 x5 →
  (∀ σ6, σ6 = sI σ5 (4 + 2 * k) 3 0 →
  (∀ σ7, σ7 = sI σ6 (4 + 2 * k) 4 1 →
  (∀ σ8, σ8 = sI σ7 (4 + 2 * k) 5 0 →
  (wp_J7_fill_53178 (5 + 2 * k) 4 1 σ8 (fun σ9 =>
  (∀ σ10, σ10 = sR σ9 (5 + 2 * k) (Int32.toNatClampNeg 0) 0 →
  Q σ10)))))))))))
def wp_X4_come (x1 : Int32) (x2 : Int32) (x3 : Int64) (x5 : Int64) (σ : ST) (Q : Int32 → ST → Prop) : Prop :=
  ((3 ≤ (σ.1 0 4) → Q (-1) σ) ∧
  (¬ 3 ≤ (σ.1 0 4) → (wp_X4_canBe x1 x2 σ (fun r2 σ1 =>
  ((¬ r2 = 0 → (vp_in (σ1.1 0 4) 3 ∧ (wp_X2_come (Int32.toNatClampNeg (σ1.1 0 4)) x1 x2 x3 x5 σ1 (fun σ5 =>
  (∀ σ6, σ6 = sI σ5 0 4 ((σ5.1 0 4) + 1) →
  (∀ σ7, σ7 = sI σ6 0 6 ((σ6.1 0 6) + 1) →
  Q ((σ7.1 0 4) - 1) σ7)))))) ∧
  (r2 = 0 → Q (-1) σ1))))))
def wp_X4_thing (x1 : Int32) (x2 : Int32) (σ : ST) (Q : Int32 → ST → Prop) : Prop :=
  ((x1 < 0 → Q (-1) σ) ∧
  (¬ x1 < 0 → ((x1 ≤ 3 → (wp_X4_come x1 x2 0 0 σ (fun r2 σ1 =>
  Q r2 σ1))) ∧
  (¬ x1 ≤ 3 → Q (-1) σ))))
def wp_X4_table (x1 : Int32) (x2 : Int64) (x4 : Int64) (σ : ST) (Q : Int32 → ST → Prop) : Prop :=
  (wp_X4_come 4 x1 x2 x4 σ (fun r2 σ1 =>
  Q r2 σ1))
def wp_X4_isThing (x1 : Int32) (σ : ST) (Q : Int32 → ST → Prop) : Prop :=
  ((x1 < 0 → Q 0 σ) ∧
  (¬ x1 < 0 → (((σ.1 0 4) ≤ x1 → Q 0 σ) ∧
  (¬ (σ.1 0 4) ≤ x1 → Q 1 σ))))
def wp_X4_canHave (x0 : Int32) (x1 : Int32) (σ : ST) (Q : Int32 → ST → Prop) : Prop :=
  ((x0 = 0 → Q 1 σ) ∧
  (¬ x0 = 0 → ((x0 = 1 → ((x1 < 1 → Q 0 σ) ∧
  (¬ x1 < 1 → ((4 < x1 → Q 0 σ) ∧
  (¬ 4 < x1 → Q 1 σ))))) ∧
  (¬ x0 = 1 → ((x0 = 2 → Q 1 σ) ∧
  (¬ x0 = 2 → ((x0 = 3 → ((x1 < 0 → Q 0 σ) ∧
  (¬ x1 < 0 → ((3 < x1 → Q 0 σ) ∧
  (¬ 3 < x1 → Q 1 σ))))) ∧
  (¬ x0 = 3 → Q 0 σ))))))))
def wp_X2_keep (k : Nat) (x1 : Int32) (x2 : Int32) (σ : ST) (Q : ST → Prop) : Prop :=
  ((¬ x1 = 1 → ((¬ x1 = 3 → Q σ) ∧
  (x1 = 3 → (∀ σ1, σ1 = sI σ (4 + 2 * k) 5 x2 →
  Q σ1)))) ∧
  (x1 = 1 → (∀ σ2, σ2 = sI σ (4 + 2 * k) 4 x2 →
  Q σ2)))
def wp_X4_wall (x1 : Int32) (x2 : Int32) (x3 : Int32) (σ : ST) (Q : Int32 → ST → Prop) : Prop :=
  (wp_X4_isThing x1 σ (fun r2 σ1 =>
  ((r2 = 0 → Q 0 σ1) ∧
  (¬ r2 = 0 → (wp_X4_canHave x2 x3 σ1 (fun r4 σ3 =>
  ((¬ r4 = 0 → (vp_in x1 3 ∧ (∀ σ7, σ7 = sI σ3 (4 + 2 * (Int32.toNatClampNeg x1)) 3 x2 →
  (wp_X2_keep (Int32.toNatClampNeg x1) x2 x3 σ7 (fun σ9 =>
  (∀ σ10, σ10 = sI σ9 0 6 ((σ9.1 0 6) + 1) →
  Q 1 σ10)))))) ∧
  (r4 = 0 → Q 0 σ3))))))))
def wp_X4_set (x1 : Int32) (x2 : Int32) (x3 : Int32) (σ : ST) (Q : Int32 → ST → Prop) : Prop :=
  (wp_X4_isThing x1 σ (fun r2 σ1 =>
  ((r2 = 0 → Q 0 σ1) ∧
  (¬ r2 = 0 → ((x2 = 1 → (wp_X4_canHave x2 x3 σ1 (fun r4 σ3 =>
  ((¬ r4 = 0 → (vp_in x1 3 ∧ (wp_X2_keep (Int32.toNatClampNeg x1) x2 x3 σ3 (fun σ7 =>
  (∀ σ8, σ8 = sI σ7 0 6 ((σ7.1 0 6) + 1) →
  Q 1 σ8))))) ∧
  (r4 = 0 → Q 0 σ3))))) ∧
  (¬ x2 = 1 → ((¬ x2 = 3 → Q 0 σ1) ∧
  (x2 = 3 → (wp_X4_canHave x2 x3 σ1 (fun r10 σ9 =>
  ((¬ r10 = 0 → (vp_in x1 3 ∧ (wp_X2_keep (Int32.toNatClampNeg x1) x2 x3 σ9 (fun σ13 =>
  (∀ σ14, σ14 = sI σ13 0 6 ((σ13.1 0 6) + 1) →
  Q 1 σ14))))) ∧
  (r10 = 0 → Q 0 σ9))))))))))))
def wp_X4_price (x1 : Int32) (x2 : Int32) (x3 : Int32) (σ : ST) (Q : Int32 → ST → Prop) : Prop :=
  (wp_X4_isThing x1 σ (fun r2 σ1 =>
  ((r2 = 0 → Q 0 σ1) ∧
  (¬ r2 = 0 → ((x2 < 1 → Q 0 σ1) ∧
  (¬ x2 < 1 → ((3 < x2 → Q 0 σ1) ∧
  (¬ 3 < x2 → ((x3 < 0 → Q 0 σ1) ∧
  (¬ x3 < 0 → ((x3 ≤ 99 → (vp_in x1 3 ∧ (vp_in x2 4 ∧ (∀ σ6, σ6 = sR σ1 (5 + 2 * (Int32.toNatClampNeg x1)) (Int32.toNatClampNeg x2) x3 →
  Q 1 σ6)))) ∧
  (¬ x3 ≤ 99 → Q 0 σ1))))))))))))
def wp_X4_wallsNow_L4 (Q : Int32 → ST → Prop) : Nat → Int32 → Int32 → ST → Prop
  | 0, _, _, _ => False
  | n + 1, x1, x2, σ =>
  (((σ.1 0 4) ≤ x2 → Q x1 σ) ∧
  (¬ (σ.1 0 4) ≤ x2 → (vp_in x2 3 ∧ (∀ w3, w3 = (x1 ||| (((σ.1 (4 + 2 * (Int32.toNatClampNeg x2)) 3) : Int32) <<< (((2 * x2) : Int32) &&& 31))) →
  wp_X4_wallsNow_L4 Q n w3 (x2 + 1) σ))))
def wp_X4_wallsNow (σ : ST) (Q : Int32 → ST → Prop) : Prop :=
  (∃ m4, wp_X4_wallsNow_L4 Q m4 0 0 σ)
def wp_X4_wallIn (x0 : Int32) (x1 : Int32) (σ : ST) (Q : Int32 → ST → Prop) : Prop :=
  Q (((x0 : Int32) >>> (((2 * x1) : Int32) &&& 31)) &&& 3) σ
def wp_X2_told (x0 : Int64) (x2 : Int32) (x3 : Int32) (x4 : Int32) (σ : ST) (Q : Int32 → ST → Prop) : Prop :=
  Q ((Int64.toInt32 ((Int64.toUInt64 x0 >>> (Int64.toUInt64 (Int32.toInt64 (2 * (((12 * x2) + (3 * x3)) + x4))) &&& Int64.toUInt64 63)).toInt64)) &&& 3) σ
def wp_X2_answerByKind (k : Nat) (x1 : Int32) (x2 : Int32) (x3 : Int32) (σ : ST) (Q : Int32 → ST → Prop) : Prop :=
  ((x3 ≤ 1 → (((σ.1 (4 + 2 * k) 1) = 0 → ((¬ x3 = 0 → Q 0 σ) ∧
  (x3 = 0 → ((x2 = x1 → Q 0 σ) ∧
  (¬ x2 = x1 → Q 1 σ))))) ∧
  (¬ (σ.1 (4 + 2 * k) 1) = 0 → (((σ.1 (4 + 2 * k) 1) = 1 → ((¬ x3 = 0 → ((¬ x2 = 0 → Q 0 σ) ∧
  (x2 = 0 → Q 1 σ))) ∧
  (x3 = 0 → ((¬ x2 = 3 → Q 0 σ) ∧
  (x2 = 3 → Q 1 σ))))) ∧
  (¬ (σ.1 (4 + 2 * k) 1) = 1 → (((σ.1 (4 + 2 * k) 1) = 2 → ((x2 = x1 → Q 0 σ) ∧
  (¬ x2 = x1 → ((¬ x3 = 0 → Q 1 σ) ∧
  (x3 = 0 → ((¬ x2 = 0 → Q 1 σ) ∧
  (x2 = 0 → Q 0 σ))))))) ∧
  (¬ (σ.1 (4 + 2 * k) 1) = 2 → ((¬ x3 = 0 → Q 0 σ) ∧
  (x3 = 0 → Q x2 σ))))))))) ∧
  (¬ x3 ≤ 1 → Q 0 σ))
def wp_X2_answer (k : Nat) (x1 : Int32) (x2 : Int32) (x3 : Int32) (σ : ST) (Q : Int32 → ST → Prop) : Prop :=
  ((¬ (σ.1 (4 + 2 * k) 1) = 4 → (wp_X2_answerByKind k (x1 + 1) x2 x3 σ (fun r2 σ1 =>
  Q r2 σ1))) ∧
  ((σ.1 (4 + 2 * k) 1) = 4 → (wp_X2_told (σ.2.1 (4 + 2 * k) 8) x1 x2 x3 σ (fun r4 σ3 =>
  Q r4 σ3))))
def wp_X1_place (x0 : Int32) (x1 : Int32) (σ : ST) (Q : Int32 → ST → Prop) : Prop :=
  Q (4 * ((3 * x0) + x1)) σ
def wp_X2_nextByKind (k : Nat) (x1 : Int32) (x2 : Int32) (x3 : Int32) (σ : ST) (Q : Int32 → ST → Prop) : Prop :=
  ((x3 ≤ 1 → (((σ.1 (4 + 2 * k) 1) = 0 → ((¬ x3 = 0 → Q 0 σ) ∧
  (x3 = 0 → Q x1 σ))) ∧
  (¬ (σ.1 (4 + 2 * k) 1) = 0 → (((σ.1 (4 + 2 * k) 1) = 1 → ((¬ x3 = 0 → Q (if (x2 - 1) < 0 then 0 else (x2 - 1)) σ) ∧
  (x3 = 0 → Q (if 3 < (x2 + 1) then 3 else (x2 + 1)) σ))) ∧
  (¬ (σ.1 (4 + 2 * k) 1) = 1 → (((σ.1 (4 + 2 * k) 1) = 2 → ((¬ x3 = 0 → ((¬ x2 = x1 → Q x2 σ) ∧
  (x2 = x1 → Q 0 σ))) ∧
  (x3 = 0 → ((¬ x2 = 0 → Q x2 σ) ∧
  (x2 = 0 → Q x1 σ))))) ∧
  (¬ (σ.1 (4 + 2 * k) 1) = 2 → ((¬ x3 = 0 → Q ((x2 + 1) &&& 3) σ) ∧
  (x3 = 0 → Q x2 σ))))))))) ∧
  (¬ x3 ≤ 1 → Q x2 σ))
def wp_X2_next (k : Nat) (x1 : Int32) (x2 : Int32) (x3 : Int32) (σ : ST) (Q : Int32 → ST → Prop) : Prop :=
  ((¬ (σ.1 (4 + 2 * k) 1) = 4 → (wp_X2_nextByKind k (x1 + 1) x2 x3 σ (fun r2 σ1 =>
  Q r2 σ1))) ∧
  ((σ.1 (4 + 2 * k) 1) = 4 → (wp_X2_told (σ.2.1 (4 + 2 * k) 7) x1 x2 x3 σ (fun r4 σ3 =>
  Q r4 σ3))))
def wp_X1_buildAct_L3 (k1 : Nat) (x2 : Int32) (x3 : Int32) (x4 : Int32) (Q : ST → Prop) : Nat → Int32 → ST → Prop
  | 0, _, _ => False
  | n + 1, x5, σ =>
  ((4 ≤ x5 → Q σ) ∧
  (¬ 4 ≤ x5 → (wp_X2_answer k1 1 x5 x4 σ (fun r2 σ1 =>
  (wp_X1_place x3 x4 σ1 (fun r4 σ3 =>
  ((¬ x2 = 2 → (wp_X2_next k1 0 x5 x4 σ3 (fun r6 σ5 =>
  (vp_in (r4 + x5) 36 ∧ (∀ σ8, σ8 = sR σ5 11 (Int32.toNatClampNeg (r4 + x5)) r6 →
  (wp_X1_place x3 x4 σ8 (fun r10 σ9 =>
  (wp_X2_next k1 1 x5 x4 σ9 (fun r12 σ11 =>
  (vp_in (r10 + x5) 36 ∧ (∀ σ14, σ14 = sR σ11 12 (Int32.toNatClampNeg (r10 + x5)) r12 →
  (wp_X1_place x3 x4 σ14 (fun r16 σ15 =>
  ((¬ x2 = 3 → (vp_in (r16 + x5) 36 ∧ (∀ σ18, σ18 = sR σ15 13 (Int32.toNatClampNeg (r16 + x5)) r2 →
  wp_X1_buildAct_L3 k1 x2 x3 x4 Q n (x5 + 1) σ18))) ∧
  (x2 = 3 → (vp_in (r16 + x5) 36 ∧ (∀ σ20, σ20 = sR σ15 13 (Int32.toNatClampNeg (r16 + x5)) (if (σ15.1 (4 + 2 * k1) 5) < r2 then (σ15.1 (4 + 2 * k1) 5) else r2) →
  wp_X1_buildAct_L3 k1 x2 x3 x4 Q n (x5 + 1) σ20))))))))))))))))) ∧
  (x2 = 2 → (vp_in (r4 + x5) 36 ∧ (∀ σ22, σ22 = sR σ3 11 (Int32.toNatClampNeg (r4 + x5)) x5 →
  (wp_X1_place x3 x4 σ22 (fun r24 σ23 =>
  (wp_X2_next k1 1 x5 x4 σ23 (fun r26 σ25 =>
  (vp_in (r24 + x5) 36 ∧ (∀ σ28, σ28 = sR σ25 12 (Int32.toNatClampNeg (r24 + x5)) r26 →
  (wp_X1_place x3 x4 σ28 (fun r30 σ29 =>
  ((¬ x2 = 3 → (vp_in (r30 + x5) 36 ∧ (∀ σ32, σ32 = sR σ29 13 (Int32.toNatClampNeg (r30 + x5)) r2 →
  wp_X1_buildAct_L3 k1 x2 x3 x4 Q n (x5 + 1) σ32))) ∧
  (x2 = 3 → (vp_in (r30 + x5) 36 ∧ (∀ σ34, σ34 = sR σ29 13 (Int32.toNatClampNeg (r30 + x5)) (if (σ29.1 (4 + 2 * k1) 5) < r2 then (σ29.1 (4 + 2 * k1) 5) else r2) →
  wp_X1_buildAct_L3 k1 x2 x3 x4 Q n (x5 + 1) σ34))))))))))))))))))))))
def wp_X1_buildAct (k1 : Nat) (x2 : Int32) (x3 : Int32) (x4 : Int32) (σ : ST) (Q : ST → Prop) : Prop :=
  (∃ m3, wp_X1_buildAct_L3 k1 x2 x3 x4 Q m3 0 σ)
def wp_X1_build_L87 (x2 : Int32) (x3 : Int32) (x4 : Int32) (K : ST → Prop) (Q : ST → Prop) : Nat → Int32 → ST → Prop
  | 0, _, _ => False
  | n + 1, x5, σ =>
  ((3 ≤ x5 → K  σ) ∧
  (¬ 3 ≤ x5 → (vp_in x4 3 ∧ (wp_X4_wallIn x3 x4 σ (fun r14 σ13 =>
  (wp_X1_buildAct (Int32.toNatClampNeg x4) r14 x4 x5 σ13 (fun σ15 =>
  wp_X1_build_L87 x2 x3 x4 K Q n (x5 + 1) σ15)))))))
def wp_X1_build_L15 (x2 : Int32) (x3 : Int32) (Q : ST → Prop) : Nat → Int32 → ST → Prop
  | 0, _, _ => False
  | n + 1, x4, σ =>
  ((x2 ≤ x4 → Q σ) ∧
  (¬ x2 ≤ x4 → (vp_in x4 3 ∧ (∀ σ5, σ5 = sL σ 10 6 ((σ.2.1 10 6) <<< (Int32.toInt64 (((σ.1 (4 + 2 * (Int32.toNatClampNeg x4)) 2) : Int32) <<< (((2 * x4) : Int32) &&& 31)) &&& 63)) →
  (∀ σ7, σ7 = sR σ5 15 (Int32.toNatClampNeg x4) (σ5.1 (4 + 2 * (Int32.toNatClampNeg x4)) 2) →
  (wp_X4_wallIn x3 x4 σ7 (fun r9 σ8 =>
  ((¬ r9 = 1 → (∀ σ10, σ10 = sR σ8 14 (Int32.toNatClampNeg x4) 0 →
  (∃ m87, wp_X1_build_L87 x2 x3 x4 (fun σ17 =>
  wp_X1_build_L15 x2 x3 Q n (x4 + 1) σ17) Q m87 0 σ10))) ∧
  (r9 = 1 → (∀ σ19, σ19 = sR σ8 14 (Int32.toNatClampNeg x4) (σ8.1 (4 + 2 * (Int32.toNatClampNeg x4)) 4) →
  (∃ m87, wp_X1_build_L87 x2 x3 x4 (fun σ21 =>
  wp_X1_build_L15 x2 x3 Q n (x4 + 1) σ21) Q m87 0 σ19)))))))))))
def wp_X1_build (x2 : Int32) (x3 : Int32) (σ : ST) (Q : ST → Prop) : Prop :=
  (∀ σ1, σ1 = sI σ 10 5 (3 * x2) →
  (∀ σ2, σ2 = sL σ1 10 6 1 →
  (∃ m15, wp_X1_build_L15 x2 x3 Q m15 0 σ2)))
def wp_X0_node (x0 : Int32) (x1 : Int32) (x2 : Int32) (σ : ST) (Q : Int32 → ST → Prop) : Prop :=
  Q (((((x0 : Int32) <<< ((4 : Int32) &&& 31)) ||| ((x1 : Int32) <<< ((2 : Int32) &&& 31))) ||| x2) &&& 63) σ
def wp_X0_reach (k : Nat) (x1 : Int32) (x2 : Int32) (x3 : Int32) (σ : ST) (Q : ST → Prop) : Prop :=
  (vp_in x1 64 ∧ ((¬ (σ.2.2.1 (21 + 6 * k) (Int32.toNatClampNeg x1)) = (-1) → Q σ) ∧
  ((σ.2.2.1 (21 + 6 * k) (Int32.toNatClampNeg x1)) = (-1) → (((σ.1 (16 + 6 * k) 5) < 64 → ((¬ x2 = (-1) → (vp_in x2 64 ∧ (∀ σ3, σ3 = sR σ (21 + 6 * k) (Int32.toNatClampNeg x1) ((σ.2.2.1 (21 + 6 * k) (Int32.toNatClampNeg x2)) + 1) →
  (∀ σ4, σ4 = sR σ3 (19 + 6 * k) (Int32.toNatClampNeg x1) x2 →
  (∀ σ5, σ5 = sR σ4 (20 + 6 * k) (Int32.toNatClampNeg x1) x3 →
  (vp_in (σ5.1 (16 + 6 * k) 5) 64 ∧ (∀ σ7, σ7 = sR σ5 (18 + 6 * k) (Int32.toNatClampNeg (σ5.1 (16 + 6 * k) 5)) x1 →
  (∀ σ8, σ8 = sI σ7 (16 + 6 * k) 5 ((σ7.1 (16 + 6 * k) 5) + 1) →
  Q σ8)))))))) ∧
  (x2 = (-1) → (∀ σ9, σ9 = sR σ (21 + 6 * k) (Int32.toNatClampNeg x1) 0 →
  (∀ σ10, σ10 = sR σ9 (19 + 6 * k) (Int32.toNatClampNeg x1) x2 →
  (∀ σ11, σ11 = sR σ10 (20 + 6 * k) (Int32.toNatClampNeg x1) x3 →
  (vp_in (σ11.1 (16 + 6 * k) 5) 64 ∧ (∀ σ13, σ13 = sR σ11 (18 + 6 * k) (Int32.toNatClampNeg (σ11.1 (16 + 6 * k) 5)) x1 →
  (∀ σ14, σ14 = sI σ13 (16 + 6 * k) 5 ((σ13.1 (16 + 6 * k) 5) + 1) →
  Q σ14))))))))) ∧
  (¬ (σ.1 (16 + 6 * k) 5) < 64 → Q σ)))))
def wp_X1_isCleaned (x1 : Int32) (x2 : Int32) (σ : ST) (Q : Int32 → ST → Prop) : Prop :=
  (vp_in x1 3 ∧ (((σ.2.2.1 14 (Int32.toNatClampNeg x1)) ≤ 0 → Q 0 σ) ∧
  (¬ (σ.2.2.1 14 (Int32.toNatClampNeg x1)) ≤ 0 → (¬ (σ.2.2.1 14 (Int32.toNatClampNeg x1)) = 0 ∧ ((¬ ((x2 + 1) - (x2 + 1) / (σ.2.2.1 14 (Int32.toNatClampNeg x1)) * (σ.2.2.1 14 (Int32.toNatClampNeg x1))) = 0 → Q 0 σ) ∧
  (((x2 + 1) - (x2 + 1) / (σ.2.2.1 14 (Int32.toNatClampNeg x1)) * (σ.2.2.1 14 (Int32.toNatClampNeg x1))) = 0 → Q 1 σ))))))
def wp_X1_met (x1 : Int32) (x2 : Int32) (x3 : Int32) (x4 : Int32) (σ : ST) (Q : Int32 → ST → Prop) : Prop :=
  (wp_X1_isCleaned x1 x4 σ (fun r2 σ1 =>
  ((r2 = 0 → ((x3 < 3 → (wp_X1_place x1 x3 σ1 (fun r4 σ3 =>
  (vp_in (r4 + x2) 36 ∧ Q (σ3.2.2.1 11 (Int32.toNatClampNeg (r4 + x2))) σ3)))) ∧
  (¬ x3 < 3 → Q x2 σ1))) ∧
  (¬ r2 = 0 → (vp_in x1 3 ∧ Q (σ1.2.2.1 15 (Int32.toNatClampNeg x1)) σ1)))))
def wp_X1_answer (x1 : Int32) (x2 : Int32) (x3 : Int32) (σ : ST) (Q : Int32 → ST → Prop) : Prop :=
  ((x3 < 3 → (wp_X1_place x1 x3 σ (fun r2 σ1 =>
  (vp_in (r2 + x2) 36 ∧ Q (σ1.2.2.1 13 (Int32.toNatClampNeg (r2 + x2))) σ1)))) ∧
  (¬ x3 < 3 → Q 0 σ))
def wp_X0_number (x0 : Int32) (x1 : Int32) (σ : ST) (Q : Int32 → ST → Prop) : Prop :=
  ((3 ≤ x1 → Q 9 σ) ∧
  (¬ 3 ≤ x1 → Q ((3 * x0) + x1) σ))
def wp_X0_write_L26 (k : Nat) (x1 : Int32) (Q : ST → Prop) : Nat → Int32 → Int32 → Int32 → ST → Prop
  | 0, _, _, _, _ => False
  | n + 1, x4, x5, x6, σ =>
  ((x6 < 0 → Q σ) ∧
  (¬ x6 < 0 → ((x4 = (-1) → Q σ) ∧
  (¬ x4 = (-1) → (wp_X0_number x1 (((x5 : Int32) >>> ((4 : Int32) &&& 31)) &&& 3) σ (fun r4 σ3 =>
  (vp_in (5 * x6) 320 ∧ (∀ σ6, σ6 = sR σ3 (17 + 6 * k) (Int32.toNatClampNeg (5 * x6)) r4 →
  (wp_X0_number x1 (((x5 : Int32) >>> ((2 : Int32) &&& 31)) &&& 3) σ6 (fun r8 σ7 =>
  (vp_in ((5 * x6) + 1) 320 ∧ (∀ σ10, σ10 = sR σ7 (17 + 6 * k) (Int32.toNatClampNeg ((5 * x6) + 1)) r8 →
  (wp_X0_number x1 (x5 &&& 3) σ10 (fun r12 σ11 =>
  (vp_in ((5 * x6) + 2) 320 ∧ (∀ σ14, σ14 = sR σ11 (17 + 6 * k) (Int32.toNatClampNeg ((5 * x6) + 2)) r12 →
  (vp_in ((5 * x6) + 3) 320 ∧ (∀ σ16, σ16 = sR σ14 (17 + 6 * k) (Int32.toNatClampNeg ((5 * x6) + 3)) (((x5 : Int32) >>> ((6 : Int32) &&& 31)) &&& 3) →
  (vp_in ((5 * x6) + 4) 320 ∧ (∀ σ18, σ18 = sR σ16 (17 + 6 * k) (Int32.toNatClampNeg ((5 * x6) + 4)) (((x5 : Int32) >>> ((8 : Int32) &&& 31)) &&& 3) →
  (vp_in x4 64 ∧ (∀ w20, w20 = (σ18.2.2.1 (20 + 6 * k) (Int32.toNatClampNeg x4)) →
  (∀ w21, w21 = (σ18.2.2.1 (19 + 6 * k) (Int32.toNatClampNeg x4)) →
  wp_X0_write_L26 k x1 Q n w21 w20 (x6 + (-1)) σ18)))))))))))))))))))))))
def wp_X0_write (k : Nat) (x1 : Int32) (x2 : Int32) (x3 : Int32) (σ : ST) (Q : ST → Prop) : Prop :=
  (vp_in x2 64 ∧ (∀ σ2, σ2 = sI σ (16 + 6 * k) 6 ((σ.2.2.1 (21 + 6 * k) (Int32.toNatClampNeg x2)) + 1) →
  (∃ m26, wp_X0_write_L26 k x1 Q m26 x2 x3 ((σ2.1 (16 + 6 * k) 6) - 1) σ2)))
def wp_X1_left (x1 : Int32) (x2 : Int32) (x3 : Int32) (σ : ST) (Q : Int32 → ST → Prop) : Prop :=
  ((x3 < 3 → (wp_X1_place x1 x3 σ (fun r2 σ1 =>
  (vp_in (r2 + x2) 36 ∧ Q (σ1.2.2.1 12 (Int32.toNatClampNeg (r2 + x2))) σ1)))) ∧
  (¬ x3 < 3 → Q x2 σ))
def wp_X1_period (x1 : Int32) (σ : ST) (Q : Int32 → ST → Prop) : Prop :=
  (vp_in x1 3 ∧ (((σ.2.2.1 14 (Int32.toNatClampNeg x1)) ≤ 0 → Q 1 σ) ∧
  (¬ (σ.2.2.1 14 (Int32.toNatClampNeg x1)) ≤ 0 → Q (σ.2.2.1 14 (Int32.toNatClampNeg x1)) σ)))
def wp_X0_goOn_L8 (k : Nat) (x2 : Int32) (x3 : Int32) (x4 : Int32) (Q : ST → Prop) : Nat → Int32 → ST → Prop
  | 0, _, _ => False
  | n + 1, x5, σ =>
  ((64 ≤ x5 → Q σ) ∧
  (¬ 64 ≤ x5 → ((¬ (σ.1 (16 + 6 * k) 6) = 0 → Q σ) ∧
  ((σ.1 (16 + 6 * k) 6) = 0 → (wp_X1_met x2 ((x3 : Int32) >>> ((4 : Int32) &&& 31)) ((x5 : Int32) >>> ((4 : Int32) &&& 31)) x4 σ (fun r2 σ1 =>
  (wp_X1_met x2 (((x3 : Int32) >>> ((2 : Int32) &&& 31)) &&& 3) (((x5 : Int32) >>> ((2 : Int32) &&& 31)) &&& 3) x4 σ1 (fun r4 σ3 =>
  (wp_X1_answer x2 r2 (x5 &&& 3) σ3 (fun r6 σ5 =>
  (wp_X1_answer x2 r4 (x5 &&& 3) σ5 (fun r8 σ7 =>
  (∀ w9, w9 = ((x5 ||| ((r6 : Int32) <<< ((6 : Int32) &&& 31))) ||| ((r8 : Int32) <<< ((8 : Int32) &&& 31))) →
  ((r6 = r8 → (wp_X1_left x2 r2 (x5 &&& 3) σ7 (fun r11 σ10 =>
  (wp_X1_left x2 r4 (x5 &&& 3) σ10 (fun r13 σ12 =>
  (wp_X1_period x2 σ12 (fun r15 σ14 =>
  (¬ r15 = 0 ∧ (wp_X0_node r11 r13 ((x4 + 1) - (x4 + 1) / r15 * r15) σ14 (fun r18 σ17 =>
  (wp_X0_reach k r18 x3 w9 σ17 (fun σ19 =>
  wp_X0_goOn_L8 k x2 x3 x4 Q n (x5 + 1) σ19)))))))))))) ∧
  (¬ r6 = r8 → (wp_X0_write k x2 x3 w9 σ7 (fun σ20 =>
  wp_X0_goOn_L8 k x2 x3 x4 Q n (x5 + 1) σ20)))))))))))))))))
def wp_X0_goOn (k : Nat) (x2 : Int32) (x3 : Int32) (σ : ST) (Q : ST → Prop) : Prop :=
  (∃ m8, wp_X0_goOn_L8 k x2 x3 (x3 &&& 3) Q m8 0 σ)
def wp_X0_find_L42 (k : Nat) (x2 : Int32) (Q : ST → Prop) : Nat → Int32 → ST → Prop
  | 0, _, _ => False
  | n + 1, x3, σ =>
  (((σ.1 (16 + 6 * k) 5) ≤ x3 → Q σ) ∧
  (¬ (σ.1 (16 + 6 * k) 5) ≤ x3 → ((¬ (σ.1 (16 + 6 * k) 6) = 0 → Q σ) ∧
  ((σ.1 (16 + 6 * k) 6) = 0 → (vp_in x3 64 ∧ (wp_X0_goOn k x2 (σ.2.2.1 (18 + 6 * k) (Int32.toNatClampNeg x3)) σ (fun σ9 =>
  wp_X0_find_L42 k x2 Q n (x3 + 1) σ9)))))))
def wp_X0_find (k : Nat) (x2 : Int32) (σ : ST) (Q : ST → Prop) : Prop :=
  (∀ σ1, σ1 = sI σ (16 + 6 * k) 6 0 →
  (∀ σ2, σ2 = sI σ1 (16 + 6 * k) 5 0 →
  (wp_J7_fill_53178 (21 + 6 * k) 64 (-1) σ2 (fun σ3 =>
  (vp_in x2 3 ∧ (wp_X0_node (σ3.2.2.1 15 (Int32.toNatClampNeg x2)) (σ3.2.2.1 15 (Int32.toNatClampNeg x2)) 0 σ3 (fun r6 σ5 =>
  (wp_X0_reach k r6 (-1) 0 σ5 (fun σ7 =>
  (∃ m42, wp_X0_find_L42 k x2 Q m42 0 σ7))))))))))
def wp_X4_pairOf (x1 : Int32) (σ : ST) (Q : Nat → ST → Prop) : Prop :=
  (vp_in x1 3 ∧ (((σ.1 (16 + 6 * (Int32.toNatClampNeg x1)) 7) = (σ.1 0 6) → Q (16 + 6 * (Int32.toNatClampNeg x1)) σ) ∧
  (¬ (σ.1 (16 + 6 * (Int32.toNatClampNeg x1)) 7) = (σ.1 0 6) → (wp_X4_wallsNow σ (fun r4 σ3 =>
  (wp_X1_build (σ.1 0 4) r4 σ3 (fun σ5 =>
  (wp_X0_find (Int32.toNatClampNeg x1) x1 σ5 (fun σ6 =>
  (∀ σ7, σ7 = sI σ6 (16 + 6 * (Int32.toNatClampNeg x1)) 7 (σ6.1 0 6) →
  Q (16 + 6 * (Int32.toNatClampNeg x1)) σ7))))))))))
def wp_X4_countSilent_L4 (Q : Int32 → ST → Prop) : Nat → Int32 → Int32 → ST → Prop
  | 0, _, _, _ => False
  | n + 1, x1, x2, σ =>
  (((σ.1 0 4) ≤ x2 → Q x1 σ) ∧
  (¬ (σ.1 0 4) ≤ x2 → (wp_X4_pairOf x2 σ (fun r2 σ1 =>
  ∃ kk3, kk3 < 3 ∧ r2 = (16 + 6 * kk3) ∧ ((¬ (σ1.1 (16 + 6 * kk3) 6) = 0 → wp_X4_countSilent_L4 Q n (x1 + 0) (x2 + 1) σ1) ∧
  ((σ1.1 (16 + 6 * kk3) 6) = 0 → wp_X4_countSilent_L4 Q n (x1 + 1) (x2 + 1) σ1))))))
def wp_X4_countSilent (σ : ST) (Q : Int32 → ST → Prop) : Prop :=
  (∃ m4, wp_X4_countSilent_L4 Q m4 0 0 σ)
def wp_X4_sumOf_L4 (x1 : Int32) (Q : Int32 → ST → Prop) : Nat → Int32 → Int32 → ST → Prop
  | 0, _, _, _ => False
  | n + 1, x2, x3, σ =>
  (((σ.1 0 4) ≤ x3 → Q x2 σ) ∧
  (¬ (σ.1 0 4) ≤ x3 → (vp_in x3 3 ∧ (wp_X4_wallIn x1 x3 σ (fun r4 σ3 =>
  (vp_in r4 4 ∧ (∀ w6, w6 = (x2 + (σ3.2.2.1 (5 + 2 * (Int32.toNatClampNeg x3)) (Int32.toNatClampNeg r4))) →
  wp_X4_sumOf_L4 x1 Q n w6 (x3 + 1) σ3)))))))
def wp_X4_sumOf (x1 : Int32) (σ : ST) (Q : Int32 → ST → Prop) : Prop :=
  (∃ m4, wp_X4_sumOf_L4 x1 Q m4 0 0 σ)
def wp_X4_look (x1 : Int32) (σ : ST) (Q : Int32 → ST → Prop) : Prop :=
  ((x1 = 0 → Q (σ.1 0 4) σ) ∧
  (¬ x1 = 0 → ((x1 = 1 → (wp_X4_countSilent σ (fun r2 σ1 =>
  Q r2 σ1))) ∧
  (¬ x1 = 1 → ((x1 = 2 → (wp_X4_wallsNow σ (fun r4 σ3 =>
  (wp_X4_sumOf r4 σ3 (fun r6 σ5 =>
  Q r6 σ5))))) ∧
  (¬ x1 = 2 → ((x1 = 3 → (wp_X4_wallsNow σ (fun r8 σ7 =>
  Q r8 σ7))) ∧
  (¬ x1 = 3 → Q (-1) σ))))))))
def wp_X4_of (x1 : Int32) (x2 : Int32) (σ : ST) (Q : Int32 → ST → Prop) : Prop :=
  (wp_X4_isThing x1 σ (fun r2 σ1 =>
  ((¬ r2 = 0 → ((x2 = 0 → (vp_in x1 3 ∧ Q (σ1.1 (4 + 2 * (Int32.toNatClampNeg x1)) 1) σ1)) ∧
  (¬ x2 = 0 → ((x2 = 1 → (vp_in x1 3 ∧ Q (σ1.1 (4 + 2 * (Int32.toNatClampNeg x1)) 2) σ1)) ∧
  (¬ x2 = 1 → ((x2 = 2 → (vp_in x1 3 ∧ Q (σ1.1 (4 + 2 * (Int32.toNatClampNeg x1)) 3) σ1)) ∧
  (¬ x2 = 2 → ((x2 = 3 → (vp_in x1 3 ∧ Q (σ1.1 (4 + 2 * (Int32.toNatClampNeg x1)) 4) σ1)) ∧
  (¬ x2 = 3 → ((x2 = 4 → (vp_in x1 3 ∧ Q (σ1.1 (4 + 2 * (Int32.toNatClampNeg x1)) 5) σ1)) ∧
  (¬ x2 = 4 → Q (-1) σ1))))))))))) ∧
  (r2 = 0 → Q (-1) σ1))))
def wp_X4_does (x1 : Int32) (x2 : Int32) (x3 : Int32) (x4 : Int32) (x5 : Int32) (σ : ST) (Q : Int32 → ST → Prop) : Prop :=
  (wp_X4_isThing x1 σ (fun r2 σ1 =>
  ((r2 = 0 → Q (-1) σ1) ∧
  (¬ r2 = 0 → ((x2 < 0 → Q (-1) σ1) ∧
  (¬ x2 < 0 → ((1 < x2 → Q (-1) σ1) ∧
  (¬ 1 < x2 → ((x4 < 0 → Q (-1) σ1) ∧
  (¬ x4 < 0 → ((x4 < 3 → (vp_in x1 3 ∧ (wp_X4_canBe (σ1.1 (4 + 2 * (Int32.toNatClampNeg x1)) 1) x3 σ1 (fun r6 σ5 =>
  ((r6 = 0 → Q (-1) σ5) ∧
  (¬ r6 = 0 → ((x5 < 0 → Q (-1) σ5) ∧
  (¬ x5 < 0 → ((x5 ≤ 1 → ((¬ x5 = 0 → (wp_X2_answer (Int32.toNatClampNeg x1) x2 x3 x4 σ5 (fun r9 σ8 =>
  Q r9 σ8))) ∧
  (x5 = 0 → (wp_X2_next (Int32.toNatClampNeg x1) x2 x3 x4 σ5 (fun r12 σ11 =>
  Q r12 σ11))))) ∧
  (¬ x5 ≤ 1 → Q (-1) σ5)))))))))) ∧
  (¬ x4 < 3 → Q (-1) σ1))))))))))))
def wp_X4_silent (x1 : Int32) (σ : ST) (Q : Int32 → ST → Prop) : Prop :=
  (wp_X4_isThing x1 σ (fun r2 σ1 =>
  ((¬ r2 = 0 → (wp_X4_pairOf x1 σ1 (fun r4 σ3 =>
  ∃ kk5, kk5 < 3 ∧ r4 = (16 + 6 * kk5) ∧ ((¬ (σ3.1 (16 + 6 * kk5) 6) = 0 → Q 0 σ3) ∧
  ((σ3.1 (16 + 6 * kk5) 6) = 0 → Q 1 σ3))))) ∧
  (r2 = 0 → Q (-1) σ1))))
def wp_X4_shown (x1 : Int32) (σ : ST) (Q : Int32 → ST → Prop) : Prop :=
  (wp_X4_isThing x1 σ (fun r2 σ1 =>
  ((r2 = 0 → Q (-1) σ1) ∧
  (¬ r2 = 0 → (wp_X4_pairOf x1 σ1 (fun r4 σ3 =>
  ∃ kk5, kk5 < 3 ∧ r4 = (16 + 6 * kk5) ∧ ((¬ (σ3.1 (16 + 6 * kk5) 6) = 0 → (wp_X4_pairOf x1 σ3 (fun r8 σ7 =>
  ∃ kk9, kk9 < 3 ∧ r8 = (16 + 6 * kk9) ∧ Q (σ7.1 (16 + 6 * kk9) 6) σ7))) ∧
  ((σ3.1 (16 + 6 * kk5) 6) = 0 → Q (-1) σ3))))))))
def wp_X4_show (x1 : Int32) (x2 : Int32) (x3 : Int32) (σ : ST) (Q : Int32 → ST → Prop) : Prop :=
  (wp_X4_isThing x1 σ (fun r2 σ1 =>
  ((r2 = 0 → Q (-1) σ1) ∧
  (¬ r2 = 0 → ((x2 < 0 → Q (-1) σ1) ∧
  (¬ x2 < 0 → (wp_X4_pairOf x1 σ1 (fun r4 σ3 =>
  ∃ kk5, kk5 < 3 ∧ r4 = (16 + 6 * kk5) ∧ (((σ3.1 (16 + 6 * kk5) 6) ≤ x2 → Q (-1) σ3) ∧
  (¬ (σ3.1 (16 + 6 * kk5) 6) ≤ x2 → ((x3 < 0 → Q (-1) σ3) ∧
  (¬ x3 < 0 → ((x3 < 5 → (wp_X4_pairOf x1 σ3 (fun r8 σ7 =>
  ∃ kk9, kk9 < 3 ∧ r8 = (16 + 6 * kk9) ∧ (vp_in ((5 * x2) + x3) 320 ∧ Q (σ7.2.2.1 (17 + 6 * kk9) (Int32.toNatClampNeg ((5 * x2) + x3))) σ7)))) ∧
  (¬ x3 < 5 → Q (-1) σ3))))))))))))))
def wp_X3_place (x0 : Int32) (x1 : Int32) (σ : ST) (Q : Int32 → ST → Prop) : Prop :=
  Q (3 * ((3 * x0) + x1)) σ
def wp_X3_addLetter_L12 (k : Nat) (K : ST → Prop) (Q : ST → Prop) : Nat → Int32 → ST → Prop
  | 0, _, _ => False
  | n + 1, x1, σ =>
  (((σ.1 (34 + 4 * k) 3) ≤ x1 → K  σ) ∧
  (¬ (σ.1 (34 + 4 * k) 3) ≤ x1 → (wp_X3_place (σ.1 (34 + 4 * k) 4) x1 σ (fun r2 σ1 =>
  (vp_in x1 3 ∧ (vp_in r2 576 ∧ (∀ σ5, σ5 = sR σ1 (35 + 4 * k) (Int32.toNatClampNeg r2) (σ1.2.2.1 (36 + 4 * k) (Int32.toNatClampNeg x1)) →
  (wp_X3_place (σ5.1 (34 + 4 * k) 4) x1 σ5 (fun r7 σ6 =>
  (vp_in (r7 + 1) 576 ∧ (∀ σ9, σ9 = sR σ6 (35 + 4 * k) (Int32.toNatClampNeg (r7 + 1)) (σ6.2.2.1 (37 + 4 * k) (Int32.toNatClampNeg x1)) →
  wp_X3_addLetter_L12 k K Q n (x1 + 1) σ9)))))))))))
def wp_X3_addLetter (k : Nat) (σ : ST) (Q : ST → Prop) : Prop :=
  (((σ.1 (34 + 4 * k) 4) < 64 → (∃ m12, wp_X3_addLetter_L12 k (fun σ11 =>
  (∀ σ12, σ12 = sI σ11 (34 + 4 * k) 4 ((σ11.1 (34 + 4 * k) 4) + 1) →
  Q σ12)) Q m12 0 σ)) ∧
  (¬ (σ.1 (34 + 4 * k) 4) < 64 → Q σ))
def wp_X1_moved (x0 : Int64) (x2 : Int32) (x3 : Int32) (x4 : Int32) (σ : ST) (Q : Int64 → ST → Prop) : Prop :=
  ((¬ x2 = 0 → ((¬ x2 = 1 → Q (((Int64.toUInt64 x0 >>> (Int64.toUInt64 (Int32.toInt64 ((x3 : Int32) <<< (((2 * x2) : Int32) &&& 31))) &&& Int64.toUInt64 63)).toInt64 &&& 65535) <<< (Int32.toInt64 ((x4 : Int32) <<< (((2 * x2) : Int32) &&& 31)) &&& 63)) σ) ∧
  (x2 = 1 → Q (((Int64.toUInt64 x0 >>> (Int64.toUInt64 (Int32.toInt64 ((x3 : Int32) <<< (((2 * x2) : Int32) &&& 31))) &&& Int64.toUInt64 63)).toInt64 &&& 4222189076152335) <<< (Int32.toInt64 ((x4 : Int32) <<< (((2 * x2) : Int32) &&& 31)) &&& 63)) σ))) ∧
  (x2 = 0 → Q (((Int64.toUInt64 x0 >>> (Int64.toUInt64 (Int32.toInt64 ((x3 : Int32) <<< (((2 * x2) : Int32) &&& 31))) &&& Int64.toUInt64 63)).toInt64 &&& 1229782938247303441) <<< (Int32.toInt64 ((x4 : Int32) <<< (((2 * x2) : Int32) &&& 31)) &&& 63)) σ))
def wp_X1_sent_L34 (x1 : Int64) (x4 : Int32) (x5 : Int32) (x8 : Int32) (K : Int64 → ST → Prop) (Q : Int64 → ST → Prop) : Nat → Int64 → Int32 → ST → Prop
  | 0, _, _, _ => False
  | n + 1, x6, x9, σ =>
  ((4 ≤ x9 → K x6 σ) ∧
  (¬ 4 ≤ x9 → (vp_in ((4 * x8) + x9) 36 ∧ (wp_X1_moved x1 (x8 / 3) x9 (σ.2.2.1 11 (Int32.toNatClampNeg ((4 * x8) + x9))) σ (fun r3 σ2 =>
  wp_X1_sent_L34 x1 x4 x5 x8 K Q n (x6 ||| r3) (x9 + 1) σ2)))))
def wp_X1_sent_L6 (x1 : Int64) (x4 : Int32) (x5 : Int32) (K : Int64 → ST → Prop) (Q : Int64 → ST → Prop) : Nat → Int64 → Int32 → ST → Prop
  | 0, _, _, _ => False
  | n + 1, x6, x8, σ =>
  ((x4 < x8 → K x6 σ) ∧
  (¬ x4 < x8 → ((x8 < (σ.1 10 5) → (∃ m34, wp_X1_sent_L34 x1 x4 x5 x8 (fun y6_5 σ6 =>
  wp_X1_sent_L6 x1 x4 x5 K Q n y6_5 (x8 + 1) σ6) Q m34 x6 0 σ)) ∧
  (¬ x8 < (σ.1 10 5) → wp_X1_sent_L6 x1 x4 x5 K Q n (x6 ||| x1) (x8 + 1) σ))))
def wp_X1_sent_L117 (x5 : Int32) (x8 : Int32) (x9 : Int64) (K : Int64 → ST → Prop) (Q : Int64 → ST → Prop) : Nat → Int64 → Int32 → ST → Prop
  | 0, _, _, _ => False
  | n + 1, x6, x11, σ =>
  ((4 ≤ x11 → K x6 σ) ∧
  (¬ 4 ≤ x11 → (vp_in x8 3 ∧ (wp_X1_moved x9 x8 x11 (σ.2.2.1 15 (Int32.toNatClampNeg x8)) σ (fun r14 σ13 =>
  wp_X1_sent_L117 x5 x8 x9 K Q n (x6 ||| r14) (x11 + 1) σ13)))))
def wp_X1_sent_L82 (x5 : Int32) (Q : Int64 → ST → Prop) : Nat → Int64 → Int32 → ST → Prop
  | 0, _, _, _ => False
  | n + 1, x6, x8, σ =>
  (((σ.1 10 5) ≤ (x8 * 3) → Q x6 σ) ∧
  (¬ (σ.1 10 5) ≤ (x8 * 3) → (wp_X1_isCleaned x8 x5 σ (fun r11 σ10 =>
  ((¬ r11 = 0 → (∃ m117, wp_X1_sent_L117 x5 x8 x6 (fun y6_16 σ17 =>
  wp_X1_sent_L82 x5 Q n y6_16 (x8 + 1) σ17) Q m117 0 0 σ10)) ∧
  (r11 = 0 → wp_X1_sent_L82 x5 Q n x6 (x8 + 1) σ10))))))
def wp_X1_sent (x1 : Int64) (x3 : Int32) (x4 : Int32) (x5 : Int32) (σ : ST) (Q : Int64 → ST → Prop) : Prop :=
  (∃ m6, wp_X1_sent_L6 x1 x4 x5 (fun y6_8 σ9 =>
  (∃ m82, wp_X1_sent_L82 x5 Q m82 y6_8 0 σ9)) Q m6 0 x3 σ)
def wp_X1_answers_L16 (x1 : Int64) (x3 : Int32) (Q : Int32 → ST → Prop) : Nat → Int32 → Int32 → ST → Prop
  | 0, _, _, _ => False
  | n + 1, x4, x5, σ =>
  ((4 ≤ x5 → Q x4 σ) ∧
  (¬ 4 ≤ x5 → (wp_X1_moved x1 (x3 / 3) x5 0 σ (fun r2 σ1 =>
  (((lg_cmp r2 0) = 0 → wp_X1_answers_L16 x1 x3 Q n x4 (x5 + 1) σ1) ∧
  (¬ (lg_cmp r2 0) = 0 → (vp_in ((4 * x3) + x5) 36 ∧ (∀ w4, w4 = (x4 ||| ((1 : Int32) <<< (((σ1.2.2.1 13 (Int32.toNatClampNeg ((4 * x3) + x5))) : Int32) &&& 31))) →
  wp_X1_answers_L16 x1 x3 Q n w4 (x5 + 1) σ1))))))))
def wp_X1_answers (x1 : Int64) (x3 : Int32) (σ : ST) (Q : Int32 → ST → Prop) : Prop :=
  ((x3 < (σ.1 10 5) → (∃ m16, wp_X1_answers_L16 x1 x3 Q m16 0 0 σ)) ∧
  (¬ x3 < (σ.1 10 5) → Q 1 σ))
def wp_J6_bitCount_0f7a4 (x0 : Int32) (σ : ST) (Q : Int32 → ST → Prop) : Prop :=
  (∀ w1, w1 = (x0 - ((Int32.toUInt32 x0 >>> (Int32.toUInt32 1 &&& Int32.toUInt32 31)).toInt32 &&& 1431655765)) →
  (∀ w2, w2 = ((w1 &&& 858993459) + ((Int32.toUInt32 w1 >>> (Int32.toUInt32 2 &&& Int32.toUInt32 31)).toInt32 &&& 858993459)) →
  (∀ w3, w3 = ((w2 + (Int32.toUInt32 w2 >>> (Int32.toUInt32 4 &&& Int32.toUInt32 31)).toInt32) &&& 252645135) →
  (∀ w4, w4 = (w3 + (Int32.toUInt32 w3 >>> (Int32.toUInt32 8 &&& Int32.toUInt32 31)).toInt32) →
  (∀ w5, w5 = (w4 + (Int32.toUInt32 w4 >>> (Int32.toUInt32 16 &&& Int32.toUInt32 31)).toInt32) →
  Q (w5 &&& 63) σ)))))
def wp_X1_heard_L25 (x1 : Int64) (x3 : Int32) (x4 : Int32) (Q : Int64 → ST → Prop) : Nat → Int64 → Int32 → ST → Prop
  | 0, _, _, _ => False
  | n + 1, x5, x7, σ =>
  ((4 ≤ x7 → Q x5 σ) ∧
  (¬ 4 ≤ x7 → (vp_in ((4 * x3) + x7) 36 ∧ ((¬ (σ.2.2.1 13 (Int32.toNatClampNeg ((4 * x3) + x7))) = x4 → wp_X1_heard_L25 x1 x3 x4 Q n x5 (x7 + 1) σ) ∧
  ((σ.2.2.1 13 (Int32.toNatClampNeg ((4 * x3) + x7))) = x4 → (wp_X1_moved x1 (x3 / 3) x7 (σ.2.2.1 12 (Int32.toNatClampNeg ((4 * x3) + x7))) σ (fun r3 σ2 =>
  wp_X1_heard_L25 x1 x3 x4 Q n (x5 ||| r3) (x7 + 1) σ2)))))))
def wp_X1_heard (x1 : Int64) (x3 : Int32) (x4 : Int32) (σ : ST) (Q : Int64 → ST → Prop) : Prop :=
  ((x3 < (σ.1 10 5) → (∃ m25, wp_X1_heard_L25 x1 x3 x4 Q m25 0 0 σ)) ∧
  (¬ x3 < (σ.1 10 5) → ((¬ x4 = 0 → Q 0 σ) ∧
  (x4 = 0 → Q x1 σ))))
def wp_X4_mostBy_L29 (rec : Int64 → Int32 → Int32 → ST → (Int32 → ST → Prop) → Prop) (x1 : Int64) (x3 : Int32) (x4 : Int32) (x5 : Int32) (x6 : Int32) (Q : Int32 → ST → Prop) : Nat → Int32 → Int32 → ST → Prop
  | 0, _, _, _ => False
  | n + 1, x7, x8, σ =>
  ((4 ≤ x8 → Q x7 σ) ∧
  (¬ 4 ≤ x8 → (((((x6 : Int32) >>> ((x8 : Int32) &&& 31)) &&& 1) = 0 → wp_X4_mostBy_L29 rec x1 x3 x4 x5 x6 Q n x7 (x8 + 1) σ) ∧
  (¬ (((x6 : Int32) >>> ((x8 : Int32) &&& 31)) &&& 1) = 0 → (wp_X1_heard x1 x3 x8 σ (fun r4 σ3 =>
  (rec r4 (x4 + 1) x5 σ3 (fun r6 σ5 =>
  wp_X4_mostBy_L29 rec x1 x3 x4 x5 x6 Q n (x7 + r6) (x8 + 1) σ5))))))))
def wp_X4_mostBy (rec : Int64 → Int32 → Int32 → ST → (Int32 → ST → Prop) → Prop) (x1 : Int64) (x3 : Int32) (x4 : Int32) (x5 : Int32) (σ : ST) (Q : Int32 → ST → Prop) : Prop :=
  (wp_X1_answers x1 x3 σ (fun r2 σ1 =>
  (((x4 + 1) < x5 → (∃ m29, wp_X4_mostBy_L29 rec x1 x3 x4 x5 r2 Q m29 0 0 σ1)) ∧
  (¬ (x4 + 1) < x5 → (wp_J6_bitCount_0f7a4 r2 σ1 (fun r9 σ8 =>
  Q r9 σ8))))))
def wp_X4_most_L27 (rec : Int64 → Int32 → Int32 → ST → (Int32 → ST → Prop) → Prop) (x3 : Int32) (x4 : Int32) (x5 : Int64) (Q : Int32 → ST → Prop) : Nat → Int32 → Int32 → ST → Prop
  | 0, _, _, _ => False
  | n + 1, x7, x8, σ =>
  (((σ.1 10 5) < x8 → Q x7 σ) ∧
  (¬ (σ.1 10 5) < x8 → (wp_X4_mostBy rec x5 x8 x3 x4 σ (fun r4 σ3 =>
  wp_X4_most_L27 rec x3 x4 x5 Q n (if x7 < r4 then r4 else x7) (x8 + 1) σ3))))
def wp_X4_mosto (rec : Int64 → Int32 → Int32 → ST → (Int32 → ST → Prop) → Prop) (x1 : Int64) (x3 : Int32) (x4 : Int32) (σ : ST) (Q : Int32 → ST → Prop) : Prop :=
  ((x3 < x4 → (wp_X1_sent x1 0 (σ.1 10 5) x3 σ (fun r2 σ1 =>
  (∃ m27, wp_X4_most_L27 rec x3 x4 r2 Q m27 0 0 σ1)))) ∧
  (¬ x3 < x4 → Q 1 σ))
def wp_X4_most : Nat → Int64 → Int32 → Int32 → ST → (Int32 → ST → Prop) → Prop
  | 0, _, _, _ => fun _ _ => False
  | d + 1, x1, x3, x4 => fun σ Q => wp_X4_mosto (wp_X4_most d) x1 x3 x4 σ Q
def wp_X3_grow_L37 (k0 : Nat) (rec : Nat → Int64 → Int32 → ST → (ST → Prop) → Prop) (x4 : Int32) (x5 : Int64) (K : Int32 → ST → Prop) (Q : ST → Prop) : Nat → Int32 → Int32 → Int32 → ST → Prop
  | 0, _, _, _, _ => False
  | n + 1, x7, x8, x9, σ =>
  (((σ.1 10 5) < x9 → K x7 σ) ∧
  (¬ (σ.1 10 5) < x9 → (wp_X4_mostBy (wp_X4_most 4) x5 x9 x4 (σ.1 (34 + 4 * k0) 3) σ (fun r4 σ3 =>
  ((r4 ≤ x8 → wp_X3_grow_L37 k0 rec x4 x5 K Q n x7 x8 (x9 + 1) σ3) ∧
  (¬ r4 ≤ x8 → wp_X3_grow_L37 k0 rec x4 x5 K Q n x9 r4 (x9 + 1) σ3))))))
def wp_X3_grow_L96 (k0 : Nat) (rec : Nat → Int64 → Int32 → ST → (ST → Prop) → Prop) (x4 : Int32) (x5 : Int64) (x7 : Int32) (x9 : Int32) (Q : ST → Prop) : Nat → Int32 → ST → Prop
  | 0, _, _ => False
  | n + 1, x10, σ =>
  ((4 ≤ x10 → Q σ) ∧
  (¬ 4 ≤ x10 → (((((x9 : Int32) >>> ((x10 : Int32) &&& 31)) &&& 1) = 0 → wp_X3_grow_L96 k0 rec x4 x5 x7 x9 Q n (x10 + 1) σ) ∧
  (¬ (((x9 : Int32) >>> ((x10 : Int32) &&& 31)) &&& 1) = 0 → (((σ.1 10 5) ≤ x7 → (vp_in x4 3 ∧ (∀ σ11, σ11 = sR σ (36 + 4 * k0) (Int32.toNatClampNeg x4) 9 →
  (∀ σ12, σ12 = sR σ11 (37 + 4 * k0) (Int32.toNatClampNeg x4) x10 →
  (wp_X1_heard x5 x7 x10 σ12 (fun r14 σ13 =>
  (rec k0 r14 (x4 + 1) σ13 (fun σ15 =>
  wp_X3_grow_L96 k0 rec x4 x5 x7 x9 Q n (x10 + 1) σ15)))))))) ∧
  (¬ (σ.1 10 5) ≤ x7 → (vp_in x4 3 ∧ (∀ σ17, σ17 = sR σ (36 + 4 * k0) (Int32.toNatClampNeg x4) x7 →
  (∀ σ18, σ18 = sR σ17 (37 + 4 * k0) (Int32.toNatClampNeg x4) x10 →
  (wp_X1_heard x5 x7 x10 σ18 (fun r20 σ19 =>
  (rec k0 r20 (x4 + 1) σ19 (fun σ21 =>
  wp_X3_grow_L96 k0 rec x4 x5 x7 x9 Q n (x10 + 1) σ21)))))))))))))
def wp_X3_growo (rec : Nat → Int64 → Int32 → ST → (ST → Prop) → Prop) (k0 : Nat) (x2 : Int64) (x4 : Int32) (σ : ST) (Q : ST → Prop) : Prop :=
  ((x4 < (σ.1 (34 + 4 * k0) 3) → (wp_X1_sent x2 0 (σ.1 10 5) x4 σ (fun r2 σ1 =>
  (∃ m37, wp_X3_grow_L37 k0 rec x4 r2 (fun y7_6 σ7 =>
  (wp_X1_answers r2 y7_6 σ7 (fun r9 σ8 =>
  (∃ m96, wp_X3_grow_L96 k0 rec x4 r2 y7_6 r9 Q m96 0 σ8)))) Q m37 0 0 0 σ1)))) ∧
  (¬ x4 < (σ.1 (34 + 4 * k0) 3) → (wp_X3_addLetter k0 σ (fun σ23 =>
  Q σ23))))
def wp_X3_grow : Nat → Nat → Int64 → Int32 → ST → (ST → Prop) → Prop
  | 0, _, _, _ => fun _ _ => False
  | d + 1, k0, x2, x4 => fun σ Q => wp_X3_growo (wp_X3_grow d) k0 x2 x4 σ Q
def wp_X3_step (k : Nat) (x2 : Int64) (x4 : Int32) (x5 : Int32) (x6 : Int32) (σ : ST) (Q : Int64 → ST → Prop) : Prop :=
  (wp_X1_sent x2 x4 x4 x6 σ (fun r2 σ1 =>
  (wp_X3_place x5 x6 σ1 (fun r4 σ3 =>
  (vp_in r4 576 ∧ (wp_X3_place x5 x6 σ3 (fun r7 σ6 =>
  (vp_in (r7 + 1) 576 ∧ (wp_X1_heard r2 (σ3.2.2.1 (35 + 4 * k) (Int32.toNatClampNeg r4)) (σ6.2.2.1 (35 + 4 * k) (Int32.toNatClampNeg (r7 + 1))) σ6 (fun r10 σ9 =>
  Q r10 σ9))))))))))
def wp_X3_leads_L7 (k : Nat) (x4 : Int32) (Q : Int32 → ST → Prop) : Nat → Int64 → Int32 → ST → Prop
  | 0, _, _, _ => False
  | n + 1, x6, x8, σ =>
  (((σ.1 (34 + 4 * k) 3) ≤ x8 → (((lg_cmp x6 0) = 0 → Q 0 σ) ∧
  (¬ (lg_cmp x6 0) = 0 → Q 1 σ))) ∧
  (¬ (σ.1 (34 + 4 * k) 3) ≤ x8 → (((lg_cmp x6 0) = 0 → (((lg_cmp x6 0) = 0 → Q 0 σ) ∧
  (¬ (lg_cmp x6 0) = 0 → Q 1 σ))) ∧
  (¬ (lg_cmp x6 0) = 0 → (wp_X1_sent x6 0 (σ.1 10 5) x8 σ (fun r2 σ1 =>
  (wp_X3_place x4 x8 σ1 (fun r4 σ3 =>
  (vp_in r4 576 ∧ (wp_X3_place x4 x8 σ3 (fun r7 σ6 =>
  (vp_in (r7 + 1) 576 ∧ (wp_X1_heard r2 (σ3.2.2.1 (35 + 4 * k) (Int32.toNatClampNeg r4)) (σ6.2.2.1 (35 + 4 * k) (Int32.toNatClampNeg (r7 + 1))) σ6 (fun r10 σ9 =>
  wp_X3_leads_L7 k x4 Q n r10 (x8 + 1) σ9))))))))))))))
def wp_X3_leads (k : Nat) (x2 : Int64) (x4 : Int32) (x5 : Int32) (σ : ST) (Q : Int32 → ST → Prop) : Prop :=
  (∃ m7, wp_X3_leads_L7 k x4 Q m7 x2 x5 σ)
def wp_X3_addSenders_L30 (k : Nat) (x2 : Int32) (x3 : Int64) (x5 : Int32) (K : Int32 → ST → Prop) (Q : ST → Prop) : Nat → Int32 → ST → Prop
  | 0, _, _ => False
  | n + 1, x6, σ =>
  (((σ.1 10 5) ≤ x6 → K x6 σ) ∧
  (¬ (σ.1 10 5) ≤ x6 → (wp_X3_step k x3 x6 x2 x5 σ (fun r2 σ1 =>
  (wp_X3_leads k r2 x2 (x5 + 1) σ1 (fun r4 σ3 =>
  ((¬ r4 = 0 → K x6 σ3) ∧
  (r4 = 0 → wp_X3_addSenders_L30 k x2 x3 x5 K Q n (x6 + 1) σ3))))))))
def wp_X3_addSenders_L18 (k : Nat) (x2 : Int32) (K : ST → Prop) (Q : ST → Prop) : Nat → Int64 → Int32 → ST → Prop
  | 0, _, _, _ => False
  | n + 1, x3, x5, σ =>
  (((σ.1 (34 + 4 * k) 3) ≤ x5 → K  σ) ∧
  (¬ (σ.1 (34 + 4 * k) 3) ≤ x5 → (∃ m30, wp_X3_addSenders_L30 k x2 x3 x5 (fun y6_6 σ7 =>
  (wp_X3_place x2 x5 σ7 (fun r9 σ8 =>
  (((σ8.1 10 5) ≤ y6_6 → (vp_in (r9 + 2) 576 ∧ (∀ σ11, σ11 = sR σ8 (35 + 4 * k) (Int32.toNatClampNeg (r9 + 2)) 9 →
  (wp_X3_step k x3 y6_6 x2 x5 σ11 (fun r13 σ12 =>
  wp_X3_addSenders_L18 k x2 K Q n r13 (x5 + 1) σ12))))) ∧
  (¬ (σ8.1 10 5) ≤ y6_6 → (vp_in (r9 + 2) 576 ∧ (∀ σ15, σ15 = sR σ8 (35 + 4 * k) (Int32.toNatClampNeg (r9 + 2)) y6_6 →
  (wp_X3_step k x3 y6_6 x2 x5 σ15 (fun r17 σ16 =>
  wp_X3_addSenders_L18 k x2 K Q n r17 (x5 + 1) σ16))))))))) Q m30 0 σ)))
def wp_X3_addSenders_L2 (k : Nat) (Q : ST → Prop) : Nat → Int32 → ST → Prop
  | 0, _, _ => False
  | n + 1, x2, σ =>
  (((σ.1 (34 + 4 * k) 4) ≤ x2 → Q σ) ∧
  (¬ (σ.1 (34 + 4 * k) 4) ≤ x2 → (∃ m18, wp_X3_addSenders_L18 k x2 (fun σ19 =>
  wp_X3_addSenders_L2 k Q n (x2 + 1) σ19) Q m18 (σ.2.1 10 6) 0 σ)))
def wp_X3_addSenders (k : Nat) (σ : ST) (Q : ST → Prop) : Prop :=
  (∃ m2, wp_X3_addSenders_L2 k Q m2 0 σ)
def wp_X4_whisperOf (x1 : Int32) (σ : ST) (Q : Nat → ST → Prop) : Prop :=
  (vp_in x1 4 ∧ (((σ.1 (34 + 4 * (Int32.toNatClampNeg x1)) 5) = (σ.1 0 6) → Q (34 + 4 * (Int32.toNatClampNeg x1)) σ) ∧
  (¬ (σ.1 (34 + 4 * (Int32.toNatClampNeg x1)) 5) = (σ.1 0 6) → (wp_X4_wallsNow σ (fun r4 σ3 =>
  (wp_X1_build (σ.1 0 4) r4 σ3 (fun σ5 =>
  (∀ σ6, σ6 = sI σ5 (34 + 4 * (Int32.toNatClampNeg x1)) 4 0 →
  (wp_X3_grow 4 (Int32.toNatClampNeg x1) (σ6.2.1 10 6) 0 σ6 (fun σ7 =>
  (wp_X3_addSenders (Int32.toNatClampNeg x1) σ7 (fun σ8 =>
  (∀ σ9, σ9 = sI σ8 (34 + 4 * (Int32.toNatClampNeg x1)) 5 (σ8.1 0 6) →
  Q (34 + 4 * (Int32.toNatClampNeg x1)) σ9)))))))))))))
def wp_X4_letters (x1 : Int32) (σ : ST) (Q : Int32 → ST → Prop) : Prop :=
  ((x1 < 0 → Q (-1) σ) ∧
  (¬ x1 < 0 → ((x1 ≤ 3 → (wp_X4_whisperOf x1 σ (fun r2 σ1 =>
  ∃ kk3, kk3 < 4 ∧ r2 = (34 + 4 * kk3) ∧ Q (σ1.1 (34 + 4 * kk3) 4) σ1))) ∧
  (¬ x1 ≤ 3 → Q (-1) σ))))
def wp_X4_letter (x1 : Int32) (x2 : Int32) (x3 : Int32) (x4 : Int32) (σ : ST) (Q : Int32 → ST → Prop) : Prop :=
  ((x1 < 0 → Q (-1) σ) ∧
  (¬ x1 < 0 → ((3 < x1 → Q (-1) σ) ∧
  (¬ 3 < x1 → ((x2 < 0 → Q (-1) σ) ∧
  (¬ x2 < 0 → (wp_X4_whisperOf x1 σ (fun r2 σ1 =>
  ∃ kk3, kk3 < 4 ∧ r2 = (34 + 4 * kk3) ∧ ((x2 < (σ1.1 (34 + 4 * kk3) 4) → ((x3 < 0 → Q (-1) σ1) ∧
  (¬ x3 < 0 → ((x1 ≤ x3 → Q (-1) σ1) ∧
  (¬ x1 ≤ x3 → ((x4 < 0 → Q (-1) σ1) ∧
  (¬ x4 < 0 → ((x4 < 3 → (wp_X4_whisperOf x1 σ1 (fun r6 σ5 =>
  ∃ kk7, kk7 < 4 ∧ r6 = (34 + 4 * kk7) ∧ (wp_X3_place x2 x3 σ5 (fun r10 σ9 =>
  (vp_in (r10 + x4) 576 ∧ Q (σ9.2.2.1 (35 + 4 * kk7) (Int32.toNatClampNeg (r10 + x4))) σ9)))))) ∧
  (¬ x4 < 3 → Q (-1) σ1))))))))) ∧
  (¬ x2 < (σ1.1 (34 + 4 * kk3) 4) → Q (-1) σ1))))))))))
def wp_X4_begin_L2 (K : ST → Prop) (Q : ST → Prop) : Nat → Int32 → ST → Prop
  | 0, _, _ => False
  | n + 1, x1, σ =>
  (((σ.1 0 4) ≤ x1 → K  σ) ∧
  (¬ (σ.1 0 4) ≤ x1 → (vp_in x1 3 ∧ (∀ σ4, σ4 = sI σ (4 + 2 * (Int32.toNatClampNeg x1)) 6 (σ.1 (4 + 2 * (Int32.toNatClampNeg x1)) 2) →
  wp_X4_begin_L2 K Q n (x1 + 1) σ4))))
def wp_X4_begin (σ : ST) (Q : ST → Prop) : Prop :=
  (∃ m2, wp_X4_begin_L2 (fun σ6 =>
  (∀ σ7, σ7 = sI σ6 0 5 0 →
  Q σ7)) Q m2 0 σ)
def wp_X4_isAct (x1 : Int32) (σ : ST) (Q : Int32 → ST → Prop) : Prop :=
  ((x1 = 9 → Q 1 σ) ∧
  (¬ x1 = 9 → ((x1 < 0 → Q 0 σ) ∧
  (¬ x1 < 0 → (((3 * (σ.1 0 4)) ≤ x1 → Q 0 σ) ∧
  (¬ (3 * (σ.1 0 4)) ≤ x1 → Q 1 σ))))))
def wp_X4_run_L39 (x1 : Int32) (x2 : Int32) (K : ST → Prop) (Q : Int32 → ST → Prop) : Nat → Int32 → ST → Prop
  | 0, _, _ => False
  | n + 1, x3, σ =>
  (((σ.1 0 4) ≤ x3 → K  σ) ∧
  (¬ (σ.1 0 4) ≤ x3 → ((¬ (x1 / 3) = x3 → (vp_in x3 3 ∧ (wp_X1_met x3 (σ.1 (4 + 2 * (Int32.toNatClampNeg x3)) 6) 3 (σ.1 0 5) σ (fun r12 σ11 =>
  (∀ σ13, σ13 = sI σ11 (4 + 2 * (Int32.toNatClampNeg x3)) 6 r12 →
  wp_X4_run_L39 x1 x2 K Q n (x3 + 1) σ13))))) ∧
  ((x1 / 3) = x3 → (vp_in x3 3 ∧ (wp_X1_met x3 (σ.1 (4 + 2 * (Int32.toNatClampNeg x3)) 6) (x1 - x1 / 3 * 3) (σ.1 0 5) σ (fun r18 σ17 =>
  (∀ σ19, σ19 = sI σ17 (4 + 2 * (Int32.toNatClampNeg x3)) 6 r18 →
  wp_X4_run_L39 x1 x2 K Q n (x3 + 1) σ19))))))))
def wp_X4_run (x1 : Int32) (x2 : Int32) (σ : ST) (Q : Int32 → ST → Prop) : Prop :=
  (wp_X4_isAct x1 σ (fun r2 σ1 =>
  ((r2 = 0 → Q (-1) σ1) ∧
  (¬ r2 = 0 → (wp_X4_isAct x2 σ1 (fun r4 σ3 =>
  ((¬ r4 = 0 → (wp_X4_wallsNow σ3 (fun r6 σ5 =>
  (wp_X1_build (σ3.1 0 4) r6 σ5 (fun σ7 =>
  (∃ m39, wp_X4_run_L39 x1 x2 (fun σ21 =>
  (∀ σ22, σ22 = sI σ21 0 5 ((σ21.1 0 5) + 1) →
  ((¬ x2 = 9 → (vp_in (x2 / 3) 3 ∧ (wp_X1_answer (x2 / 3) (σ22.1 (4 + 2 * (Int32.toNatClampNeg (x2 / 3))) 6) (x2 - x2 / 3 * 3) σ22 (fun r26 σ25 =>
  (wp_X1_left (x2 / 3) (σ25.1 (4 + 2 * (Int32.toNatClampNeg (x2 / 3))) 6) (x2 - x2 / 3 * 3) σ25 (fun r28 σ27 =>
  (∀ σ29, σ29 = sI σ27 (4 + 2 * (Int32.toNatClampNeg (x2 / 3))) 6 r28 →
  Q r26 σ29))))))) ∧
  (x2 = 9 → Q 0 σ22)))) Q m39 0 σ7)))))) ∧
  (r4 = 0 → Q (-1) σ3))))))))
def wp_X4_state (x1 : Int32) (σ : ST) (Q : Int32 → ST → Prop) : Prop :=
  (wp_X4_isThing x1 σ (fun r2 σ1 =>
  ((r2 = 0 → Q (-1) σ1) ∧
  (¬ r2 = 0 → (vp_in x1 3 ∧ Q (σ1.1 (4 + 2 * (Int32.toNatClampNeg x1)) 6) σ1)))))
def wp_X4_ticks (σ : ST) (Q : Int32 → ST → Prop) : Prop :=
  Q (σ.1 0 5) σ
def wp_X4_lettersBehind (x1 : Int32) (x2 : Int32) (σ : ST) (Q : Int32 → ST → Prop) : Prop :=
  (wp_X1_build (σ.1 0 4) x1 σ (fun σ1 =>
  (wp_X4_most 4 (σ1.2.1 10 6) 0 x2 σ1 (fun r3 σ2 =>
  Q r3 σ2))))
def wp_X4_walls_L38 (x1 : Int32) (x2 : Int32) (x3 : Int32) (K : Int32 → ST → Prop) (Q : Int32 → ST → Prop) : Nat → Int32 → Int32 → ST → Prop
  | 0, _, _, _ => False
  | n + 1, x4, x5, σ =>
  ((((1 : Int32) <<< (((2 * (σ.1 0 4)) : Int32) &&& 31)) ≤ x5 → K x4 σ) ∧
  (¬ ((1 : Int32) <<< (((2 * (σ.1 0 4)) : Int32) &&& 31)) ≤ x5 → ((x4 = (-1) → (wp_X4_lettersBehind x5 x2 σ (fun r2 σ1 =>
  ((x1 < r2 → wp_X4_walls_L38 x1 x2 x3 K Q n x4 (x5 + 1) σ1) ∧
  (¬ x1 < r2 → wp_X4_walls_L38 x1 x2 x3 K Q n x5 (x5 + 1) σ1))))) ∧
  (¬ x4 = (-1) → (wp_X4_sumOf x5 σ (fun r4 σ3 =>
  (wp_X4_sumOf x4 σ3 (fun r6 σ5 =>
  ((r6 ≤ r4 → wp_X4_walls_L38 x1 x2 x3 K Q n x4 (x5 + 1) σ5) ∧
  (¬ r6 ≤ r4 → (wp_X4_lettersBehind x5 x2 σ5 (fun r8 σ7 =>
  ((x1 < r8 → wp_X4_walls_L38 x1 x2 x3 K Q n x4 (x5 + 1) σ7) ∧
  (¬ x1 < r8 → wp_X4_walls_L38 x1 x2 x3 K Q n x5 (x5 + 1) σ7))))))))))))))
def wp_X4_walls (x1 : Int32) (x2 : Int32) (x3 : Int32) (σ : ST) (Q : Int32 → ST → Prop) : Prop :=
  ((x1 < 1 → Q (-1) σ) ∧
  (¬ x1 < 1 → ((4096 < x1 → Q (-1) σ) ∧
  (¬ 4096 < x1 → ((x2 < 0 → Q (-1) σ) ∧
  (¬ x2 < 0 → ((2 < x2 → Q (-1) σ) ∧
  (¬ 2 < x2 → ((x3 < 0 → Q (-1) σ) ∧
  (¬ x3 < 0 → ((x3 ≤ 1 → (∃ m38, wp_X4_walls_L38 x1 x2 x3 (fun y4_10 σ11 =>
  ((¬ x3 = 0 → Q y4_10 σ11) ∧
  (x3 = 0 → ((y4_10 = (-1) → Q y4_10 σ11) ∧
  (¬ y4_10 = (-1) → (wp_X4_sumOf y4_10 σ11 (fun r13 σ12 =>
  Q r13 σ12))))))) Q m38 (-1) 0 σ)) ∧
  (¬ x3 ≤ 1 → Q (-1) σ))))))))))))
def wp_X4_give_L14 (x1 : Int32) (K : ST → Prop) (Q : Int32 → ST → Prop) : Nat → Int32 → ST → Prop
  | 0, _, _ => False
  | n + 1, x2, σ =>
  (((σ.1 0 4) ≤ x2 → K  σ) ∧
  (¬ (σ.1 0 4) ≤ x2 → (vp_in x2 3 ∧ (wp_X4_wallIn x1 x2 σ (fun r4 σ3 =>
  (∀ σ5, σ5 = sI σ3 (4 + 2 * (Int32.toNatClampNeg x2)) 3 r4 →
  wp_X4_give_L14 x1 K Q n (x2 + 1) σ5))))))
def wp_X4_give (x1 : Int32) (σ : ST) (Q : Int32 → ST → Prop) : Prop :=
  ((x1 < 0 → Q 0 σ) ∧
  (¬ x1 < 0 → ((x1 < 64 → (∃ m14, wp_X4_give_L14 x1 (fun σ7 =>
  (∀ σ8, σ8 = sI σ7 0 6 ((σ7.1 0 6) + 1) →
  Q 1 σ8)) Q m14 0 σ)) ∧
  (¬ x1 < 64 → Q 0 σ))))
def wp_X5_isIn (x0 : Int32) (x1 : Int32) (x2 : Int32) (σ : ST) (Q : Int32 → ST → Prop) : Prop :=
  ((x0 < x1 → Q 0 σ) ∧
  (¬ x0 < x1 → ((x2 < x0 → Q 0 σ) ∧
  (¬ x2 < x0 → Q 1 σ))))
def wp_X5_isThing (x1 : Int32) (σ : ST) (Q : Int32 → ST → Prop) : Prop :=
  (wp_X5_isIn x1 0 ((σ.1 0 0) - 1) σ (fun r2 σ1 =>
  ((r2 = 0 ∨ r2 = 1) ∧ Q r2 σ1)))
def wp_X5_clear (σ : ST) (Q : ST → Prop) : Prop :=
  (∀ σ1, σ1 = sI σ 0 0 0 →
  Q σ1)
def wp_X5_comes_L53 (x2 : Int32) (x3 : Int32) (K : ST → Prop) (Q : Int32 → ST → Prop) : Nat → Int32 → ST → Prop
  | 0, _, _ => False
  | n + 1, x4, σ =>
  ((4 ≤ x4 → K  σ) ∧
  (¬ 4 ≤ x4 → ((¬ x4 = 0 → (vp_in ((4 * x3) + x4) 12 ∧ (∀ σ9, σ9 = sR σ 6 (Int32.toNatClampNeg ((4 * x3) + x4)) 1 →
  wp_X5_comes_L53 x2 x3 K Q n (x4 + 1) σ9))) ∧
  (x4 = 0 → (vp_in ((4 * x3) + x4) 12 ∧ (∀ σ11, σ11 = sR σ 6 (Int32.toNatClampNeg ((4 * x3) + x4)) 0 →
  wp_X5_comes_L53 x2 x3 K Q n (x4 + 1) σ11))))))
def wp_X5_comes (x1 : Int32) (x2 : Int32) (σ : ST) (Q : Int32 → ST → Prop) : Prop :=
  (∀ σ1, σ1 = sI σ 0 0 ((σ.1 0 0) + 1) →
  (vp_in (σ.1 0 0) 3 ∧ (∀ σ3, σ3 = sR σ1 1 (Int32.toNatClampNeg (σ.1 0 0)) x1 →
  (∀ σ4, σ4 = sR σ3 2 (Int32.toNatClampNeg (σ.1 0 0)) x2 →
  (∀ σ5, σ5 = sR σ4 3 (Int32.toNatClampNeg (σ.1 0 0)) 0 →
  (∀ σ6, σ6 = sR σ5 4 (Int32.toNatClampNeg (σ.1 0 0)) 1 →
  (∀ σ7, σ7 = sR σ6 5 (Int32.toNatClampNeg (σ.1 0 0)) 0 →
  (∃ m53, wp_X5_comes_L53 x2 (σ.1 0 0) (fun σ13 =>
  (∀ σ14, σ14 = sR σ13 7 (Int32.toNatClampNeg (σ.1 0 0)) x2 →
  Q (σ.1 0 0) σ14)) Q m53 0 σ7))))))))
def wp_X5_thing (x1 : Int32) (x2 : Int32) (σ : ST) (Q : Int32 → ST → Prop) : Prop :=
  ((x1 = 0 → (wp_X5_isIn x1 0 3 σ (fun r2 σ1 =>
  ((r2 = 0 → Q (-1) σ1) ∧
  (¬ r2 = 0 → (wp_X5_isIn x2 0 2 σ1 (fun r4 σ3 =>
  ((r4 = 0 → Q (-1) σ3) ∧
  (¬ r4 = 0 → ((¬ (σ3.1 0 0) = 3 → (wp_X5_comes x1 x2 σ3 (fun r6 σ5 =>
  Q r6 σ5))) ∧
  ((σ3.1 0 0) = 3 → Q (-1) σ3))))))))))) ∧
  (¬ x1 = 0 → ((¬ x1 = 2 → (wp_X5_isIn x1 0 3 σ (fun r8 σ7 =>
  ((r8 = 0 → Q (-1) σ7) ∧
  (¬ r8 = 0 → (wp_X5_isIn x2 0 3 σ7 (fun r10 σ9 =>
  ((r10 = 0 → Q (-1) σ9) ∧
  (¬ r10 = 0 → ((¬ (σ9.1 0 0) = 3 → (wp_X5_comes x1 x2 σ9 (fun r12 σ11 =>
  Q r12 σ11))) ∧
  ((σ9.1 0 0) = 3 → Q (-1) σ9))))))))))) ∧
  (x1 = 2 → (wp_X5_isIn x1 0 3 σ (fun r14 σ13 =>
  ((r14 = 0 → Q (-1) σ13) ∧
  (¬ r14 = 0 → (wp_X5_isIn x2 0 2 σ13 (fun r16 σ15 =>
  ((r16 = 0 → Q (-1) σ15) ∧
  (¬ r16 = 0 → ((¬ (σ15.1 0 0) = 3 → (wp_X5_comes x1 x2 σ15 (fun r18 σ17 =>
  Q r18 σ17))) ∧
  ((σ15.1 0 0) = 3 → Q (-1) σ15))))))))))))))
def wp_X5_table (x1 : Int32) (x2 : Int64) (x4 : Int64) (σ : ST) (Q : Int32 → ST → Prop) : Prop :=
  (wp_X5_isIn x1 0 3 σ (fun r2 σ1 =>
  ((r2 = 0 → Q (-1) σ1) ∧
  (¬ r2 = 0 → ((¬ (σ1.1 0 0) = 3 → (wp_X5_comes 4 x1 σ1 (fun r4 σ3 =>
  (vp_in r4 3 ∧ (∀ σ6, σ6 = sJ σ3 8 (Int32.toNatClampNeg r4) x2 →
  (∀ σ7, σ7 = sJ σ6 9 (Int32.toNatClampNeg r4) x4 →
  Q r4 σ7)))))) ∧
  ((σ1.1 0 0) = 3 → Q (-1) σ1))))))
def wp_X5_isBy (x0 : Int32) (x1 : Int32) (σ : ST) (Q : Int32 → ST → Prop) : Prop :=
  ((¬ x0 = 1 → (wp_X5_isIn x1 0 3 σ (fun r2 σ1 =>
  ((r2 = 0 ∨ r2 = 1) ∧ Q r2 σ1)))) ∧
  (x0 = 1 → (wp_X5_isIn x1 1 4 σ (fun r4 σ3 =>
  ((r4 = 0 ∨ r4 = 1) ∧ Q r4 σ3)))))
def wp_X5_wall (x1 : Int32) (x2 : Int32) (x3 : Int32) (σ : ST) (Q : Int32 → ST → Prop) : Prop :=
  (wp_X5_isThing x1 σ (fun r2 σ1 =>
  ((r2 = 0 → Q 0 σ1) ∧
  (¬ r2 = 0 → (wp_X5_isIn x2 0 3 σ1 (fun r4 σ3 =>
  ((r4 = 0 → Q 0 σ3) ∧
  (¬ r4 = 0 → ((x2 = 1 → (wp_X5_isBy x2 x3 σ3 (fun r6 σ5 =>
  ((¬ r6 = 0 → (vp_in x1 3 ∧ (∀ σ8, σ8 = sR σ5 3 (Int32.toNatClampNeg x1) x2 →
  ((¬ x2 = 1 → ((¬ x2 = 3 → Q 1 σ8) ∧
  (x2 = 3 → (∀ σ9, σ9 = sR σ8 5 (Int32.toNatClampNeg x1) x3 →
  Q 1 σ9)))) ∧
  (x2 = 1 → (∀ σ10, σ10 = sR σ8 4 (Int32.toNatClampNeg x1) x3 →
  ((¬ x2 = 3 → Q 1 σ10) ∧
  (x2 = 3 → (∀ σ11, σ11 = sR σ10 5 (Int32.toNatClampNeg x1) x3 →
  Q 1 σ11))))))))) ∧
  (r6 = 0 → Q 0 σ5))))) ∧
  (¬ x2 = 1 → ((¬ x2 = 3 → (vp_in x1 3 ∧ (∀ σ13, σ13 = sR σ3 3 (Int32.toNatClampNeg x1) x2 →
  ((¬ x2 = 1 → ((¬ x2 = 3 → Q 1 σ13) ∧
  (x2 = 3 → (∀ σ14, σ14 = sR σ13 5 (Int32.toNatClampNeg x1) x3 →
  Q 1 σ14)))) ∧
  (x2 = 1 → (∀ σ15, σ15 = sR σ13 4 (Int32.toNatClampNeg x1) x3 →
  ((¬ x2 = 3 → Q 1 σ15) ∧
  (x2 = 3 → (∀ σ16, σ16 = sR σ15 5 (Int32.toNatClampNeg x1) x3 →
  Q 1 σ16))))))))) ∧
  (x2 = 3 → (wp_X5_isBy x2 x3 σ3 (fun r18 σ17 =>
  ((¬ r18 = 0 → (vp_in x1 3 ∧ (∀ σ20, σ20 = sR σ17 3 (Int32.toNatClampNeg x1) x2 →
  ((¬ x2 = 1 → ((¬ x2 = 3 → Q 1 σ20) ∧
  (x2 = 3 → (∀ σ21, σ21 = sR σ20 5 (Int32.toNatClampNeg x1) x3 →
  Q 1 σ21)))) ∧
  (x2 = 1 → (∀ σ22, σ22 = sR σ20 4 (Int32.toNatClampNeg x1) x3 →
  ((¬ x2 = 3 → Q 1 σ22) ∧
  (x2 = 3 → (∀ σ23, σ23 = sR σ22 5 (Int32.toNatClampNeg x1) x3 →
  Q 1 σ23))))))))) ∧
  (r18 = 0 → Q 0 σ17))))))))))))))))
def wp_X5_set (x1 : Int32) (x2 : Int32) (x3 : Int32) (σ : ST) (Q : Int32 → ST → Prop) : Prop :=
  (wp_X5_isThing x1 σ (fun r2 σ1 =>
  ((r2 = 0 → Q 0 σ1) ∧
  (¬ r2 = 0 → ((x2 = 1 → (wp_X5_isBy x2 x3 σ1 (fun r4 σ3 =>
  ((¬ r4 = 0 → ((¬ x2 = 1 → (vp_in x1 3 ∧ (∀ σ6, σ6 = sR σ3 5 (Int32.toNatClampNeg x1) x3 →
  Q 1 σ6))) ∧
  (x2 = 1 → (vp_in x1 3 ∧ (∀ σ8, σ8 = sR σ3 4 (Int32.toNatClampNeg x1) x3 →
  Q 1 σ8))))) ∧
  (r4 = 0 → Q 0 σ3))))) ∧
  (¬ x2 = 1 → ((¬ x2 = 3 → Q 0 σ1) ∧
  (x2 = 3 → (wp_X5_isBy x2 x3 σ1 (fun r10 σ9 =>
  ((¬ r10 = 0 → ((¬ x2 = 1 → (vp_in x1 3 ∧ (∀ σ12, σ12 = sR σ9 5 (Int32.toNatClampNeg x1) x3 →
  Q 1 σ12))) ∧
  (x2 = 1 → (vp_in x1 3 ∧ (∀ σ14, σ14 = sR σ9 4 (Int32.toNatClampNeg x1) x3 →
  Q 1 σ14))))) ∧
  (r10 = 0 → Q 0 σ9))))))))))))
def wp_X5_price (x1 : Int32) (x2 : Int32) (x3 : Int32) (σ : ST) (Q : Int32 → ST → Prop) : Prop :=
  (wp_X5_isThing x1 σ (fun r2 σ1 =>
  ((r2 = 0 → Q 0 σ1) ∧
  (¬ r2 = 0 → (wp_X5_isIn x2 1 3 σ1 (fun r4 σ3 =>
  ((r4 = 0 → Q 0 σ3) ∧
  (¬ r4 = 0 → (wp_X5_isIn x3 0 99 σ3 (fun r6 σ5 =>
  ((¬ r6 = 0 → (vp_in ((4 * x1) + x2) 12 ∧ (∀ σ8, σ8 = sR σ5 6 (Int32.toNatClampNeg ((4 * x1) + x2)) x3 →
  Q 1 σ8))) ∧
  (r6 = 0 → Q 0 σ5))))))))))))
def wp_X5_wallsNow_L4 (Q : Int32 → ST → Prop) : Nat → Int32 → Int32 → ST → Prop
  | 0, _, _, _ => False
  | n + 1, x1, x2, σ =>
  (((σ.1 0 0) ≤ x2 → Q x1 σ) ∧
  (¬ (σ.1 0 0) ≤ x2 → (vp_in x2 3 ∧ (∀ w2, w2 = (x1 ||| (((σ.2.2.1 3 (Int32.toNatClampNeg x2)) : Int32) <<< (((2 * x2) : Int32) &&& 31))) →
  wp_X5_wallsNow_L4 Q n w2 (x2 + 1) σ))))
def wp_X5_wallsNow (σ : ST) (Q : Int32 → ST → Prop) : Prop :=
  (∃ m4, wp_X5_wallsNow_L4 Q m4 0 0 σ)
def wp_X5_costs_L4 (x1 : Int32) (Q : Int32 → ST → Prop) : Nat → Int32 → Int32 → ST → Prop
  | 0, _, _, _ => False
  | n + 1, x2, x3, σ =>
  (((σ.1 0 0) ≤ x3 → Q x2 σ) ∧
  (¬ (σ.1 0 0) ≤ x3 → (vp_in ((4 * x3) + (((x1 : Int32) >>> (((2 * x3) : Int32) &&& 31)) &&& 3)) 12 ∧ (∀ w2, w2 = (x2 + (σ.2.2.1 6 (Int32.toNatClampNeg ((4 * x3) + (((x1 : Int32) >>> (((2 * x3) : Int32) &&& 31)) &&& 3))))) →
  wp_X5_costs_L4 x1 Q n w2 (x3 + 1) σ))))
def wp_X5_costs (x1 : Int32) (σ : ST) (Q : Int32 → ST → Prop) : Prop :=
  (∃ m4, wp_X5_costs_L4 x1 Q m4 0 0 σ)
def wp_X5_phases (x1 : Int32) (σ : ST) (Q : Int32 → ST → Prop) : Prop :=
  (vp_in x1 3 ∧ ((¬ (σ.2.2.1 3 (Int32.toNatClampNeg x1)) = 1 → Q 1 σ) ∧
  ((σ.2.2.1 3 (Int32.toNatClampNeg x1)) = 1 → Q (σ.2.2.1 4 (Int32.toNatClampNeg x1)) σ)))
def wp_X5_act (x1 : Int32) (x2 : Int32) (x3 : Int32) (x4 : Int32) (σ : ST) (Q : Int32 → ST → Prop) : Prop :=
  (vp_in x1 3 ∧ ((¬ (σ.2.2.1 1 (Int32.toNatClampNeg x1)) = 4 → ((¬ x4 = 2 → (((σ.2.2.1 1 (Int32.toNatClampNeg x1)) = 0 → ((¬ x4 = 1 → ((¬ x3 = (x2 + 1) → Q ((x2 + 1) + 4) σ) ∧
  (x3 = (x2 + 1) → Q x3 σ))) ∧
  (x4 = 1 → Q 0 σ))) ∧
  (¬ (σ.2.2.1 1 (Int32.toNatClampNeg x1)) = 0 → (((σ.2.2.1 1 (Int32.toNatClampNeg x1)) = 1 → ((¬ x4 = 0 → ((¬ x3 = 0 → Q (x3 - 1) σ) ∧
  (x3 = 0 → Q (x3 + 4) σ))) ∧
  (x4 = 0 → ((¬ x3 = 3 → Q (x3 + 1) σ) ∧
  (x3 = 3 → Q (x3 + 4) σ))))) ∧
  (¬ (σ.2.2.1 1 (Int32.toNatClampNeg x1)) = 1 → (((σ.2.2.1 1 (Int32.toNatClampNeg x1)) = 2 → ((¬ x4 = 0 → ((¬ x3 = (x2 + 1) → Q (x3 + 4) σ) ∧
  (x3 = (x2 + 1) → Q 0 σ))) ∧
  (x4 = 0 → ((x3 = 0 → Q (x2 + 1) σ) ∧
  (¬ x3 = 0 → ((¬ x3 = (x2 + 1) → Q (x3 + 4) σ) ∧
  (x3 = (x2 + 1) → Q (x2 + 1) σ))))))) ∧
  (¬ (σ.2.2.1 1 (Int32.toNatClampNeg x1)) = 2 → ((¬ x4 = 0 → Q ((x3 + 1) - (x3 + 1) / 4 * 4) σ) ∧
  (x4 = 0 → Q (x3 + (4 * x3)) σ))))))))) ∧
  (x4 = 2 → Q x3 σ))) ∧
  ((σ.2.2.1 1 (Int32.toNatClampNeg x1)) = 4 → Q ((Int64.toInt32 (((σ.2.2.2 8 (Int32.toNatClampNeg x1)) >>> (Int32.toInt64 (2 * (((12 * x2) + (3 * x3)) + x4)) &&& 63)) &&& 3)) + (4 * (Int64.toInt32 (((σ.2.2.2 9 (Int32.toNatClampNeg x1)) >>> (Int32.toInt64 (2 * (((12 * x2) + (3 * x3)) + x4)) &&& 63)) &&& 3)))) σ)))
def wp_X5_sends (x1 : Int32) (x2 : Int32) (x3 : Int32) (σ : ST) (Q : Int32 → ST → Prop) : Prop :=
  ((x3 = 3 → Q x2 σ) ∧
  (¬ x3 = 3 → (vp_in x1 3 ∧ ((¬ (σ.2.2.1 3 (Int32.toNatClampNeg x1)) = 2 → (wp_X5_act x1 0 x2 x3 σ (fun r3 σ2 =>
  Q (r3 - r3 / 4 * 4) σ2))) ∧
  ((σ.2.2.1 3 (Int32.toNatClampNeg x1)) = 2 → Q x2 σ)))))
def wp_X5_cleans (x1 : Int32) (x2 : Int32) (x3 : Int32) (σ : ST) (Q : Int32 → ST → Prop) : Prop :=
  (vp_in x1 3 ∧ ((¬ (σ.2.2.1 3 (Int32.toNatClampNeg x1)) = 1 → Q x2 σ) ∧
  ((σ.2.2.1 3 (Int32.toNatClampNeg x1)) = 1 → (¬ (σ.2.2.1 4 (Int32.toNatClampNeg x1)) = 0 ∧ ((¬ ((x3 + 1) - (x3 + 1) / (σ.2.2.1 4 (Int32.toNatClampNeg x1)) * (σ.2.2.1 4 (Int32.toNatClampNeg x1))) = 0 → Q x2 σ) ∧
  (((x3 + 1) - (x3 + 1) / (σ.2.2.1 4 (Int32.toNatClampNeg x1)) * (σ.2.2.1 4 (Int32.toNatClampNeg x1))) = 0 → Q (σ.2.2.1 2 (Int32.toNatClampNeg x1)) σ))))))
def wp_X5_answers (x1 : Int32) (x2 : Int32) (x3 : Int32) (σ : ST) (Q : Int32 → ST → Prop) : Prop :=
  ((¬ x3 = 3 → (wp_X5_act x1 1 x2 x3 σ (fun r2 σ1 =>
  (vp_in x1 3 ∧ ((¬ (σ1.2.2.1 3 (Int32.toNatClampNeg x1)) = 3 → Q (r2 / 4) σ1) ∧
  ((σ1.2.2.1 3 (Int32.toNatClampNeg x1)) = 3 → (((r2 / 4) ≤ (σ1.2.2.1 5 (Int32.toNatClampNeg x1)) → Q (r2 / 4) σ1) ∧
  (¬ (r2 / 4) ≤ (σ1.2.2.1 5 (Int32.toNatClampNeg x1)) → Q (σ1.2.2.1 5 (Int32.toNatClampNeg x1)) σ1)))))))) ∧
  (x3 = 3 → (vp_in x1 3 ∧ ((¬ (σ.2.2.1 3 (Int32.toNatClampNeg x1)) = 3 → Q 0 σ) ∧
  ((σ.2.2.1 3 (Int32.toNatClampNeg x1)) = 3 → ((0 ≤ (σ.2.2.1 5 (Int32.toNatClampNeg x1)) → Q 0 σ) ∧
  (¬ 0 ≤ (σ.2.2.1 5 (Int32.toNatClampNeg x1)) → Q (σ.2.2.1 5 (Int32.toNatClampNeg x1)) σ)))))))
def wp_X5_hears (x1 : Int32) (x2 : Int32) (x3 : Int32) (σ : ST) (Q : Int32 → ST → Prop) : Prop :=
  ((¬ x3 = 3 → (wp_X5_act x1 1 x2 x3 σ (fun r2 σ1 =>
  Q (r2 - r2 / 4 * 4) σ1))) ∧
  (x3 = 3 → Q x2 σ))
def wp_X5_at (x1 : Int32) (x2 : Int32) (x3 : Int32) (σ : ST) (Q : Int32 → ST → Prop) : Prop :=
  Q (((16 * x3) + (4 * x1)) + x2) σ
def wp_X5_after (x1 : Int32) (x2 : Int32) (x3 : Int32) (x4 : Int32) (x5 : Int32) (x6 : Int32) (x7 : Int32) (σ : ST) (Q : Int32 → ST → Prop) : Prop :=
  (wp_X5_sends x1 x2 x5 σ (fun r2 σ1 =>
  (wp_X5_cleans x1 r2 x4 σ1 (fun r4 σ3 =>
  (wp_X5_sends x1 x3 x6 σ3 (fun r6 σ5 =>
  (wp_X5_cleans x1 r6 x4 σ5 (fun r8 σ7 =>
  (wp_X5_answers x1 r4 x7 σ7 (fun r10 σ9 =>
  (wp_X5_answers x1 r8 x7 σ9 (fun r12 σ11 =>
  ((r10 = r12 → (wp_X5_hears x1 r4 x7 σ11 (fun r14 σ13 =>
  (wp_X5_hears x1 r8 x7 σ13 (fun r16 σ15 =>
  (wp_X5_phases x1 σ15 (fun r18 σ17 =>
  (¬ r18 = 0 ∧ (wp_X5_at r14 r16 ((x4 + 1) - (x4 + 1) / r18 * r18) σ17 (fun r21 σ20 =>
  (vp_in r21 64 ∧ Q (1 + (σ20.2.2.1 10 (Int32.toNatClampNeg r21))) σ20))))))))))) ∧
  (¬ r10 = r12 → Q 1 σ11))))))))))))))
def wp_X5_looksAhead_L2 (x1 : Int32) (K : ST → Prop) (Q : ST → Prop) : Nat → Int32 → ST → Prop
  | 0, _, _ => False
  | n + 1, x2, σ =>
  ((64 ≤ x2 → K  σ) ∧
  (¬ 64 ≤ x2 → (vp_in x2 64 ∧ (∀ σ2, σ2 = sR σ 10 (Int32.toNatClampNeg x2) 1000 →
  wp_X5_looksAhead_L2 x1 K Q n (x2 + 1) σ2))))
def wp_X5_looksAhead_L48 (x1 : Int32) (x2 : Int32) (x3 : Int32) (K : ST → Prop) (Q : ST → Prop) : Nat → Int32 → ST → Prop
  | 0, _, _ => False
  | n + 1, x4, σ =>
  ((64 ≤ x4 → K  σ) ∧
  (¬ 64 ≤ x4 → (wp_X5_after x1 ((x3 / 4) - (x3 / 4) / 4 * 4) (x3 - x3 / 4 * 4) (x3 / 16) (x4 / 16) ((x4 / 4) - (x4 / 4) / 4 * 4) (x4 - x4 / 4 * 4) σ (fun r8 σ7 =>
  (vp_in x3 64 ∧ (((σ7.2.2.1 10 (Int32.toNatClampNeg x3)) ≤ r8 → (∀ σ10, σ10 = sR σ7 10 (Int32.toNatClampNeg x3) (σ7.2.2.1 10 (Int32.toNatClampNeg x3)) →
  wp_X5_looksAhead_L48 x1 x2 x3 K Q n (x4 + 1) σ10)) ∧
  (¬ (σ7.2.2.1 10 (Int32.toNatClampNeg x3)) ≤ r8 → (∀ σ11, σ11 = sR σ7 10 (Int32.toNatClampNeg x3) r8 →
  wp_X5_looksAhead_L48 x1 x2 x3 K Q n (x4 + 1) σ11))))))))
def wp_X5_looksAhead_L33 (x1 : Int32) (x2 : Int32) (K : ST → Prop) (Q : ST → Prop) : Nat → Int32 → ST → Prop
  | 0, _, _ => False
  | n + 1, x3, σ =>
  (wp_X5_phases x1 σ (fun r6 σ5 =>
  (((16 * r6) ≤ x3 → K  σ5) ∧
  (¬ (16 * r6) ≤ x3 → (∃ m48, wp_X5_looksAhead_L48 x1 x2 x3 (fun σ13 =>
  wp_X5_looksAhead_L33 x1 x2 K Q n (x3 + 1) σ13) Q m48 0 σ5)))))
def wp_X5_looksAhead_L25 (x1 : Int32) (Q : ST → Prop) : Nat → Int32 → ST → Prop
  | 0, _, _ => False
  | n + 1, x2, σ =>
  ((70 ≤ x2 → Q σ) ∧
  (¬ 70 ≤ x2 → (∃ m33, wp_X5_looksAhead_L33 x1 x2 (fun σ15 =>
  wp_X5_looksAhead_L25 x1 Q n (x2 + 1) σ15) Q m33 0 σ)))
def wp_X5_looksAhead (x1 : Int32) (σ : ST) (Q : ST → Prop) : Prop :=
  (∃ m2, wp_X5_looksAhead_L2 x1 (fun σ4 =>
  (∃ m25, wp_X5_looksAhead_L25 x1 Q m25 0 σ4)) Q m2 0 σ)
def wp_X5_shortest (x1 : Int32) (σ : ST) (Q : Int32 → ST → Prop) : Prop :=
  (wp_X5_looksAhead x1 σ (fun σ1 =>
  (vp_in x1 3 ∧ (wp_X5_at (σ1.2.2.1 2 (Int32.toNatClampNeg x1)) (σ1.2.2.1 2 (Int32.toNatClampNeg x1)) 0 σ1 (fun r4 σ3 =>
  (vp_in r4 64 ∧ ((1000 ≤ (σ3.2.2.1 10 (Int32.toNatClampNeg r4)) → Q (-1) σ3) ∧
  (¬ 1000 ≤ (σ3.2.2.1 10 (Int32.toNatClampNeg r4)) → Q (σ3.2.2.1 10 (Int32.toNatClampNeg r4)) σ3))))))))
def wp_X5_silent (x1 : Int32) (σ : ST) (Q : Int32 → ST → Prop) : Prop :=
  (wp_X5_isThing x1 σ (fun r2 σ1 =>
  ((¬ r2 = 0 → (wp_X5_shortest x1 σ1 (fun r4 σ3 =>
  ((¬ r4 = (-1) → Q 0 σ3) ∧
  (r4 = (-1) → Q 1 σ3))))) ∧
  (r2 = 0 → Q (-1) σ1))))
def wp_X5_look_L39 (Q : Int32 → ST → Prop) : Nat → Int32 → Int32 → ST → Prop
  | 0, _, _, _ => False
  | n + 1, x2, x3, σ =>
  (((σ.1 0 0) ≤ x3 → Q x2 σ) ∧
  (¬ (σ.1 0 0) ≤ x3 → (wp_X5_silent x3 σ (fun r2 σ1 =>
  wp_X5_look_L39 Q n (x2 + r2) (x3 + 1) σ1))))
def wp_X5_look (x1 : Int32) (σ : ST) (Q : Int32 → ST → Prop) : Prop :=
  ((x1 = 0 → Q (σ.1 0 0) σ) ∧
  (¬ x1 = 0 → ((x1 = 1 → (∃ m39, wp_X5_look_L39 Q m39 0 0 σ)) ∧
  (¬ x1 = 1 → ((x1 = 2 → (wp_X5_wallsNow σ (fun r5 σ4 =>
  (wp_X5_costs r5 σ4 (fun r7 σ6 =>
  Q r7 σ6))))) ∧
  (¬ x1 = 2 → ((x1 = 3 → (wp_X5_wallsNow σ (fun r9 σ8 =>
  Q r9 σ8))) ∧
  (¬ x1 = 3 → Q (-1) σ))))))))
def wp_X5_of (x1 : Int32) (x2 : Int32) (σ : ST) (Q : Int32 → ST → Prop) : Prop :=
  (wp_X5_isThing x1 σ (fun r2 σ1 =>
  ((¬ r2 = 0 → ((x2 = 0 → (vp_in x1 3 ∧ Q (σ1.2.2.1 1 (Int32.toNatClampNeg x1)) σ1)) ∧
  (¬ x2 = 0 → ((x2 = 1 → (vp_in x1 3 ∧ Q (σ1.2.2.1 2 (Int32.toNatClampNeg x1)) σ1)) ∧
  (¬ x2 = 1 → ((x2 = 2 → (vp_in x1 3 ∧ Q (σ1.2.2.1 3 (Int32.toNatClampNeg x1)) σ1)) ∧
  (¬ x2 = 2 → ((x2 = 3 → (vp_in x1 3 ∧ Q (σ1.2.2.1 4 (Int32.toNatClampNeg x1)) σ1)) ∧
  (¬ x2 = 3 → ((x2 = 4 → (vp_in x1 3 ∧ Q (σ1.2.2.1 5 (Int32.toNatClampNeg x1)) σ1)) ∧
  (¬ x2 = 4 → Q (-1) σ1))))))))))) ∧
  (r2 = 0 → Q (-1) σ1))))
def wp_X5_does (x1 : Int32) (x2 : Int32) (x3 : Int32) (x4 : Int32) (x5 : Int32) (σ : ST) (Q : Int32 → ST → Prop) : Prop :=
  (wp_X5_isThing x1 σ (fun r2 σ1 =>
  ((r2 = 0 → Q (-1) σ1) ∧
  (¬ r2 = 0 → (wp_X5_isIn x2 0 1 σ1 (fun r4 σ3 =>
  ((r4 = 0 → Q (-1) σ3) ∧
  (¬ r4 = 0 → (vp_in x1 3 ∧ (((σ3.2.2.1 1 (Int32.toNatClampNeg x1)) = 0 → (wp_X5_isIn x3 0 2 σ3 (fun r7 σ6 =>
  ((r7 = 0 → Q (-1) σ6) ∧
  (¬ r7 = 0 → (wp_X5_isIn x4 0 2 σ6 (fun r9 σ8 =>
  ((r9 = 0 → Q (-1) σ8) ∧
  (¬ r9 = 0 → (wp_X5_isIn x5 0 1 σ8 (fun r11 σ10 =>
  ((¬ r11 = 0 → (wp_X5_act x1 x2 x3 x4 σ10 (fun r13 σ12 =>
  ((¬ x5 = 0 → Q (r13 / 4) σ12) ∧
  (x5 = 0 → Q (r13 - r13 / 4 * 4) σ12))))) ∧
  (r11 = 0 → Q (-1) σ10))))))))))))) ∧
  (¬ (σ3.2.2.1 1 (Int32.toNatClampNeg x1)) = 0 → ((¬ (σ3.2.2.1 1 (Int32.toNatClampNeg x1)) = 2 → (wp_X5_isIn x3 0 3 σ3 (fun r15 σ14 =>
  ((r15 = 0 → Q (-1) σ14) ∧
  (¬ r15 = 0 → (wp_X5_isIn x4 0 2 σ14 (fun r17 σ16 =>
  ((r17 = 0 → Q (-1) σ16) ∧
  (¬ r17 = 0 → (wp_X5_isIn x5 0 1 σ16 (fun r19 σ18 =>
  ((¬ r19 = 0 → (wp_X5_act x1 x2 x3 x4 σ18 (fun r21 σ20 =>
  ((¬ x5 = 0 → Q (r21 / 4) σ20) ∧
  (x5 = 0 → Q (r21 - r21 / 4 * 4) σ20))))) ∧
  (r19 = 0 → Q (-1) σ18))))))))))))) ∧
  ((σ3.2.2.1 1 (Int32.toNatClampNeg x1)) = 2 → (wp_X5_isIn x3 0 2 σ3 (fun r23 σ22 =>
  ((r23 = 0 → Q (-1) σ22) ∧
  (¬ r23 = 0 → (wp_X5_isIn x4 0 2 σ22 (fun r25 σ24 =>
  ((r25 = 0 → Q (-1) σ24) ∧
  (¬ r25 = 0 → (wp_X5_isIn x5 0 1 σ24 (fun r27 σ26 =>
  ((¬ r27 = 0 → (wp_X5_act x1 x2 x3 x4 σ26 (fun r29 σ28 =>
  ((¬ x5 = 0 → Q (r29 / 4) σ28) ∧
  (x5 = 0 → Q (r29 - r29 / 4 * 4) σ28))))) ∧
  (r27 = 0 → Q (-1) σ26)))))))))))))))))))))))))
def wp_X5_shown (x1 : Int32) (σ : ST) (Q : Int32 → ST → Prop) : Prop :=
  (wp_X5_isThing x1 σ (fun r2 σ1 =>
  ((r2 = 0 → Q (-1) σ1) ∧
  (¬ r2 = 0 → (wp_X5_shortest x1 σ1 (fun r4 σ3 =>
  Q r4 σ3))))))
def wp_X5_named (x0 : Int32) (x1 : Int32) (σ : ST) (Q : Int32 → ST → Prop) : Prop :=
  ((¬ x1 = 3 → Q ((3 * x0) + x1) σ) ∧
  (x1 = 3 → Q 9 σ))
def wp_X5_show_L79 (x1 : Int32) (x2 : Int32) (x3 : Int32) (x4 : Int32) (x5 : Int32) (x6 : Int32) (x7 : Int32) (x8 : Int32) (K : Int32 → ST → Prop) (Q : Int32 → ST → Prop) : Nat → Int32 → ST → Prop
  | 0, _, _ => False
  | n + 1, x9, σ =>
  (wp_X5_after x1 x5 x6 x8 (x9 / 16) ((x9 / 4) - (x9 / 4) / 4 * 4) (x9 - x9 / 4 * 4) σ (fun r14 σ13 =>
  ((r14 = (x4 - x7) → K x9 σ13) ∧
  (¬ r14 = (x4 - x7) → wp_X5_show_L79 x1 x2 x3 x4 x5 x6 x7 x8 K Q n (x9 + 1) σ13))))
def wp_X5_show_L59 (x1 : Int32) (x2 : Int32) (x3 : Int32) (x4 : Int32) (Q : Int32 → ST → Prop) : Nat → Int32 → Int32 → Int32 → ST → Prop
  | 0, _, _, _, _ => False
  | n + 1, x5, x6, x7, σ =>
  ((x4 ≤ x7 → Q (-1) σ) ∧
  (¬ x4 ≤ x7 → (wp_X5_phases x1 σ (fun r11 σ10 =>
  (¬ r11 = 0 ∧ (∃ m79, wp_X5_show_L79 x1 x2 x3 x4 x5 x6 x7 (x7 - x7 / r11 * r11) (fun y9_16 σ17 =>
  (wp_X5_sends x1 x5 (y9_16 / 16) σ17 (fun r19 σ18 =>
  (wp_X5_cleans x1 r19 (x7 - x7 / r11 * r11) σ18 (fun r21 σ20 =>
  (wp_X5_sends x1 x6 ((y9_16 / 4) - (y9_16 / 4) / 4 * 4) σ20 (fun r23 σ22 =>
  (wp_X5_cleans x1 r23 (x7 - x7 / r11 * r11) σ22 (fun r25 σ24 =>
  ((¬ x7 = x2 → (wp_X5_hears x1 r21 (y9_16 - y9_16 / 4 * 4) σ24 (fun r27 σ26 =>
  (wp_X5_hears x1 r25 (y9_16 - y9_16 / 4 * 4) σ26 (fun r29 σ28 =>
  wp_X5_show_L59 x1 x2 x3 x4 Q n r27 r29 (x7 + 1) σ28))))) ∧
  (x7 = x2 → ((¬ x3 = 0 → ((¬ x3 = 1 → ((¬ x3 = 2 → ((¬ x3 = 3 → (wp_X5_answers x1 r25 (y9_16 - y9_16 / 4 * 4) σ24 (fun r31 σ30 =>
  Q r31 σ30))) ∧
  (x3 = 3 → (wp_X5_answers x1 r21 (y9_16 - y9_16 / 4 * 4) σ24 (fun r33 σ32 =>
  Q r33 σ32))))) ∧
  (x3 = 2 → (wp_X5_named x1 (y9_16 - y9_16 / 4 * 4) σ24 (fun r35 σ34 =>
  Q r35 σ34))))) ∧
  (x3 = 1 → (wp_X5_named x1 ((y9_16 / 4) - (y9_16 / 4) / 4 * 4) σ24 (fun r37 σ36 =>
  Q r37 σ36))))) ∧
  (x3 = 0 → (wp_X5_named x1 (y9_16 / 16) σ24 (fun r39 σ38 =>
  Q r39 σ38))))))))))))))) Q m79 0 σ10))))))
def wp_X5_show (x1 : Int32) (x2 : Int32) (x3 : Int32) (σ : ST) (Q : Int32 → ST → Prop) : Prop :=
  (wp_X5_isThing x1 σ (fun r2 σ1 =>
  ((r2 = 0 → Q (-1) σ1) ∧
  (¬ r2 = 0 → (wp_X5_isIn x3 0 4 σ1 (fun r4 σ3 =>
  ((¬ r4 = 0 → (wp_X5_shortest x1 σ3 (fun r6 σ5 =>
  (wp_X5_isIn x2 0 (r6 - 1) σ5 (fun r8 σ7 =>
  ((¬ r8 = 0 → (vp_in x1 3 ∧ (∃ m59, wp_X5_show_L59 x1 x2 x3 r6 Q m59 (σ7.2.2.1 2 (Int32.toNatClampNeg x1)) (σ7.2.2.1 2 (Int32.toNatClampNeg x1)) 0 σ7))) ∧
  (r8 = 0 → Q (-1) σ7))))))) ∧
  (r4 = 0 → Q (-1) σ3))))))))
def wp_X5_isAct (x1 : Int32) (σ : ST) (Q : Int32 → ST → Prop) : Prop :=
  ((x1 = 9 → Q 1 σ) ∧
  (¬ x1 = 9 → (wp_X5_isIn x1 0 ((3 * (σ.1 0 0)) - 1) σ (fun r2 σ1 =>
  ((r2 = 0 → Q 0 σ1) ∧
  (¬ r2 = 0 → Q 1 σ1))))))
def wp_X5_startOf_L4 (Q : Int32 → ST → Prop) : Nat → Int32 → Int32 → ST → Prop
  | 0, _, _, _ => False
  | n + 1, x1, x2, σ =>
  (((σ.1 0 0) ≤ x2 → Q x1 σ) ∧
  (¬ (σ.1 0 0) ≤ x2 → (vp_in x2 3 ∧ (∀ w2, w2 = (x1 ||| (((σ.2.2.1 2 (Int32.toNatClampNeg x2)) : Int32) <<< (((2 * x2) : Int32) &&& 31))) →
  wp_X5_startOf_L4 Q n w2 (x2 + 1) σ))))
def wp_X5_startOf (σ : ST) (Q : Int32 → ST → Prop) : Prop :=
  (∃ m4, wp_X5_startOf_L4 Q m4 0 0 σ)
def wp_X5_part (x0 : Int32) (x1 : Int32) (σ : ST) (Q : Int32 → ST → Prop) : Prop :=
  Q (((x0 : Int32) >>> (((2 * x1) : Int32) &&& 31)) &&& 3) σ
def wp_X5_with (x0 : Int32) (x1 : Int32) (x2 : Int32) (σ : ST) (Q : Int32 → ST → Prop) : Prop :=
  Q ((x0 &&& (((3 : Int32) <<< (((2 * x1) : Int32) &&& 31)) ^^^ (-1))) ||| ((x2 : Int32) <<< (((2 * x1) : Int32) &&& 31))) σ
def wp_X5_sent_L40 (x3 : Int32) (Q : Int32 → ST → Prop) : Nat → Int32 → Int32 → ST → Prop
  | 0, _, _, _ => False
  | n + 1, x4, x5, σ =>
  (((σ.1 0 0) ≤ x5 → Q x4 σ) ∧
  (¬ (σ.1 0 0) ≤ x5 → (vp_in x5 3 ∧ ((¬ (σ.2.2.1 3 (Int32.toNatClampNeg x5)) = 1 → wp_X5_sent_L40 x3 Q n x4 (x5 + 1) σ) ∧
  ((σ.2.2.1 3 (Int32.toNatClampNeg x5)) = 1 → (¬ (σ.2.2.1 4 (Int32.toNatClampNeg x5)) = 0 ∧ ((¬ ((x3 + 1) - (x3 + 1) / (σ.2.2.1 4 (Int32.toNatClampNeg x5)) * (σ.2.2.1 4 (Int32.toNatClampNeg x5))) = 0 → wp_X5_sent_L40 x3 Q n x4 (x5 + 1) σ) ∧
  (((x3 + 1) - (x3 + 1) / (σ.2.2.1 4 (Int32.toNatClampNeg x5)) * (σ.2.2.1 4 (Int32.toNatClampNeg x5))) = 0 → (wp_X5_with x4 x5 (σ.2.2.1 2 (Int32.toNatClampNeg x5)) σ (fun r4 σ3 =>
  wp_X5_sent_L40 x3 Q n r4 (x5 + 1) σ3))))))))))
def wp_X5_sent (x1 : Int32) (x2 : Int32) (x3 : Int32) (σ : ST) (Q : Int32 → ST → Prop) : Prop :=
  ((x2 = 9 → (∃ m40, wp_X5_sent_L40 x3 Q m40 x1 0 σ)) ∧
  (¬ x2 = 9 → (wp_X5_part x1 (x2 / 3) σ (fun r7 σ6 =>
  (wp_X5_sends (x2 / 3) r7 (x2 - x2 / 3 * 3) σ6 (fun r9 σ8 =>
  (wp_X5_with x1 (x2 / 3) r9 σ8 (fun r11 σ10 =>
  (∃ m40, wp_X5_sent_L40 x3 Q m40 r11 0 σ10)))))))))
def wp_X5_heard (x1 : Int32) (x2 : Int32) (σ : ST) (Q : Int32 → ST → Prop) : Prop :=
  ((¬ x2 = 9 → (wp_X5_part x1 (x2 / 3) σ (fun r2 σ1 =>
  (wp_X5_hears (x2 / 3) r2 (x2 - x2 / 3 * 3) σ1 (fun r4 σ3 =>
  (wp_X5_with x1 (x2 / 3) r4 σ3 (fun r6 σ5 =>
  Q r6 σ5))))))) ∧
  (x2 = 9 → Q x1 σ))
def wp_X5_told (x1 : Int32) (x2 : Int32) (σ : ST) (Q : Int32 → ST → Prop) : Prop :=
  ((¬ x2 = 9 → (wp_X5_part x1 (x2 / 3) σ (fun r2 σ1 =>
  (wp_X5_answers (x2 / 3) r2 (x2 - x2 / 3 * 3) σ1 (fun r4 σ3 =>
  Q r4 σ3))))) ∧
  (x2 = 9 → Q 0 σ))
def wp_X5_spreads_L30 (x1 : Int64) (x3 : Int32) (x6 : Int32) (K : Int64 → ST → Prop) (Q : Int64 → ST → Prop) : Nat → Int64 → Int32 → ST → Prop
  | 0, _, _, _ => False
  | n + 1, x4, x7, σ =>
  ((9 < x7 → K x4 σ) ∧
  (¬ 9 < x7 → (wp_X5_isAct x7 σ (fun r2 σ1 =>
  ((r2 = 0 → wp_X5_spreads_L30 x1 x3 x6 K Q n x4 (x7 + 1) σ1) ∧
  (¬ r2 = 0 → (wp_X5_sent x6 x7 x3 σ1 (fun r4 σ3 =>
  (∀ w5, w5 = (x4 ||| (1 <<< (Int32.toInt64 r4 &&& 63))) →
  wp_X5_spreads_L30 x1 x3 x6 K Q n w5 (x7 + 1) σ3)))))))))
def wp_X5_spreads_L6 (x1 : Int64) (x3 : Int32) (Q : Int64 → ST → Prop) : Nat → Int64 → Int32 → ST → Prop
  | 0, _, _, _ => False
  | n + 1, x4, x6, σ =>
  ((64 ≤ x6 → Q x4 σ) ∧
  (¬ 64 ≤ x6 → ((¬ (lg_cmp ((x1 >>> (Int32.toInt64 x6 &&& 63)) &&& 1) 0) = 0 → (∃ m30, wp_X5_spreads_L30 x1 x3 x6 (fun y4_7 σ8 =>
  wp_X5_spreads_L6 x1 x3 Q n y4_7 (x6 + 1) σ8) Q m30 x4 0 σ)) ∧
  ((lg_cmp ((x1 >>> (Int32.toInt64 x6 &&& 63)) &&& 1) 0) = 0 → wp_X5_spreads_L6 x1 x3 Q n x4 (x6 + 1) σ))))
def wp_X5_spreads (x1 : Int64) (x3 : Int32) (σ : ST) (Q : Int64 → ST → Prop) : Prop :=
  (∃ m6, wp_X5_spreads_L6 x1 x3 Q m6 0 0 σ)
def wp_X5_parts_L6 (x1 : Int64) (x3 : Int32) (x4 : Int32) (Q : Int64 → ST → Prop) : Nat → Int64 → Int32 → ST → Prop
  | 0, _, _, _ => False
  | n + 1, x5, x7, σ =>
  ((64 ≤ x7 → Q x5 σ) ∧
  (¬ 64 ≤ x7 → ((¬ (lg_cmp ((x1 >>> (Int32.toInt64 x7 &&& 63)) &&& 1) 1) = 0 → wp_X5_parts_L6 x1 x3 x4 Q n x5 (x7 + 1) σ) ∧
  ((lg_cmp ((x1 >>> (Int32.toInt64 x7 &&& 63)) &&& 1) 1) = 0 → (wp_X5_told x7 x3 σ (fun r2 σ1 =>
  ((¬ r2 = x4 → wp_X5_parts_L6 x1 x3 x4 Q n x5 (x7 + 1) σ1) ∧
  (r2 = x4 → (wp_X5_heard x7 x3 σ1 (fun r4 σ3 =>
  (∀ w5, w5 = (x5 ||| (1 <<< (Int32.toInt64 r4 &&& 63))) →
  wp_X5_parts_L6 x1 x3 x4 Q n w5 (x7 + 1) σ3)))))))))))
def wp_X5_parts (x1 : Int64) (x3 : Int32) (x4 : Int32) (σ : ST) (Q : Int64 → ST → Prop) : Prop :=
  (∃ m6, wp_X5_parts_L6 x1 x3 x4 Q m6 0 0 σ)
def wp_X5_answersOf_L6 (x1 : Int64) (x3 : Int32) (K : Int32 → ST → Prop) (Q : Int32 → ST → Prop) : Nat → Int32 → Int32 → ST → Prop
  | 0, _, _, _ => False
  | n + 1, x4, x5, σ =>
  ((64 ≤ x5 → K x4 σ) ∧
  (¬ 64 ≤ x5 → ((x4 = 15 → K x4 σ) ∧
  (¬ x4 = 15 → ((¬ (lg_cmp ((x1 >>> (Int32.toInt64 x5 &&& 63)) &&& 1) 1) = 0 → wp_X5_answersOf_L6 x1 x3 K Q n x4 (x5 + 1) σ) ∧
  ((lg_cmp ((x1 >>> (Int32.toInt64 x5 &&& 63)) &&& 1) 1) = 0 → (wp_X5_told x5 x3 σ (fun r2 σ1 =>
  (∀ w3, w3 = (x4 ||| ((1 : Int32) <<< ((r2 : Int32) &&& 31))) →
  wp_X5_answersOf_L6 x1 x3 K Q n w3 (x5 + 1) σ1)))))))))
def wp_X5_answersOf (x1 : Int64) (x3 : Int32) (σ : ST) (Q : Int32 → ST → Prop) : Prop :=
  (∃ m6, wp_X5_answersOf_L6 x1 x3 (fun y4_5 σ6 =>
  Q ((((y4_5 &&& 1) + (((y4_5 : Int32) >>> ((1 : Int32) &&& 31)) &&& 1)) + (((y4_5 : Int32) >>> ((2 : Int32) &&& 31)) &&& 1)) + (((y4_5 : Int32) >>> ((3 : Int32) &&& 31)) &&& 1)) σ6) Q m6 0 0 σ)
def wp_X5_by_L6 (rec : Int64 → Int32 → Int32 → ST → (Int32 → ST → Prop) → Prop) (x1 : Int64) (x3 : Int32) (x4 : Int32) (x5 : Int32) (Q : Int32 → ST → Prop) : Nat → Int32 → Int32 → ST → Prop
  | 0, _, _, _ => False
  | n + 1, x6, x7, σ =>
  ((4 ≤ x7 → Q x6 σ) ∧
  (¬ 4 ≤ x7 → (wp_X5_parts x1 x5 x7 σ (fun r2 σ1 =>
  (rec r2 (x3 + 1) x4 σ1 (fun r4 σ3 =>
  wp_X5_by_L6 rec x1 x3 x4 x5 Q n (x6 + r4) (x7 + 1) σ3))))))
def wp_X5_by (rec : Int64 → Int32 → Int32 → ST → (Int32 → ST → Prop) → Prop) (x1 : Int64) (x3 : Int32) (x4 : Int32) (x5 : Int32) (σ : ST) (Q : Int32 → ST → Prop) : Prop :=
  (∃ m6, wp_X5_by_L6 rec x1 x3 x4 x5 Q m6 0 0 σ)
def wp_X5_most_L104 (rec : Int64 → Int32 → Int32 → ST → (Int32 → ST → Prop) → Prop) (x1 : Int64) (x3 : Int32) (x4 : Int32) (x5 : Int32) (x6 : Int64) (K : Int32 → ST → Prop) (Q : Int32 → ST → Prop) : Nat → Int32 → Int32 → ST → Prop
  | 0, _, _, _ => False
  | n + 1, x8, x9, σ =>
  ((9 < x9 → K x8 σ) ∧
  (¬ 9 < x9 → (wp_X5_isAct x9 σ (fun r6 σ5 =>
  ((¬ r6 = 0 → ((¬ x3 = (x4 - 1) → (wp_X5_by rec x6 x3 x4 x9 σ5 (fun r8 σ7 =>
  ((r8 ≤ x8 → wp_X5_most_L104 rec x1 x3 x4 x5 x6 K Q n x8 (x9 + 1) σ7) ∧
  (¬ r8 ≤ x8 → wp_X5_most_L104 rec x1 x3 x4 x5 x6 K Q n r8 (x9 + 1) σ7))))) ∧
  (x3 = (x4 - 1) → (wp_X5_answersOf x6 x9 σ5 (fun r10 σ9 =>
  ((r10 ≤ x8 → wp_X5_most_L104 rec x1 x3 x4 x5 x6 K Q n x8 (x9 + 1) σ9) ∧
  (¬ r10 ≤ x8 → wp_X5_most_L104 rec x1 x3 x4 x5 x6 K Q n r10 (x9 + 1) σ9))))))) ∧
  (r6 = 0 → ((0 ≤ x8 → wp_X5_most_L104 rec x1 x3 x4 x5 x6 K Q n x8 (x9 + 1) σ5) ∧
  (¬ 0 ≤ x8 → wp_X5_most_L104 rec x1 x3 x4 x5 x6 K Q n 0 (x9 + 1) σ5))))))))
def wp_X5_mosto (rec : Int64 → Int32 → Int32 → ST → (Int32 → ST → Prop) → Prop) (x1 : Int64) (x3 : Int32) (x4 : Int32) (σ : ST) (Q : Int32 → ST → Prop) : Prop :=
  ((¬ (lg_cmp x1 0) = 0 → ((¬ x3 = x4 → (∀ w1, w1 = (Int64.toInt32 (((((x1 ^^^ (Int64.toUInt64 x1 >>> (Int64.toUInt64 (Int32.toInt64 23) &&& Int64.toUInt64 63)).toInt64) ^^^ (Int64.toUInt64 x1 >>> (Int64.toUInt64 (Int32.toInt64 41) &&& Int64.toUInt64 63)).toInt64) * 31) + (1021 * (Int32.toInt64 x3))) &&& 4095)) →
  (vp_in w1 4096 ∧ ((¬ (σ.2.2.1 13 (Int32.toNatClampNeg w1)) = (σ.1 0 16) → (wp_X5_spreads x1 x3 σ (fun r4 σ3 =>
  (∃ m104, wp_X5_most_L104 rec x1 x3 x4 w1 r4 (fun y8_12 σ13 =>
  (∀ σ14, σ14 = sR σ13 13 (Int32.toNatClampNeg w1) (σ13.1 0 16) →
  (∀ σ15, σ15 = sJ σ14 11 (Int32.toNatClampNeg w1) x1 →
  (∀ σ16, σ16 = sR σ15 12 (Int32.toNatClampNeg w1) x3 →
  (∀ σ17, σ17 = sR σ16 14 (Int32.toNatClampNeg w1) y8_12 →
  Q y8_12 σ17))))) Q m104 0 0 σ3)))) ∧
  ((σ.2.2.1 13 (Int32.toNatClampNeg w1)) = (σ.1 0 16) → ((¬ (lg_cmp (σ.2.2.2 11 (Int32.toNatClampNeg w1)) x1) = 0 → (wp_X5_spreads x1 x3 σ (fun r19 σ18 =>
  (∃ m104, wp_X5_most_L104 rec x1 x3 x4 w1 r19 (fun y8_21 σ22 =>
  (∀ σ23, σ23 = sR σ22 13 (Int32.toNatClampNeg w1) (σ22.1 0 16) →
  (∀ σ24, σ24 = sJ σ23 11 (Int32.toNatClampNeg w1) x1 →
  (∀ σ25, σ25 = sR σ24 12 (Int32.toNatClampNeg w1) x3 →
  (∀ σ26, σ26 = sR σ25 14 (Int32.toNatClampNeg w1) y8_21 →
  Q y8_21 σ26))))) Q m104 0 0 σ18)))) ∧
  ((lg_cmp (σ.2.2.2 11 (Int32.toNatClampNeg w1)) x1) = 0 → ((¬ (σ.2.2.1 12 (Int32.toNatClampNeg w1)) = x3 → (wp_X5_spreads x1 x3 σ (fun r28 σ27 =>
  (∃ m104, wp_X5_most_L104 rec x1 x3 x4 w1 r28 (fun y8_30 σ31 =>
  (∀ σ32, σ32 = sR σ31 13 (Int32.toNatClampNeg w1) (σ31.1 0 16) →
  (∀ σ33, σ33 = sJ σ32 11 (Int32.toNatClampNeg w1) x1 →
  (∀ σ34, σ34 = sR σ33 12 (Int32.toNatClampNeg w1) x3 →
  (∀ σ35, σ35 = sR σ34 14 (Int32.toNatClampNeg w1) y8_30 →
  Q y8_30 σ35))))) Q m104 0 0 σ27)))) ∧
  ((σ.2.2.1 12 (Int32.toNatClampNeg w1)) = x3 → Q (σ.2.2.1 14 (Int32.toNatClampNeg w1)) σ))))))))) ∧
  (x3 = x4 → Q 1 σ))) ∧
  ((lg_cmp x1 0) = 0 → Q 0 σ))
def wp_X5_most : Nat → Int64 → Int32 → Int32 → ST → (Int32 → ST → Prop) → Prop
  | 0, _, _, _ => fun _ _ => False
  | d + 1, x1, x3, x4 => fun σ Q => wp_X5_mosto (wp_X5_most d) x1 x3 x4 σ Q
def wp_X5_letters (x1 : Int32) (σ : ST) (Q : Int32 → ST → Prop) : Prop :=
  (∀ σ1, σ1 = sI σ 0 16 ((σ.1 0 16) + 1) →
  (wp_X5_isIn x1 0 3 σ1 (fun r3 σ2 =>
  ((r3 = 0 → Q (-1) σ2) ∧
  (¬ r3 = 0 → (wp_X5_startOf σ2 (fun r5 σ4 =>
  (wp_X5_most 4 (1 <<< (Int32.toInt64 r5 &&& 63)) 0 x1 σ4 (fun r7 σ6 =>
  Q r7 σ6)))))))))
def wp_X5_finds_L51 (x1 : Int32) (x5 : Int32) (x6 : Int32) (x7 : Int64) (x9 : Int32) (K : Int32 → ST → Prop) (Q : Int32 → ST → Prop) : Nat → Int32 → ST → Prop
  | 0, _, _ => False
  | n + 1, x10, σ =>
  (wp_X5_isAct x10 σ (fun r9 σ8 =>
  ((r9 = 0 → wp_X5_finds_L51 x1 x5 x6 x7 x9 K Q n (x10 + 1) σ8) ∧
  (¬ r9 = 0 → (wp_X5_by (wp_X5_most 4) x7 x6 x1 x10 σ8 (fun r11 σ10 =>
  ((r11 = x9 → K x10 σ10) ∧
  (¬ r11 = x9 → wp_X5_finds_L51 x1 x5 x6 x7 x9 K Q n (x10 + 1) σ10))))))))
def wp_X5_finds_L94 (x1 : Int32) (x6 : Int32) (x7 : Int64) (x10 : Int32) (K : Int32 → Int32 → ST → Prop) (Q : Int32 → ST → Prop) : Nat → Int32 → Int32 → ST → Prop
  | 0, _, _, _ => False
  | n + 1, x5, x11, σ =>
  ((4 ≤ x11 → K x5 x11 σ) ∧
  (¬ 4 ≤ x11 → (wp_X5_parts x7 x10 x11 σ (fun r18 σ17 =>
  (wp_X5_most 4 r18 (x6 + 1) x1 σ17 (fun r20 σ19 =>
  ((x5 < r20 → K x5 x11 σ19) ∧
  (¬ x5 < r20 → (wp_X5_parts x7 x10 x11 σ19 (fun r22 σ21 =>
  (wp_X5_most 4 r22 (x6 + 1) x1 σ21 (fun r24 σ23 =>
  wp_X5_finds_L94 x1 x6 x7 x10 K Q n (x5 - r24) (x11 + 1) σ23))))))))))))
def wp_X5_finds_L23 (x1 : Int32) (Q : Int32 → ST → Prop) : Nat → Int64 → Int32 → Int32 → ST → Prop
  | 0, _, _, _, _ => False
  | n + 1, x3, x5, x6, σ =>
  ((x1 ≤ x6 → ((¬ x5 = 0 → Q 0 σ) ∧
  (x5 = 0 → Q 1 σ))) ∧
  (¬ x1 ≤ x6 → (wp_X5_spreads x3 x6 σ (fun r5 σ4 =>
  (wp_X5_most 4 x3 x6 x1 σ4 (fun r7 σ6 =>
  (∃ m51, wp_X5_finds_L51 x1 x5 x6 r5 r7 (fun y10_13 σ14 =>
  (vp_in x6 3 ∧ (∀ σ16, σ16 = sR σ14 15 (Int32.toNatClampNeg x6) y10_13 →
  (∃ m94, wp_X5_finds_L94 x1 x6 r5 y10_13 (fun y5_26 y11_27 σ28 =>
  ((¬ y11_27 = 4 → (∀ σ29, σ29 = sR σ28 16 (Int32.toNatClampNeg x6) y11_27 →
  (wp_X5_parts r5 y10_13 y11_27 σ29 (fun r31 σ30 =>
  wp_X5_finds_L23 x1 Q n r31 y5_26 (x6 + 1) σ30)))) ∧
  (y11_27 = 4 → Q 0 σ28))) Q m94 x5 0 σ16)))) Q m51 0 σ6)))))))
def wp_X5_finds (x1 : Int32) (x2 : Int32) (σ : ST) (Q : Int32 → ST → Prop) : Prop :=
  (∀ σ1, σ1 = sI σ 0 16 ((σ.1 0 16) + 1) →
  (wp_X5_startOf σ1 (fun r3 σ2 =>
  (∃ m23, wp_X5_finds_L23 x1 Q m23 (1 <<< (Int32.toInt64 r3 &&& 63)) x2 0 σ2))))
def wp_X5_leads_L10 (rec : Int32 → Int32 → Int32 → ST → (Int32 → ST → Prop) → Prop) (x1 : Int32) (x2 : Int32) (x3 : Int32) (K1 : Int32 → ST → Prop) (Q : Int32 → ST → Prop) : Nat → Int32 → ST → Prop
  | 0, _, _ => False
  | n + 1, x4, σ =>
  ((9 < x4 → Q 0 σ) ∧
  (¬ 9 < x4 → (wp_X5_isAct x4 σ (fun r2 σ1 =>
  ((¬ r2 = 0 → (wp_X5_sent x1 x4 x2 σ1 (fun r4 σ3 =>
  (vp_in x2 3 ∧ (wp_X5_told r4 (σ3.2.2.1 15 (Int32.toNatClampNeg x2)) σ3 (fun r7 σ6 =>
  ((¬ r7 = (σ6.2.2.1 16 (Int32.toNatClampNeg x2)) → wp_X5_leads_L10 rec x1 x2 x3 K1 Q n (x4 + 1) σ6) ∧
  (r7 = (σ6.2.2.1 16 (Int32.toNatClampNeg x2)) → (wp_X5_heard r4 (σ6.2.2.1 15 (Int32.toNatClampNeg x2)) σ6 (fun r9 σ8 =>
  (rec r9 (x2 + 1) x3 σ8 (fun r11 σ10 =>
  ((¬ r11 = 0 → K1 x4 σ10) ∧
  (r11 = 0 → wp_X5_leads_L10 rec x1 x2 x3 K1 Q n (x4 + 1) σ10)))))))))))))) ∧
  (r2 = 0 → wp_X5_leads_L10 rec x1 x2 x3 K1 Q n (x4 + 1) σ1))))))
def wp_X5_leadso (rec : Int32 → Int32 → Int32 → ST → (Int32 → ST → Prop) → Prop) (x1 : Int32) (x2 : Int32) (x3 : Int32) (σ : ST) (Q : Int32 → ST → Prop) : Prop :=
  ((¬ x2 = x3 → (∃ m10, wp_X5_leads_L10 rec x1 x2 x3 (fun y4_13 σ14 =>
  (vp_in x2 3 ∧ (∀ σ16, σ16 = sR σ14 17 (Int32.toNatClampNeg x2) y4_13 →
  Q 1 σ16))) Q m10 0 σ)) ∧
  (x2 = x3 → Q 1 σ))
def wp_X5_leads : Nat → Int32 → Int32 → Int32 → ST → (Int32 → ST → Prop) → Prop
  | 0, _, _, _ => fun _ _ => False
  | d + 1, x1, x2, x3 => fun σ Q => wp_X5_leadso (wp_X5_leads d) x1 x2 x3 σ Q
def wp_X5_letter (x1 : Int32) (x2 : Int32) (x3 : Int32) (x4 : Int32) (σ : ST) (Q : Int32 → ST → Prop) : Prop :=
  (wp_X5_isIn x1 0 3 σ (fun r2 σ1 =>
  ((r2 = 0 → Q (-1) σ1) ∧
  (¬ r2 = 0 → ((x2 < 0 → Q (-1) σ1) ∧
  (¬ x2 < 0 → (wp_X5_isIn x3 0 (x1 - 1) σ1 (fun r4 σ3 =>
  ((r4 = 0 → Q (-1) σ3) ∧
  (¬ r4 = 0 → (wp_X5_isIn x4 0 2 σ3 (fun r6 σ5 =>
  ((r6 = 0 → Q (-1) σ5) ∧
  (¬ r6 = 0 → (wp_X5_finds x1 x2 σ5 (fun r8 σ7 =>
  ((r8 = 0 → Q (-1) σ7) ∧
  (¬ r8 = 0 → (wp_X5_startOf σ7 (fun r10 σ9 =>
  (wp_X5_leads 4 r10 0 x1 σ9 (fun r12 σ11 =>
  ((¬ r12 = 0 → ((¬ x4 = 0 → ((¬ x4 = 1 → (vp_in x3 3 ∧ Q (σ11.2.2.1 17 (Int32.toNatClampNeg x3)) σ11)) ∧
  (x4 = 1 → (vp_in x3 3 ∧ Q (σ11.2.2.1 16 (Int32.toNatClampNeg x3)) σ11)))) ∧
  (x4 = 0 → (vp_in x3 3 ∧ Q (σ11.2.2.1 15 (Int32.toNatClampNeg x3)) σ11)))) ∧
  (r12 = 0 → Q (-1) σ11))))))))))))))))))))))))
def wp_X5_begin_L7 (Q : ST → Prop) : Nat → Int32 → ST → Prop
  | 0, _, _ => False
  | n + 1, x1, σ =>
  (((σ.1 0 0) ≤ x1 → Q σ) ∧
  (¬ (σ.1 0 0) ≤ x1 → (vp_in x1 3 ∧ (∀ σ3, σ3 = sR σ 7 (Int32.toNatClampNeg x1) (σ.2.2.1 2 (Int32.toNatClampNeg x1)) →
  wp_X5_begin_L7 Q n (x1 + 1) σ3))))
def wp_X5_begin (σ : ST) (Q : ST → Prop) : Prop :=
  (∀ σ1, σ1 = sI σ 0 10 0 →
  (∃ m7, wp_X5_begin_L7 Q m7 0 σ1))
def wp_X5_run_L23 (x1 : Int32) (x2 : Int32) (K : Int32 → ST → Prop) (Q : Int32 → ST → Prop) : Nat → Int32 → Int32 → ST → Prop
  | 0, _, _, _ => False
  | n + 1, x3, x4, σ =>
  (((σ.1 0 0) ≤ x4 → K x3 σ) ∧
  (¬ (σ.1 0 0) ≤ x4 → (vp_in x4 3 ∧ (∀ w6, w6 = (x3 ||| (((σ.2.2.1 7 (Int32.toNatClampNeg x4)) : Int32) <<< (((2 * x4) : Int32) &&& 31))) →
  wp_X5_run_L23 x1 x2 K Q n w6 (x4 + 1) σ))))
def wp_X5_run_L82 (x3 : Int32) (x4 : Int32) (K : ST → Prop) (Q : Int32 → ST → Prop) : Nat → Int32 → ST → Prop
  | 0, _, _ => False
  | n + 1, x5, σ =>
  (((σ.1 0 0) ≤ x5 → K  σ) ∧
  (¬ (σ.1 0 0) ≤ x5 → (wp_X5_part x3 x5 σ (fun r17 σ16 =>
  (vp_in x5 3 ∧ (∀ σ19, σ19 = sR σ16 7 (Int32.toNatClampNeg x5) r17 →
  wp_X5_run_L82 x3 x4 K Q n (x5 + 1) σ19))))))
def wp_X5_run (x1 : Int32) (x2 : Int32) (σ : ST) (Q : Int32 → ST → Prop) : Prop :=
  (wp_X5_isAct x1 σ (fun r2 σ1 =>
  ((r2 = 0 → Q (-1) σ1) ∧
  (¬ r2 = 0 → (wp_X5_isAct x2 σ1 (fun r4 σ3 =>
  ((¬ r4 = 0 → (∃ m23, wp_X5_run_L23 x1 x2 (fun y3_8 σ9 =>
  (wp_X5_sent y3_8 x1 (σ9.1 0 10) σ9 (fun r11 σ10 =>
  (wp_X5_told r11 x2 σ10 (fun r13 σ12 =>
  (wp_X5_heard r11 x2 σ12 (fun r15 σ14 =>
  (∃ m82, wp_X5_run_L82 r15 r13 (fun σ21 =>
  (∀ σ22, σ22 = sI σ21 0 10 ((σ21.1 0 10) + 1) →
  Q r13 σ22)) Q m82 0 σ14)))))))) Q m23 0 0 σ3)) ∧
  (r4 = 0 → Q (-1) σ3))))))))
def wp_X5_state (x1 : Int32) (σ : ST) (Q : Int32 → ST → Prop) : Prop :=
  (wp_X5_isThing x1 σ (fun r2 σ1 =>
  ((r2 = 0 → Q (-1) σ1) ∧
  (¬ r2 = 0 → (vp_in x1 3 ∧ Q (σ1.2.2.1 7 (Int32.toNatClampNeg x1)) σ1)))))
def wp_X5_ticks (σ : ST) (Q : Int32 → ST → Prop) : Prop :=
  Q (σ.1 0 10) σ
def wp_X5_gives_L2 (x1 : Int32) (Q : ST → Prop) : Nat → Int32 → ST → Prop
  | 0, _, _ => False
  | n + 1, x2, σ =>
  (((σ.1 0 0) ≤ x2 → Q σ) ∧
  (¬ (σ.1 0 0) ≤ x2 → (vp_in x2 3 ∧ (∀ σ2, σ2 = sR σ 3 (Int32.toNatClampNeg x2) (((x1 : Int32) >>> (((2 * x2) : Int32) &&& 31)) &&& 3) →
  wp_X5_gives_L2 x1 Q n (x2 + 1) σ2))))
def wp_X5_gives (x1 : Int32) (σ : ST) (Q : ST → Prop) : Prop :=
  (∃ m2, wp_X5_gives_L2 x1 Q m2 0 σ)
def wp_X5_walls_L43 (x1 : Int32) (x2 : Int32) (x3 : Int32) (x4 : Int32) (K : Int32 → ST → Prop) (Q : Int32 → ST → Prop) : Nat → Int32 → Int32 → ST → Prop
  | 0, _, _, _ => False
  | n + 1, x5, x6, σ =>
  ((((1 : Int32) <<< (((2 * (σ.1 0 0)) : Int32) &&& 31)) ≤ x6 → K x5 σ) ∧
  (¬ ((1 : Int32) <<< (((2 * (σ.1 0 0)) : Int32) &&& 31)) ≤ x6 → ((x5 = (-1) → (wp_X5_gives x6 σ (fun σ9 =>
  (wp_X5_letters x2 σ9 (fun r11 σ10 =>
  ((x1 < r11 → wp_X5_walls_L43 x1 x2 x3 x4 K Q n x5 (x6 + 1) σ10) ∧
  (¬ x1 < r11 → wp_X5_walls_L43 x1 x2 x3 x4 K Q n x6 (x6 + 1) σ10))))))) ∧
  (¬ x5 = (-1) → (wp_X5_costs x6 σ (fun r13 σ12 =>
  (wp_X5_costs x5 σ12 (fun r15 σ14 =>
  ((r13 < r15 → (wp_X5_gives x6 σ14 (fun σ16 =>
  (wp_X5_letters x2 σ16 (fun r18 σ17 =>
  ((x1 < r18 → wp_X5_walls_L43 x1 x2 x3 x4 K Q n x5 (x6 + 1) σ17) ∧
  (¬ x1 < r18 → wp_X5_walls_L43 x1 x2 x3 x4 K Q n x6 (x6 + 1) σ17))))))) ∧
  (¬ r13 < r15 → wp_X5_walls_L43 x1 x2 x3 x4 K Q n x5 (x6 + 1) σ14))))))))))
def wp_X5_walls (x1 : Int32) (x2 : Int32) (x3 : Int32) (σ : ST) (Q : Int32 → ST → Prop) : Prop :=
  (wp_X5_isIn x1 1 4096 σ (fun r2 σ1 =>
  ((r2 = 0 → Q (-1) σ1) ∧
  (¬ r2 = 0 → (wp_X5_isIn x2 0 2 σ1 (fun r4 σ3 =>
  ((r4 = 0 → Q (-1) σ3) ∧
  (¬ r4 = 0 → (wp_X5_isIn x3 0 1 σ3 (fun r6 σ5 =>
  ((¬ r6 = 0 → (wp_X5_wallsNow σ5 (fun r8 σ7 =>
  (∃ m43, wp_X5_walls_L43 x1 x2 x3 r8 (fun y5_20 σ21 =>
  (wp_X5_gives r8 σ21 (fun σ22 =>
  ((¬ y5_20 = (-1) → ((¬ x3 = 0 → Q y5_20 σ22) ∧
  (x3 = 0 → (wp_X5_costs y5_20 σ22 (fun r24 σ23 =>
  Q r24 σ23))))) ∧
  (y5_20 = (-1) → Q (-1) σ22))))) Q m43 (-1) 0 σ7)))) ∧
  (r6 = 0 → Q (-1) σ5))))))))))))
def wp_X5_give (x1 : Int32) (σ : ST) (Q : Int32 → ST → Prop) : Prop :=
  (wp_X5_isIn x1 0 63 σ (fun r2 σ1 =>
  ((¬ r2 = 0 → (wp_X5_gives x1 σ1 (fun σ3 =>
  Q 1 σ3))) ∧
  (r2 = 0 → Q 0 σ1))))
