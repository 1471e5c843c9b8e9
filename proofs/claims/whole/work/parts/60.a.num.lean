/-! ===== PURE: numbers, bits ===== -/
theorem l0 : (0 : Int32) = nI 0 := rfl
theorem l1 : (1 : Int32) = nI 1 := rfl
theorem l2 : (2 : Int32) = nI 2 := rfl
theorem l3 : (3 : Int32) = nI 3 := rfl
theorem l4 : (4 : Int32) = nI 4 := rfl
theorem l5 : (5 : Int32) = nI 5 := rfl
theorem l6 : (6 : Int32) = nI 6 := rfl
theorem l8 : (8 : Int32) = nI 8 := rfl
theorem l9 : (9 : Int32) = nI 9 := rfl
theorem l12 : (12 : Int32) = nI 12 := rfl
theorem l16 : (16 : Int32) = nI 16 := rfl
theorem l63 : (63 : Int32) = nI 63 := rfl
theorem l64 : (64 : Int32) = nI 64 := rfl
theorem l70 : (70 : Int32) = nI 70 := rfl
theorem l1000 : (1000 : Int32) = nI 1000 := rfl
theorem nle {a b : Nat} (ha : a < 2147483648) (hb : b < 2147483648) : nI a ≤ nI b ↔ a ≤ b := nI_leI ha hb
theorem nlt {a b : Nat} (ha : a < 2147483648) (hb : b < 2147483648) : nI a < nI b ↔ a < b := nI_ltI ha hb
theorem neq {a b : Nat} (ha : a < 2147483648) (hb : b < 2147483648) : nI a = nI b ↔ a = b := nI_eq ha hb
theorem ncl {a : Nat} (ha : a < 2147483648) : Int32.toNatClampNeg (nI a) = a := nI_clamp ha
theorem nvi {a N : Nat} (h : a < N) (hN : N < 2147483648) : vp_in (nI a) N := vp_in_nI h hN
theorem nm1 (a : Nat) : ¬ nI a = -1 ∨ a ≥ 2147483648 := by
  by_cases h : a < 2147483648
  · left
    intro e
    have h1 : (nI a).toInt = (-1 : Int32).toInt := by rw [e]
    rw [nI_toInt h] at h1
    have h2 : (-1 : Int32).toInt = -1 := by decide
    omega
  · right; omega
/-- a bit of a long -/
def bt (x : Int64) (v : Nat) : Bool := x.toBitVec.getLsbD v
theorem bt_ext {x y : Int64} (h : ∀ v, v < 64 → bt x v = bt y v) : x = y := by
  apply Int64.toBitVec_inj.mp
  apply BitVec.eq_of_getLsbD_eq
  intro i hi
  exact h i hi
theorem bt_or (x y : Int64) (v : Nat) : bt (x ||| y) v = (bt x v || bt y v) := by
  simp [bt]
theorem bt_zero (v : Nat) : bt 0 v = false := by
  simp [bt]
/-- shift amounts -/
theorem sh64 {m : Nat} (hm : m < 64) : Int32.toInt64 (nI m) &&& 63 = lN m := by
  rw [nI_l (by omega)]
  have : ∀ m, m < 64 → lN m &&& 63 = lN m := by decide +kernel
  exact this m hm
theorem bt_one {m v : Nat} (hm : m < 64) (hv : v < 64) : bt ((1 : Int64) <<< (Int32.toInt64 (nI m) &&& 63)) v = decide (v = m) := by
  rw [sh64 hm]
  have : ∀ m, m < 64 → ∀ v, v < 64 → bt ((1 : Int64) <<< lN m) v = decide (v = m) := by decide +kernel
  exact this m hm v hv
theorem lN_bv {m : Nat} (hm : m < 64) : ((lN m).toBitVec.smod 64).toNat = m := by
  have : ∀ m, m < 64 → ((lN m).toBitVec.smod 64).toNat = m := by decide +kernel
  exact this m hm
theorem sar_bv (x : Int64) {m : Nat} (hm : m < 64) : (x >>> lN m).toBitVec = x.toBitVec.sshiftRight m := by
  show x.toBitVec.sshiftRight' ((lN m).toBitVec.smod 64) = _
  rw [BitVec.sshiftRight_eq', lN_bv hm]
theorem bt_sar (x : Int64) {m v : Nat} (hm : m < 64) (hv : m + v < 64) : bt (x >>> lN m) v = bt x (m + v) := by
  unfold bt
  rw [sar_bv x hm, BitVec.getLsbD_sshiftRight]
  have h64 : ¬ 64 ≤ v := by omega
  simp [h64, hv]
theorem bt_and (x y : Int64) (v : Nat) : bt (x &&& y) v = (bt x v && bt y v) := by
  simp [bt]
theorem bt_lit1 : ∀ v, v < 64 → bt 1 v = decide (v = 0) := by decide +kernel
/-- the test of a bit -/
theorem bt_test (x : Int64) {m : Nat} (hm : m < 64) : ((x >>> (Int32.toInt64 (nI m) &&& 63)) &&& 1) = if bt x m then 1 else 0 := by
  rw [sh64 hm]
  apply bt_ext
  intro v hv
  rw [bt_and, bt_lit1 v hv]
  by_cases h0 : v = 0
  · subst h0
    rw [bt_sar x hm (by omega)]
    cases h : bt x m <;> simp [h]
    · exact (bt_zero 0).symm ▸ rfl
    · exact (bt_lit1 0 (by omega)).symm
  · cases h : bt x m <;> simp [h, h0]
    · exact (bt_zero v).symm ▸ rfl
    · rw [bt_lit1 v hv]; simp [h0]
/-- the logical shift -/
theorem ushr_bv (x : Int64) {m : Nat} (hm : m < 64) : ((Int64.toUInt64 x >>> (Int64.toUInt64 (Int32.toInt64 (nI m)) &&& Int64.toUInt64 63)).toInt64).toBitVec = x.toBitVec >>> m := by
  rw [nI_l (by omega)]
  have h1 : ∀ m, m < 64 → ((Int64.toUInt64 (lN m) &&& Int64.toUInt64 63).toBitVec % 64).toNat = m := by decide +kernel
  show x.toBitVec >>> ((Int64.toUInt64 (lN m) &&& Int64.toUInt64 63).toBitVec % 64) = _
  rw [BitVec.ushiftRight_eq', h1 m hm]
theorem bt_ushr (x : Int64) {m v : Nat} (hm : m < 64) : bt ((Int64.toUInt64 x >>> (Int64.toUInt64 (Int32.toInt64 (nI m)) &&& Int64.toUInt64 63)).toInt64) v = bt x (m + v) := by
  unfold bt
  rw [ushr_bv x hm, BitVec.getLsbD_ushiftRight]
theorem shl_bv (x : Int64) {m : Nat} (hm : m < 64) : (x <<< (Int32.toInt64 (nI m) &&& 63)).toBitVec = x.toBitVec <<< m := by
  rw [sh64 hm]
  show x.toBitVec <<< ((lN m).toBitVec.smod 64) = _
  rw [BitVec.shiftLeft_eq', lN_bv hm]
theorem bt_shl (x : Int64) {m v : Nat} (hm : m < 64) (hv : v < 64) : bt (x <<< (Int32.toInt64 (nI m) &&& 63)) v = (decide (m ≤ v) && bt x (v - m)) := by
  unfold bt
  rw [shl_bv x hm, BitVec.getLsbD_shiftLeft]
  simp [hv]
  by_cases h : m ≤ v <;> simp [h] <;> omega
/-- two bits of a table's row -/
def tb (x : Int64) (j : Nat) : Nat := (bt x (2 * j)).toNat + 2 * (bt x (2 * j + 1)).toNat
theorem tb_lt (x : Int64) (j : Nat) : tb x j < 4 := by
  unfold tb
  cases bt x (2 * j) <;> cases bt x (2 * j + 1) <;> decide
theorem low2 (y : Int64) : (Int64.toInt32 y) &&& 3 = nI ((bt y 0).toNat + 2 * (bt y 1).toNat) := by
  rw [pk_and _ 2 (by decide)]
  congr 1
  have h1 : (Int64.toInt32 y).toBitVec = y.toBitVec.setWidth 32 := by
    show y.toBitVec.signExtend 32 = _
    rw [BitVec.signExtend_eq_setWidth_of_le _ (by decide)]
  rw [h1, BitVec.toNat_setWidth]
  have h2 : bt y 0 = y.toBitVec.toNat.testBit 0 := rfl
  have h3 : bt y 1 = y.toBitVec.toNat.testBit 1 := rfl
  rw [h2, h3]
  generalize y.toBitVec.toNat = z
  rw [Nat.testBit_zero, Nat.testBit_succ, Nat.testBit_zero]
  have e1 : (decide (z % 2 = 1)).toNat = z % 2 := by
    rcases Nat.mod_two_eq_zero_or_one z with h | h <;> simp [h]
  have e2 : (decide (z / 2 % 2 = 1)).toNat = z / 2 % 2 := by
    rcases Nat.mod_two_eq_zero_or_one (z / 2) with h | h <;> simp [h]
  rw [e1, e2]
  omega
