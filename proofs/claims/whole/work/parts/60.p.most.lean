/-! ===== PURE: the reference's most ===== -/
def mxN (c : Cf) (f : Nat → Nat) : Nat → Nat
  | 0 => 0
  | m + 1 => if m < 3 * c.1 ∨ m = 9 then (if f m ≤ mxN c f m then mxN c f m else f m) else mxN c f m
noncomputable def mostF (c : Cf) : Nat → Nat → Int64 → Nat
  | 0, _, X => if X = 0 then 0 else 1
  | d + 1, t, X => if X = 0 then 0 else mxN c (fun a => mostF c d (t + 1) (parF c (sprF c X t) a 0) + mostF c d (t + 1) (parF c (sprF c X t) a 1) + mostF c d (t + 1) (parF c (sprF c X t) a 2) + mostF c d (t + 1) (parF c (sprF c X t) a 3)) 10
noncomputable def byF (c : Cf) (d t : Nat) (S : Int64) (a : Nat) : Nat := mostF c d (t + 1) (parF c S a 0) + mostF c d (t + 1) (parF c S a 1) + mostF c d (t + 1) (parF c S a 2) + mostF c d (t + 1) (parF c S a 3)
theorem mxN_le {c : Cf} {f : Nat → Nat} {B : Nat} (h : ∀ a, f a ≤ B) : ∀ m, mxN c f m ≤ B := by
  intro m
  induction m with
  | zero => exact Nat.zero_le _
  | succ m ih =>
    unfold mxN
    have := h m
    split
    · split
      · exact ih
      · exact this
    · exact ih
theorem mostF_le (c : Cf) : ∀ d t X, mostF c d t X ≤ 4 ^ d := by
  intro d
  induction d with
  | zero => intro t X; unfold mostF; split <;> decide
  | succ d ih =>
    intro t X
    unfold mostF
    split
    · exact Nat.zero_le _
    · refine mxN_le (fun a => ?_) 10
      have h0 := ih (t + 1) (parF c (sprF c X t) a 0)
      have h1 := ih (t + 1) (parF c (sprF c X t) a 1)
      have h2 := ih (t + 1) (parF c (sprF c X t) a 2)
      have h3 := ih (t + 1) (parF c (sprF c X t) a 3)
      rw [Nat.pow_succ]
      omega
theorem byF_le (c : Cf) (d t : Nat) (S : Int64) (a : Nat) : byF c d t S a ≤ 4 ^ (d + 1) := by
  have h0 := mostF_le c d (t + 1) (parF c S a 0)
  have h1 := mostF_le c d (t + 1) (parF c S a 1)
  have h2 := mostF_le c d (t + 1) (parF c S a 2)
  have h3 := mostF_le c d (t + 1) (parF c S a 3)
  unfold byF
  rw [Nat.pow_succ]
  omega
theorem mostF_zero (c : Cf) (d t : Nat) : mostF c d t 0 = 0 := by
  cases d <;> unfold mostF <;> rw [if_pos rfl]
theorem pow43 {d : Nat} (h : d ≤ 3) : 4 ^ d ≤ 64 := Nat.le_trans (Nat.pow_le_pow_right (by decide) h) (by decide)
/-! the answers -/
def m4 (m r : Nat) : Nat := if m.testBit r then 1 else 0
theorem m4_sum : ∀ m, m < 16 → ((((nI m &&& 1) + ((nI m >>> ((1 : Int32) &&& 31)) &&& 1)) + ((nI m >>> ((2 : Int32) &&& 31)) &&& 1)) + ((nI m >>> ((3 : Int32) &&& 31)) &&& 1)) = nI (m4 m 0 + m4 m 1 + m4 m 2 + m4 m 3) := by decide +kernel
theorem m4_or : ∀ m, m < 16 → ∀ r, r < 4 → (nI m ||| ((1 : Int32) <<< (nI r &&& 31))) = nI (m ||| 2 ^ r) ∧ (m ||| 2 ^ r) < 16 ∧ ∀ s, s < 4 → (m ||| 2 ^ r).testBit s = (m.testBit s || decide (s = r)) := by decide +kernel
theorem m4_15 : ∀ m, m < 16 → (∀ r, r < 4 → (m.testBit r = true ∨ m ≠ 15)) := by decide +kernel
theorem parF_ne {c : Cf} {X : Int64} {a r : Nat} (hc : Ck c) (ha : isA c a) : parF c X a r ≠ 0 ↔ ∃ s, s < 64 ∧ bt X s = true ∧ toldA c s a = r := by
  rw [ne0_iff]
  constructor
  · rintro ⟨u, hu, e⟩
    obtain ⟨s, h1, h2, h3, -⟩ := (bt_ofP _ hu).mp e
    exact ⟨s, h1, h2, h3⟩
  · rintro ⟨s, h1, h2, h3⟩
    exact ⟨heardA c s a, heardA_lt hc h1 ha, (bt_ofP _ (heardA_lt hc h1 ha)).mpr ⟨s, h1, h2, h3, rfl⟩⟩
theorem s_X5_answersOf {c : Cf} {X : Int64} {a t : Nat} {τ : ST} {Q : Int32 → ST → Prop} (hc : Ck c) (hR : RM c τ) (ha : isA c a) (h : Q (nI (byF c 0 t X a)) τ) : wp_X5_answersOf X (nI a) τ Q := by
  have fin : ∀ m, m < 16 → (∀ r, r < 4 → (m.testBit r = true ↔ ∃ s, s < 64 ∧ bt X s = true ∧ toldA c s a = r)) → Q ((((nI m &&& 1) + ((nI m >>> ((1 : Int32) &&& 31)) &&& 1)) + ((nI m >>> ((2 : Int32) &&& 31)) &&& 1)) + ((nI m >>> ((3 : Int32) &&& 31)) &&& 1)) τ := by
    intro m hm hs
    rw [m4_sum m hm]
    have e : ∀ r, r < 4 → m4 m r = mostF c 0 (t + 1) (parF c X a r) := by
      intro r hr
      unfold m4 mostF
      have h1 := (hs r hr).trans (parF_ne (X := X) hc ha).symm
      by_cases q : parF c X a r = 0
      · rw [if_pos q, if_neg (fun z => h1.mp z q)]
      · rw [if_neg q, if_pos (h1.mpr q)]
    rw [e 0 (by omega), e 1 (by omega), e 2 (by omega), e 3 (by omega)]
    exact h
  have key : ∀ (d i m : Nat), i + d = 64 → m < 16 → (∀ r, r < 4 → (m.testBit r = true ↔ ∃ s, s < i ∧ bt X s = true ∧ toldA c s a = r)) → wp_X5_answersOf_L6 X (nI a) (fun y4_5 σ6 => Q ((((y4_5 &&& 1) + (((y4_5 : Int32) >>> ((1 : Int32) &&& 31)) &&& 1)) + (((y4_5 : Int32) >>> ((2 : Int32) &&& 31)) &&& 1)) + (((y4_5 : Int32) >>> ((3 : Int32) &&& 31)) &&& 1)) σ6) Q (d + 1) (nI m) (nI i) τ := by
    intro d
    induction d with
    | zero =>
      intro i m hi hm hs
      have : i = 64 := by omega
      subst this
      unfold wp_X5_answersOf_L6
      refine ⟨fun _ => fin m hm hs, fun q => absurd ((nle (by decide) (by decide)).mpr (Nat.le_refl 64)) q⟩
    | succ d ih =>
      intro i m hi hm hs
      unfold wp_X5_answersOf_L6
      have hb := lgb (x := X) (show i < 64 by omega)
      have hno : ¬ bt X i = true → wp_X5_answersOf_L6 X (nI a) (fun y4_5 σ6 => Q ((((y4_5 &&& 1) + (((y4_5 : Int32) >>> ((1 : Int32) &&& 31)) &&& 1)) + (((y4_5 : Int32) >>> ((2 : Int32) &&& 31)) &&& 1)) + (((y4_5 : Int32) >>> ((3 : Int32) &&& 31)) &&& 1)) σ6) Q (d + 1) (nI m) (nI (i + 1)) τ := by
        intro q
        refine ih (i + 1) m (by omega) hm (fun r hr => (hs r hr).trans ⟨fun ⟨s, q1, q2⟩ => ⟨s, by omega, q2⟩, fun ⟨s, q1, q2, q3⟩ => ?_⟩)
        by_cases e : s = i
        · subst e; exact absurd q2 q
        · exact ⟨s, by omega, q2, q3⟩
      have l15 : (15 : Int32) = nI 15 := rfl
      rw [l64, nle (by omega) (by omega), l15, neq (by omega) (by omega), hb.2, nI_1]
      refine ⟨fun q => absurd q (by omega), fun _ => ⟨fun q => fin m hm (fun r hr => ⟨fun z => ?_, fun _ => ?_⟩), fun q => ⟨hno, fun q2 => s_X5_told hc hR (by omega) ha (fun w3 e3 => ?_)⟩⟩⟩
      · obtain ⟨s, q1, q2⟩ := (hs r hr).mp z
        exact ⟨s, by omega, q2⟩
      · rcases m4_15 m hm r hr with z | z
        · exact z
        · exact absurd q z
      · have h4 := toldA_lt (v := i) hc ha
        obtain ⟨e1, e2, e4⟩ := m4_or m hm _ h4
        rw [e3, e1]
        refine ih (i + 1) _ (by omega) e2 (fun r hr => ?_)
        rw [e4 r hr]
        have h5 := hs r hr
        constructor
        · intro z
          cases e5 : m.testBit r with
          | true => obtain ⟨s, q1, q3⟩ := h5.mp e5; exact ⟨s, by omega, q3⟩
          | false =>
            rw [e5, Bool.false_or] at z
            exact ⟨i, by omega, q2, (of_decide_eq_true z).symm⟩
        · rintro ⟨s, q1, q3, q4⟩
          by_cases e : s = i
          · subst e; rw [Bool.or_eq_true]; exact Or.inr (decide_eq_true q4.symm)
          · rw [Bool.or_eq_true]; exact Or.inl (h5.mpr ⟨s, by omega, q3, q4⟩)
  have h0 := key 64 0 0 (by omega) (by omega) (fun r hr => ⟨fun z => by rw [Nat.zero_testBit] at z; exact absurd z (by decide), fun ⟨s, q1, _⟩ => absurd q1 (by omega)⟩)
  exact ⟨65, h0⟩
/-! most -/
def MM (c : Cf) (n q : Nat) (τ : ST) : Prop := τ.1 0 16 = nI q ∧ ∀ j, j < 4096 → (∃ p, p ≤ q ∧ τ.2.2.1 13 j = nI p) ∧ (τ.2.2.1 13 j = nI q → ∃ t, t < n ∧ τ.2.2.1 12 j = nI t ∧ τ.2.2.1 14 j = nI (mostF c (n - t) t (τ.2.2.2 11 j)))
def FrM (τ τ' : ST) : Prop := τ'.1 = τ.1 ∧ τ'.2.1 = τ.2.1 ∧ (∀ p, p < 12 ∨ 14 < p → τ'.2.2.1 p = τ.2.2.1 p) ∧ ∀ p, p ≠ 11 → τ'.2.2.2 p = τ.2.2.2 p
theorem FrM.refl (τ : ST) : FrM τ τ := ⟨rfl, rfl, fun _ _ => rfl, fun _ _ => rfl⟩
theorem FrM.trans {τ τ1 τ2 : ST} (a : FrM τ τ1) (b : FrM τ1 τ2) : FrM τ τ2 := ⟨b.1.trans a.1, b.2.1.trans a.2.1, fun p h => (b.2.2.1 p h).trans (a.2.2.1 p h), fun p h => (b.2.2.2 p h).trans (a.2.2.2 p h)⟩
theorem RM.fr {c : Cf} {τ τ' : ST} (h : RM c τ) (f : FrM τ τ') : RM c τ' := by
  refine ⟨by rw [f.1]; exact h.1, fun k hk => ?_⟩
  rw [f.2.2.1 1 (by omega), f.2.2.1 2 (by omega), f.2.2.1 3 (by omega), f.2.2.1 4 (by omega), f.2.2.1 5 (by omega), f.2.2.2 8 (by omega), f.2.2.2 9 (by omega)]
  exact h.2 k hk
def Most (c : Cf) (n q d t : Nat) (rec : Int64 → Int32 → Int32 → ST → (Int32 → ST → Prop) → Prop) : Prop := ∀ X τ (Q : Int32 → ST → Prop), MM c n q τ → RM c τ → (∀ τ', MM c n q τ' → FrM τ τ' → Q (nI (mostF c d t X)) τ') → rec X (nI t) (nI n) τ Q
theorem s_X5_by {c : Cf} {n q d t a : Nat} {rec : Int64 → Int32 → Int32 → ST → (Int32 → ST → Prop) → Prop} {S : Int64} {τ : ST} {Q : Int32 → ST → Prop} (hc : Ck c) (ha : isA c a) (hrec : Most c n q d (t + 1) rec) (hM : MM c n q τ) (hR : RM c τ) (h : ∀ τ', MM c n q τ' → FrM τ τ' → Q (nI (byF c d t S a)) τ') : wp_X5_by rec S (nI t) (nI n) (nI a) τ Q := by
  have st : ∀ (f r s : Nat) (τ1 : ST), r < 4 → MM c n q τ1 → FrM τ τ1 → (∀ τ', MM c n q τ' → FrM τ τ' → wp_X5_by_L6 rec S (nI t) (nI n) (nI a) Q f (nI (s + mostF c d (t + 1) (parF c S a r))) (nI (r + 1)) τ') → wp_X5_by_L6 rec S (nI t) (nI n) (nI a) Q (f + 1) (nI s) (nI r) τ1 := by
    intro f r s τ1 hr hM1 hF1 k
    unfold wp_X5_by_L6
    rw [l4, nle (by omega) (by omega)]
    refine ⟨fun q => absurd q (by omega), fun _ => s_X5_parts hc (hR.fr hF1) ha hr ?_⟩
    rw [nI_1]
    refine hrec _ _ _ hM1 (hR.fr hF1) (fun τ2 hM2 hF2 => ?_)
    rw [nI_add, nI_1]
    exact k τ2 hM2 (hF1.trans hF2)
  refine ⟨5, ?_⟩
  refine st 4 0 0 τ (by omega) hM (FrM.refl _) (fun τ1 m1 f1 => st 3 1 _ τ1 (by omega) m1 f1 (fun τ2 m2 f2 => st 2 2 _ τ2 (by omega) m2 f2 (fun τ3 m3 f3 => st 1 3 _ τ3 (by omega) m3 f3 (fun τ4 m4 f4 => ?_))))
  unfold wp_X5_by_L6
  refine ⟨fun _ => ?_, fun z => absurd (by decide) z⟩
  have := h τ4 m4 f4
  unfold byF at this
  rw [Nat.zero_add]
  exact this
theorem s_ix (y : Int64) : ∃ j, j < 4096 ∧ Int64.toInt32 (y &&& 4095) = nI j := by
  have h1 : (Int64.toInt32 (y &&& 4095)).toBitVec = (y &&& 4095).toBitVec.setWidth 32 := by
    show (y &&& 4095).toBitVec.signExtend 32 = _
    rw [BitVec.signExtend_eq_setWidth_of_le _ (by decide)]
  have h2 : (Int64.toInt32 (y &&& 4095)).toBitVec.toNat < 4096 := by
    rw [h1, BitVec.toNat_setWidth]
    have h3 : (y &&& 4095).toBitVec.toNat ≤ 4095 := by
      show (y.toBitVec &&& (4095 : Int64).toBitVec).toNat ≤ _
      rw [BitVec.toNat_and]
      exact Nat.and_le_right
    exact Nat.lt_of_le_of_lt (Nat.mod_le _ _) (by omega)
  refine ⟨_, h2, ?_⟩
  apply Int32.toBitVec_inj.mp
  apply BitVec.eq_of_toNat_eq
  rw [pk_tn (by omega)]
theorem s_X5_most_L104 {c : Cf} {n q d t : Nat} {rec : Int64 → Int32 → Int32 → ST → (Int32 → ST → Prop) → Prop} {X S : Int64} {w1 : Int32} {τ : ST} {K Q : Int32 → ST → Prop} (hc : Ck c) (hn : n ≤ 3) (htd : t + (d + 1) = n) (hrec : d ≠ 0 → Most c n q d (t + 1) rec) (hR : RM c τ) (h : ∀ τ', MM c n q τ' → FrM τ τ' → K (nI (mxN c (byF c d t S) 10)) τ') : ∀ (e j : Nat) (τ1 : ST), j + e = 10 → MM c n q τ1 → FrM τ τ1 → wp_X5_most_L104 rec X (nI t) (nI n) w1 S K Q (e + 1) (nI (mxN c (byF c d t S) j)) (nI j) τ1 := by
  have hb : ∀ m, mxN c (byF c d t S) m ≤ 64 := fun m => mxN_le (fun a => Nat.le_trans (byF_le c d t S a) (pow43 (by omega))) m
  intro e
  induction e with
  | zero =>
    intro j τ1 hj hM1 hF1
    have : j = 10 := by omega
    subst this
    unfold wp_X5_most_L104
    rw [l9, nlt (by omega) (by omega)]
    exact ⟨fun _ => h τ1 hM1 hF1, fun q => absurd (by omega) q⟩
  | succ e ih =>
    intro j τ1 hj hM1 hF1
    unfold wp_X5_most_L104
    have hb1 := hb j
    have hb2 : byF c d t S j ≤ 64 := Nat.le_trans (byF_le c d t S j) (pow43 (by omega))
    have hs : nI n - 1 = nI (n - 1) := by
      have h9 : n = (n - 1) + 1 := by omega
      rw [h9, nI_pred]; rfl
    rw [l9, nlt (by omega) (by omega), hs, neq (by omega) (by omega)]
    have ihn := fun τ' m f => ih (j + 1) τ' (by omega) m f
    unfold mxN at ihn
    have both : isA c j → ∀ τ', MM c n q τ' → FrM τ τ' → ((nI (byF c d t S j) ≤ nI (mxN c (byF c d t S) j) → wp_X5_most_L104 rec X (nI t) (nI n) w1 S K Q (e + 1) (nI (mxN c (byF c d t S) j)) (nI j + 1) τ') ∧ (¬ nI (byF c d t S j) ≤ nI (mxN c (byF c d t S) j) → wp_X5_most_L104 rec X (nI t) (nI n) w1 S K Q (e + 1) (nI (byF c d t S j)) (nI j + 1) τ')) := by
      intro ha τ' m f
      have i1 := ihn τ' m f
      rw [if_pos (show j < 3 * c.1 ∨ j = 9 from ha)] at i1
      rw [nle (by omega) (by omega), nI_1]
      constructor
      · intro z; rw [if_pos z] at i1; exact i1
      · intro z; rw [if_neg z] at i1; exact i1
    refine ⟨fun z => absurd z (by omega), fun _ => s_X5_isAct hc (hR.fr hF1) (by omega) (fun ha => ⟨fun _ => ⟨fun z => ?_, fun z => ?_⟩, fun z => absurd z (by decide)⟩) (fun ha => ⟨fun z => absurd rfl z, fun _ => ?_⟩)⟩
    · exact s_X5_by hc ha (hrec (by omega)) hM1 (hR.fr hF1) (fun τ2 m2 f2 => both ha τ2 m2 (hF1.trans f2))
    · have : d = 0 := by omega
      subst this
      exact s_X5_answersOf hc (hR.fr hF1) ha (both ha τ1 hM1 hF1)
    · have i1 := ihn τ1 hM1 hF1
      rw [if_neg (show ¬ (j < 3 * c.1 ∨ j = 9) from ha)] at i1
      rw [nI_1]
      exact ⟨fun _ => i1, fun z => absurd (by rw [l0, nle (by omega) (by omega)]; omega) z⟩
theorem s_X5_most {c : Cf} {n q : Nat} (hc : Ck c) (hn : n ≤ 3) (hq : q < 2147483648) : ∀ (d f t : Nat), d < f → t + d = n → Most c n q d t (wp_X5_most f) := by
  intro d
  induction d with
  | zero =>
    intro f t hf ht X τ Q hM hR h
    obtain ⟨f, rfl⟩ : ∃ g, f = g + 1 := ⟨f - 1, by omega⟩
    have : t = n := by omega
    subst this
    show wp_X5_mosto (wp_X5_most f) X (nI t) (nI t) τ Q
    unfold wp_X5_mosto
    have h1 := h τ hM (FrM.refl _)
    unfold mostF at h1
    rw [lgc]
    refine ⟨fun z => ⟨fun z2 => absurd rfl z2, fun _ => ?_⟩, fun z => ?_⟩
    · rw [if_neg z] at h1; exact h1
    · rw [if_pos z] at h1; exact h1
  | succ d ih =>
    intro f t hf ht X τ Q hM hR h
    obtain ⟨f, rfl⟩ : ∃ g, f = g + 1 := ⟨f - 1, by omega⟩
    show wp_X5_mosto (wp_X5_most f) X (nI t) (nI n) τ Q
    unfold wp_X5_mosto
    rw [lgc]
    refine ⟨fun z => ⟨fun _ => ?_, fun z2 => absurd z2 (by rw [neq (by omega) (by omega)]; omega)⟩, fun z => ?_⟩
    · have hval : mostF c (d + 1) t X = mxN c (byF c d t (sprF c X t)) 10 := by
        show (if X = 0 then 0 else _) = _
        rw [if_neg z]; rfl
      intro w1 e1
      obtain ⟨j, hj, ej⟩ := s_ix (((X ^^^ (Int64.toUInt64 X >>> (Int64.toUInt64 (Int32.toInt64 23) &&& Int64.toUInt64 63)).toInt64) ^^^ (Int64.toUInt64 X >>> (Int64.toUInt64 (Int32.toInt64 41) &&& Int64.toUInt64 63)).toInt64) * 31 + 1021 * (Int32.toInt64 (nI t)))
      rw [ej] at e1
      subst e1
      rw [ncl (by omega)]
      have comp : wp_X5_spreads X (nI t) τ (fun r4 σ3 => (∃ m104, wp_X5_most_L104 (wp_X5_most f) X (nI t) (nI n) (nI j) r4 (fun y8_12 σ13 => (∀ σ14, σ14 = sR σ13 13 j (σ13.1 0 16) → (∀ σ15, σ15 = sJ σ14 11 j X → (∀ σ16, σ16 = sR σ15 12 j (nI t) → (∀ σ17, σ17 = sR σ16 14 j y8_12 → Q y8_12 σ17))))) Q m104 0 0 σ3)) := by
        refine s_X5_spreads hc hR (by omega) ⟨11, ?_⟩
        refine s_X5_most_L104 (d := d) hc hn (by omega) (fun _ => ih f (t + 1) (by omega) (by omega)) hR (fun τ' hM' hF' => ?_) 10 0 τ (by omega) hM (FrM.refl _)
        intro σ14 e14 σ15 e15 σ16 e16 σ17 e17
        rw [← hval]
        rw [← hval] at e17
        subst e14 e15 e16 e17
        refine h _ ⟨hM'.1, fun i hi => ?_⟩ (hF'.trans ⟨rfl, rfl, fun p hp => ?_, fun p hp => ?_⟩)
        · by_cases e : i = j
          · subst e
            refine ⟨⟨q, Nat.le_refl _, ?_⟩, fun _ => ⟨t, by omega, ?_, ?_⟩⟩
            · simp [sR, sJ, upd, hM'.1]
            · simp [sR, sJ, upd]
            · have e4 : n - t = d + 1 := by omega
              simp [sR, sJ, upd, vp_updL, e4]
          · have h1 := hM'.2 i hi
            refine ⟨?_, fun z => ?_⟩
            · obtain ⟨p, p1, p2⟩ := h1.1
              exact ⟨p, p1, by rw [← p2]; simp [sR, sJ, upd, e]⟩
            · have z2 : τ'.2.2.1 13 i = nI q := by rw [← z]; simp [sR, sJ, upd, e]
              obtain ⟨t', q1, q2, q3⟩ := h1.2 z2
              refine ⟨t', q1, ?_, ?_⟩
              · rw [← q2]; simp [sR, sJ, upd, e]
              · simp [sR, sJ, upd, vp_updL, e, q3]
        · have e1 : p ≠ 12 := by omega
          have e2 : p ≠ 13 := by omega
          have e3 : p ≠ 14 := by omega
          simp [sR, sJ, e1, e2, e3]
        · simp [sR, sJ, hp]
      refine ⟨nvi hj (by omega), fun _ => comp, fun k1 => ⟨fun _ => comp, fun k2 => ⟨fun _ => comp, fun k3 => ?_⟩⟩⟩
      rw [hM.1] at k1
      rw [lgc] at k2
      obtain ⟨t', ht', g1, g2⟩ := (hM.2 j hj).2 k1
      rw [g1, neq (by omega) (by omega)] at k3
      subst k3
      rw [g2, k2]
      have e4 : n - t' = d + 1 := by omega
      rw [e4]
      exact h τ hM (FrM.refl _)
    · have h1 := h τ hM (FrM.refl _)
      rw [z, mostF_zero] at h1
      exact h1
