/-! ===== PURE: the judge's room ===== -/
def stN (c : Cf) : Nat → Nat
  | 0 => 0
  | n + 1 => stN c n + c.2.1 n 1 * 4 ^ n
def stv (c : Cf) : Nat := stN c c.1
def RO (c : Cf) (σ : ST) : Prop := σ.1 10 5 = nI (3 * c.1) ∧ (∀ v, v < 64 → bt (σ.2.1 10 6) v = decide (v = stv c)) ∧ ∀ k, k < c.1 → σ.2.2.1 14 k = nI (if c.2.1 k 2 = 1 then c.2.1 k 3 else 0) ∧ σ.2.2.1 15 k = nI (c.2.1 k 1) ∧ ∀ a, a < 3 → ∀ s, s < 4 → σ.2.2.1 11 (4 * (3 * k + a) + s) = nI (sendS c k s a) ∧ σ.2.2.1 12 (4 * (3 * k + a) + s) = nI (hearS c k s a) ∧ σ.2.2.1 13 (4 * (3 * k + a) + s) = nI (answ c k s a)
theorem s_X1_place {k a : Nat} {σ : ST} {Q : Int32 → ST → Prop} (h : Q (nI (4 * (3 * k + a))) σ) : wp_X1_place (nI k) (nI a) σ Q := by
  unfold wp_X1_place
  rw [l4, l3, pk_mul, nI_add, pk_mul]
  exact h
def clB (c : Cf) (k t : Nat) : Bool := decide (c.2.1 k 2 = 1 ∧ (t + 1) % c.2.1 k 3 = 0)
theorem s_X1_isCleaned {c : Cf} {k t : Nat} {σ : ST} {Q : Int32 → ST → Prop} (hc : Ck c) (hR : RO c σ) (hk : k < c.1) (ht : t < 100000) (h : Q (if clB c k t then 1 else 0) σ) : wp_X1_isCleaned (nI k) (nI t) σ Q := by
  have e1 := (hR.2.2 k hk).1
  have b1 := hc.2 k hk
  have b3 := hc.1
  unfold wp_X1_isCleaned
  simp only [ncl (show k < 2147483648 by omega), e1, l1, l0, nI_add]
  unfold clB at h
  by_cases q : c.2.1 k 2 = 1
  · simp only [if_pos q]
    rw [pk_rem (by omega) (by omega) (by omega)]
    have hm : (t + 1) % c.2.1 k 3 < 4 := Nat.lt_of_lt_of_le (Nat.mod_lt _ (by omega)) (by omega)
    simp only [qeq (show (t + 1) % c.2.1 k 3 < 2147483648 by omega) (show 0 < 2147483648 by omega), qeq (show c.2.1 k 3 < 2147483648 by omega) (show 0 < 2147483648 by omega), qle (show c.2.1 k 3 < 2147483648 by omega) (show 0 < 2147483648 by omega)]
    refine ⟨nvi (by omega) (by omega), fun q2 => absurd q2 (by omega), fun _ => ⟨by omega, fun q2 => ?_, fun q2 => ?_⟩⟩
    · rw [if_neg (by simp [q2])] at h; exact h
    · rw [if_pos (by simp [q, q2])] at h; exact h
  · simp only [if_neg q]
    rw [if_neg (by simp [q])] at h
    exact ⟨nvi (by omega) (by omega), fun _ => h, fun q2 => absurd ((nle (by omega) (by omega)).mpr (Nat.le_refl 0)) q2⟩
theorem s_X1_met {c : Cf} {k s a t : Nat} {σ : ST} {Q : Int32 → ST → Prop} (hc : Ck c) (hR : RO c σ) (hk : k < c.1) (hs : s < 4) (ha : a < 4) (ht : t < 100000) (h : Q (nI (clS c k (sendS c k s a) t)) σ) : wp_X1_met (nI k) (nI s) (nI a) (nI t) σ Q := by
  have b3 := hc.1
  unfold wp_X1_met
  refine s_X1_isCleaned hc hR hk ht ?_
  unfold clS at h
  unfold clB
  by_cases q : c.2.1 k 2 = 1 ∧ (t + 1) % c.2.1 k 3 = 0
  · rw [if_pos q] at h
    rw [if_pos (by simpa using q)]
    refine ⟨fun z => absurd z (by decide), fun _ => ⟨nvi (by omega) (by omega), ?_⟩⟩
    rw [ncl (by omega), (hR.2.2 k hk).2.1]
    exact h
  · rw [if_neg q] at h
    rw [if_neg (by simpa using q)]
    simp only [l3, qlt (show a < 2147483648 by omega) (show 3 < 2147483648 by omega)]
    refine ⟨fun _ => ⟨fun q2 => s_X1_place ⟨?_, ?_⟩, fun q2 => ?_⟩, fun z => absurd trivial z⟩
    · rw [nI_add]; exact nvi (by omega) (by omega)
    · rw [nI_add, ncl (by omega), ((hR.2.2 k hk).2.2 a q2 s hs).1]; exact h
    · have e : sendS c k s a = s := if_pos (Or.inl (by omega))
      rw [e] at h; exact h
theorem s_X1_answer {c : Cf} {k s a : Nat} {σ : ST} {Q : Int32 → ST → Prop} (hc : Ck c) (hR : RO c σ) (hk : k < c.1) (hs : s < 4) (ha : a < 4) (h : Q (nI (answ c k s a)) σ) : wp_X1_answer (nI k) (nI s) (nI a) σ Q := by
  have b3 := hc.1
  unfold wp_X1_answer
  simp only [l3, qlt (show a < 2147483648 by omega) (show 3 < 2147483648 by omega)]
  refine ⟨fun q2 => s_X1_place ⟨?_, ?_⟩, fun q2 => ?_⟩
  · rw [nI_add]; exact nvi (by omega) (by omega)
  · rw [nI_add, ncl (by omega), ((hR.2.2 k hk).2.2 a q2 s hs).2.2]; exact h
  · have e : rawA c k s a = 0 := if_pos (by omega)
    have e2 : answ c k s a = 0 := by unfold answ; rw [e]; exact if_neg (by omega)
    rw [e2] at h; exact h
theorem s_X1_left {c : Cf} {k s a : Nat} {σ : ST} {Q : Int32 → ST → Prop} (hc : Ck c) (hR : RO c σ) (hk : k < c.1) (hs : s < 4) (ha : a < 4) (h : Q (nI (hearS c k s a)) σ) : wp_X1_left (nI k) (nI s) (nI a) σ Q := by
  have b3 := hc.1
  unfold wp_X1_left
  simp only [l3, qlt (show a < 2147483648 by omega) (show 3 < 2147483648 by omega)]
  refine ⟨fun q2 => s_X1_place ⟨?_, ?_⟩, fun q2 => ?_⟩
  · rw [nI_add]; exact nvi (by omega) (by omega)
  · rw [nI_add, ncl (by omega), ((hR.2.2 k hk).2.2 a q2 s hs).2.1]; exact h
  · have e : hearS c k s a = s := if_pos (by omega)
    rw [e] at h; exact h
theorem s_X1_period {c : Cf} {k : Nat} {σ : ST} {Q : Int32 → ST → Prop} (hc : Ck c) (hR : RO c σ) (hk : k < c.1) (h : Q (nI (prd c k)) σ) : wp_X1_period (nI k) σ Q := by
  have e1 := (hR.2.2 k hk).1
  have b1 := hc.2 k hk
  have b3 := hc.1
  unfold wp_X1_period
  unfold prd at h
  simp only [ncl (show k < 2147483648 by omega), e1]
  refine ⟨nvi (by omega) (by omega), fun q => ?_, fun q => ?_⟩
  · by_cases q2 : c.2.1 k 2 = 1
    · rw [if_pos q2, l0, nle (by omega) (by omega)] at q; omega
    · rw [if_neg q2] at h; exact h
  · by_cases q2 : c.2.1 k 2 = 1
    · rw [if_pos q2] at h ⊢; exact h
    · rw [if_neg q2] at q; exact absurd (Int32.le_refl _) q
/-- what one act's rows come to -/
def BA (c : Cf) (k a m : Nat) (σ σ' : ST) : Prop := σ'.1 = σ.1 ∧ σ'.2.1 = σ.2.1 ∧ σ'.2.2.2 = σ.2.2.2 ∧ (∀ q, q ≠ 11 → q ≠ 12 → q ≠ 13 → σ'.2.2.1 q = σ.2.2.1 q) ∧ (∀ j, (j < 4 * (3 * k + a) ∨ 4 * (3 * k + a) + m ≤ j) → σ'.2.2.1 11 j = σ.2.2.1 11 j ∧ σ'.2.2.1 12 j = σ.2.2.1 12 j ∧ σ'.2.2.1 13 j = σ.2.2.1 13 j) ∧ ∀ s, s < m → σ'.2.2.1 11 (4 * (3 * k + a) + s) = nI (sendS c k s a) ∧ σ'.2.2.1 12 (4 * (3 * k + a) + s) = nI (hearS c k s a) ∧ σ'.2.2.1 13 (4 * (3 * k + a) + s) = nI (answ c k s a)
theorem BA.step {c : Cf} {k a m : Nat} {σ σ1 : ST} (h : BA c k a m σ σ1) {v1 v2 v3 : Int32} (e1 : v1 = nI (sendS c k m a)) (e2 : v2 = nI (hearS c k m a)) (e3 : v3 = nI (answ c k m a)) : BA c k a (m + 1) σ (sR (sR (sR σ1 11 (4 * (3 * k + a) + m) v1) 12 (4 * (3 * k + a) + m) v2) 13 (4 * (3 * k + a) + m) v3) := by
  obtain ⟨h1, h2, h3, h4, h5, h6⟩ := h
  refine ⟨h1, h2, h3, fun q q1 q2 q3 => ?_, fun j hj => ?_, fun s hs => ?_⟩
  · simp [sR, q1, q2, q3, h4]
  · have hne : ¬ j = 4 * (3 * k + a) + m := by omega
    simp [sR, upd, hne, h5 j (by omega)]
  · by_cases e : s = m
    · subst e
      simp [sR, upd, e1, e2, e3]
    · have hne : ¬ 4 * (3 * k + a) + s = 4 * (3 * k + a) + m := by omega
      simp [sR, upd, e, h6 s (by omega)]
theorem s_X1_buildAct_L3 {c : Cf} {k a : Nat} {σ : ST} {Q : ST → Prop} (hc : Ck c) (hT : RT c σ) (hk : k < c.1) (ha : a < 3) (h : ∀ σ', BA c k a 4 σ σ' → Q σ') :
    ∀ (d m : Nat) (σ1 : ST), m + d = 4 → BA c k a m σ σ1 → wp_X1_buildAct_L3 k (nI (c.2.1 k 2)) (nI k) (nI a) Q (d + 1) (nI m) σ1 := by
  have b3 := hc.1
  have b1 := hc.2 k hk
  intro d
  induction d with
  | zero =>
    intro m σ1 hm hB
    have : m = 4 := by omega
    subst this
    unfold wp_X1_buildAct_L3
    exact ⟨fun _ => h _ hB, fun q => absurd (Int32.le_refl _) q⟩
  | succ d ih =>
    intro m σ1 hm hB
    have hT1 : RT c σ1 := by
      have e1 := hB.1
      have e2 := hB.2.1
      intro j hj
      rw [e1, e2]
      exact hT j hj
    unfold wp_X1_buildAct_L3
    simp only [l4, qle (show 4 < 2147483648 by omega) (show m < 2147483648 by omega)]
    refine ⟨fun q => absurd q (by omega), fun _ => ?_⟩
    have hm4 : m < 4 := by omega
    have epad : ∀ z : ST, z.1 = σ1.1 → z.1 (4 + 2 * k) 5 = nI (c.2.1 k 4) := fun z hz => by rw [hz]; exact (hT1 k hk).2.2.2.1
    have han := ans_lt hc (p := 1) hk (by omega) hm4 ha
    have eraw : rawA c k m a = ans c k 1 m a := if_neg (by omega)
    have ehear : hearS c k m a = nxt c k 1 m a := if_neg (by omega)
    refine s_X2_answer (p := 1) hc hT1 hk (by omega) hm4 ha ?_
    refine s_X1_place ?_
    simp only [l2, l3, qeq (show c.2.1 k 2 < 2147483648 by omega) (show 2 < 2147483648 by omega), qeq (show c.2.1 k 2 < 2147483648 by omega) (show 3 < 2147483648 by omega)]
    refine ⟨fun q2 => ?_, fun q2 => ?_⟩
    · have esend : sendS c k m a = nxt c k 0 m a := if_neg (by omega)
      refine s_X2_next (p := 0) hc hT1 hk (by omega) hm4 ha ⟨by rw [nI_add]; exact nvi (by omega) (by omega), fun σ8 e8 => ?_⟩
      rw [nI_add, ncl (by omega)] at e8
      subst e8
      refine s_X1_place (s_X2_next (p := 1) hc hT1 hk (by omega) hm4 ha ⟨by rw [nI_add]; exact nvi (by omega) (by omega), fun σ9 e9 => ?_⟩)
      rw [nI_add, ncl (by omega)] at e9
      subst e9
      refine s_X1_place ⟨fun q3 => ⟨by rw [nI_add]; exact nvi (by omega) (by omega), fun σ10 e10 => ?_⟩, fun q3 => ⟨by rw [nI_add]; exact nvi (by omega) (by omega), fun σ10 e10 => ?_⟩⟩
      · rw [nI_add, ncl (by omega)] at e10
        subst e10
        rw [nI_1]
        refine ih (m + 1) _ (by omega) (hB.step (by rw [esend]) (by rw [ehear]) ?_)
        have : answ c k m a = ans c k 1 m a := by unfold answ; rw [eraw]; exact if_neg (fun z => q3 z.1)
        rw [this]
      · rw [nI_add, ncl (by omega)] at e10
        subst e10
        rw [nI_1]
        refine ih (m + 1) _ (by omega) (hB.step (by rw [esend]) (by rw [ehear]) ?_)
        show (if σ1.1 (4 + 2 * k) 5 < nI (ans c k 1 m a) then σ1.1 (4 + 2 * k) 5 else nI (ans c k 1 m a)) = _
        rw [epad σ1 rfl]
        simp only [qlt (show c.2.1 k 4 < 2147483648 by omega) (show ans c k 1 m a < 2147483648 by omega)]
        unfold answ
        rw [eraw]
        by_cases z : c.2.1 k 4 < ans c k 1 m a
        · rw [if_pos z, if_pos ⟨q3, z⟩]
        · rw [if_neg z, if_neg (fun y => z y.2)]
    · have esend : sendS c k m a = m := if_pos (Or.inr q2)
      refine ⟨by rw [nI_add]; exact nvi (by omega) (by omega), fun σ8 e8 => ?_⟩
      rw [nI_add, ncl (by omega)] at e8
      subst e8
      refine s_X1_place (s_X2_next (p := 1) hc hT1 hk (by omega) hm4 ha ⟨by rw [nI_add]; exact nvi (by omega) (by omega), fun σ9 e9 => ?_⟩)
      rw [nI_add, ncl (by omega)] at e9
      subst e9
      refine s_X1_place ⟨fun q3 => ⟨by rw [nI_add]; exact nvi (by omega) (by omega), fun σ10 e10 => ?_⟩, fun q3 => ⟨by rw [nI_add]; exact nvi (by omega) (by omega), fun σ10 e10 => ?_⟩⟩
      · rw [nI_add, ncl (by omega)] at e10
        subst e10
        rw [nI_1]
        refine ih (m + 1) _ (by omega) (hB.step (by rw [esend]) (by rw [ehear]) ?_)
        have : answ c k m a = ans c k 1 m a := by unfold answ; rw [eraw]; exact if_neg (fun z => q3 z.1)
        rw [this]
      · exact absurd q3 (by omega)
theorem s_X1_buildAct {c : Cf} {k a : Nat} {σ : ST} {Q : ST → Prop} (hc : Ck c) (hT : RT c σ) (hk : k < c.1) (ha : a < 3) (h : ∀ σ', BA c k a 4 σ σ' → Q σ') : wp_X1_buildAct k (nI (c.2.1 k 2)) (nI k) (nI a) σ Q :=
  ⟨5, s_X1_buildAct_L3 hc hT hk ha h 4 0 σ (by omega) ⟨rfl, rfl, rfl, fun _ _ _ _ => rfl, fun _ _ => ⟨rfl, rfl, rfl⟩, fun s hs => absurd hs (by omega)⟩⟩
