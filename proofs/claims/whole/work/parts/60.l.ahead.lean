/-! ===== PURE: the reference looks ahead ===== -/
def mv (v : Nat) : Nat := 16 * (v % 4) + 4 * (v / 16) + v / 4 % 4
def cv (i : Nat) : Nat := 16 * (i / 4 % 4) + 4 * (i % 4) + i / 16
theorem mvcv : ∀ v, v < 64 → cv (mv v) = v ∧ mv (cv v) = v ∧ mv v < 64 ∧ cv v < 64 ∧ cv v / 16 = v / 4 % 4 ∧ cv v / 4 % 4 = v % 4 ∧ cv v % 4 = v / 16 := by decide +kernel
theorem s_X5_after {c : Cf} {k v e : Nat} {τ : ST} {Q : Int32 → ST → Prop} (hc : Ck c) (hR : RM c τ) (hk : k < c.1) (hv : v < 64) (he : e < 64) (h : Q (if gT c k v e then 1 else 1 + τ.2.2.1 10 (mv (gS c k v e))) τ) : wp_X5_after (nI k) (nI (v / 16)) (nI (v / 4 % 4)) (nI (v % 4)) (nI (e / 16)) (nI (e / 4 % 4)) (nI (e % 4)) τ Q := by
  have hk3 := hc.1
  have hpA := pA_lt hc hk hv he
  have hpB := pB_lt hc hk hv he
  have haA := answ_lt hc hk hpA (show e % 4 < 4 by omega)
  have haB := answ_lt hc hk hpB (show e % 4 < 4 by omega)
  have hhA := hearS_lt hc hk hpA (show e % 4 < 4 by omega)
  have hhB := hearS_lt hc hk hpB (show e % 4 < 4 by omega)
  have hp := prd_le hc hk
  have hpm : (v % 4 + 1) % prd c k < prd c k := Nat.mod_lt _ (by omega)
  unfold wp_X5_after
  refine s_X5_sends hc hR hk (by omega) (by omega) (s_X5_cleans hc hR hk (by omega) (s_X5_sends hc hR hk (by omega) (by omega) (s_X5_cleans hc hR hk (by omega) ?_)))
  show wp_X5_answers (nI k) (nI (pA c k v e)) (nI (e % 4)) τ _
  refine s_X5_answers hc hR hk hpA (by omega) ?_
  show wp_X5_answers (nI k) (nI (pB c k v e)) (nI (e % 4)) τ _
  refine s_X5_answers hc hR hk hpB (by omega) ?_
  rw [neq (by omega) (by omega)]
  refine ⟨fun q => ?_, fun q => ?_⟩
  · have hT : gT c k v e = false := by unfold gT; exact decide_eq_false (fun z => z q)
    rw [hT] at h
    refine s_X5_hears hc hR hk hpA (by omega) (s_X5_hears hc hR hk hpB (by omega) (s_X5_phases hc hR hk ?_))
    rw [nI_1, pk_rem (by omega) (by omega) (by omega), l0, neq (by omega) (by omega)]
    refine ⟨by omega, s_X5_at ?_⟩
    have ei : 16 * ((v % 4 + 1) % prd c k) + 4 * hearS c k (pA c k v e) (e % 4) + hearS c k (pB c k v e) (e % 4) = mv (gS c k v e) := by
      unfold mv gS
      omega
    have hlt := (mvcv _ (gS_lt hc hk v hv e he)).2.2.1
    rw [show 16 * ((v % 4 + 1) % prd c k) + 4 * hearS c k (clS c k (sendS c k (v / 16) (e / 16)) (v % 4)) (e % 4) + hearS c k (clS c k (sendS c k (v / 4 % 4) (e / 4 % 4)) (v % 4)) (e % 4) = mv (gS c k v e) from ei, ncl (by omega)]
    exact ⟨nvi hlt (by omega), h⟩
  · have hT : gT c k v e = true := by unfold gT; exact decide_eq_true (fun z => q z)
    rw [hT] at h
    exact h
def Fr10 (τ τ' : ST) : Prop := τ'.1 = τ.1 ∧ τ'.2.1 = τ.2.1 ∧ τ'.2.2.2 = τ.2.2.2 ∧ ∀ q, q ≠ 10 → τ'.2.2.1 q = τ.2.2.1 q
theorem Fr10.rf (τ : ST) : Fr10 τ τ := ⟨rfl, rfl, rfl, fun _ _ => rfl⟩
theorem Fr10.tr {τ τ1 τ2 : ST} (h : Fr10 τ τ1) (g : Fr10 τ1 τ2) : Fr10 τ τ2 := ⟨g.1.trans h.1, g.2.1.trans h.2.1, g.2.2.1.trans h.2.2.1, fun q hq => (g.2.2.2 q hq).trans (h.2.2.2 q hq)⟩
theorem Fr10.put (τ : ST) (i : Nat) (v : Int32) : Fr10 τ (sR τ 10 i v) := ⟨rfl, rfl, rfl, fun q hq => by simp [sR, hq]⟩
theorem Fr10.RM {c : Cf} {τ τ' : ST} (h : Fr10 τ τ') (hR : RM c τ) : RM c τ' := by
  obtain ⟨h1, h2⟩ := hR
  refine ⟨by rw [h.1]; exact h1, ?_⟩
  rw [h.2.2.2 1 (by decide), h.2.2.2 2 (by decide), h.2.2.2 3 (by decide), h.2.2.2 4 (by decide), h.2.2.2 5 (by decide), h.2.2.1]
  exact h2
abbrev cTel (c : Cf) (k : Nat) := Tel (gT c k) (gS c k)
/-- the array, and what is right of it *) -/
def AH (g : Nat → Nat) (τ : ST) : Prop := ∀ j, j < 64 → τ.2.2.1 10 j = nI (g j)
def GU (c : Cf) (k : Nat) (g : Nat → Nat) : Prop := ∀ v, v < 64 → g (mv v) ≤ 1000 ∧ (g (mv v) < 1000 → cTel c k (g (mv v)) v = true)
def GL (c : Cf) (k R : Nat) (g : Nat → Nat) : Prop := ∀ v, v < 64 → v % 4 < prd c k → ∀ j, j ≤ R → cTel c k j v = true → g (mv v) ≤ j
/-- within round R, at place i, edges below w done -/
def GW (c : Cf) (k R i w : Nat) (g : Nat → Nat) : Prop := GU c k g ∧ GL c k R g ∧ (∀ v, v < 64 → v % 4 < prd c k → mv v < i → ∀ j, j ≤ R + 1 → cTel c k j v = true → g (mv v) ≤ j) ∧ ∀ e, e < w → (gT c k (cv i) e = true → g i ≤ 1) ∧ ∀ j, j ≤ R → cTel c k j (gS c k (cv i) e) = true → g i ≤ j + 1
theorem gS_valid {c : Cf} (hc : Ck c) {k v e : Nat} (hk : k < c.1) : gS c k v e % 4 < prd c k := by
  have hp := prd_le hc hk
  have hpm : (v % 4 + 1) % prd c k < prd c k := Nat.mod_lt _ (by omega)
  unfold gS
  omega
theorem GW.step {c : Cf} {k R i w : Nat} {g : Nat → Nat} (hc : Ck c) (hk : k < c.1) (hi : i < 64) (hw : w < 64) (h : GW c k R i w g) {x : Nat} (hx : x = if gT c k (cv i) w then 1 else 1 + g (mv (gS c k (cv i) w))) : GW c k R i (w + 1) (fun j => if j = i then (if g i ≤ x then g i else x) else g j) := by
  obtain ⟨h1, h2, h3, h4⟩ := h
  obtain ⟨-, m2, -, m4, -⟩ := mvcv i hi
  have hS := gS_lt hc hk
  have hSl := hS _ m4 w hw
  have hle : ∀ j, (if j = i then (if g i ≤ x then g i else x) else g j) ≤ g j := by
    intro j
    split
    · rename_i e; subst e; split <;> omega
    · exact Nat.le_refl _
  refine ⟨fun v hv => ?_, fun v hv hvp j hj ht => Nat.le_trans (hle _) (h2 v hv hvp j hj ht), fun v hv hvp hvi j hj ht => Nat.le_trans (hle _) (h3 v hv hvp hvi j hj ht), fun e he => ?_⟩
  · obtain ⟨u1, u2⟩ := h1 v hv
    refine ⟨Nat.le_trans (hle _) u1, ?_⟩
    dsimp only
    split
    · rename_i ev
      have hvc : v = cv i := by rw [← ev]; exact (mvcv v hv).1.symm
      split
      · intro q; rw [ev] at u2; exact u2 q
      · intro q
        rw [hvc]
        cases ht : gT c k (cv i) w with
        | true =>
          rw [ht, if_pos rfl] at hx
          rw [hx]
          exact (Tel_succ _ _ (r := 0)).mpr ⟨w, hw, Or.inl ht⟩
        | false =>
          rw [ht, if_neg (by decide)] at hx
          rw [hx, Nat.add_comm]
          exact (Tel_succ _ _).mpr ⟨w, hw, Or.inr ((h1 _ hSl).2 (by omega))⟩
    · exact u2
  · dsimp only
    rw [if_pos rfl]
    by_cases ee : e = w
    · subst ee
      refine ⟨fun ht => ?_, fun j hj ht => ?_⟩
      · rw [ht, if_pos rfl] at hx
        split <;> omega
      · have hg := h2 _ hSl (gS_valid hc hk) j hj ht
        cases hT : gT c k (cv i) e with
        | true => rw [hT, if_pos rfl] at hx; split <;> omega
        | false => rw [hT, if_neg (by decide)] at hx; split <;> omega
    · obtain ⟨u1, u2⟩ := h4 e (by omega)
      refine ⟨fun ht => ?_, fun j hj ht => ?_⟩
      · have := u1 ht; split <;> omega
      · have := u2 j hj ht; split <;> omega
theorem GW.place {c : Cf} {k R i : Nat} {g : Nat → Nat} (hi : i < 64) (h : GW c k R i 64 g) : GW c k R (i + 1) 0 g := by
  obtain ⟨h1, h2, h3, h4⟩ := h
  refine ⟨h1, h2, fun v hv hvp hvi j hj ht => ?_, fun e he => absurd he (by omega)⟩
  by_cases ev : mv v = i
  · have hvc : cv i = v := by rw [← ev]; exact (mvcv v hv).1
    rw [hvc] at h4
    rw [ev]
    cases j with
    | zero => simp [cTel, Tel] at ht
    | succ j =>
      obtain ⟨e, he, h5⟩ := (Tel_succ _ _).mp ht
      rcases h5 with h5 | h5
      · have := (h4 e he).1 h5; omega
      · exact (h4 e he).2 j (by omega) h5
  · exact h3 v hv hvp (by omega) j hj ht
theorem GW.round {c : Cf} {k R N : Nat} {g : Nat → Nat} (hN : 16 * prd c k ≤ N) (h : GW c k R N 0 g) : GW c k (R + 1) 0 0 g := by
  obtain ⟨h1, h2, h3, h4⟩ := h
  refine ⟨h1, fun v hv hvp j hj ht => h3 v hv hvp ?_ j hj ht, fun v hv hvp hvi => absurd hvi (by omega), fun e he => absurd he (by omega)⟩
  unfold mv
  omega
theorem GW.done {c : Cf} {k : Nat} {g : Nat → Nat} (hc : Ck c) (hk : k < c.1) (h : GW c k 70 0 0 g) : ∀ v, v < 64 → v % 4 < prd c k → g (mv v) = dst (gT c k) (gS c k) v := by
  obtain ⟨h1, h2, -, -⟩ := h
  have hS := gS_lt hc hk
  intro v hv hvp
  obtain ⟨u1, u2⟩ := h1 v hv
  rcases dst_cases (gT c k) (gS c k) v with ⟨q1, q2⟩ | ⟨q1, q2⟩
  · have := h2 v hv hvp _ (by omega) q2.1
    have h5 := (dst_of (gT c k) (gS c k) hS hv (u2 (by omega))).1
    omega
  · rcases Nat.lt_or_ge (g (mv v)) 1000 with z | z
    · have h5 := (dst_of (gT c k) (gS c k) hS hv (u2 z)).2.1
      omega
    · omega
theorem idx1 : ∀ i, i < 64 → (nI i / 4) - (nI i / 4) / 4 * 4 = nI (i / 4 % 4) ∧ nI i - nI i / 4 * 4 = nI (i % 4) ∧ nI i / 16 = nI (i / 16) := by decide +kernel
theorem s_X5_looksAhead_L48 {c : Cf} {k i R : Nat} {τ0 : ST} {x2 : Int32} {K Q : ST → Prop} (hc : Ck c) (hk : k < c.1) (hi : i < 64) (hK : ∀ τ' g, Fr10 τ0 τ' → RM c τ' → AH g τ' → GW c k R i 64 g → K τ') :
    ∀ (d w : Nat) (τ1 : ST) (g : Nat → Nat), w + d = 64 → Fr10 τ0 τ1 → RM c τ1 → AH g τ1 → GW c k R i w g → wp_X5_looksAhead_L48 (nI k) x2 (nI i) K Q (d + 1) (nI w) τ1 := by
  obtain ⟨-, m2, -, m4, m5, m6, m7⟩ := mvcv i hi
  have hk3 := hc.1
  intro d
  induction d with
  | zero =>
    intro w τ1 g hw hF hR hA hG
    have : w = 64 := by omega
    subst this
    unfold wp_X5_looksAhead_L48
    exact ⟨fun _ => hK τ1 g hF hR hA hG, fun q => absurd (Int32.le_refl _) q⟩
  | succ d ih =>
    intro w τ1 g hw hF hR hA hG
    have hw64 : w < 64 := by omega
    unfold wp_X5_looksAhead_L48
    obtain ⟨a1, a2, a3⟩ := idx1 i hi
    obtain ⟨b1, b2, b3⟩ := idx1 w hw64
    rw [a1, a2, a3, b1, b2, b3, l64, nle (by omega) (by omega), ← m5, ← m6, ← m7]
    refine ⟨fun q => absurd q (by omega), fun _ => ?_⟩
    refine s_X5_after hc hR hk m4 hw64 ?_
    obtain ⟨x, ex⟩ : ∃ x, x = if gT c k (cv i) w then 1 else 1 + g (mv (gS c k (cv i) w)) := ⟨_, rfl⟩
    have hSl := gS_lt hc hk _ m4 w hw64
    have hgS := (hG.1 _ hSl).1
    have hgi := (hG.1 _ m4).1
    rw [m2] at hgi
    have er : (if gT c k (cv i) w then (1 : Int32) else 1 + τ1.2.2.1 10 (mv (gS c k (cv i) w))) = nI x := by
      rw [hA _ (mvcv _ hSl).2.2.1, ex]
      cases gT c k (cv i) w with
      | true => rfl
      | false => rw [if_neg (by decide), if_neg (by decide), l1, nI_add]
    have hx : x ≤ 1001 := by rw [ex]; split <;> omega
    rw [er, ncl (by omega), hA i hi, nle (by omega) (by omega), nI_1]
    have hstep := hG.step hc hk hi hw64 ex
    refine ⟨nvi hi (by omega), fun q => fun σ10 e10 => ?_, fun q => fun σ11 e11 => ?_⟩
    · refine ih (w + 1) σ10 _ (by omega) (by rw [e10]; exact hF.tr (Fr10.put _ _ _)) (by rw [e10]; exact (Fr10.put _ _ _).RM hR) (fun j hj => ?_) hstep
      rw [e10]
      by_cases ej : j = i
      · subst ej; rw [if_pos rfl, if_pos q]; simp [sR, upd]
      · rw [if_neg ej, ← hA j hj]; simp [sR, upd, ej]
    · refine ih (w + 1) σ11 _ (by omega) (by rw [e11]; exact hF.tr (Fr10.put _ _ _)) (by rw [e11]; exact (Fr10.put _ _ _).RM hR) (fun j hj => ?_) hstep
      rw [e11]
      by_cases ej : j = i
      · subst ej; rw [if_pos rfl, if_neg q]; simp [sR, upd]
      · rw [if_neg ej, ← hA j hj]; simp [sR, upd, ej]
theorem s_X5_looksAhead_L33 {c : Cf} {k R : Nat} {τ0 : ST} {x2 : Int32} {K Q : ST → Prop} (hc : Ck c) (hk : k < c.1) (hK : ∀ τ' g, Fr10 τ0 τ' → RM c τ' → AH g τ' → GW c k (R + 1) 0 0 g → K τ') :
    ∀ (d i : Nat) (τ1 : ST) (g : Nat → Nat), i + d = 16 * prd c k → Fr10 τ0 τ1 → RM c τ1 → AH g τ1 → GW c k R i 0 g → wp_X5_looksAhead_L33 (nI k) x2 K Q (d + 1) (nI i) τ1 := by
  have hp := prd_le hc hk
  intro d
  induction d with
  | zero =>
    intro i τ1 g hi hF hR hA hG
    unfold wp_X5_looksAhead_L33
    refine s_X5_phases hc hR hk ?_
    rw [l16, pk_mul, nle (by omega) (by omega)]
    exact ⟨fun _ => hK τ1 g hF hR hA (hG.round (by omega)), fun q => absurd (by omega) q⟩
  | succ d ih =>
    intro i τ1 g hi hF hR hA hG
    unfold wp_X5_looksAhead_L33
    refine s_X5_phases hc hR hk ?_
    rw [l16, pk_mul, nle (by omega) (by omega)]
    refine ⟨fun q => absurd q (by omega), fun _ => ⟨65, s_X5_looksAhead_L48 (τ0 := τ1) hc hk (by omega) (fun τ' g' g1 g2 g3 g4 => ?_) 64 0 τ1 g (by omega) (Fr10.rf _) hR hA hG⟩⟩
    rw [nI_1]
    exact ih (i + 1) τ' g' (by omega) (hF.tr g1) g2 g3 (g4.place (by omega))
theorem s_X5_looksAhead_L25 {c : Cf} {k : Nat} {τ0 : ST} {Q : ST → Prop} (hc : Ck c) (hk : k < c.1) (hK : ∀ τ' g, Fr10 τ0 τ' → RM c τ' → AH g τ' → GW c k 70 0 0 g → Q τ') :
    ∀ (d R : Nat) (τ1 : ST) (g : Nat → Nat), R + d = 70 → Fr10 τ0 τ1 → RM c τ1 → AH g τ1 → GW c k R 0 0 g → wp_X5_looksAhead_L25 (nI k) Q (d + 1) (nI R) τ1 := by
  intro d
  induction d with
  | zero =>
    intro R τ1 g hi hF hR hA hG
    have : R = 70 := by omega
    subst this
    unfold wp_X5_looksAhead_L25
    exact ⟨fun _ => hK τ1 g hF hR hA hG, fun q => absurd (Int32.le_refl _) q⟩
  | succ d ih =>
    intro R τ1 g hi hF hR hA hG
    unfold wp_X5_looksAhead_L25
    rw [l70, nle (by omega) (by omega)]
    refine ⟨fun q => absurd q (by omega), fun _ => ⟨16 * prd c k + 1, s_X5_looksAhead_L33 (τ0 := τ1) hc hk (fun τ' g' g1 g2 g3 g4 => ?_) (16 * prd c k) 0 τ1 g (by omega) (Fr10.rf _) hR hA hG⟩⟩
    rw [nI_1]
    exact ih (R + 1) τ' g' (by omega) (hF.tr g1) g2 g3 g4
theorem s_X5_looksAhead_L2 {k : Nat} {τ0 : ST} {K Q : ST → Prop} (hK : ∀ τ', Fr10 τ0 τ' → AH (fun _ => 1000) τ' → K τ') :
    ∀ (d m : Nat) (τ1 : ST), m + d = 64 → Fr10 τ0 τ1 → (∀ j, j < m → τ1.2.2.1 10 j = nI 1000) → wp_X5_looksAhead_L2 (nI k) K Q (d + 1) (nI m) τ1 := by
  intro d
  induction d with
  | zero =>
    intro m τ1 hm hF hA
    have : m = 64 := by omega
    subst this
    unfold wp_X5_looksAhead_L2
    exact ⟨fun _ => hK τ1 hF hA, fun q => absurd (Int32.le_refl _) q⟩
  | succ d ih =>
    intro m τ1 hm hF hA
    unfold wp_X5_looksAhead_L2
    rw [l64, nle (by omega) (by omega), ncl (by omega), nI_1]
    refine ⟨fun q => absurd q (by omega), fun _ => ⟨nvi (by omega) (by omega), fun σ2 e2 => ih (m + 1) σ2 (by omega) (by rw [e2]; exact hF.tr (Fr10.put _ _ _)) (fun j hj => ?_)⟩⟩
    rw [e2]
    by_cases ej : j = m
    · subst ej; simp [sR, upd]; rfl
    · have := hA j (by omega)
      simp [sR, upd, ej, this]
theorem s_X5_looksAhead {c : Cf} {k : Nat} {τ : ST} {Q : ST → Prop} (hc : Ck c) (hR : RM c τ) (hk : k < c.1) (h : ∀ τ', Fr10 τ τ' → (∀ v, v < 64 → v % 4 < prd c k → τ'.2.2.1 10 (mv v) = nI (dst (gT c k) (gS c k) v)) → Q τ') : wp_X5_looksAhead (nI k) τ Q := by
  unfold wp_X5_looksAhead
  refine ⟨65, s_X5_looksAhead_L2 (τ0 := τ) (fun τ1 g1 g2 => ⟨71, ?_⟩) 64 0 τ (by omega) (Fr10.rf _) (fun j hj => absurd hj (by omega))⟩
  refine s_X5_looksAhead_L25 (τ0 := τ) hc hk (fun τ' g a1 a2 a3 a4 => h τ' a1 (fun v hv hvp => ?_)) 70 0 τ1 (fun _ => 1000) (by omega) g1 (g1.RM hR) g2 ⟨fun v hv => ⟨Nat.le_refl _, fun q => absurd q (Nat.lt_irrefl 1000)⟩, fun v hv hvp j hj ht => ?_, fun v hv hvp q => absurd q (by omega), fun e he => absurd he (by omega)⟩
  · rw [a3 _ (mvcv v hv).2.2.1, a4.done hc hk v hv hvp]
  · have : j = 0 := by omega
    subst this
    simp [cTel, Tel] at ht
theorem s_X5_shortest {c : Cf} {k : Nat} {τ : ST} {Q : Int32 → ST → Prop} (hc : Ck c) (hR : RM c τ) (hk : k < c.1) (h : ∀ τ', Fr10 τ τ' → (∀ v, v < 64 → v % 4 < prd c k → τ'.2.2.1 10 (mv v) = nI (dst (gT c k) (gS c k) v)) → Q (if pLen c k = 0 then -1 else nI (pLen c k)) τ') : wp_X5_shortest (nI k) τ Q := by
  have hk3 := hc.1
  have hf := (hc.2 k hk).2.1
  have hp := prd_le hc hk
  unfold wp_X5_shortest
  refine s_X5_looksAhead hc hR hk (fun τ' g1 g2 => ⟨nvi (by omega) (by omega), ?_⟩)
  have hR' := g1.RM hR
  rw [ncl (by omega), (hR'.2 k hk).2.1]
  refine s_X5_at (t := 0) ?_
  have hs := stP_lt hc hk
  have ei : 16 * 0 + 4 * c.2.1 k 1 + c.2.1 k 1 = mv (stP c k) := by unfold mv stP; omega
  have h3 := h τ' g1 g2
  have g3 := g2 (stP c k) hs (by unfold stP; omega)
  rw [ei, ncl (by have := (mvcv _ hs).2.2.1; omega), g3, l1000]
  have hpos := dst_pos (gT c k) (gS c k) (stP c k)
  refine ⟨nvi (mvcv _ hs).2.2.1 (by omega), ?_⟩
  rcases dst_cases (gT c k) (gS c k) (stP c k) with ⟨q1, q2⟩ | ⟨q1, q2⟩
  · have e : pLen c k = dst (gT c k) (gS c k) (stP c k) := if_pos q1
    rw [e, if_neg (by omega)] at h3
    rw [nle (by omega) (by omega)]
    exact ⟨fun q => absurd q (by omega), fun _ => h3⟩
  · have e : pLen c k = 0 := if_neg (by omega)
    rw [e, if_pos rfl] at h3
    rw [q1]
    exact ⟨fun _ => h3, fun q => absurd (Int32.le_refl _) q⟩
