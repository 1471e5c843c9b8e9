/-! ===== PURE: the pair is found ===== -/
abbrev pD (c : Cf) (k : Nat) : Nat := dst (gT c k) (gS c k) (stP c k)
theorem s_X0_write {c : Cf} {k m h e : Nat} {Q dd par ed : Nat → Nat} {σ : ST} {P : ST → Prop} (hc : Ck c) (hk : k < c.1) (hQ : QI k m Q dd par ed σ) (B : BI (gT c k) (gS c k) (gE c k) (stP c k) m Q dd par ed h e) (hm : h < m) (he : e < 64) (hT : gT c k (Q h) e = true)
    (hP : ∀ σ', FrP k σ σ' → σ'.1 (16 + 6 * k) 6 = nI (pD c k) → pD c k ≤ 64 → Rows c k σ' → P σ') : wp_X0_write k (nI k) (nI (Q h)) (nI (gE c k (Q h) e)) σ P := by
  have hS := gS_lt hc hk
  have hs := stP_lt hc hk
  obtain ⟨hL, hd, hgp, hge⟩ := BI_found (gT c k) (gS c k) (gE c k) (stP c k) hS hs B hm (BI_room _ _ _ _ B) he hT
  have hpos := dst_pos (gT c k) (gS c k) (stP c k)
  have hx := B.1.2.2.1 h hm
  unfold wp_X0_write
  rw [ncl (by omega), hQ.2.2.1 (Q h) hx ⟨h, hm, rfl⟩, nI_1, hd]
  refine ⟨nvi hx (by omega), fun σ2 e2 => ?_⟩
  have e3 : σ2.1 (16 + 6 * k) 6 = nI (dst (gT c k) (gS c k) (stP c k)) := by rw [e2]; simp [sI]
  rw [e3, l1, pk_sub hpos, hge, hgp]
  have f2 : FrP k σ σ2 := by rw [e2]; exact FrP.putI (by omega) (by omega)
  have f3 : σ2.2.2.1 = σ.2.2.1 := by rw [e2]; rfl
  have b10 := B.2.2.2.2.2.2 hL
  refine ⟨_, s_X0_write_L26 (σ0 := σ2) hc hk hL (fun t ht => ?_) (fun σ' g1 g2 g3 => hP σ' (f2.tr g1) (by rw [g2]; exact e3) hL g3) (dst (gT c k) (gS c k) (stP c k) - 1) σ2 (by omega) (FrP.rf k σ2) rfl rfl rfl (fun t' h1 h2 => absurd h2 (by omega))⟩
  rw [f3]
  obtain ⟨i, hi, e5⟩ := BI_path (gT c k) (gS c k) (gE c k) (stP c k) hS hs B hL hm (t + 1) ht (by omega)
  obtain ⟨u1, u2⟩ := b10 (t + 1) i ht hi e5
  obtain ⟨u3, u4⟩ := u2 (by omega)
  have hi0 : 1 ≤ i := by
    rcases Nat.eq_zero_or_pos i with z | z
    · exfalso
      rw [z, B.1.2.1] at e5
      have := gp_inj (gT c k) (gS c k) (stP c k) hS hs hL (show 0 < dst (gT c k) (gS c k) (stP c k) by omega) ht e5
      omega
    · exact z
  obtain ⟨v1, v2⟩ := hQ.2.2.2.2.1 i hi0 hi
  rw [e5] at v1 v2 u3 u4
  exact ⟨by rw [v1, u3]; rfl, by rw [v2, u4]; rfl⟩
theorem wdq : ∀ e, e < 64 → nI e &&& 3 = nI (e % 4) := by decide +kernel
set_option maxHeartbeats 4000000 in
theorem s_X0_goOn_L8 {c : Cf} {k h v : Nat} {σ0 : ST} {P : ST → Prop} (hc : Ck c) (hk : k < c.1)
    (hfound : ∀ σ', FrP k σ0 σ' → σ'.1 (16 + 6 * k) 6 = nI (pD c k) → pD c k ≤ 64 → Rows c k σ' → P σ')
    (hgo : ∀ σ' m Q dd par ed, FrP k σ0 σ' → RO c σ' → σ'.1 (16 + 6 * k) 6 = 0 → QI k m Q dd par ed σ' → BI (gT c k) (gS c k) (gE c k) (stP c k) m Q dd par ed h 64 → h < m → P σ') :
    ∀ (d e : Nat) (σ1 : ST) (m : Nat) (Q dd par ed : Nat → Nat), e + d = 64 → FrP k σ0 σ1 → RO c σ1 → σ1.1 (16 + 6 * k) 6 = 0 → QI k m Q dd par ed σ1 → BI (gT c k) (gS c k) (gE c k) (stP c k) m Q dd par ed h e → h < m → Q h = v → wp_X0_goOn_L8 k (nI k) (nI v) (nI (v % 4)) P (d + 2) (nI e) σ1 := by
  have hS := gS_lt hc hk
  have hs := stP_lt hc hk
  have hk3 := hc.1
  intro d
  induction d with
  | zero =>
    intro e σ1 m Q dd par ed hed hF hR h0 hQ B hm hv
    have : e = 64 := by omega
    subst this
    unfold wp_X0_goOn_L8
    exact ⟨fun _ => hgo σ1 m Q dd par ed hF hR h0 hQ B hm, fun q => absurd (Int32.le_refl _) q⟩
  | succ d ih =>
    intro e σ1 m Q dd par ed hed hF hR h0 hQ B hm hv
    have he : e < 64 := by omega
    have hv64 : v < 64 := by rw [← hv]; exact B.1.2.2.1 h hm
    have hpA := pA_lt hc hk hv64 he
    have hpB := pB_lt hc hk hv64 he
    have haA := answ_lt hc hk hpA (show e % 4 < 4 by omega)
    have haB := answ_lt hc hk hpB (show e % 4 < 4 by omega)
    have hhA := hearS_lt hc hk hpA (show e % 4 < 4 by omega)
    have hhB := hearS_lt hc hk hpB (show e % 4 < 4 by omega)
    unfold wp_X0_goOn_L8
    rw [wds v hv64, wds e he, wd2 v (by omega), wd2 e (by omega), wdq e he, l64, nle (by omega) (by omega)]
    refine ⟨fun q => absurd q (by omega), fun _ => ⟨fun q => absurd h0 q, fun _ => ?_⟩⟩
    refine s_X1_met hc hR hk (by omega) (by omega) (by omega) (s_X1_met hc hR hk (by omega) (by omega) (by omega) ?_)
    refine s_X1_answer hc hR hk hpA (by omega) (s_X1_answer hc hR hk hpB (by omega) ?_)
    intro w9 e9
    have e9 : w9 = nI (gE c k v e) := e9.trans (wdE e he _ haA _ haB)
    subst e9
    have haA2 := haA
    have haB2 := haB
    unfold pA at haA2
    unfold pB at haB2
    rw [neq (by omega) (by omega)]
    refine ⟨fun q => ?_, fun q => ?_⟩
    · have hT : gT c k v e = false := by unfold gT; simp only [pA, pB]; exact decide_eq_false (fun z => z q)
      refine s_X1_left hc hR hk hpA (by omega) (s_X1_left hc hR hk hpB (by omega) (s_X1_period hc hR hk ?_))
      have hp := prd_le hc hk
      have hpm : (v % 4 + 1) % prd c k < prd c k := Nat.mod_lt _ (by omega)
      rw [nI_1, pk_rem (by omega) (by omega) (by omega), l0, neq (by omega) (by omega)]
      refine ⟨by omega, s_X0_node hhA hhB (by omega) ?_⟩
      have hy := hS v hv64 e he
      by_cases z : ∃ j, j < m ∧ Q j = gS c k v e
      · have hdd : dd (gS c k v e) < 2147483648 := by
          obtain ⟨j, hj, ej⟩ := z
          have := B.2.1 j hj
          rw [ej] at this
          have := BI_room _ _ _ _ B
          omega
        refine s_X0_reach_old hQ hy z hdd ?_
        rw [nI_1]
        refine ih (e + 1) σ1 m Q dd par ed (by omega) hF hR h0 hQ (BI_old _ _ _ _ hS B (by rw [hv]; exact hT) (by rw [hv]; exact z)) hm hv
      · have hnew : ∀ j, j < m → Q j ≠ gS c k v e := fun j hj ej => z ⟨j, hj, ej⟩
        have hm64 := BI_room1 _ _ _ _ B hy hnew
        have hddv := B.2.1 h hm
        rw [hv] at hddv
        refine s_X0_reach_new hQ B.1.1 hm64 B.1.2.2.1 hy hnew hv64 ⟨h, hm, hv⟩ (by have := gE_lt hc hk hv64 he; omega) (by omega) (fun σ' g1 g2 g3 => ?_)
        rw [nI_1]
        have B' := BI_new (gT c k) (gS c k) (gE c k) (stP c k) hS hs B hm he (by rw [hv]; exact hT) (by rw [hv]; exact hnew)
        rw [hv] at B'
        refine ih (e + 1) σ' (m + 1) _ _ _ _ (by omega) (hF.tr g1) (g1.room hR) (by rw [g2]; exact h0) g3 B' (by omega) ?_
        rw [if_neg (by omega)]
        exact hv
    · have hT : gT c k v e = true := by unfold gT; simp only [pA, pB]; exact decide_eq_true (fun z => q z)
      have hw := s_X0_write (P := fun σ20 => wp_X0_goOn_L8 k (nI k) (nI v) (nI (v % 4)) P (d + 2) (nI e + 1) σ20) hc hk hQ B hm he (by rw [hv]; exact hT) (fun σ' g1 g2 g3 g4 => ?_)
      · rw [hv] at hw; exact hw
      · have hpos : 1 ≤ pD c k := dst_pos (gT c k) (gS c k) (stP c k)
        unfold wp_X0_goOn_L8
        refine ⟨fun _ => hfound σ' (hF.tr g1) g2 g3 g4, fun _ => ⟨fun _ => hfound σ' (hF.tr g1) g2 g3 g4, fun q2 => ?_⟩⟩
        rw [g2, l0, neq (show pD c k < 2147483648 by omega) (by omega)] at q2
        omega
def PO (c : Cf) (k : Nat) (σ : ST) : Prop := σ.1 (16 + 6 * k) 6 = nI (pLen c k) ∧ ∀ t, t < pLen c k → ∀ j, j < 5 → σ.2.2.1 (17 + 6 * k) (5 * t + j) = nI (pRow c k t j)
theorem PO.found {c : Cf} {k : Nat} {σ : ST} (h1 : σ.1 (16 + 6 * k) 6 = nI (pD c k)) (h2 : pD c k ≤ 64) (h3 : Rows c k σ) : PO c k σ := by
  have e : pLen c k = pD c k := if_pos h2
  exact ⟨by rw [e]; exact h1, by rw [e]; exact h3⟩
theorem s_X0_find_L42 {c : Cf} {k : Nat} {σ0 : ST} {P : ST → Prop} (hc : Ck c) (hk : k < c.1) (hP : ∀ σ', FrP k σ0 σ' → PO c k σ' → P σ') :
    ∀ (d h : Nat) (σ1 : ST) (m : Nat) (Q dd par ed : Nat → Nat), h + d = 64 → FrP k σ0 σ1 → RO c σ1 → σ1.1 (16 + 6 * k) 6 = 0 → QI k m Q dd par ed σ1 → BI (gT c k) (gS c k) (gE c k) (stP c k) m Q dd par ed h 0 → h ≤ m → wp_X0_find_L42 k (nI k) P (d + 2) (nI h) σ1 := by
  have hS := gS_lt hc hk
  have hs := stP_lt hc hk
  intro d
  induction d with
  | zero =>
    intro h σ1 m Q dd par ed hd hF hR h0 hQ B hm
    have hroom := BI_room _ _ _ _ B
    have : m = h := by omega
    subst this
    have hend := BI_end _ _ _ _ hS hs B
    have e : pLen c k = 0 := if_neg (by omega)
    unfold wp_X0_find_L42
    rw [hQ.1]
    exact ⟨fun _ => hP σ1 hF ⟨by rw [e]; exact h0, fun t ht => absurd ht (by omega)⟩, fun q => absurd (Int32.le_refl _) q⟩
  | succ d ih =>
    intro h σ1 m Q dd par ed hd hF hR h0 hQ B hm
    have hroom := BI_room _ _ _ _ B
    unfold wp_X0_find_L42
    rw [hQ.1, nle (by omega) (by omega)]
    refine ⟨fun q => ?_, fun q => ⟨fun q => absurd h0 q, fun _ => ⟨nvi (by omega) (by omega), ?_⟩⟩⟩
    · have : m = h := by omega
      subst this
      have hend := BI_end _ _ _ _ hS hs B
      have e : pLen c k = 0 := if_neg (by omega)
      exact hP σ1 hF ⟨by rw [e]; exact h0, fun t ht => absurd ht (by omega)⟩
    · rw [ncl (by omega), hQ.2.1 h (by omega)]
      have hv64 := B.1.2.2.1 h (by omega)
      unfold wp_X0_goOn
      rw [wdq _ hv64]
      refine ⟨66, s_X0_goOn_L8 (σ0 := σ1) (h := h) hc hk (fun σ' g1 g2 g3 g4 => ?_) (fun σ' m' Q' dd' par' ed' g1 g2 g3 g4 g5 g6 => ?_) 64 0 σ1 m Q dd par ed (by omega) (FrP.rf k σ1) hR h0 hQ B (by omega) rfl⟩
      · have hpo := hP σ' (hF.tr g1) (PO.found g2 g3 g4)
        have hpos : 1 ≤ pD c k := dst_pos (gT c k) (gS c k) (stP c k)
        unfold wp_X0_find_L42
        refine ⟨fun _ => hpo, fun _ => ⟨fun _ => hpo, fun q2 => ?_⟩⟩
        rw [g2, l0, neq (show pD c k < 2147483648 by omega) (by omega)] at q2
        omega
      · rw [nI_1]
        exact ih (h + 1) σ' m' Q' dd' par' ed' (by omega) (hF.tr g1) g2 g3 g4 (BI_head _ _ _ _ g5 g6) (by omega)
