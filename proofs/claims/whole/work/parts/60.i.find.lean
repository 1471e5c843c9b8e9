/-! ===== PURE: writing, going on, finding ===== -/
theorem s_X0_number {k a : Nat} {σ : ST} {Q : Int32 → ST → Prop} (hk : k < 3) (ha : a < 4) (h : Q (nI (nmd k a)) σ) : wp_X0_number (nI k) (nI a) σ Q := by
  unfold wp_X0_number
  unfold nmd at h
  rw [l3, l9, pk_mul, nI_add, nle (by omega) (by omega)]
  refine ⟨fun q => by rw [if_pos (by omega)] at h; exact h, fun q => by rw [if_neg (by omega)] at h; exact h⟩
theorem wd4 : ∀ W, W < 1024 → (nI W >>> ((4 : Int32) &&& 31)) &&& 3 = nI (W / 16 % 4) := by decide +kernel
theorem wd2 : ∀ W, W < 1024 → (nI W >>> ((2 : Int32) &&& 31)) &&& 3 = nI (W / 4 % 4) := by decide +kernel
theorem wd0 : ∀ W, W < 1024 → nI W &&& 3 = nI (W % 4) := by decide +kernel
theorem wd6 : ∀ W, W < 1024 → (nI W >>> ((6 : Int32) &&& 31)) &&& 3 = nI (W / 64 % 4) := by decide +kernel
theorem wd8 : ∀ W, W < 1024 → (nI W >>> ((8 : Int32) &&& 31)) &&& 3 = nI (W / 256 % 4) := by decide +kernel
theorem wds : ∀ W, W < 64 → (nI W >>> ((4 : Int32) &&& 31)) = nI (W / 16) := by decide +kernel
theorem wdE : ∀ e, e < 64 → ∀ a, a < 4 → ∀ b, b < 4 → ((nI e ||| (nI a <<< ((6 : Int32) &&& 31))) ||| (nI b <<< ((8 : Int32) &&& 31))) = nI (e + 64 * a + 256 * b) := by decide +kernel
def RowsFrom (c : Cf) (k t : Nat) (σ : ST) : Prop := ∀ t', t < t' → t' < dst (gT c k) (gS c k) (stP c k) → ∀ j, j < 5 → σ.2.2.1 (17 + 6 * k) (5 * t' + j) = nI (pRow c k t' j)
def Rows (c : Cf) (k : Nat) (σ : ST) : Prop := ∀ t', t' < dst (gT c k) (gS c k) (stP c k) → ∀ j, j < 5 → σ.2.2.1 (17 + 6 * k) (5 * t' + j) = nI (pRow c k t' j)
theorem n5 {t : Nat} : (5 : Int32) * nI t = nI (5 * t) := by rw [l5, pk_mul]
def pVal (c : Cf) (k v e j : Nat) : Nat := if j = 0 then nmd k (e / 16) else if j = 1 then nmd k (e / 4 % 4) else if j = 2 then nmd k (e % 4) else if j = 3 then answ c k (pA c k v e) (e % 4) else answ c k (pB c k v e) (e % 4)
set_option maxHeartbeats 4000000 in
theorem s_write_row {c : Cf} {k v e t n : Nat} {σ1 : ST} {P : ST → Prop} (hc : Ck c) (hk : k < c.1) (hv : v < 64) (he : e < 64) (ht : t < 64)
    (h : ∀ σ', FrP k σ1 σ' → σ'.1 = σ1.1 → σ'.2.2.1 (19 + 6 * k) = σ1.2.2.1 (19 + 6 * k) → σ'.2.2.1 (20 + 6 * k) = σ1.2.2.1 (20 + 6 * k) → (∀ j, j < 5 → σ'.2.2.1 (17 + 6 * k) (5 * t + j) = nI (pVal c k v e j)) → (∀ i, (i < 5 * t ∨ 5 * t + 5 ≤ i) → σ'.2.2.1 (17 + 6 * k) i = σ1.2.2.1 (17 + 6 * k) i) → wp_X0_write_L26 k (nI k) P n (σ1.2.2.1 (19 + 6 * k) v) (σ1.2.2.1 (20 + 6 * k) v) (nI t + (-1)) σ') :
    wp_X0_write_L26 k (nI k) P (n + 1) (nI v) (nI (gE c k v e)) (nI t) σ1 := by
  have hk3 : k < 3 := by have := hc.1; omega
  have hW := gE_lt hc hk hv he
  have hA := answ_lt hc hk (pA_lt hc hk hv he) (show e % 4 < 4 by omega)
  have hB := answ_lt hc hk (pB_lt hc hk hv he) (show e % 4 < 4 by omega)
  have w1 : gE c k v e / 16 % 4 = e / 16 := by unfold gE; omega
  have w2 : gE c k v e / 4 % 4 = e / 4 % 4 := by unfold gE; omega
  have w3 : gE c k v e % 4 = e % 4 := by unfold gE; omega
  have w4 : gE c k v e / 64 % 4 = answ c k (pA c k v e) (e % 4) := by unfold gE; omega
  have w5 : gE c k v e / 256 % 4 = answ c k (pB c k v e) (e % 4) := by unfold gE; omega
  unfold wp_X0_write_L26
  rw [wd4 _ hW, wd2 _ hW, wd0 _ hW, wd6 _ hW, wd8 _ hW, n5, w1, w2, w3, w4, w5]
  refine ⟨fun q => absurd q (nI_pos (by omega)), fun _ => ⟨fun q => absurd q (nm1' (by omega)), fun _ => ?_⟩⟩
  refine s_X0_number hk3 (by omega) ⟨nvi (by omega) (by omega), fun σ6 e6 => ?_⟩
  refine s_X0_number hk3 (by omega) ?_
  rw [nI_1]
  refine ⟨nvi (by omega) (by omega), fun σ10 e10 => s_X0_number hk3 (by omega) ?_⟩
  rw [l2, l3, l4, nI_add, nI_add, nI_add]
  refine ⟨nvi (by omega) (by omega), fun σ14 e14 => ⟨nvi (by omega) (by omega), fun σ16 e16 => ⟨nvi (by omega) (by omega), fun σ18 e18 => ⟨nvi (by omega) (by omega), fun w20 e21 w21 e22 => ?_⟩⟩⟩⟩
  rw [ncl (by omega)] at e6 e10 e14 e16 e18
  rw [ncl (by omega)] at e21 e22
  have n1 : ¬ (19 + 6 * k = 17 + 6 * k) := by omega
  have n2 : ¬ (20 + 6 * k = 17 + 6 * k) := by omega
  have f19 : σ18.2.2.1 (19 + 6 * k) = σ1.2.2.1 (19 + 6 * k) := by rw [e18, e16, e14, e10, e6]; simp [sR, n1]
  have f20 : σ18.2.2.1 (20 + 6 * k) = σ1.2.2.1 (20 + 6 * k) := by rw [e18, e16, e14, e10, e6]; simp [sR, n2]
  have f0 : σ18.1 = σ1.1 := by rw [e18, e16, e14, e10, e6]; rfl
  have fF : FrP k σ1 σ18 := by
    rw [e18, e16, e14, e10, e6]
    exact (((((FrP.putR (by omega) (by omega))).tr (FrP.putR (by omega) (by omega))).tr (FrP.putR (by omega) (by omega))).tr (FrP.putR (by omega) (by omega))).tr (FrP.putR (by omega) (by omega))
  rw [e21, e22, f19, f20]
  refine h σ18 fF f0 f19 f20 (fun j hj => ?_) (fun i hi => ?_)
  · rw [e18, e16, e14, e10, e6]
    rcases (show j = 0 ∨ j = 1 ∨ j = 2 ∨ j = 3 ∨ j = 4 by omega) with rfl | rfl | rfl | rfl | rfl <;> simp [sR, upd, pVal]
  · rw [e18, e16, e14, e10, e6]
    have m0 : ¬ (i = 5 * t) := by omega
    have m1 : ¬ (i = 5 * t + 1) := by omega
    have m2 : ¬ (i = 5 * t + 2) := by omega
    have m3 : ¬ (i = 5 * t + 3) := by omega
    have m4 : ¬ (i = 5 * t + 4) := by omega
    simp [sR, upd, m0, m1, m2, m3, m4]
theorem s_X0_write_L26 {c : Cf} {k : Nat} {σ0 : ST} {P : ST → Prop} (hc : Ck c) (hk : k < c.1) (hL : dst (gT c k) (gS c k) (stP c k) ≤ 64)
    (hpar : ∀ t, t + 1 < dst (gT c k) (gS c k) (stP c k) → σ0.2.2.1 (19 + 6 * k) (gp (gT c k) (gS c k) (stP c k) (t + 1)) = nI (gp (gT c k) (gS c k) (stP c k) t) ∧ σ0.2.2.1 (20 + 6 * k) (gp (gT c k) (gS c k) (stP c k) (t + 1)) = nI (gE c k (gp (gT c k) (gS c k) (stP c k) t) (ge (gT c k) (gS c k) (gp (gT c k) (gS c k) (stP c k) t))))
    (h : ∀ σ', FrP k σ0 σ' → σ'.1 = σ0.1 → Rows c k σ' → P σ') :
    ∀ (t : Nat) (σ1 : ST), t < dst (gT c k) (gS c k) (stP c k) → FrP k σ0 σ1 → σ1.1 = σ0.1 → σ1.2.2.1 (19 + 6 * k) = σ0.2.2.1 (19 + 6 * k) → σ1.2.2.1 (20 + 6 * k) = σ0.2.2.1 (20 + 6 * k) → RowsFrom c k t σ1 →
      wp_X0_write_L26 k (nI k) P (t + 2) (nI (gp (gT c k) (gS c k) (stP c k) t)) (nI (gE c k (gp (gT c k) (gS c k) (stP c k) t) (ge (gT c k) (gS c k) (gp (gT c k) (gS c k) (stP c k) t)))) (nI t) σ1 := by
  have hS := gS_lt hc hk
  have hs := stP_lt hc hk
  intro t
  induction t with
  | zero =>
    intro σ1 ht hF e0 e19 e20 hrows
    obtain ⟨p1, p2⟩ := gp_spec (gT c k) (gS c k) hS hs hL _ ht
    obtain ⟨g1, -, -⟩ := gp_edge (gT c k) (gS c k) hS hs hL ht
    refine s_write_row hc hk p1 g1 (by omega) (fun σ' a1 a2 a3 a4 a5 a6 => ?_)
    unfold wp_X0_write_L26
    refine ⟨fun _ => h σ' (hF.tr a1) (by rw [a2, e0]) (fun t' ht' j hj => ?_), fun q => absurd (by decide) q⟩
    by_cases z : t' = 0
    · subst z; exact a5 j hj
    · rw [a6 _ (by omega)]; exact hrows t' (by omega) ht' j hj
  | succ t ih =>
    intro σ1 ht hF e0 e19 e20 hrows
    obtain ⟨p1, p2⟩ := gp_spec (gT c k) (gS c k) hS hs hL _ ht
    obtain ⟨g1, -, -⟩ := gp_edge (gT c k) (gS c k) hS hs hL ht
    refine s_write_row hc hk p1 g1 (by omega) (fun σ' a1 a2 a3 a4 a5 a6 => ?_)
    obtain ⟨u1, u2⟩ := hpar t ht
    rw [e19, e20, u1, u2, pk_m1]
    refine ih σ' (by omega) (hF.tr a1) (by rw [a2, e0]) (by rw [a3, e19]) (by rw [a4, e20]) (fun t' ht1 ht' j hj => ?_)
    by_cases z : t' = t + 1
    · subst z; exact a5 j hj
    · rw [a6 _ (by omega)]; exact hrows t' (by omega) ht' j hj
