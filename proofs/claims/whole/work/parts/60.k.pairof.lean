/-! ===== PURE: pairOf ===== -/
theorem s_X0_find {c : Cf} {k : Nat} {σ : ST} {P : ST → Prop} (hc : Ck c) (hk : k < c.1) (hR : RO c σ) (hP : ∀ σ', FrP k σ σ' → PO c k σ' → P σ') : wp_X0_find k (nI k) σ P := by
  have hS := gS_lt hc hk
  have hs := stP_lt hc hk
  have hk3 := hc.1
  have hf := (hc.2 k hk).2.1
  unfold wp_X0_find
  intro σ1 e1 σ2 e2
  refine s_fill (by omega) (fun σ3 hF => ?_)
  obtain ⟨f1, f2, f3, f4, f5⟩ := hF
  have F3 : FrP k σ σ3 := by
    refine ((FrP.putI (i := 6) (v := 0) (q := 16 + 6 * k) (by omega) (by omega)).tr (FrP.putI (i := 5) (v := 0) (q := 16 + 6 * k) (by omega) (by omega))).tr ?_
    rw [← e1, ← e2]
    exact ⟨fun q hq => ⟨by rw [f1], by rw [f2], f4 q (by omega)⟩, f3⟩
  have R3 := F3.room hR
  have efirst := (R3.2.2 k hk).2.1
  refine ⟨nvi (by omega) (by omega), ?_⟩
  rw [ncl (by omega), efirst]
  refine s_X0_node (t := 0) (by omega) (by omega) (by omega) ?_
  have es : 16 * c.2.1 k 1 + 4 * c.2.1 k 1 + 0 = stP c k := by unfold stP; omega
  rw [es]
  unfold wp_X0_reach
  have edep : σ3.2.2.1 (21 + 6 * k) (stP c k) = -1 := by rw [f5 _, if_pos hs]
  have em : σ3.1 (16 + 6 * k) 5 = 0 := by rw [f1, e2]; simp [sI]
  have el : σ3.1 (16 + 6 * k) 6 = 0 := by rw [f1, e2, e1]; simp [sI]
  rw [ncl (by omega), edep, em]
  refine ⟨nvi hs (by omega), fun q => absurd rfl q, fun _ => ⟨fun _ => ⟨fun q => absurd rfl q, fun _ => ?_⟩, fun q => absurd (by decide) q⟩⟩
  intro σ9 e9 σ10 e10 σ11 e11
  have em11 : σ11.1 (16 + 6 * k) 5 = 0 := by rw [e11, e10, e9]; exact em
  rw [em11]
  refine ⟨by unfold vp_in; decide, fun σ13 e13 σ14 e14 => ?_⟩
  have em13 : σ13.1 (16 + 6 * k) 5 = 0 := by rw [e13]; exact em11
  rw [em13] at e14
  have n1 : ¬ (18 + 6 * k = 20 + 6 * k) := by omega
  have n2 : ¬ (18 + 6 * k = 19 + 6 * k) := by omega
  have n3 : ¬ (18 + 6 * k = 21 + 6 * k) := by omega
  have n4 : ¬ (21 + 6 * k = 18 + 6 * k) := by omega
  have n5 : ¬ (21 + 6 * k = 19 + 6 * k) := by omega
  have n6 : ¬ (21 + 6 * k = 20 + 6 * k) := by omega
  have n7 : ¬ (19 + 6 * k = 18 + 6 * k) := by omega
  have n8 : ¬ (19 + 6 * k = 20 + 6 * k) := by omega
  have hQ : QI k 1 (fun _ => stP c k) (fun _ => 0) (fun _ => 0) (fun _ => 0) σ14 := by
    rw [e14, e13, e11, e10, e9]
    refine ⟨by simp [sI]; rfl, fun j hj => ?_, fun v hv hin => ?_, fun v hv hout => ?_, fun j hj1 hj => absurd hj (by omega), ?_⟩
    · have : j = 0 := by omega
      subst this
      have z0 : Int32.toNatClampNeg 0 = 0 := rfl
      simp [sI, sR, upd, z0]
    · obtain ⟨j, hj, ej⟩ := hin
      dsimp only at ej
      subst ej
      simp [sI, sR, upd, n4, n5, n6]
      rfl
    · have hne : ¬ v = stP c k := fun z => hout 0 (by omega) z.symm
      simp [sI, sR, upd, n4, n5, n6, hne]
      rw [f5 v, if_pos hv]
    · simp [sI, sR, upd, n7, n8]
  have F14 : FrP k σ3 σ14 := by
    rw [e14, e13, e11, e10, e9]
    exact ((((FrP.putR (by omega) (by omega)).tr (FrP.putR (by omega) (by omega))).tr (FrP.putR (by omega) (by omega))).tr (FrP.putR (by omega) (by omega))).tr (FrP.putI (by omega) (by omega))
  have el14 : σ14.1 (16 + 6 * k) 6 = 0 := by
    rw [e14, e13, e11, e10, e9]
    simp [sI, sR, el]
  exact ⟨66, s_X0_find_L42 (σ0 := σ14) hc hk (fun σ' g1 g2 => hP σ' ((F3.tr F14).tr g1) g2) 64 0 σ14 1 _ _ _ _ (by omega) (FrP.rf k σ14) (F14.room R3) el14 hQ (BI_start _ _ _ _ hS hs _ _ _ rfl) (by omega)⟩
def wvN (c : Cf) : Nat → Nat
  | 0 => 0
  | n + 1 => wvN c n + c.2.1 n 2 * 4 ^ n
def wv (c : Cf) : Nat := wvN c c.1
theorem wvN_lt {c : Cf} (hc : Ck c) : ∀ n, n ≤ c.1 → wvN c n < 4 ^ n := by
  intro n
  induction n with
  | zero => intro _; exact Nat.one_pos
  | succ n ih =>
    intro hn
    unfold wvN
    have h1 := ih (by omega)
    have h2 := (hc.2 n (by omega)).2.2.1
    have h3 : c.2.1 n 2 * 4 ^ n ≤ 3 * 4 ^ n := Nat.mul_le_mul_right _ h2
    rw [Nat.pow_succ]
    omega
theorem wv_lt {c : Cf} (hc : Ck c) : wv c < 64 := by
  have h1 := wvN_lt hc c.1 (Nat.le_refl _)
  have h2 : (4 : Nat) ^ c.1 ≤ 4 ^ 3 := Nat.pow_le_pow_right (by decide) hc.1
  unfold wv
  omega
theorem wvN_digit {c : Cf} (hc : Ck c) {k : Nat} : ∀ n, n ≤ c.1 → k < n → wvN c n / 4 ^ k % 4 = c.2.1 k 2 := by
  intro n
  induction n with
  | zero => intro _ h; omega
  | succ n ih =>
    intro hn hk
    have h0 := wvN_lt hc n (by omega)
    have h2 := (hc.2 n (by omega)).2.2.1
    unfold wvN
    by_cases e : k = n
    · subst e
      rw [Nat.add_mul_div_right _ _ (Nat.pow_pos (by decide)), Nat.div_eq_of_lt h0]
      omega
    · have h3 := ih (by omega) (by omega)
      obtain ⟨d, hd⟩ : ∃ d, n = k + 1 + d := ⟨n - k - 1, by omega⟩
      have e4 : (4 : Nat) ^ n = 4 ^ k * (4 * 4 ^ d) := by rw [hd, Nat.pow_add, Nat.pow_succ, Nat.mul_assoc]
      have e5 : c.2.1 n 2 * 4 ^ n = 4 ^ k * (4 * (c.2.1 n 2 * 4 ^ d)) := by
        rw [e4]
        simp [Nat.mul_assoc, Nat.mul_left_comm]
      rw [e5, Nat.add_mul_div_left _ _ (Nat.pow_pos (by decide)), Nat.add_mul_mod_self_left]
      exact h3
theorem orK : ∀ k, k < 3 → ∀ x, x < 64 → ∀ w, w < 4 → x < 4 ^ k → (nI x ||| (nI w <<< ((2 * nI k) &&& 31))) = nI (x + w * 4 ^ k) := by decide +kernel
theorem s_X4_wallsNow_L4 {c : Cf} {σ : ST} {Q : Int32 → ST → Prop} (hc : Ck c) (hR : RC c σ) (h : Q (nI (wv c)) σ) : ∀ (d m : Nat), m + d = c.1 → wp_X4_wallsNow_L4 Q (d + 1) (nI (wvN c m)) (nI m) σ := by
  have hk3 := hc.1
  intro d
  induction d with
  | zero =>
    intro m hm
    have : m = c.1 := by omega
    subst this
    unfold wp_X4_wallsNow_L4
    rw [hR.1]
    exact ⟨fun _ => h, fun q => absurd (Int32.le_refl _) q⟩
  | succ d ih =>
    intro m hm
    have hw := (hc.2 m (by omega)).2.2.1
    have hx := wvN_lt hc m (by omega)
    have hp : (4 : Nat) ^ m ≤ 4 ^ 2 := Nat.pow_le_pow_right (by decide) (by omega)
    unfold wp_X4_wallsNow_L4
    rw [hR.1, nle (by omega) (by omega), ncl (by omega), (hR.2 m (by omega)).2.2.1, orK m (by omega) _ (by omega) _ (by omega) hx, nI_1]
    exact ⟨fun q => absurd q (by omega), fun _ => ⟨nvi (by omega) (by omega), fun w3 e3 => by rw [e3]; exact ih (m + 1) (by omega)⟩⟩
theorem s_X4_wallsNow {c : Cf} {σ : ST} {Q : Int32 → ST → Prop} (hc : Ck c) (hR : RC c σ) (h : Q (nI (wv c)) σ) : wp_X4_wallsNow σ Q :=
  ⟨c.1 + 1, s_X4_wallsNow_L4 hc hR h c.1 0 (by omega)⟩
theorem setW_row {c : Cf} (hc : Ck c) {k : Nat} (hk : k < c.1) : (setW c (wv c)).2.1 k = c.2.1 k := by
  funext j
  show (if j = 2 then wv c / 4 ^ k % 4 else c.2.1 k j) = _
  by_cases e : j = 2
  · rw [if_pos e, e]; exact wvN_digit hc c.1 (Nat.le_refl _) hk
  · rw [if_neg e]
theorem RO_own {c : Cf} (hc : Ck c) {σ : ST} (h : RO (setW c (wv c)) σ) : RO c σ := by
  obtain ⟨h1, h2, h3⟩ := h
  refine ⟨h1, fun v hv => ?_, fun k hk => ?_⟩
  · rw [h2 v hv]
    have : stv (setW c (wv c)) = stv c := stN_setW c _ _
    rw [this]
  · have e := setW_row hc hk
    obtain ⟨g1, g2, g3⟩ := h3 k hk
    rw [e] at g1 g2
    refine ⟨g1, g2, fun a ha s hs => ?_⟩
    obtain ⟨q1, q2, q3⟩ := g3 a ha s hs
    rw [q1, q2, q3]
    unfold sendS hearS answ rawA nxt ans
    rw [e]
    exact ⟨rfl, rfl, rfl⟩
def FrPR (k : Nat) (σ σ' : ST) : Prop := (∀ q, (q < 10 ∨ (15 < q ∧ (q < 16 + 6 * k ∨ 21 + 6 * k < q))) → σ'.1 q = σ.1 q ∧ σ'.2.1 q = σ.2.1 q ∧ σ'.2.2.1 q = σ.2.2.1 q) ∧ σ'.2.2.2 = σ.2.2.2
theorem PO.keep {c : Cf} {k : Nat} {σ σ' : ST} (h : PO c k σ) (h1 : σ'.1 (16 + 6 * k) 6 = σ.1 (16 + 6 * k) 6) (h2 : σ'.2.2.1 (17 + 6 * k) = σ.2.2.1 (17 + 6 * k)) : PO c k σ' := ⟨by rw [h1]; exact h.1, by rw [h2]; exact h.2⟩
theorem s_X4_pairOf {c : Cf} {k ch : Nat} {σ : ST} {Q : Nat → ST → Prop} (hc : Ck c) (hR : RC c σ) (hk : k < c.1) (hch : σ.1 0 6 = nI ch) (hP : σ.1 (16 + 6 * k) 7 = nI ch → PO c k σ) (h : ∀ σ', FrPR k σ σ' → PO c k σ' → σ'.1 (16 + 6 * k) 7 = nI ch → Q (16 + 6 * k) σ') : wp_X4_pairOf (nI k) σ Q := by
  have hk3 := hc.1
  unfold wp_X4_pairOf
  rw [ncl (by omega), hch]
  refine ⟨nvi (by omega) (by omega), fun q => h σ ⟨fun _ _ => ⟨rfl, rfl, rfl⟩, rfl⟩ (hP q) q, fun _ => ?_⟩
  refine s_X4_wallsNow hc hR ?_
  rw [hR.1]
  refine s_X1_build hc hR.T (wv_lt hc) (fun σ5 g1 g2 => ?_)
  refine s_X0_find hc hk (RO_own hc g2) (fun σ6 g3 g4 σ7 e7 => ?_)
  have e06 : σ6.1 0 6 = nI ch := by rw [(g3.1 0 (by omega)).1, (g1.1 0 (by omega)).1]; exact hch
  rw [e06] at e7
  refine h σ7 ⟨fun q hq => ?_, ?_⟩ (g4.keep ?_ ?_) ?_
  · have a1 := g3.1 q (by omega)
    have a2 := g1.1 q (by omega)
    have a3 := g1.2.2 q (by omega)
    have hne : ¬ q = 16 + 6 * k := by omega
    refine ⟨?_, ?_, ?_⟩
    · rw [e7, ← a2.1, ← a1.1]; funext z; simp [sI, hne]
    · rw [e7, ← a2.2, ← a1.2.1]; rfl
    · rw [e7, ← a3, ← a1.2.2]; rfl
  · rw [e7]
    show σ6.2.2.2 = _
    rw [g3.2, g1.2.1]
  · rw [e7]; simp [sI]
  · rw [e7]; rfl
  · rw [e7]; simp [sI]
