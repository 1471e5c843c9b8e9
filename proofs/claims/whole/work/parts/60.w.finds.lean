/-! ===== PURE: the reference finds a letter ===== -/
def FrF (τ τ' : ST) : Prop := τ'.1 = τ.1 ∧ τ'.2.1 = τ.2.1 ∧ (∀ p, p < 12 → τ'.2.2.1 p = τ.2.2.1 p) ∧ ∀ p, p ≠ 11 → τ'.2.2.2 p = τ.2.2.2 p
theorem FrF.rf (τ : ST) : FrF τ τ := ⟨rfl, rfl, fun _ _ => rfl, fun _ _ => rfl⟩
theorem FrF.tr {τ τ1 τ2 : ST} (a : FrF τ τ1) (b : FrF τ1 τ2) : FrF τ τ2 := ⟨b.1.trans a.1, b.2.1.trans a.2.1, fun p h => (b.2.2.1 p h).trans (a.2.2.1 p h), fun p h => (b.2.2.2 p h).trans (a.2.2.2 p h)⟩
theorem FrM.F {τ τ' : ST} (h : FrM τ τ') : FrF τ τ' := ⟨h.1, h.2.1, fun p q => h.2.2.1 p (Or.inl q), h.2.2.2⟩
theorem FrF.arr (τ : ST) {q : Nat} (i : Nat) (v : Int32) (h : 12 ≤ q) : FrF τ (sR τ q i v) := ⟨rfl, rfl, fun p hp => rP τ q i v (by omega), fun _ _ => rfl⟩
theorem RM.frF {c : Cf} {τ τ' : ST} (h : RM c τ) (f : FrF τ τ') : RM c τ' := by
  refine ⟨by rw [f.1]; exact h.1, fun k hk => ?_⟩
  rw [f.2.2.1 1 (by omega), f.2.2.1 2 (by omega), f.2.2.1 3 (by omega), f.2.2.1 4 (by omega), f.2.2.1 5 (by omega), f.2.2.2 8 (by omega), f.2.2.2 9 (by omega)]
  exact h.2 k hk
theorem MM.arr {c : Cf} {n q : Nat} {τ : ST} (h : MM c n q τ) {p : Nat} (i : Nat) (v : Int32) (hp : 15 ≤ p) : MM c n q (sR τ p i v) := by
  refine ⟨h.1, fun j hj => ?_⟩
  rw [rP _ _ _ _ (by omega), rP _ _ _ _ (by omega), rP _ _ _ _ (by omega)]
  exact h.2 j hj
theorem s_X5_finds_L51 {c : Cf} {n q d t i : Nat} {X : Int64} {τ : ST} {K Q : Int32 → ST → Prop} (hc : Ck c) (hn : n ≤ 3) (hq : q < 2147483648) (htd : t + (d + 1) = n) (hX : X ≠ 0) (hM : MM c n q τ) (hR : RM c τ) (h : ∀ τ', MM c n q τ' → FrM τ τ' → K (nI (bA c d t (sprF c X t))) τ') : wp_X5_finds_L51 (nI n) (nI i) (nI t) (sprF c X t) (nI (mostF c (d + 1) t X)) K Q 11 0 τ := by
  have h3 := hc.1
  obtain ⟨b1, b2, b3⟩ := best (d := d) (t := t) hc hX
  have hA := isA_lt hc (aOf_is c (bI c d t (sprF c X t)))
  have hAd : bA c d t (sprF c X t) = aOf c (bI c d t (sprF c X t)) := rfl
  have hb : ∀ a, byF c d t (sprF c X t) a ≤ 64 := fun a => Nat.le_trans (byF_le c d t _ _) (pow43 (by omega))
  have hm : mostF c (d + 1) t X ≤ 64 := Nat.le_trans (mostF_le c (d + 1) t _) (pow43 (by omega))
  have key : ∀ (e a f : Nat) (τ1 : ST), a + e = bA c d t (sprF c X t) → e < f → MM c n q τ1 → FrM τ τ1 → wp_X5_finds_L51 (nI n) (nI i) (nI t) (sprF c X t) (nI (mostF c (d + 1) t X)) K Q f (nI a) τ1 := by
    intro e
    induction e with
    | zero =>
      intro a f τ1 ha hf hM1 hF1
      obtain ⟨f, rfl⟩ : ∃ g, f = g + 1 := ⟨f - 1, by omega⟩
      have : a = bA c d t (sprF c X t) := by omega
      subst this
      unfold wp_X5_finds_L51
      have hia : isA c (bA c d t (sprF c X t)) := aOf_is c _
      refine s_X5_isAct hc (hR.fr hF1) (by omega) (fun _ => ⟨fun z => absurd z (by decide), fun _ => ?_⟩) (fun z => absurd hia z)
      refine s_X5_by hc hia (s_X5_most hc hn hq d 4 (t + 1) (by omega) (by omega)) hM1 (hR.fr hF1) (fun τ2 m2 f2 => ?_)
      rw [b2]
      exact ⟨fun _ => h τ2 m2 (hF1.trans f2), fun z => absurd rfl z⟩
    | succ e ih =>
      intro a f τ1 ha hf hM1 hF1
      obtain ⟨f, rfl⟩ : ∃ g, f = g + 1 := ⟨f - 1, by omega⟩
      unfold wp_X5_finds_L51
      rw [nI_1]
      refine s_X5_isAct hc (hR.fr hF1) (by omega) (fun hia => ⟨fun z => absurd z (by decide), fun _ => ?_⟩) (fun z => ⟨fun _ => ih (a + 1) f τ1 (by omega) (by omega) hM1 hF1, fun z2 => absurd rfl z2⟩)
      refine s_X5_by hc hia (s_X5_most hc hn hq d 4 (t + 1) (by omega) (by omega)) hM1 (hR.fr hF1) (fun τ2 m2 f2 => ?_)
      have h1 := hb a
      rw [neq (by omega) (by omega)]
      refine ⟨fun z => ?_, fun _ => ih (a + 1) f τ2 (by omega) (by omega) m2 (hF1.trans f2)⟩
      exfalso
      rcases hia with g | g
      · have hlt : a < bI c d t (sprF c X t) := by
          by_cases y : bI c d t (sprF c X t) < 3 * c.1
          · have : aOf c (bI c d t (sprF c X t)) = bI c d t (sprF c X t) := if_pos y
            omega
          · omega
        have h2 := b3 a hlt
        rw [show aOf c a = a from if_pos g] at h2
        omega
      · omega
  exact key _ 0 11 τ (Nat.zero_add _) (by omega) hM (FrM.refl _)
theorem s_X5_finds_L94 {c : Cf} {n q d t i : Nat} {X : Int64} {τ : ST} {K : Int32 → Int32 → ST → Prop} {Q : Int32 → ST → Prop} (hc : Ck c) (hn : n ≤ 3) (hq : q < 2147483648) (hi : i < 2147483648) (htd : t + (d + 1) = n) (hX : X ≠ 0) (hR : RM c τ) (h1 : i < mostF c (d + 1) t X → ∀ τ', MM c n q τ' → FrM τ τ' → K (nI (i - pSum c d t (sprF c X t) (pR c d t (sprF c X t) i))) (nI (pR c d t (sprF c X t) i)) τ') (h0 : ¬ i < mostF c (d + 1) t X → ∀ x τ', MM c n q τ' → FrM τ τ' → K x 4 τ') : ∀ (e r : Nat) (τ1 : ST), r + e = 4 → pSum c d t (sprF c X t) r ≤ i → MM c n q τ1 → FrM τ τ1 → wp_X5_finds_L94 (nI n) (nI t) (sprF c X t) (nI (bA c d t (sprF c X t))) K Q (e + 1) (nI (i - pSum c d t (sprF c X t) r)) (nI r) τ1 := by
  have p4 := pSum4 c d t (sprF c X t)
  rw [(best (d := d) (t := t) hc hX).2.1] at p4
  intro e
  induction e with
  | zero =>
    intro r τ1 hr hs hM1 hF1
    have : r = 4 := by omega
    subst this
    unfold wp_X5_finds_L94
    exact ⟨fun _ => h0 (by omega) _ τ1 hM1 hF1, fun z => absurd (by decide) z⟩
  | succ e ih =>
    intro r τ1 hr hs hM1 hF1
    have hia : isA c (bA c d t (sprF c X t)) := aOf_is c _
    have es : pSum c d t (sprF c X t) (r + 1) = pSum c d t (sprF c X t) r + mostF c d (t + 1) (parF c (sprF c X t) (bA c d t (sprF c X t)) r) := rfl
    have hm : mostF c d (t + 1) (parF c (sprF c X t) (bA c d t (sprF c X t)) r) ≤ 64 := Nat.le_trans (mostF_le c d _ _) (pow43 (by omega))
    have ple : pSum c d t (sprF c X t) (r + 1) ≤ pSum c d t (sprF c X t) 4 := by
      have a1 : pSum c d t (sprF c X t) 1 ≤ pSum c d t (sprF c X t) 2 := Nat.le_add_right _ _
      have a2 : pSum c d t (sprF c X t) 2 ≤ pSum c d t (sprF c X t) 3 := Nat.le_add_right _ _
      have a3 : pSum c d t (sprF c X t) 3 ≤ pSum c d t (sprF c X t) 4 := Nat.le_add_right _ _
      rcases (by omega : r = 0 ∨ r = 1 ∨ r = 2 ∨ r = 3) with q | q | q | q <;> subst q
      · show pSum c d t (sprF c X t) 1 ≤ _; omega
      · show pSum c d t (sprF c X t) 2 ≤ _; omega
      · show pSum c d t (sprF c X t) 3 ≤ _; omega
      · exact Nat.le_refl _
    unfold wp_X5_finds_L94
    rw [l4, nle (by omega) (by omega)]
    refine ⟨fun z => absurd z (by omega), fun _ => s_X5_parts hc (hR.fr hF1) hia (by omega) ?_⟩
    rw [nI_1, nI_1]
    refine s_X5_most hc hn hq d 4 (t + 1) (by omega) (by omega) _ _ _ hM1 (hR.fr hF1) (fun τ2 m2 f2 => ?_)
    rw [nlt (by omega) (by omega)]
    refine ⟨fun z => ?_, fun z => s_X5_parts hc (hR.fr (hF1.trans f2)) hia (by omega) (s_X5_most hc hn hq d 4 (t + 1) (by omega) (by omega) _ _ _ m2 (hR.fr (hF1.trans f2)) (fun τ3 m3 f3 => ?_))⟩
    · have e2 := pR_is (c := c) (d := d) (t := t) (S := sprF c X t) (i := i) (r := r) (by omega) hs (by omega)
      have h2 := h1 (by omega) τ2 m2 (hF1.trans f2)
      rw [e2] at h2
      exact h2
    · rw [pk_sub (by omega), show i - pSum c d t (sprF c X t) r - mostF c d (t + 1) (parF c (sprF c X t) (bA c d t (sprF c X t)) r) = i - pSum c d t (sprF c X t) (r + 1) by omega]
      exact ih (r + 1) τ3 (by omega) (by omega) m3 ((hF1.trans f2).trans f3)
theorem s_X5_finds_L23 {c : Cf} {n q : Nat} {Q : Int32 → ST → Prop} (hc : Ck c) (hn : n ≤ 3) (hq : q < 2147483648) : ∀ (d t i : Nat) (X : Int64) (τ : ST), t + d = n → i < 2147483648 → X ≠ 0 → MM c n q τ → RM c τ → (i < mostF c d t X → ∀ τ', MM c n q τ' → FrF τ τ' → (∀ u, u < t → τ'.2.2.1 15 u = τ.2.2.1 15 u ∧ τ'.2.2.1 16 u = τ.2.2.1 16 u) → (∀ u, t ≤ u → u < n → τ'.2.2.1 15 u = nI (pth c d t X i u).1 ∧ τ'.2.2.1 16 u = nI (pth c d t X i u).2) → Q 1 τ') → (¬ i < mostF c d t X → ∀ τ', MM c n q τ' → FrF τ τ' → Q 0 τ') → wp_X5_finds_L23 (nI n) Q (d + 1) X (nI i) (nI t) τ := by
  intro d
  induction d with
  | zero =>
    intro t i X τ htd hi hX hM hR h1 h0
    have : t = n := by omega
    subst this
    have e1 : mostF c 0 t X = 1 := if_neg hX
    rw [e1] at h1 h0
    unfold wp_X5_finds_L23
    rw [l0, neq (by omega) (by omega)]
    exact ⟨fun _ => ⟨fun z => h0 (by omega) τ hM (FrF.rf τ), fun z => h1 (by omega) τ hM (FrF.rf τ) (fun _ _ => ⟨rfl, rfl⟩) (fun u z1 z2 => absurd z2 (by omega))⟩, fun z => absurd (Int32.le_refl _) z⟩
  | succ d ih =>
    intro t i X τ htd hi hX hM hR h1 h0
    have hia : isA c (bA c d t (sprF c X t)) := aOf_is c _
    unfold wp_X5_finds_L23
    rw [nle (by omega) (by omega)]
    refine ⟨fun z => absurd z (by omega), fun _ => s_X5_spreads hc hR (by omega) (s_X5_most hc hn hq (d + 1) 4 t (by omega) (by omega) _ _ _ hM hR (fun τ1 m1 f1 => ⟨11, s_X5_finds_L51 hc hn hq htd hX m1 (hR.fr f1) (fun τ2 m2 f2 => ⟨nvi (by omega) (by omega), fun τ3 e3 => ⟨5, ?_⟩⟩)⟩))⟩
    rw [ncl (by omega)] at e3
    have m3 : MM c n q τ3 := by rw [e3]; exact m2.arr _ _ (by omega)
    have f3 : FrF τ τ3 := by rw [e3]; exact (f1.F.tr f2.F).tr (FrF.arr _ _ _ (by omega))
    have hz : pSum c d t (sprF c X t) 0 ≤ i := Nat.zero_le _
    have go := s_X5_finds_L94 (τ := τ3) (K := fun y5_26 y11_27 σ28 => ((¬ y11_27 = 4 → (∀ σ29, σ29 = sR σ28 16 (Int32.toNatClampNeg (nI t)) y11_27 → (wp_X5_parts (sprF c X t) (nI (bA c d t (sprF c X t))) y11_27 σ29 (fun r31 σ30 => wp_X5_finds_L23 (nI n) Q (d + 1) r31 y5_26 (nI t + 1) σ30)))) ∧ (y11_27 = 4 → Q 0 σ28))) (Q := Q) hc hn hq hi htd hX (hR.frF f3) (fun hlt τ4 m4 f4 => ?_) (fun hge x τ4 m4 f4 => ⟨fun z => absurd rfl z, fun _ => h0 hge τ4 m4 (f3.tr f4.F)⟩) 4 0 τ3 (by omega) hz m3 (FrM.refl _)
    · exact go
    · obtain ⟨r1, r2, r3⟩ := pR_spec hc hX hlt
      have es : pSum c d t (sprF c X t) (pR c d t (sprF c X t) i + 1) = pSum c d t (sprF c X t) (pR c d t (sprF c X t) i) + mostF c d (t + 1) (parF c (sprF c X t) (bA c d t (sprF c X t)) (pR c d t (sprF c X t) i)) := rfl
      have hlt2 : i - pSum c d t (sprF c X t) (pR c d t (sprF c X t) i) < mostF c d (t + 1) (parF c (sprF c X t) (bA c d t (sprF c X t)) (pR c d t (sprF c X t) i)) := by omega
      have hX2 : parF c (sprF c X t) (bA c d t (sprF c X t)) (pR c d t (sprF c X t) i) ≠ 0 := by
        intro z; rw [z, mostF_zero] at hlt2; exact absurd hlt2 (Nat.not_lt_zero _)
      rw [l4, neq (by omega) (by omega)]
      refine ⟨fun _ τ5 e5 => ?_, fun z => absurd z (by omega)⟩
      rw [ncl (by omega)] at e5
      have m5 : MM c n q τ5 := by rw [e5]; exact m4.arr _ _ (by omega)
      have f5 : FrF τ τ5 := by rw [e5]; exact (f3.tr f4.F).tr (FrF.arr _ _ _ (by omega))
      have v15 : τ5.2.2.1 15 t = nI (bA c d t (sprF c X t)) := by
        rw [e5, rP _ _ _ _ (by omega), f4.2.2.1 15 (by omega), e3, rS]
      have v16 : τ5.2.2.1 16 t = nI (pR c d t (sprF c X t) i) := by rw [e5, rS]
      refine s_X5_parts hc (hR.frF f5) hia r1 ?_
      rw [nI_1]
      refine ih (t + 1) _ _ τ5 (by omega) (by omega) hX2 m5 (hR.frF f5) (fun _ τ6 m6 f6 p6 q6 => h1 hlt τ6 m6 (f5.tr f6) (fun u hu => ?_) (fun u hu1 hu2 => ?_)) (fun z => absurd hlt2 z)
      · have g := p6 u (by omega)
        have z : u ≠ t := by omega
        rw [g.1, g.2, e5, rI _ _ _ _ _ z, rI _ _ _ _ _ z, f4.2.2.1 15 (by omega), f4.2.2.1 16 (by omega), e3, rI _ _ _ _ _ z, rI _ _ _ _ _ z, f2.2.2.1 15 (by omega), f2.2.2.1 16 (by omega), f1.2.2.1 15 (by omega), f1.2.2.1 16 (by omega)]
        exact ⟨rfl, rfl⟩
      · by_cases z : u = t
        · subst z
          have g := p6 u (by omega)
          rw [pth_at, g.1, g.2]
          exact ⟨v15, v16⟩
        · rw [pth_ne z]
          exact q6 u (by omega) hu2
def FrL (τ τ' : ST) : Prop := τ'.1 = τ.1 ∧ τ'.2.1 = τ.2.1 ∧ (∀ p, p ≠ 17 → τ'.2.2.1 p = τ.2.2.1 p) ∧ τ'.2.2.2 = τ.2.2.2
theorem FrL.rf (τ : ST) : FrL τ τ := ⟨rfl, rfl, fun _ _ => rfl, rfl⟩
theorem FrL.tr {τ τ1 τ2 : ST} (a : FrL τ τ1) (b : FrL τ1 τ2) : FrL τ τ2 := ⟨b.1.trans a.1, b.2.1.trans a.2.1, fun p h => (b.2.2.1 p h).trans (a.2.2.1 p h), b.2.2.2.trans a.2.2.2⟩
theorem RM.frL {c : Cf} {τ τ' : ST} (h : RM c τ) (f : FrL τ τ') : RM c τ' := by
  refine ⟨by rw [f.1]; exact h.1, fun k hk => ?_⟩
  rw [f.2.2.1 1 (by omega), f.2.2.1 2 (by omega), f.2.2.1 3 (by omega), f.2.2.1 4 (by omega), f.2.2.1 5 (by omega), f.2.2.2]
  exact h.2 k hk
def PT (n : Nat) (P : Nat → Nat × Nat) (τ : ST) : Prop := ∀ u, u < n → τ.2.2.1 15 u = nI (P u).1 ∧ τ.2.2.1 16 u = nI (P u).2
theorem PT.frL {n : Nat} {P : Nat → Nat × Nat} {τ τ' : ST} (h : PT n P τ) (f : FrL τ τ') : PT n P τ' := fun u hu => by
  rw [f.2.2.1 15 (by omega), f.2.2.1 16 (by omega)]; exact h u hu
theorem LC_unique {c : Cf} {P : Nat → Nat × Nat} {d t v a : Nat} (hc : Ck c) (ha : isA c a) (hL : LC c P d t v a) (hno : ∀ a', a' < a → isA c a' → ¬ LC c P d t v a') : LD c P (d + 1) t v ∧ aOf c (wI c P d t v) = a := by
  have h3 := hc.1
  have hD : LD c P (d + 1) t v := ⟨a, ha, hL⟩
  refine ⟨hD, ?_⟩
  obtain ⟨w1, w2, w3⟩ := wI_spec hD
  obtain ⟨j, j1, j2⟩ := aOf_inv ha
  have q1 : ¬ j < wI c P d t v := fun z => w3 j z (by rw [j2]; exact hL)
  have q2 : ¬ aOf c (wI c P d t v) < a := fun z => hno _ z (aOf_is c _) w2
  by_cases e : j = wI c P d t v
  · rw [← e]; exact j2
  · exfalso
    apply q2
    rw [show aOf c (wI c P d t v) = wI c P d t v from if_pos (by omega), ← j2]
    by_cases y : j < 3 * c.1
    · rw [show aOf c j = j from if_pos y]; omega
    · rw [show aOf c j = 9 from if_neg y]; omega
theorem s_X5_leads {c : Cf} {n : Nat} {P : Nat → Nat × Nat} (hc : Ck c) (hn : n ≤ 3) (hP : PK c n P) : ∀ (d f t v : Nat) (τ : ST) (Q : Int32 → ST → Prop), d < f → t + d = n → v < 64 → RM c τ → PT n P τ → (LD c P d t v → ∀ τ', FrL τ τ' → (∀ u, t ≤ u → u < n → τ'.2.2.1 17 u = nI (wsh c P d t v u)) → Q 1 τ') → (¬ LD c P d t v → ∀ τ', FrL τ τ' → Q 0 τ') → wp_X5_leads f (nI v) (nI t) (nI n) τ Q := by
  intro d
  induction d with
  | zero =>
    intro f t v τ Q hf htd hv hR hT h1 h0
    obtain ⟨f, rfl⟩ : ∃ g, f = g + 1 := ⟨f - 1, by omega⟩
    have : t = n := by omega
    subst this
    show wp_X5_leadso (wp_X5_leads f) (nI v) (nI t) (nI t) τ Q
    exact ⟨fun z => absurd rfl z, fun _ => h1 trivial τ (FrL.rf τ) (fun u z1 z2 => absurd z2 (by omega))⟩
  | succ d ih =>
    intro f t v τ Q hf htd hv hR hT h1 h0
    obtain ⟨f, rfl⟩ : ∃ g, f = g + 1 := ⟨f - 1, by omega⟩
    show wp_X5_leadso (wp_X5_leads f) (nI v) (nI t) (nI n) τ Q
    unfold wp_X5_leadso
    rw [neq (by omega) (by omega), ncl (by omega)]
    refine ⟨fun _ => ⟨11, ?_⟩, fun z => absurd z (by omega)⟩
    have hp := hP t (by omega)
    have hpl := isA_lt hc hp.1
    have key : ∀ (e a : Nat) (τ1 : ST), a + e = 10 → FrL τ τ1 → (∀ a', a' < a → isA c a' → ¬ LC c P d t v a') → wp_X5_leads_L10 (wp_X5_leads f) (nI v) (nI t) (nI n) (fun y4_13 σ14 => (vp_in (nI t) 3 ∧ (∀ σ16, σ16 = sR σ14 17 t y4_13 → Q 1 σ16))) Q (e + 1) (nI a) τ1 := by
      intro e
      induction e with
      | zero =>
        intro a τ1 ha hF1 hno
        have : a = 10 := by omega
        subst this
        unfold wp_X5_leads_L10
        refine ⟨fun _ => h0 ?_ τ1 hF1, fun z => absurd (by decide) z⟩
        rintro ⟨a, a1, a2⟩
        exact hno a (isA_lt hc a1) a1 a2
      | succ e ihe =>
        intro a τ1 ha hF1 hno
        have next : ¬ (isA c a ∧ LC c P d t v a) → ∀ τ2, FrL τ τ2 → wp_X5_leads_L10 (wp_X5_leads f) (nI v) (nI t) (nI n) (fun y4_13 σ14 => (vp_in (nI t) 3 ∧ (∀ σ16, σ16 = sR σ14 17 t y4_13 → Q 1 σ16))) Q (e + 1) (nI (a + 1)) τ2 := by
          intro hn2 τ2 f2
          refine ihe (a + 1) τ2 (by omega) f2 (fun a' z1 z2 z3 => ?_)
          by_cases z : a' = a
          · subst z; exact hn2 ⟨z2, z3⟩
          · exact hno a' (by omega) z2 z3
        have hR1 := hR.frL hF1
        have hT1 := (hT.frL hF1) t (by omega)
        unfold wp_X5_leads_L10
        rw [l9, nlt (by omega) (by omega), nI_1, nI_1]
        refine ⟨fun z => absurd z (by omega), fun _ => s_X5_isAct hc hR1 (by omega) (fun hia => ⟨fun _ => ?_, fun z => absurd z (by decide)⟩) (fun hia => ⟨fun z => absurd rfl z, fun _ => next (fun z => hia z.1) τ1 hF1⟩)⟩
        have b1 := sentA_lt hc (t := t) hv hia
        refine s_X5_sent hc hR1 hv hia (by omega) ⟨nvi (by omega) (by omega), ?_⟩
        rw [ncl (by omega), hT1.1]
        refine s_X5_told hc hR1 b1 hp.1 ?_
        rw [hT1.1, hT1.2, neq (by have := toldA_lt (v := sentA c v a t) hc hp.1; omega) (by omega)]
        refine ⟨fun z => next (fun y => z y.2.1) τ1 hF1, fun z => s_X5_heard hc hR1 b1 hp.1 ?_⟩
        refine ih f (t + 1) _ τ1 _ (by omega) (by omega) (heardA_lt hc b1 hp.1) hR1 (hT.frL hF1) (fun hD τ2 f2 g2 => ⟨fun _ => ⟨nvi (by omega) (by omega), fun τ3 e3 => ?_⟩, fun y => absurd y (by decide)⟩) (fun hD τ2 f2 => ⟨fun y => absurd rfl y, fun _ => next (fun y => hD y.2.2) τ2 (hF1.tr f2)⟩)
        obtain ⟨hDD, ew⟩ := LC_unique hc hia ⟨z, hD⟩ hno
        refine h1 hDD τ3 ?_ (fun u hu1 hu2 => ?_)
        · rw [e3]
          exact (hF1.tr f2).tr ⟨rfl, rfl, fun p hp => rP _ _ _ _ hp, rfl⟩
        · show _ = nI (if u = t then aOf c (wI c P d t v) else wsh c P d (t + 1) (heardA c (sentA c v (aOf c (wI c P d t v)) t) (P t).1) u)
          rw [ew]
          by_cases y : u = t
          · subst y; rw [if_pos rfl, e3, rS]
          · rw [if_neg y, e3, rI _ _ _ _ _ y]
            exact g2 u (by omega) hu2
    exact key 10 0 τ (by omega) (FrL.rf τ) (fun a' z => absurd z (Nat.not_lt_zero a'))
