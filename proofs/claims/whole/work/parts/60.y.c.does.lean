/-! ===== PURE: prices, what a thing does, runs ===== -/
theorem r_price {B : Nat} {x y z : Int32} {σ τ : ST} {P : Int32 → Int32 → ST → ST → Prop} (h : Rel B σ τ) (k : ∀ r σ' τ', Rel (B + 1) σ' τ' → P r r σ' τ') : wp_X4_price x y z σ (fun r σ' => wp_X5_price x y z τ (fun r' τ' => P r r' σ' τ')) := by
  have hu := h.up
  obtain ⟨c, now, pr, ch, q, t, h1, h2, h3, h4, h5, h6, h7⟩ := h
  have c3 := h1.1
  have M : ∀ {R : Int32 → ST → Prop}, (∀ k0 w, k0 < c.1 → 1 ≤ w → w ≤ 3 → x = nI k0 → y = nI w → 0 ≤ z ∧ z ≤ 99 → R 1 (sR τ 6 (4 * k0 + w) z)) → ((∀ k0 w, k0 < c.1 → 1 ≤ w → w ≤ 3 → x = nI k0 → y = nI w → ¬ (0 ≤ z ∧ z ≤ 99)) → R 0 τ) → wp_X5_price x y z τ R := by
    intro R g1 g0
    refine s_X5_isThing h1.1 h7.1.1 (fun k0 hk e => ⟨fun q => absurd q (by decide), fun _ => ?_⟩) (fun hno => ⟨fun _ => g0 (fun k0 w a1 a2 a3 a4 => absurd a4 (hno k0 a1)), fun q => absurd rfl q⟩)
    subst e
    refine s_X5_isIn (fun yy => ⟨fun q => absurd q (by decide), fun _ => ?_⟩) (fun yy => ⟨fun _ => g0 (fun k0 w a1 a2 a3 a4 a5 => ?_), fun q => absurd rfl q⟩)
    · have y1 : (0 : Int32) ≤ y := Int32.le_trans (by decide) yy.1
      obtain ⟨w, w1, w2⟩ := (le_nI (n := 3) (by omega)).mp ⟨y1, yy.2⟩
      have y2 := yy.1
      subst w2
      rw [l1, nle (by omega) (by omega)] at y2
      refine s_X5_isIn (fun zz => ⟨fun _ => ?_, fun q => absurd q (by decide)⟩) (fun zz => ⟨fun q => absurd rfl q, fun _ => g0 (fun _ _ _ _ _ _ _ => zz)⟩)
      rw [l4, pk_mul, nI_add, ncl (by omega)]
      exact ⟨nvi (by omega) (by omega), fun σ8 e8 => by rw [e8]; exact g1 k0 w hk y2 w1 rfl rfl zz⟩
    · exfalso
      apply yy
      rw [a5, l1, nle (by omega) (by omega), l3, nle (by omega) (by omega)]
      exact ⟨a2, a3⟩
  have C : ∀ {R : Int32 → ST → Prop}, (∀ k0 w, k0 < c.1 → 1 ≤ w → w ≤ 3 → x = nI k0 → y = nI w → 0 ≤ z ∧ z ≤ 99 → R 1 (sR σ (5 + 2 * k0) w z)) → ((∀ k0 w, k0 < c.1 → 1 ≤ w → w ≤ 3 → x = nI k0 → y = nI w → ¬ (0 ≤ z ∧ z ≤ 99)) → R 0 σ) → wp_X4_price x y z σ R := by
    intro R g1 g0
    refine s_X4_isThing h1.1 h6.1.1 (fun k0 hk e => ⟨fun q => absurd q (by decide), fun _ => ?_⟩) (fun hno => ⟨fun _ => g0 (fun k0 w a1 a2 a3 a4 => absurd a4 (hno k0 a1)), fun q => absurd rfl q⟩)
    subst e
    have ny : ¬ (1 ≤ y ∧ y ≤ 3) → R 0 σ := fun yy => g0 (fun k0 w a1 a2 a3 a4 a5 => by
      exfalso; apply yy
      rw [a5, l1, nle (by omega) (by omega), l3, nle (by omega) (by omega)]
      exact ⟨a2, a3⟩)
    have nz : ¬ (0 ≤ z ∧ z ≤ 99) → R 0 σ := fun zz => g0 (fun _ _ _ _ _ _ _ => zz)
    refine ⟨fun q => ny (fun w => absurd (Int32.lt_of_lt_of_le q w.1) (Int32.lt_irrefl)), fun q1 => ⟨fun q => ny (fun w => absurd (Int32.lt_of_lt_of_le q w.2) (Int32.lt_irrefl)), fun q2 => ⟨fun q => nz (fun w => absurd (Int32.lt_of_lt_of_le q w.1) (Int32.lt_irrefl)), fun q3 => ⟨fun q4 => ?_, fun q => nz (fun w => q w.2)⟩⟩⟩⟩
    have y1 : (1 : Int32) ≤ y := Int32.not_lt.mp q1
    have y3 : y ≤ (3 : Int32) := Int32.not_lt.mp q2
    obtain ⟨w, w1, w2⟩ := (le_nI (n := 3) (by omega)).mp ⟨Int32.le_trans (by decide) y1, y3⟩
    subst w2
    rw [l1, nle (by omega) (by omega)] at y1
    rw [ncl (by omega), ncl (by omega)]
    exact ⟨nvi (by omega) (by omega), nvi (by omega) (by omega), fun σ6 e6 => by rw [e6]; exact g1 k0 w hk y1 w1 rfl rfl ⟨Int32.not_lt.mp q3, q4⟩⟩
  refine C (fun k0 w a1 a2 a3 a4 a5 a6 => M (fun k0' w' b1 b2 b3 b4 b5 _ => ?_) (fun hno => absurd a6 (hno k0 w a1 a2 a3 a4 a5))) (fun hno => M (fun k0' w' b1 b2 b3 b4 b5 b6 => absurd b6 (hno k0' w' b1 b2 b3 b4 b5)) (fun _ => k _ _ _ hu))
  rw [a4, neq (by omega) (by omega)] at b4
  rw [a5, neq (by omega) (by omega)] at b5
  subst b4 b5
  refine k _ _ _ ⟨c, now, (fun k' w' => if k' = k0 ∧ w' = w then z else pr k' w'), ch, q, t, h1, h2, by omega, by omega, by omega, ⟨h6.1, h6.2.1, fun k' hk' w' hw' => ?_, h6.2.2.2.1, h6.2.2.2.2.1, fun k' hk' => (h6.2.2.2.2.2.1 k' hk').keep rfl (rP _ _ _ _ (by omega)), fun n hn => (h6.2.2.2.2.2.2 n hn).keep rfl (rP _ _ _ _ (by omega))⟩, ⟨⟨h7.1.1, fun k' hk' => ?_⟩, fun k' hk' => ?_, fun k' hk' w' hw' => ?_, h7.2.2.2.1, h7.2.2.2.2.1, ?_⟩⟩
  · dsimp only
    by_cases e : k' = k0
    · subst e
      by_cases e2 : w' = w
      · subst e2; rw [rS, if_pos ⟨rfl, rfl⟩]
      · rw [rI _ _ _ _ _ e2, if_neg (by omega)]; exact h6.2.2.1 k' hk' w' hw'
    · rw [rP _ _ _ _ (by omega), if_neg (by omega)]; exact h6.2.2.1 k' hk' w' hw'
  · rw [rP _ _ _ _ (by omega), rP _ _ _ _ (by omega), rP _ _ _ _ (by omega), rP _ _ _ _ (by omega), rP _ _ _ _ (by omega)]
    exact h7.1.2 k' hk'
  · rw [rP _ _ _ _ (by omega)]; exact h7.2.1 k' hk'
  · dsimp only
    by_cases e : k' = k0 ∧ w' = w
    · rw [if_pos e, e.1, e.2, rS]
    · rw [rI _ _ _ _ _ (by omega), if_neg e]; exact h7.2.2.1 k' hk' w' hw'
  · rw [rP _ _ _ _ (by omega)]; exact h7.2.2.2.2.2
/-! does -/
theorem r_does {B : Nat} {x p s a o : Int32} {σ τ : ST} {P : Int32 → Int32 → ST → ST → Prop} (h : Rel B σ τ) (k : ∀ r σ' τ', Rel (B + 1) σ' τ' → P r r σ' τ') : wp_X4_does x p s a o σ (fun r σ' => wp_X5_does x p s a o τ (fun r' τ' => P r r' σ' τ')) := by
  have hu := h.up
  obtain ⟨c, now, pr, ch, q, t, h1, h2, h3, h4, h5, h6, h7⟩ := h
  have c3 := h1.1
  have M : ∀ {R : Int32 → ST → Prop}, (∀ k0 p0 s0 a0, k0 < c.1 → p0 < 2 → s0 < lim (c.2.1 k0 0) → a0 < 3 → x = nI k0 → p = nI p0 → s = nI s0 → a = nI a0 → 0 ≤ o ∧ o ≤ 1 → (o = 0 → R (nI (nxt c k0 p0 s0 a0)) τ) ∧ (¬ o = 0 → R (nI (ans c k0 p0 s0 a0)) τ)) → ((∀ k0 p0 s0 a0, k0 < c.1 → p0 < 2 → s0 < lim (c.2.1 k0 0) → a0 < 3 → x = nI k0 → p = nI p0 → s = nI s0 → a = nI a0 → ¬ (0 ≤ o ∧ o ≤ 1)) → R (-1) τ) → wp_X5_does x p s a o τ R := by
    intro R g1 g0
    refine s_X5_isThing h1.1 h7.1.1 (fun k0 hk e => ⟨fun q => absurd q (by decide), fun _ => ?_⟩) (fun hno => ⟨fun _ => g0 (fun k0 _ _ _ a1 _ _ _ a5 => absurd a5 (hno k0 a1)), fun q => absurd rfl q⟩)
    subst e
    have hkd := (h1.2 k0 hk).1
    refine s_X5_isIn (fun pp => ⟨fun q => absurd q (by decide), fun _ => ?_⟩) (fun pp => ⟨fun _ => g0 (fun _ p0 _ _ _ a2 _ _ _ a6 => absurd ((le_nI (n := 1) (by omega)).mpr ⟨p0, by omega, a6⟩) pp), fun q => absurd rfl q⟩)
    obtain ⟨p0, p1, p2⟩ := (le_nI (n := 1) (by omega)).mp pp
    subst p2
    have part : ∀ (L : Nat) (lI : Int32), lI = nI (L - 1) → lim (c.2.1 k0 0) = L → 1 ≤ L → L ≤ 4 → wp_X5_isIn s 0 lI τ (fun r7 σ6 => ((r7 = 0 → R (-1) σ6) ∧ (¬ r7 = 0 → (wp_X5_isIn a 0 2 σ6 (fun r9 σ8 => ((r9 = 0 → R (-1) σ8) ∧ (¬ r9 = 0 → (wp_X5_isIn o 0 1 σ8 (fun r11 σ10 => ((¬ r11 = 0 → (wp_X5_act (nI k0) (nI p0) s a σ10 (fun r13 σ12 => ((¬ o = 0 → R (r13 / 4) σ12) ∧ (o = 0 → R (r13 - r13 / 4 * 4) σ12))))) ∧ (r11 = 0 → R (-1) σ10))))))))))) := by
      intro L lI hl hL hL1 hL4
      subst hl
      refine s_X5_isIn (fun ss => ⟨fun q => absurd q (by decide), fun _ => ?_⟩) (fun ss => ⟨fun _ => g0 (fun k0' _ s0 _ a1 _ a3 _ a5 _ a7 => ?_), fun q => absurd rfl q⟩)
      · obtain ⟨s0, s1, s2⟩ := (le_nI (n := L - 1) (by omega)).mp ss
        subst s2
        refine s_X5_isIn (fun aa => ⟨fun q => absurd q (by decide), fun _ => ?_⟩) (fun aa => ⟨fun _ => g0 (fun _ _ _ a0 _ _ _ a4 _ _ _ a8 => absurd ((le_nI (n := 2) (by omega)).mpr ⟨a0, by omega, a8⟩) aa), fun q => absurd rfl q⟩)
        obtain ⟨a0, a1, a2⟩ := (le_nI (n := 2) (by omega)).mp aa
        subst a2
        refine s_X5_isIn (fun oo => ⟨fun _ => ?_, fun q => absurd q (by decide)⟩) (fun oo => ⟨fun q => absurd rfl q, fun _ => g0 (fun _ _ _ _ _ _ _ _ _ _ _ _ => oo)⟩)
        obtain ⟨v1, v2⟩ := g1 k0 p0 s0 a0 hk (by omega) (by omega) (by omega) rfl rfl rfl rfl oo
        refine s_X5_act h1 h7.1 hk (by omega) (by omega) (by omega) ?_
        have n1 := nxt_lt h1 hk (show p0 < 2 by omega) (show s0 < 4 by omega) (show a0 < 3 by omega)
        have n2 := ans_lt h1 hk (show p0 < 2 by omega) (show s0 < 4 by omega) (show a0 < 3 by omega)
        rw [l4, pk_rem (by omega) (by omega) (by omega), pk_div (by omega) (by omega) (by omega), show (nxt c k0 p0 s0 a0 + 4 * ans c k0 p0 s0 a0) % 4 = nxt c k0 p0 s0 a0 by omega, show (nxt c k0 p0 s0 a0 + 4 * ans c k0 p0 s0 a0) / 4 = ans c k0 p0 s0 a0 by omega]
        exact ⟨v2, v1⟩
      · rw [neq (by omega) (by omega)] at a5
        subst a5
        exact absurd ((le_nI (n := L - 1) (by omega)).mpr ⟨s0, by omega, a7⟩) ss
    rw [ncl (by omega), (h7.1.2 k0 hk).1, l0, neq (by omega) (by omega), l2, neq (by omega) (by omega)]
    refine ⟨nvi (by omega) (by omega), fun z => part 3 2 rfl ?_ (by omega) (by omega), fun z => ⟨fun z2 => part 4 3 rfl ?_ (by omega) (by omega), fun z2 => part 3 2 rfl ?_ (by omega) (by omega)⟩⟩
    · unfold lim; rw [if_pos (Or.inl z)]
    · unfold lim; rw [if_neg (by omega)]
    · unfold lim; rw [if_pos (Or.inr z2)]
  have C : ∀ {R : Int32 → ST → Prop}, (∀ k0 p0 s0 a0, k0 < c.1 → p0 < 2 → s0 < lim (c.2.1 k0 0) → a0 < 3 → x = nI k0 → p = nI p0 → s = nI s0 → a = nI a0 → 0 ≤ o ∧ o ≤ 1 → (o = 0 → R (nI (nxt c k0 p0 s0 a0)) σ) ∧ (¬ o = 0 → R (nI (ans c k0 p0 s0 a0)) σ)) → ((∀ k0 p0 s0 a0, k0 < c.1 → p0 < 2 → s0 < lim (c.2.1 k0 0) → a0 < 3 → x = nI k0 → p = nI p0 → s = nI s0 → a = nI a0 → ¬ (0 ≤ o ∧ o ≤ 1)) → R (-1) σ) → wp_X4_does x p s a o σ R := by
    intro R g1 g0
    refine s_X4_isThing h1.1 h6.1.1 (fun k0 hk e => ⟨fun q => absurd q (by decide), fun _ => ?_⟩) (fun hno => ⟨fun _ => g0 (fun k0 _ _ _ a1 _ _ _ a5 => absurd a5 (hno k0 a1)), fun q => absurd rfl q⟩)
    subst e
    have hkd := (h1.2 k0 hk).1
    have np : ¬ (0 ≤ p ∧ p ≤ 1) → R (-1) σ := fun pp => g0 (fun _ p0 _ _ _ a2 _ _ _ a6 => absurd ((le_nI (n := 1) (by omega)).mpr ⟨p0, by omega, a6⟩) pp)
    have na : ¬ (0 ≤ a ∧ a ≤ 2) → R (-1) σ := fun aa => g0 (fun _ _ _ a0 _ _ _ a4 _ _ _ a8 => absurd ((le_nI (n := 2) (by omega)).mpr ⟨a0, by omega, a8⟩) aa)
    have no : ¬ (0 ≤ o ∧ o ≤ 1) → R (-1) σ := fun oo => g0 (fun _ _ _ _ _ _ _ _ _ _ _ _ => oo)
    refine ⟨fun q => np (fun w => absurd (Int32.lt_of_lt_of_le q w.1) (Int32.lt_irrefl)), fun q1 => ⟨fun q => np (fun w => absurd (Int32.lt_of_lt_of_le q w.2) (Int32.lt_irrefl)), fun q2 => ⟨fun q => na (fun w => absurd (Int32.lt_of_lt_of_le q w.1) (Int32.lt_irrefl)), fun q3 => ⟨fun q4 => ?_, fun q4 => na (fun w => q4 (Int32.lt_of_le_of_lt w.2 (by decide)))⟩⟩⟩⟩
    obtain ⟨p0, p1, p2⟩ := (le_nI (n := 1) (by omega)).mp ⟨Int32.not_lt.mp q1, Int32.not_lt.mp q2⟩
    subst p2
    obtain ⟨a0, a1, a2⟩ : ∃ a0, a0 < 3 ∧ a = nI a0 := by
      rcases pk_ix a (n := 3) (by omega) with y | y | ⟨b, b1, b2⟩
      · exact absurd y q3
      · exact absurd (Int32.lt_of_le_of_lt y q4) (Int32.lt_irrefl)
      · exact ⟨b, b1, b2⟩
    subst a2
    rw [ncl (by omega), (h6.1.2 k0 hk).1]
    refine ⟨nvi (by omega) (by omega), s_X4_canBe hkd (fun s0 s1 s2 => ⟨fun q => absurd q (by decide), fun _ => ?_⟩) (fun hno => ⟨fun _ => g0 (fun k0' _ s0 _ a1 _ a3 _ a5 _ a7 => ?_), fun q => absurd rfl q⟩)⟩
    · have ll := lim_le (c.2.1 k0 0)
      refine ⟨fun q => no (fun w => absurd (Int32.lt_of_lt_of_le q w.1) (Int32.lt_irrefl)), fun q5 => ⟨fun q6 => ?_, fun q => no (fun w => q w.2)⟩⟩
      subst s2
      obtain ⟨v1, v2⟩ := g1 k0 p0 s0 a0 hk (by omega) s1 a1 rfl rfl rfl rfl ⟨Int32.not_lt.mp q5, q6⟩
      exact ⟨fun z => s_X2_answer h1 h6.1.T hk (by omega) (by omega) a1 (v2 z), fun z => s_X2_next h1 h6.1.T hk (by omega) (by omega) a1 (v1 z)⟩
    · rw [neq (by omega) (by omega)] at a5
      subst a5
      exact absurd a7 (hno s0 a3)
  refine C (fun k0 p0 s0 a0 a1 a2 a3 a4 a5 a6 a7 a8 a9 => ?_) (fun hno => M (fun k0' p0' s0' a0' b1 b2 b3 b4 b5 b6 b7 b8 b9 => absurd b9 (hno k0' p0' s0' a0' b1 b2 b3 b4 b5 b6 b7 b8)) (fun _ => k _ _ _ hu))
  have ll := lim_le (c.2.1 k0 0)
  have fin : ∀ {R : Int32 → ST → Prop}, ((o = 0 → R (nI (nxt c k0 p0 s0 a0)) τ) ∧ (¬ o = 0 → R (nI (ans c k0 p0 s0 a0)) τ)) → wp_X5_does x p s a o τ R := by
    intro R g
    refine M (fun k0' p0' s0' a0' b1 b2 b3 b4 b5 b6 b7 b8 b9 => ?_) (fun hno => absurd a9 (hno k0 p0 s0 a0 a1 a2 a3 a4 a5 a6 a7 a8))
    have ll' := lim_le (c.2.1 k0' 0)
    rw [a5, neq (by omega) (by omega)] at b5
    rw [a6, neq (by omega) (by omega)] at b6
    rw [a7, neq (by omega) (by omega)] at b7
    rw [a8, neq (by omega) (by omega)] at b8
    subst b5 b6 b7 b8
    exact g
  exact ⟨fun z => fin ⟨fun _ => k _ _ _ hu, fun z2 => absurd z z2⟩, fun z => fin ⟨fun z2 => absurd z2 z, fun _ => k _ _ _ hu⟩⟩
