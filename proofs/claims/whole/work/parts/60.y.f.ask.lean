/-! ===== PURE: silent, shown, show, look ===== -/
theorem pLen_le (c : Cf) (k : Nat) : pLen c k ≤ 64 := by
  unfold pLen
  split
  · assumption
  · omega
theorem cp {c : Cf} {now : Nat → Nat} {pr : Nat → Nat → Int32} {ch t k : Nat} {σ : ST} {Q : Nat → ST → Prop} (hc : Ck c) (hS : CS c now pr ch t σ) (hk : k < c.1) (h : ∀ σ', CS c now pr ch t σ' → PO c k σ' → Q (16 + 6 * k) σ') : wp_X4_pairOf (nI k) σ Q := by
  have c3 := hc.1
  exact s_X4_pairOf hc hS.1 hk hS.2.2.2.2.1 (fun z => (hS.2.2.2.2.2.1 k (by omega)).2 z hk) (fun σ' f p a => h σ' (hS.frPR hc (by omega) f p a) p)
theorem mneg1 {n : Nat} (h : n < 2147483648) : ¬ nI n = -1 := by
  rcases nm1 n with z | z
  · exact z
  · omega
theorem m_silent {c : Cf} {now : Nat → Nat} {pr : Nat → Nat → Int32} {q t k : Nat} {τ : ST} {Q : Int32 → ST → Prop} (hc : Ck c) (hS : MS c now pr q t τ) (hk : k < c.1) (h : ∀ τ', MS c now pr q t τ' → Q (if pLen c k = 0 then 1 else 0) τ') : wp_X5_silent (nI k) τ Q := by
  have hl := pLen_le c k
  refine s_X5_isThing hc.1 hS.1.1 (fun j hj e => ⟨fun _ => ?_, fun z => absurd z (by decide)⟩) (fun hno => absurd rfl (hno k hk))
  refine s_X5_shortest hc hS.1 hk (fun τ' f _ => ?_)
  have h1 := h τ' (hS.fr10 f)
  by_cases z : pLen c k = 0
  · rw [if_pos z] at h1 ⊢
    exact ⟨fun y => absurd rfl y, fun _ => h1⟩
  · rw [if_neg z] at h1 ⊢
    exact ⟨fun _ => h1, fun y => absurd y (mneg1 (by omega))⟩
theorem r_silent {B : Nat} {x : Int32} {σ τ : ST} {P : Int32 → Int32 → ST → ST → Prop} (h : Rel B σ τ) (k : ∀ r σ' τ', Rel (B + 1) σ' τ' → P r r σ' τ') : wp_X4_silent x σ (fun r σ' => wp_X5_silent x τ (fun r' τ' => P r r' σ' τ')) := by
  have hu := h.up
  obtain ⟨c, now, pr, ch, q, t, h1, h2, h3, h4, h5, h6, h7⟩ := h
  have c3 := h1.1
  refine s_X4_isThing h1.1 h6.1.1 (fun j hj e => ⟨fun _ => ?_, fun z => absurd z (by decide)⟩) (fun hno => ⟨fun z => absurd rfl z, fun _ => ?_⟩)
  · subst e
    have hl := pLen_le c j
    refine cp h1 h6 hj (fun σ' s' p' => ⟨j, by omega, rfl, ?_⟩)
    rw [p'.1, l0, neq (by omega) (by omega)]
    refine ⟨fun z => m_silent h1 h7 hj (fun τ' m' => ?_), fun z => m_silent h1 h7 hj (fun τ' m' => ?_)⟩
    · rw [if_neg z]; exact k _ _ _ ⟨c, now, pr, ch, q, t, h1, h2, by omega, by omega, by omega, s', m'⟩
    · rw [if_pos z]; exact k _ _ _ ⟨c, now, pr, ch, q, t, h1, h2, by omega, by omega, by omega, s', m'⟩
  · exact s_X5_isThing h1.1 h7.1.1 (fun j' hj' e => absurd e (hno j' hj')) (fun _ => ⟨fun z => absurd rfl z, fun _ => k _ _ _ hu⟩)
theorem r_shown {B : Nat} {x : Int32} {σ τ : ST} {P : Int32 → Int32 → ST → ST → Prop} (h : Rel B σ τ) (k : ∀ r σ' τ', Rel (B + 1) σ' τ' → P r r σ' τ') : wp_X4_shown x σ (fun r σ' => wp_X5_shown x τ (fun r' τ' => P r r' σ' τ')) := by
  have hu := h.up
  obtain ⟨c, now, pr, ch, q, t, h1, h2, h3, h4, h5, h6, h7⟩ := h
  have c3 := h1.1
  refine s_X4_isThing h1.1 h6.1.1 (fun j hj e => ⟨fun z => absurd z (by decide), fun _ => ?_⟩) (fun hno => ⟨fun _ => ?_, fun z => absurd rfl z⟩)
  · subst e
    have hl := pLen_le c j
    have M : ∀ {R : Int32 → ST → Prop}, (∀ τ', MS c now pr q t τ' → R (if pLen c j = 0 then -1 else nI (pLen c j)) τ') → wp_X5_shown (nI j) τ R := by
      intro R g
      exact s_X5_isThing h1.1 h7.1.1 (fun j' hj' e => ⟨fun z => absurd z (by decide), fun _ => s_X5_shortest h1 h7.1 hj (fun τ' f _ => g τ' (h7.fr10 f))⟩) (fun hno => absurd rfl (hno j hj))
    refine cp h1 h6 hj (fun σ' s' p' => ⟨j, by omega, rfl, ?_⟩)
    rw [p'.1, l0, neq (by omega) (by omega)]
    refine ⟨fun z => cp h1 s' hj (fun σ2 s2 p2 => ⟨j, by omega, rfl, M (fun τ' m' => ?_)⟩), fun z => M (fun τ' m' => ?_)⟩
    · rw [if_neg z, p2.1]; exact k _ _ _ ⟨c, now, pr, ch, q, t, h1, h2, by omega, by omega, by omega, s2, m'⟩
    · rw [if_pos z]; exact k _ _ _ ⟨c, now, pr, ch, q, t, h1, h2, by omega, by omega, by omega, s', m'⟩
  · exact s_X5_isThing h1.1 h7.1.1 (fun j' hj' e => absurd e (hno j' hj')) (fun _ => ⟨fun _ => k _ _ _ hu, fun z => absurd rfl z⟩)
theorem r_show {B : Nat} {x y z : Int32} {σ τ : ST} {P : Int32 → Int32 → ST → ST → Prop} (h : Rel B σ τ) (k : ∀ r σ' τ', Rel (B + 1) σ' τ' → P r r σ' τ') : wp_X4_show x y z σ (fun r σ' => wp_X5_show x y z τ (fun r' τ' => P r r' σ' τ')) := by
  have hu := h.up
  obtain ⟨c, now, pr, ch, q, t, h1, h2, h3, h4, h5, h6, h7⟩ := h
  have c3 := h1.1
  have M : ∀ {R : Int32 → ST → Prop}, (∀ j i l, j < c.1 → i < pLen c j → l < 5 → x = nI j → y = nI i → z = nI l → ∀ τ', MS c now pr q t τ' → R (nI (pRow c j i l)) τ') → (∀ τ', MS c now pr q t τ' → (∀ j i l, j < c.1 → i < pLen c j → l < 5 → x = nI j → y = nI i → ¬ z = nI l) → R (-1) τ') → wp_X5_show x y z τ R := by
    intro R g1 g0
    refine s_X5_isThing h1.1 h7.1.1 (fun j hj e => ⟨fun w => absurd w (by decide), fun _ => ?_⟩) (fun hno => ⟨fun _ => g0 τ h7 (fun j i l a1 a2 a3 a4 => absurd a4 (hno j a1)), fun w => absurd rfl w⟩)
    subst e
    have hl := pLen_le c j
    refine s_X5_isIn (fun zz => ⟨fun _ => ?_, fun w => absurd w (by decide)⟩) (fun zz => ⟨fun w => absurd rfl w, fun _ => g0 τ h7 (fun j' i l a1 a2 a3 a4 a5 a6 => zz ((le_nI (n := 4) (by omega)).mpr ⟨l, by omega, a6⟩))⟩)
    obtain ⟨l, l1', l2'⟩ := (le_nI (n := 4) (by omega)).mp zz
    subst l2'
    refine s_X5_shortest h1 h7.1 hj (fun τ' f ar => ?_)
    have m' := h7.fr10 f
    by_cases e : pLen c j = 0
    · rw [if_pos e]
      refine s_X5_isIn (fun yy => ?_) (fun yy => ⟨fun w => absurd rfl w, fun _ => g0 τ' m' (fun j' i l a1 a2 a3 a4 => ?_)⟩)
      · exfalso
        have e1 : (0 : Int32) ≤ -1 - 1 := Int32.le_trans yy.1 yy.2
        exact absurd e1 (by decide)
      · rw [neq (by omega) (by omega)] at a4
        subst a4; omega
    · rw [if_neg e]
      have ed : pLen c j = dst (gT c j) (gS c j) (stP c j) ∧ dst (gT c j) (gS c j) (stP c j) ≤ 64 := by
        have e2 : pLen c j = if dst (gT c j) (gS c j) (stP c j) ≤ 64 then dst (gT c j) (gS c j) (stP c j) else 0 := rfl
        by_cases w : dst (gT c j) (gS c j) (stP c j) ≤ 64
        · rw [if_pos w] at e2; exact ⟨e2, w⟩
        · rw [if_neg w] at e2; exact absurd e2 e
      refine s_X5_isIn (fun yy => ⟨fun _ => ?_, fun w => absurd w (by decide)⟩) (fun yy => ⟨fun w => absurd rfl w, fun _ => g0 τ' m' (fun j' i l a1 a2 a3 a4 a5 => ?_)⟩)
      · obtain ⟨i, i1, i2⟩ := (thingIx (n := pLen c j) (by omega)).mp yy
        subst i2
        rw [ncl (by omega), (m'.1.2 j hj).2.1, ed.1]
        refine ⟨nvi (by omega) (by omega), i + 1, ?_⟩
        have hs := stP_lt h1 hj
        have st0 : gp (gT c j) (gS c j) (stP c j) 0 = stP c j := rfl
        have fin := s_X5_show_L59 (t := i) (j := l) (Q := R) h1 m'.1 hj ar ed.2 (by omega) (by omega) (g1 j i l hj i1 (by omega) rfl rfl rfl τ' m') i 0 (by omega)
        rw [st0] at fin
        have b1 := (h1.2 j hj).2.1
        have p1 : stP c j / 16 = c.2.1 j 1 ∧ stP c j / 4 % 4 = c.2.1 j 1 := by
          unfold stP; omega
        rw [p1.1, p1.2] at fin
        exact fin
      · rw [neq (by omega) (by omega)] at a4
        subst a4
        exact fun _ => yy ((thingIx (n := pLen c j) (by omega)).mpr ⟨i, a2, a5⟩)
  have C : ∀ {R : Int32 → ST → Prop}, (∀ j i l, j < c.1 → i < pLen c j → l < 5 → x = nI j → y = nI i → z = nI l → ∀ σ', CS c now pr ch t σ' → R (nI (pRow c j i l)) σ') → (∀ σ', CS c now pr ch t σ' → (∀ j i l, j < c.1 → i < pLen c j → l < 5 → x = nI j → y = nI i → ¬ z = nI l) → R (-1) σ') → wp_X4_show x y z σ R := by
    intro R g1 g0
    refine s_X4_isThing h1.1 h6.1.1 (fun j hj e => ⟨fun w => absurd w (by decide), fun _ => ?_⟩) (fun hno => ⟨fun _ => g0 σ h6 (fun j i l a1 a2 a3 a4 => absurd a4 (hno j a1)), fun w => absurd rfl w⟩)
    subst e
    have hl := pLen_le c j
    refine ⟨fun w => g0 σ h6 (fun j' i l a1 a2 a3 a4 a5 => ?_), fun yn => cp h1 h6 hj (fun σ' s' p' => ⟨j, by omega, rfl, ?_⟩)⟩
    · have := pLen_le c j'
      rw [a5, l0, nlt (by omega) (by omega)] at w; omega
    · rw [p'.1]
      refine ⟨fun w => g0 σ' s' (fun j' i l a1 a2 a3 a4 a5 => ?_), fun w => ⟨fun w2 => g0 σ' s' (fun j' i l a1 a2 a3 a4 a5 a6 => ?_), fun zn => ⟨fun w3 => ?_, fun w3 => g0 σ' s' (fun j' i l a1 a2 a3 a4 a5 a6 => ?_)⟩⟩⟩
      · rw [neq (by omega) (by omega)] at a4
        subst a4
        rw [a5, nle (by omega) (by omega)] at w; omega
      · rw [a6, l0, nlt (by omega) (by omega)] at w2; omega
      · obtain ⟨i, i1, i2⟩ : ∃ i, i < pLen c j ∧ y = nI i := by
          rcases pk_ix y (n := pLen c j) (by omega) with q1 | q1 | q1
          · exact absurd q1 yn
          · exact absurd q1 w
          · exact q1
        obtain ⟨l, l1', l2'⟩ : ∃ l, l < 5 ∧ z = nI l := by
          rcases pk_ix z (n := 5) (by omega) with q1 | q1 | q1
          · exact absurd q1 zn
          · exact absurd (Int32.lt_of_le_of_lt q1 w3) (Int32.lt_irrefl)
          · exact q1
        subst i2 l2'
        refine cp h1 s' hj (fun σ2 s2 p2 => ⟨j, by omega, rfl, ?_⟩)
        rw [l5, pk_mul, nI_add, ncl (by omega), p2.2 i i1 l l1']
        exact ⟨nvi (by omega) (by omega), g1 j i l hj i1 l1' rfl rfl rfl σ2 s2⟩
      · exact w3 (by rw [a6, l5, nlt (by omega) (by omega)]; exact a3)
  refine C (fun j i l a1 a2 a3 a4 a5 a6 σ' s' => M (fun j' i' l' b1 b2 b3 b4 b5 b6 τ' m' => ?_) (fun τ' m' hno => absurd a6 (hno j i l a1 a2 a3 a4 a5))) (fun σ' s' hno => M (fun j' i' l' b1 b2 b3 b4 b5 b6 τ' m' => absurd b6 (hno j' i' l' b1 b2 b3 b4 b5)) (fun τ' m' _ => k _ _ _ ⟨c, now, pr, ch, q, t, h1, h2, by omega, by omega, by omega, s', m'⟩))
  have e1 := pLen_le c j
  have e2 := pLen_le c j'
  rw [a4, neq (by omega) (by omega)] at b4
  rw [a5, neq (by omega) (by omega)] at b5
  rw [a6, neq (by omega) (by omega)] at b6
  subst b4 b5 b6
  exact k _ _ _ ⟨c, now, pr, ch, q, t, h1, h2, by omega, by omega, by omega, s', m'⟩
