/-! ===== PURE: the law ===== -/
theorem rel0 : Rel 0 σ0C σ0M := by
  refine ⟨(0, fun _ _ => 0, fun _ => 0, fun _ => 0), fun _ => 0, fun _ _ => 0, 0, 0, 0, ⟨Nat.zero_le _, fun k hk => absurd hk (Nat.not_lt_zero k)⟩, fun k hk => absurd hk (Nat.not_lt_zero k), by omega, by omega, by omega, ⟨⟨rfl, fun k hk => absurd hk (Nat.not_lt_zero k)⟩, fun k hk => absurd hk (Nat.not_lt_zero k), fun k hk => absurd hk (Nat.not_lt_zero k), rfl, rfl, fun k hk => ?_, fun n hn => ?_⟩, ⟨⟨rfl, fun k hk => absurd hk (Nat.not_lt_zero k)⟩, fun k hk => absurd hk (Nat.not_lt_zero k), fun k hk => absurd hk (Nat.not_lt_zero k), rfl, rfl, fun j _ => ⟨0, by omega, rfl⟩⟩⟩
  · have e : σ0C.1 (16 + 6 * k) 7 = -1 := rfl
    refine ⟨Or.inl e, fun z => ?_⟩
    rw [e] at z
    exact absurd z.symm (mneg1 (by omega))
  · have e : σ0C.1 (34 + 4 * n) 5 = -1 := by simp [σ0C]
    refine ⟨?_, Or.inl e, fun z => ?_⟩
    · have : (34 + 4 * n - 34) / 4 = n := by omega
      simp [σ0C, this]; rfl
    · rw [e] at z
      exact absurd z.symm (mneg1 (by omega))
theorem law_loop (L : Nat) (ss : Nat → Int32) (hL : L ≤ 3072) : ∀ (n i B : Nat) (σ τ : ST), L < i + 6 * (n + 1) → i = 6 * B → i ≤ 4000 → Rel B σ τ → wp_law_L18 L ss (n + 1) (nI i) σ τ := by
  intro n
  induction n with
  | zero =>
    intro i B σ τ h1 h2 h3 h
    unfold wp_law_L18
    refine ⟨fun _ => trivial, fun z => absurd ?_ z⟩
    show nI L - 6 < nI i
    rw [l6]
    by_cases q : 6 ≤ L
    · rw [pk_sub q, nlt (by omega) (by omega)]; omega
    · exact Int32.lt_of_lt_of_le (pk_sneg (by omega) (by omega)) (nI_pos' (by omega))
  | succ n ih =>
    intro i B σ τ h1 h2 h3 h
    unfold wp_law_L18
    refine ⟨fun _ => trivial, fun z => ?_⟩
    have go6 : i + 6 ≤ L := by
      apply Classical.byContradiction
      intro hno
      apply z
      show nI L - 6 < nI i
      rw [l6]
      by_cases q : 6 ≤ L
      · rw [pk_sub q, nlt (by omega) (by omega)]; omega
      · exact Int32.lt_of_lt_of_le (pk_sneg (by omega) (by omega)) (nI_pos' (by omega))
    have hB : B < 1000 := by omega
    have v0 : vp_in (nI i) L := nvi (by omega) (by omega)
    have v1 : vp_in (nI i + 1) L := by rw [nI_1]; exact nvi (by omega) (by omega)
    have v2 : vp_in (nI i + 2) L := by rw [l2, nI_add]; exact nvi (by omega) (by omega)
    have v3 : vp_in (nI i + 3) L := by rw [l3, nI_add]; exact nvi (by omega) (by omega)
    have v4 : vp_in (nI i + 4) L := by rw [l4, nI_add]; exact nvi (by omega) (by omega)
    have v5 : vp_in (nI i + 5) L := by rw [l5, nI_add]; exact nvi (by omega) (by omega)
    have nx : ∀ σ' τ', Rel (B + 1) σ' τ' → wp_law_L18 L ss (n + 1) (nI i + 6) σ' τ' := by
      intro σ' τ' h'
      rw [l6, nI_add]
      exact ih (i + 6) (B + 1) σ' τ' (by omega) (by omega) (by omega) h'
    have go : ∀ (r : Int32) σ' τ', Rel (B + 1) σ' τ' → ((r = r → wp_law_L18 L ss (n + 1) (nI i + 6) σ' τ') ∧ (¬ r = r → False)) := fun r σ' τ' h' => ⟨fun _ => nx σ' τ' h', fun q => q rfl⟩
    refine ⟨v0, fun _ => r_clear hB h nx, fun _ => ⟨fun _ => ⟨v1, v2, r_thing hB h go⟩, fun _ => ⟨fun _ => ⟨v1, v2, v3, v4, v5, r_table hB h go⟩, fun _ => ⟨fun _ => ⟨v1, v2, v3, r_wall hB h go⟩, fun _ => ⟨fun _ => ⟨v1, v2, v3, r_set hB h go⟩, fun _ => ⟨fun _ => ⟨v1, v2, v3, r_price h go⟩, fun _ => ⟨fun _ => ⟨v1, r_look h go⟩, fun _ => ⟨fun _ => ⟨v1, v2, r_of h go⟩, fun _ => ⟨fun _ => ⟨v1, v2, v3, v4, v5, r_does h go⟩, fun _ => ⟨fun _ => ⟨v1, r_silent h go⟩, fun _ => ⟨fun _ => ⟨v1, r_shown h go⟩, fun _ => ⟨fun _ => ⟨v1, v2, v3, r_show h go⟩, fun _ => ⟨fun _ => ⟨v1, r_letters hB h go⟩, fun _ => ⟨fun _ => ⟨v1, v2, v3, v4, r_letter hB h go⟩, fun _ => ⟨fun _ => r_begin h nx, fun _ => ⟨fun _ => ⟨v1, v2, r_run hB h go⟩, fun _ => ⟨fun _ => ⟨v1, r_state h go⟩, fun _ => ⟨fun _ => r_ticks h go, fun _ => ⟨fun _ => ⟨v1, v2, v3, r_walls hB h go⟩, fun _ => ⟨fun _ => ⟨v1, r_give hB h go⟩, fun _ => nx σ τ h.up⟩⟩⟩⟩⟩⟩⟩⟩⟩⟩⟩⟩⟩⟩⟩⟩⟩⟩⟩⟩
theorem law_pure : ∀ (L : Nat) (ss : Nat → Int32), L ≤ 3072 → ∃ n, wp_law_L18 L ss n 0 σ0C σ0M := by
  intro L ss hL
  exact ⟨L + 1, law_loop L ss hL L 0 0 σ0C σ0M (by omega) rfl (by omega) rel0⟩
