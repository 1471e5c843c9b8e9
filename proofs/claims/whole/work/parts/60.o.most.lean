/-! ===== PURE: the reference counts ===== -/
theorem lgc {x y : Int64} : lg_cmp x y = 0 ↔ x = y := by
  unfold lg_cmp
  by_cases h : x > y
  · rw [if_pos h]
    constructor
    · intro q; exact absurd q (by decide)
    · intro q; subst q; exact absurd h (Int64.lt_irrefl)
  · rw [if_neg h]
    by_cases e : x = y
    · rw [if_pos e]; exact ⟨fun _ => e, fun _ => rfl⟩
    · rw [if_neg e]; exact ⟨fun q => absurd q (by decide), fun q => absurd q e⟩
theorem bt_set (x : Int64) {r u : Nat} (hr : r < 64) (hu : u < 64) : (bt (x ||| (1 <<< (Int32.toInt64 (nI r) &&& 63))) u = true) ↔ (bt x u = true ∨ u = r) := by
  rw [bt_or, bt_one hr hu]
  simp
theorem lgb {x : Int64} {i : Nat} (hi : i < 64) : (lg_cmp ((x >>> (Int32.toInt64 (nI i) &&& 63)) &&& 1) 0 = 0 ↔ bt x i = false) ∧ (lg_cmp ((x >>> (Int32.toInt64 (nI i) &&& 63)) &&& 1) 1 = 0 ↔ bt x i = true) := by
  rw [bt_test x hi]
  cases bt x i <;> constructor <;> decide
theorem s_X5_spreads_L30 {c : Cf} {X : Int64} {t i : Nat} {τ : ST} {K : Int64 → ST → Prop} {Q : Int64 → ST → Prop} (hc : Ck c) (hR : RM c τ) (hi : i < 64) (ht : t < 100000) : ∀ (d j : Nat) (x : Int64), j + d = 10 → (∀ x', (∀ u, u < 64 → (bt x' u = true ↔ (bt x u = true ∨ ∃ a, j ≤ a ∧ isA c a ∧ sentA c i a t = u))) → K x' τ) → wp_X5_spreads_L30 X (nI t) (nI i) K Q (d + 1) x (nI j) τ := by
  intro d
  induction d with
  | zero =>
    intro j x hj h
    unfold wp_X5_spreads_L30
    rw [l9, nlt (by omega) (by omega)]
    refine ⟨fun _ => h x (fun u _ => ⟨fun q => Or.inl q, fun q => ?_⟩), fun q => absurd (by omega) q⟩
    rcases q with q | ⟨a, h1, h2, -⟩
    · exact q
    · exact absurd (isA_lt hc h2) (by omega)
  | succ d ih =>
    intro j x hj h
    unfold wp_X5_spreads_L30
    rw [l9, nlt (by omega) (by omega)]
    refine ⟨fun q => absurd q (by omega), fun _ => s_X5_isAct hc hR (by omega) (fun ha => ⟨fun q => absurd q (by decide), fun _ => ?_⟩) (fun ha => ⟨fun _ => ?_, fun q => absurd rfl q⟩)⟩
    · refine s_X5_sent hc hR hi ha ht (fun w5 e5 => ?_)
      rw [e5, nI_1]
      refine ih (j + 1) _ (by omega) (fun x' hx' => h x' (fun u hu => (hx' u hu).trans ?_))
      rw [bt_set x (sentA_lt hc hi ha) hu]
      constructor
      · rintro ((q | q) | ⟨a, q1, q2, q3⟩)
        · exact Or.inl q
        · exact Or.inr ⟨j, Nat.le_refl _, ha, q.symm⟩
        · exact Or.inr ⟨a, by omega, q2, q3⟩
      · rintro (q | ⟨a, q1, q2, q3⟩)
        · exact Or.inl (Or.inl q)
        · by_cases e : a = j
          · subst e; exact Or.inl (Or.inr q3.symm)
          · exact Or.inr ⟨a, by omega, q2, q3⟩
    · rw [nI_1]
      refine ih (j + 1) _ (by omega) (fun x' hx' => h x' (fun u hu => (hx' u hu).trans ?_))
      constructor
      · rintro (q | ⟨a, q1, q2, q3⟩)
        · exact Or.inl q
        · exact Or.inr ⟨a, by omega, q2, q3⟩
      · rintro (q | ⟨a, q1, q2, q3⟩)
        · exact Or.inl q
        · by_cases e : a = j
          · subst e; exact absurd q2 ha
          · exact Or.inr ⟨a, by omega, q2, q3⟩
theorem s_X5_spreads_L6 {c : Cf} {X : Int64} {t : Nat} {τ : ST} {Q : Int64 → ST → Prop} (hc : Ck c) (hR : RM c τ) (ht : t < 100000) : ∀ (d i : Nat) (x : Int64), i + d = 64 → (∀ x', (∀ u, u < 64 → (bt x' u = true ↔ (bt x u = true ∨ ∃ s, i ≤ s ∧ s < 64 ∧ bt X s = true ∧ ∃ a, isA c a ∧ sentA c s a t = u))) → Q x' τ) → wp_X5_spreads_L6 X (nI t) Q (d + 1) x (nI i) τ := by
  intro d
  induction d with
  | zero =>
    intro i x hi h
    unfold wp_X5_spreads_L6
    rw [l64, nle (by omega) (by omega)]
    refine ⟨fun _ => h x (fun u _ => ⟨fun q => Or.inl q, fun q => ?_⟩), fun q => absurd (by omega) q⟩
    rcases q with q | ⟨a, h1, h2, -⟩
    · exact q
    · omega
  | succ d ih =>
    intro i x hi h
    unfold wp_X5_spreads_L6
    have hb := lgb (x := X) (show i < 64 by omega)
    rw [l64, nle (by omega) (by omega), hb.1, nI_1]
    refine ⟨fun q => absurd q (by omega), fun _ => ⟨fun q => ⟨11, ?_⟩, fun q => ?_⟩⟩
    · have q : bt X i = true := by cases e : bt X i; exact absurd e q; rfl
      refine s_X5_spreads_L30 hc hR (by omega) ht 10 0 x (by omega) (fun x1 hx1 => ?_)
      refine ih (i + 1) _ (by omega) (fun x' hx' => h x' (fun u hu => (hx' u hu).trans ?_))
      rw [hx1 u hu]
      constructor
      · rintro ((q1 | ⟨a, q1, q2, q3⟩) | ⟨s, q1, q2⟩)
        · exact Or.inl q1
        · exact Or.inr ⟨i, Nat.le_refl _, by omega, q, a, q2, q3⟩
        · exact Or.inr ⟨s, by omega, q2⟩
      · rintro (q1 | ⟨s, q1, q2, q3, a, q4, q5⟩)
        · exact Or.inl (Or.inl q1)
        · by_cases e : s = i
          · subst e; exact Or.inl (Or.inr ⟨a, by omega, q4, q5⟩)
          · exact Or.inr ⟨s, by omega, q2, q3, a, q4, q5⟩
    · refine ih (i + 1) _ (by omega) (fun x' hx' => h x' (fun u hu => (hx' u hu).trans ?_))
      constructor
      · rintro (q1 | ⟨s, q1, q2⟩)
        · exact Or.inl q1
        · exact Or.inr ⟨s, by omega, q2⟩
      · rintro (q1 | ⟨s, q1, q2, q3, q4⟩)
        · exact Or.inl q1
        · by_cases e : s = i
          · subst e; rw [q] at q3; exact absurd q3 (by decide)
          · exact Or.inr ⟨s, by omega, q2, q3, q4⟩
theorem s_X5_spreads {c : Cf} {X : Int64} {t : Nat} {τ : ST} {Q : Int64 → ST → Prop} (hc : Ck c) (hR : RM c τ) (ht : t < 100000) (h : Q (sprF c X t) τ) : wp_X5_spreads X (nI t) τ Q := by
  refine ⟨65, s_X5_spreads_L6 hc hR ht 64 0 0 (by omega) (fun x' hx' => ?_)⟩
  have e : x' = sprF c X t := bt_eqP (fun u hu => (hx' u hu).trans ?_)
  · rw [e]; exact h
  · rw [bt_zero]
    constructor
    · rintro (q | ⟨s, -, q2⟩)
      · exact absurd q (by decide)
      · exact ⟨s, q2⟩
    · rintro ⟨s, q2⟩
      exact Or.inr ⟨s, by omega, q2⟩
theorem s_X5_parts_L6 {c : Cf} {X : Int64} {a r : Nat} {τ : ST} {Q : Int64 → ST → Prop} (hc : Ck c) (hR : RM c τ) (ha : isA c a) (hr : r < 4) : ∀ (d i : Nat) (x : Int64), i + d = 64 → (∀ x', (∀ u, u < 64 → (bt x' u = true ↔ (bt x u = true ∨ ∃ s, i ≤ s ∧ s < 64 ∧ bt X s = true ∧ toldA c s a = r ∧ heardA c s a = u))) → Q x' τ) → wp_X5_parts_L6 X (nI a) (nI r) Q (d + 1) x (nI i) τ := by
  intro d
  induction d with
  | zero =>
    intro i x hi h
    unfold wp_X5_parts_L6
    rw [l64, nle (by omega) (by omega)]
    refine ⟨fun _ => h x (fun u _ => ⟨fun q => Or.inl q, fun q => ?_⟩), fun q => absurd (by omega) q⟩
    rcases q with q | ⟨a, h1, h2, -⟩
    · exact q
    · omega
  | succ d ih =>
    intro i x hi h
    have hno : ¬ (bt X i = true ∧ toldA c i a = r) → wp_X5_parts_L6 X (nI a) (nI r) Q (d + 1) x (nI (i + 1)) τ := by
      intro hn
      refine ih (i + 1) _ (by omega) (fun x' hx' => h x' (fun u hu => (hx' u hu).trans ?_))
      constructor
      · rintro (q1 | ⟨s, q1, q2⟩)
        · exact Or.inl q1
        · exact Or.inr ⟨s, by omega, q2⟩
      · rintro (q1 | ⟨s, q1, q2, q3, q4, q5⟩)
        · exact Or.inl q1
        · by_cases e : s = i
          · subst e; exact absurd ⟨q3, q4⟩ hn
          · exact Or.inr ⟨s, by omega, q2, q3, q4, q5⟩
    unfold wp_X5_parts_L6
    have hb := lgb (x := X) (show i < 64 by omega)
    rw [l64, nle (by omega) (by omega), hb.2, nI_1]
    refine ⟨fun q => absurd q (by omega), fun _ => ⟨fun q => hno (fun z => q z.1), fun q => s_X5_told hc hR (by omega) ha ?_⟩⟩
    have h4 := toldA_lt (v := i) hc ha
    rw [neq (by omega) (by omega)]
    refine ⟨fun q2 => hno (fun z => q2 z.2), fun q2 => s_X5_heard hc hR (by omega) ha (fun w5 e5 => ?_)⟩
    rw [e5]
    refine ih (i + 1) _ (by omega) (fun x' hx' => h x' (fun u hu => (hx' u hu).trans ?_))
    rw [bt_set x (heardA_lt hc (by omega) ha) hu]
    constructor
    · rintro ((q1 | q1) | ⟨s, q3, q4⟩)
      · exact Or.inl q1
      · exact Or.inr ⟨i, Nat.le_refl _, by omega, q, q2, q1.symm⟩
      · exact Or.inr ⟨s, by omega, q4⟩
    · rintro (q1 | ⟨s, q3, q4, q5, q6, q7⟩)
      · exact Or.inl (Or.inl q1)
      · by_cases e : s = i
        · subst e; exact Or.inl (Or.inr q7.symm)
        · exact Or.inr ⟨s, by omega, q4, q5, q6, q7⟩
theorem s_X5_parts {c : Cf} {X : Int64} {a r : Nat} {τ : ST} {Q : Int64 → ST → Prop} (hc : Ck c) (hR : RM c τ) (ha : isA c a) (hr : r < 4) (h : Q (parF c X a r) τ) : wp_X5_parts X (nI a) (nI r) τ Q := by
  refine ⟨65, s_X5_parts_L6 hc hR ha hr 64 0 0 (by omega) (fun x' hx' => ?_)⟩
  have e : x' = parF c X a r := bt_eqP (fun u hu => (hx' u hu).trans ?_)
  · rw [e]; exact h
  · rw [bt_zero]
    constructor
    · rintro (q | ⟨s, -, q2⟩)
      · exact absurd q (by decide)
      · exact ⟨s, q2⟩
    · rintro ⟨s, q2⟩
      exact Or.inr ⟨s, by omega, q2⟩
theorem s_X5_startOf {c : Cf} {τ : ST} {Q : Int32 → ST → Prop} (hc : Ck c) (hR : RM c τ) (h : Q (nI (stv c)) τ) : wp_X5_startOf τ Q := by
  have hk3 := hc.1
  have key : ∀ (d m : Nat), m + d = c.1 → wp_X5_startOf_L4 Q (d + 1) (nI (stN c m)) (nI m) τ := by
    intro d
    induction d with
    | zero =>
      intro m hm
      have : m = c.1 := by omega
      subst this
      unfold wp_X5_startOf_L4
      rw [hR.1]
      exact ⟨fun _ => h, fun q => absurd (Int32.le_refl _) q⟩
    | succ d ih =>
      intro m hm
      have hw := (hc.2 m (by omega)).2.1
      have hx := stN_lt hc m (by omega)
      have hp : (4 : Nat) ^ m ≤ 4 ^ 2 := Nat.pow_le_pow_right (by decide) (by omega)
      unfold wp_X5_startOf_L4
      rw [hR.1, nle (by omega) (by omega), ncl (by omega), (hR.2 m (by omega)).2.1, orK m (by omega) _ (by omega) _ (by omega) hx, nI_1]
      exact ⟨fun q => absurd q (by omega), fun _ => ⟨nvi (by omega) (by omega), fun w3 e3 => by rw [e3]; exact ih (m + 1) (by omega)⟩⟩
  exact ⟨c.1 + 1, key c.1 0 (by omega)⟩
