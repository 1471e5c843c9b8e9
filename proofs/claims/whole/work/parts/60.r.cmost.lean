/-! ===== PURE: the judge's most ===== -/
def bcf (x0 : Int32) : Int32 :=
  let w1 := (x0 - ((Int32.toUInt32 x0 >>> (Int32.toUInt32 1 &&& Int32.toUInt32 31)).toInt32 &&& 1431655765))
  let w2 := ((w1 &&& 858993459) + ((Int32.toUInt32 w1 >>> (Int32.toUInt32 2 &&& Int32.toUInt32 31)).toInt32 &&& 858993459))
  let w3 := ((w2 + (Int32.toUInt32 w2 >>> (Int32.toUInt32 4 &&& Int32.toUInt32 31)).toInt32) &&& 252645135)
  let w4 := (w3 + (Int32.toUInt32 w3 >>> (Int32.toUInt32 8 &&& Int32.toUInt32 31)).toInt32)
  let w5 := (w4 + (Int32.toUInt32 w4 >>> (Int32.toUInt32 16 &&& Int32.toUInt32 31)).toInt32)
  w5 &&& 63
theorem bc16 : ∀ m, m < 16 → bcf (nI m) = nI (m4 m 0 + m4 m 1 + m4 m 2 + m4 m 3) := by decide +kernel
theorem s_bitCount {m : Nat} {σ : ST} {Q : Int32 → ST → Prop} (hm : m < 16) (h : Q (nI (m4 m 0 + m4 m 1 + m4 m 2 + m4 m 3)) σ) : wp_J6_bitCount_0f7a4 (nI m) σ Q := by
  rw [← bc16 m hm] at h
  intro w1 e1 w2 e2 w3 e3 w4 e4 w5 e5
  subst e1 e2 e3 e4 e5
  exact h
theorem s_X1_answers_L16 {c : Cf} {X : Int64} {j : Nat} {σ : ST} {Q : Int32 → ST → Prop} (hc : Ck c) (hR : RO c σ) (hj : j < 3 * c.1) : ∀ (d s m : Nat), s + d = 4 → m < 16 → (∀ m', m' < 16 → (∀ r, r < 4 → (m'.testBit r = true ↔ (m.testBit r = true ∨ ∃ v, v < 64 ∧ bt X v = true ∧ s ≤ prt v (j / 3) ∧ toldA c v j = r))) → Q (nI m') σ) → wp_X1_answers_L16 X (nI j) Q (d + 1) (nI m) (nI s) σ := by
  have h3 := hc.1
  have hjk : j / 3 < c.1 := by omega
  intro d
  induction d with
  | zero =>
    intro s m hs hm h
    unfold wp_X1_answers_L16
    rw [l4, nle (by omega) (by omega)]
    refine ⟨fun _ => h m hm (fun u _ => ⟨fun q => Or.inl q, fun q => ?_⟩), fun q => absurd (by omega) q⟩
    rcases q with q | ⟨v, q1, q2, q3, q4⟩
    · exact q
    · have := prt_lt v (j / 3); omega
  | succ d ih =>
    intro s m hs hm h
    unfold wp_X1_answers_L16
    have e := ((hR.2.2 _ hjk).2.2 (j % 3) (by omega) s (by omega)).2.2
    have e2 : 4 * (3 * (j / 3) + j % 3) + s = 4 * j + s := by omega
    rw [e2] at e
    have e3 : (nI j / 3 : Int32) = nI (j / 3) := by rw [l3, pk_div (by omega) (by omega) (by omega)]
    have hal := answ_lt hc hjk (show s < 4 by omega) (show j % 3 < 4 by omega)
    have te : ∀ v, prt v (j / 3) = s → toldA c v j = answ c (j / 3) s (j % 3) := fun v hv => by
      unfold toldA; rw [if_neg (by omega), hv]
    rw [l4, nle (by omega) (by omega), e3]
    refine ⟨fun q => absurd q (by omega), fun _ => s_X1_moved (by omega) (by omega) (show 0 < 4 by omega) (fun y hy => ?_)⟩
    have hy0 : y ≠ 0 ↔ ∃ v, v < 64 ∧ bt X v = true ∧ prt v (j / 3) = s := by
      rw [ne0_iff]
      constructor
      · rintro ⟨u, hu, q⟩
        obtain ⟨v, v1, v2, v3, -⟩ := (mv_iff (k := j / 3) (w := 0) (by omega) (by omega) hu s (by omega)).mp ((hy u hu).mp q)
        exact ⟨v, v1, v2, v3⟩
      · rintro ⟨v, v1, v2, v3⟩
        obtain ⟨g1, -⟩ := wthK (j / 3) (by omega) 0 (by omega) v v1
        exact ⟨_, g1, (hy _ g1).mpr ((mv_iff (k := j / 3) (w := 0) (by omega) (by omega) g1 s (by omega)).mpr ⟨v, v1, v2, v3, rfl⟩)⟩
    rw [lgc, nI_1]
    refine ⟨fun z => ih (s + 1) m (by omega) hm (fun m' hm' hx => h m' hm' (fun r hr => (hx r hr).trans ?_)), fun z => ?_⟩
    · constructor
      · rintro (q | ⟨v, q1, q2, q3, q4⟩)
        · exact Or.inl q
        · exact Or.inr ⟨v, q1, q2, by omega, q4⟩
      · rintro (q | ⟨v, q1, q2, q3, q4⟩)
        · exact Or.inl q
        · by_cases w : prt v (j / 3) = s
          · exact absurd z (hy0.mpr ⟨v, q1, q2, w⟩)
          · exact Or.inr ⟨v, q1, q2, by omega, q4⟩
    · obtain ⟨v0, v1, v2, v3⟩ := hy0.mp z
      rw [pk_mul, nI_add, ncl (by omega), e]
      refine ⟨nvi (by omega) (by omega), fun w4 e4 => ?_⟩
      obtain ⟨f1, f2, f3⟩ := m4_or m hm _ hal
      rw [e4, f1]
      refine ih (s + 1) _ (by omega) f2 (fun m' hm' hx => h m' hm' (fun r hr => (hx r hr).trans ?_))
      rw [f3 r hr, Bool.or_eq_true, decide_eq_true_eq]
      constructor
      · rintro ((q | q) | ⟨v, q1, q2, q3, q4⟩)
        · exact Or.inl q
        · exact Or.inr ⟨v0, v1, v2, by omega, by rw [te v0 v3]; exact q.symm⟩
        · exact Or.inr ⟨v, q1, q2, by omega, q4⟩
      · rintro (q | ⟨v, q1, q2, q3, q4⟩)
        · exact Or.inl (Or.inl q)
        · by_cases w : prt v (j / 3) = s
          · rw [te v w] at q4; exact Or.inl (Or.inr q4.symm)
          · exact Or.inr ⟨v, q1, q2, by omega, q4⟩
theorem s_X1_answers {c : Cf} {X : Int64} {j : Nat} {σ : ST} {Q : Int32 → ST → Prop} (hc : Ck c) (hR : RO c σ) (hj : j ≤ 9) (hX : X ≠ 0) (h : ∀ m, m < 16 → (∀ r, r < 4 → (m.testBit r = true ↔ parF c X (aOf c j) r ≠ 0)) → Q (nI m) σ) : wp_X1_answers X (nI j) σ Q := by
  have h3 := hc.1
  unfold wp_X1_answers
  rw [hR.1, nlt (by omega) (by omega)]
  refine ⟨fun q => ⟨5, ?_⟩, fun q => ?_⟩
  · refine s_X1_answers_L16 hc hR q 4 0 0 (by omega) (by omega) (fun m' hm' hx => h m' hm' (fun r hr => (hx r hr).trans ?_))
    rw [parF_ne hc (aOf_is c j), show aOf c j = j from if_pos q, Nat.zero_testBit]
    constructor
    · rintro (z | ⟨v, z1, z2, -, z4⟩)
      · exact absurd z (by decide)
      · exact ⟨v, z1, z2, z4⟩
    · rintro ⟨v, z1, z2, z4⟩
      exact Or.inr ⟨v, z1, z2, Nat.zero_le _, z4⟩
  · refine h 1 (by omega) (fun r hr => ?_)
    rw [parF_ne hc (aOf_is c j), show aOf c j = 9 from if_neg q]
    obtain ⟨v, v1, v2⟩ := ne0_iff.mp hX
    have b : (1 : Nat).testBit r = true ↔ r = 0 := by
      revert r; decide
    rw [b]
    constructor
    · intro z; exact ⟨v, v1, v2, by rw [z]; exact if_pos rfl⟩
    · rintro ⟨w, -, -, z⟩
      rw [← z]; exact if_pos rfl
theorem s_X1_heard_L25 {c : Cf} {X : Int64} {j r : Nat} {σ : ST} {Q : Int64 → ST → Prop} (hc : Ck c) (hR : RO c σ) (hj : j < 3 * c.1) (hr : r < 4) : ∀ (d s : Nat) (x : Int64), s + d = 4 → (∀ x', (∀ u, u < 64 → (bt x' u = true ↔ (bt x u = true ∨ ∃ v, v < 64 ∧ bt X v = true ∧ s ≤ prt v (j / 3) ∧ toldA c v j = r ∧ heardA c v j = u))) → Q x' σ) → wp_X1_heard_L25 X (nI j) (nI r) Q (d + 1) x (nI s) σ := by
  have h3 := hc.1
  have hjk : j / 3 < c.1 := by omega
  intro d
  induction d with
  | zero =>
    intro s x hs h
    unfold wp_X1_heard_L25
    rw [l4, nle (by omega) (by omega)]
    refine ⟨fun _ => h x (fun u _ => ⟨fun q => Or.inl q, fun q => ?_⟩), fun q => absurd (by omega) q⟩
    rcases q with q | ⟨v, q1, q2, q3, q4⟩
    · exact q
    · have := prt_lt v (j / 3); omega
  | succ d ih =>
    intro s x hs h
    unfold wp_X1_heard_L25
    have e := ((hR.2.2 _ hjk).2.2 (j % 3) (by omega) s (by omega)).2
    have e2 : 4 * (3 * (j / 3) + j % 3) + s = 4 * j + s := by omega
    rw [e2] at e
    have e3 : (nI j / 3 : Int32) = nI (j / 3) := by rw [l3, pk_div (by omega) (by omega) (by omega)]
    have hal := answ_lt hc hjk (show s < 4 by omega) (show j % 3 < 4 by omega)
    have hhl := hearS_lt hc hjk (show s < 4 by omega) (show j % 3 < 4 by omega)
    have te : ∀ v, prt v (j / 3) = s → toldA c v j = answ c (j / 3) s (j % 3) ∧ heardA c v j = wth v (j / 3) (hearS c (j / 3) s (j % 3)) := fun v hv => by
      unfold toldA heardA; rw [if_neg (by omega), if_neg (by omega), hv]; exact ⟨rfl, rfl⟩
    rw [l4, nle (by omega) (by omega), e3, pk_mul, nI_add, ncl (by omega), e.1, e.2, neq (by omega) (by omega), nI_1]
    refine ⟨fun q => absurd q (by omega), fun _ => ⟨nvi (by omega) (by omega), fun z => ?_, fun z => ?_⟩⟩
    · refine ih (s + 1) _ (by omega) (fun x' hx' => h x' (fun u hu => (hx' u hu).trans ?_))
      constructor
      · rintro (q | ⟨v, q1, q2, q3, q4⟩)
        · exact Or.inl q
        · exact Or.inr ⟨v, q1, q2, by omega, q4⟩
      · rintro (q | ⟨v, q1, q2, q3, q4, q5⟩)
        · exact Or.inl q
        · by_cases w : prt v (j / 3) = s
          · rw [(te v w).1] at q4; exact absurd q4 z
          · exact Or.inr ⟨v, q1, q2, by omega, q4, q5⟩
    · refine s_X1_moved (by omega) (by omega) hhl (fun y hy => ih (s + 1) _ (by omega) (fun x' hx' => h x' (fun u hu => (hx' u hu).trans ?_)))
      rw [bt_or, Bool.or_eq_true, hy u hu, mv_iff (by omega) hhl hu s (by omega)]
      constructor
      · rintro ((q | ⟨v, q1, q2, q3, q4⟩) | ⟨v, q1, q2, q3, q4⟩)
        · exact Or.inl q
        · exact Or.inr ⟨v, q1, q2, by omega, by rw [(te v q3).1]; exact z, by rw [(te v q3).2]; exact q4⟩
        · exact Or.inr ⟨v, q1, q2, by omega, q4⟩
      · rintro (q | ⟨v, q1, q2, q3, q4, q5⟩)
        · exact Or.inl (Or.inl q)
        · by_cases w : prt v (j / 3) = s
          · rw [(te v w).2] at q5
            exact Or.inl (Or.inr ⟨v, q1, q2, w, q5⟩)
          · exact Or.inr ⟨v, q1, q2, by omega, q4, q5⟩
theorem s_X1_heard {c : Cf} {X : Int64} {j r : Nat} {σ : ST} {Q : Int64 → ST → Prop} (hc : Ck c) (hR : RO c σ) (hj : j ≤ 9) (hr : r < 4) (h : Q (parF c X (aOf c j) r) σ) : wp_X1_heard X (nI j) (nI r) σ Q := by
  have h3 := hc.1
  unfold wp_X1_heard
  rw [hR.1, nlt (by omega) (by omega), l0, neq (by omega) (by omega)]
  have e9 : ¬ j < 3 * c.1 → ∀ y, (∀ u, u < 64 → (bt y u = true ↔ (bt X u = true ∧ r = 0))) → y = parF c X (aOf c j) r := by
    intro q y hy
    have ea : aOf c j = 9 := if_neg q
    rw [ea]
    refine bt_eqP (fun u hu => (hy u hu).trans ?_)
    have t9 : ∀ v, toldA c v 9 = 0 := fun v => if_pos rfl
    have g9 : ∀ v, heardA c v 9 = v := fun v => if_pos rfl
    constructor
    · rintro ⟨z1, z2⟩; exact ⟨u, hu, z1, by rw [t9, z2], g9 u⟩
    · rintro ⟨v, z1, z2, z3, z4⟩
      rw [t9] at z3; rw [g9] at z4; subst z4
      exact ⟨z2, z3.symm⟩
  refine ⟨fun q => ⟨5, s_X1_heard_L25 hc hR q hr 4 0 0 (by omega) (fun x' hx' => ?_)⟩, fun q => ⟨fun z => ?_, fun z => ?_⟩⟩
  · have e : x' = parF c X (aOf c j) r := bt_eqP (fun u hu => (hx' u hu).trans ?_)
    · rw [e]; exact h
    · rw [bt_zero, show aOf c j = j from if_pos q]
      constructor
      · rintro (z | ⟨v, z1, z2, -, z4⟩)
        · exact absurd z (by decide)
        · exact ⟨v, z1, z2, z4⟩
      · rintro ⟨v, z1, z2, z4⟩
        exact Or.inr ⟨v, z1, z2, Nat.zero_le _, z4⟩
  · have e := e9 q 0 (fun u hu => by rw [bt_zero]; exact ⟨fun w => absurd w (by decide), fun w => absurd w.2 z⟩)
    rw [← e] at h
    exact h
  · have e := e9 q X (fun u hu => ⟨fun w => ⟨w, z⟩, fun w => w.1⟩)
    rw [← e] at h
    exact h
theorem sprF_ne {c : Cf} {X : Int64} {t : Nat} (hc : Ck c) (hX : X ≠ 0) : sprF c X t ≠ 0 := by
  obtain ⟨v, v1, v2⟩ := ne0_iff.mp hX
  have hl := sentA_lt hc (t := t) v1 (Or.inr rfl : isA c 9)
  exact ne0_iff.mpr ⟨_, hl, (bt_ofP _ hl).mpr ⟨v, v1, v2, 9, Or.inr rfl, rfl⟩⟩
theorem mbit : ∀ m, m < 16 → ∀ r, r < 4 → (((nI m >>> (nI r &&& 31)) &&& 1) = if m.testBit r then 1 else 0) := by decide +kernel
def CMost (c : Cf) (n d t : Nat) (σ : ST) (rec : Int64 → Int32 → Int32 → ST → (Int32 → ST → Prop) → Prop) : Prop := ∀ X (Q : Int32 → ST → Prop), X ≠ 0 → Q (nI (mostF c d t X)) σ → rec X (nI t) (nI n) σ Q
theorem s_X4_mostBy {c : Cf} {n d t j : Nat} {rec : Int64 → Int32 → Int32 → ST → (Int32 → ST → Prop) → Prop} {S : Int64} {σ : ST} {Q : Int32 → ST → Prop} (hc : Ck c) (hR : RO c σ) (hj : j ≤ 9) (hn : n ≤ 3) (htd : t + 1 + d = n) (hS : S ≠ 0) (hrec : d ≠ 0 → CMost c n d (t + 1) σ rec) (h : Q (nI (byF c d t S (aOf c j))) σ) : wp_X4_mostBy rec S (nI j) (nI t) (nI n) σ Q := by
  unfold wp_X4_mostBy
  refine s_X1_answers hc hR hj hS (fun m hm hx => ?_)
  rw [nI_1, nlt (by omega) (by omega)]
  refine ⟨fun z => ⟨5, ?_⟩, fun z => s_bitCount hm ?_⟩
  · have st : ∀ (f r s : Nat), r < 4 → wp_X4_mostBy_L29 rec S (nI j) (nI t) (nI n) (nI m) Q f (nI (s + mostF c d (t + 1) (parF c S (aOf c j) r))) (nI (r + 1)) σ → wp_X4_mostBy_L29 rec S (nI j) (nI t) (nI n) (nI m) Q (f + 1) (nI s) (nI r) σ := by
      intro f r s hr k
      unfold wp_X4_mostBy_L29
      rw [l4, nle (by omega) (by omega), mbit m hm r hr, nI_1]
      refine ⟨fun q => absurd q (by omega), fun _ => ⟨fun q => ?_, fun q => ?_⟩⟩
      · have e : parF c S (aOf c j) r = 0 := by
          apply Classical.byContradiction
          intro w
          rw [if_pos ((hx r hr).mpr w)] at q
          exact absurd q (by decide)
        rw [e, mostF_zero] at k
        exact k
      · have e : parF c S (aOf c j) r ≠ 0 := by
          apply (hx r hr).mp
          cases w : m.testBit r with
          | true => rfl
          | false => rw [w] at q; exact absurd rfl q
        refine s_X1_heard hc hR hj hr ?_
        rw [nI_1]
        refine hrec (by omega) _ _ e ?_
        rw [nI_add]
        exact k
    refine st 4 0 0 (by omega) (st 3 1 _ (by omega) (st 2 2 _ (by omega) (st 1 3 _ (by omega) ?_)))
    unfold wp_X4_mostBy_L29
    refine ⟨fun _ => ?_, fun w => absurd (by decide) w⟩
    unfold byF at h
    rw [Nat.zero_add]
    exact h
  · have : d = 0 := by omega
    subst this
    have e : ∀ r, r < 4 → m4 m r = mostF c 0 (t + 1) (parF c S (aOf c j) r) := by
      intro r hr
      unfold m4 mostF
      by_cases q : parF c S (aOf c j) r = 0
      · rw [if_pos q, if_neg (fun z => (hx r hr).mp z q)]
      · rw [if_neg q, if_pos ((hx r hr).mpr q)]
    rw [e 0 (by omega), e 1 (by omega), e 2 (by omega), e 3 (by omega)]
    exact h
/-! the greatest of all acts -/
def mxJ (f : Nat → Nat) : Nat → Nat
  | 0 => 0
  | m + 1 => if mxJ f m < f m then f m else mxJ f m
theorem mxJ_N {c : Cf} (hc : Ck c) (f : Nat → Nat) : mxN c f 10 = mxJ (fun j => f (aOf c j)) (3 * c.1 + 1) := by
  have h3 := hc.1
  have a1 : ∀ m, m ≤ 3 * c.1 → mxN c f m = mxJ (fun j => f (aOf c j)) m := by
    intro m
    induction m with
    | zero => intro _; rfl
    | succ m ih =>
      intro hm
      unfold mxN mxJ
      rw [if_pos (Or.inl (by omega)), ih (by omega), show aOf c m = m from if_pos (by omega)]
      split <;> split <;> omega
  have a2 : ∀ e, 3 * c.1 + e ≤ 9 → mxN c f (3 * c.1 + e) = mxN c f (3 * c.1) := by
    intro e
    induction e with
    | zero => intro _; rfl
    | succ e ih =>
      intro he
      have e1 : mxN c f ((3 * c.1 + e) + 1) = if (3 * c.1 + e) < 3 * c.1 ∨ (3 * c.1 + e) = 9 then (if f (3 * c.1 + e) ≤ mxN c f (3 * c.1 + e) then mxN c f (3 * c.1 + e) else f (3 * c.1 + e)) else mxN c f (3 * c.1 + e) := rfl
      rw [show 3 * c.1 + (e + 1) = (3 * c.1 + e) + 1 from rfl, e1, if_neg (by omega), ih (by omega)]
  have a3 := a2 (9 - 3 * c.1) (by omega)
  rw [show 3 * c.1 + (9 - 3 * c.1) = 9 by omega, a1 _ (Nat.le_refl _)] at a3
  show (if 9 < 3 * c.1 ∨ 9 = 9 then _ else _) = _
  rw [if_pos (Or.inr rfl), a3]
  show _ = (if mxJ _ (3 * c.1) < f (aOf c (3 * c.1)) then f (aOf c (3 * c.1)) else mxJ _ (3 * c.1))
  rw [show aOf c (3 * c.1) = 9 from if_neg (by omega)]
  by_cases q : f 9 ≤ mxJ (fun j => f (aOf c j)) (3 * c.1)
  · rw [if_pos q, if_neg (by omega)]
  · rw [if_neg q, if_pos (by omega)]
theorem mxJ_le {f : Nat → Nat} {B : Nat} (h : ∀ a, f a ≤ B) : ∀ m, mxJ f m ≤ B := by
  intro m
  induction m with
  | zero => exact Nat.zero_le _
  | succ m ih =>
    unfold mxJ
    have := h m
    split
    · exact this
    · exact ih
theorem mostF_J {c : Cf} (hc : Ck c) {d t : Nat} {X : Int64} (hX : X ≠ 0) : mostF c (d + 1) t X = mxJ (fun j => byF c d t (sprF c X t) (aOf c j)) (3 * c.1 + 1) := by
  rw [← mxJ_N hc]
  show (if X = 0 then 0 else _) = _
  rw [if_neg hX]; rfl
theorem s_X4_most {c : Cf} {n : Nat} {σ : ST} (hc : Ck c) (hR : RO c σ) (hn : n ≤ 3) : ∀ (d f t : Nat), d < f → t + d = n → CMost c n d t σ (wp_X4_most f) := by
  have h3 := hc.1
  intro d
  induction d with
  | zero =>
    intro f t hf ht X Q hX h
    obtain ⟨f, rfl⟩ : ∃ g, f = g + 1 := ⟨f - 1, by omega⟩
    show wp_X4_mosto (wp_X4_most f) X (nI t) (nI n) σ Q
    unfold wp_X4_mosto
    unfold mostF at h
    rw [if_neg hX] at h
    rw [nlt (by omega) (by omega)]
    exact ⟨fun z => absurd z (by omega), fun _ => h⟩
  | succ d ih =>
    intro f t hf ht X Q hX h
    obtain ⟨f, rfl⟩ : ∃ g, f = g + 1 := ⟨f - 1, by omega⟩
    show wp_X4_mosto (wp_X4_most f) X (nI t) (nI n) σ Q
    unfold wp_X4_mosto
    rw [mostF_J hc hX] at h
    rw [nlt (by omega) (by omega), hR.1]
    refine ⟨fun _ => s_X1_sentAll hc hR (by omega) ⟨3 * c.1 + 2, ?_⟩, fun z => absurd (by omega) z⟩
    have hb : ∀ m, mxJ (fun j => byF c d t (sprF c X t) (aOf c j)) m ≤ 64 := mxJ_le (fun a => Nat.le_trans (byF_le c d t _ _) (pow43 (by omega)))
    have key : ∀ (e j : Nat), j + e = 3 * c.1 + 1 → wp_X4_most_L27 (wp_X4_most f) (nI t) (nI n) (sprF c X t) Q (e + 1) (nI (mxJ (fun j => byF c d t (sprF c X t) (aOf c j)) j)) (nI j) σ := by
      intro e
      induction e with
      | zero =>
        intro j hj
        have : j = 3 * c.1 + 1 := by omega
        subst this
        unfold wp_X4_most_L27
        rw [hR.1, nlt (by omega) (by omega)]
        exact ⟨fun _ => h, fun z => absurd (by omega) z⟩
      | succ e ihe =>
        intro j hj
        unfold wp_X4_most_L27
        rw [hR.1, nlt (by omega) (by omega)]
        refine ⟨fun z => absurd z (by omega), fun _ => s_X4_mostBy hc hR (by omega) hn (by omega) (sprF_ne hc hX) (fun _ => ih f (t + 1) (by omega) (by omega)) ?_⟩
        have h1 := ihe (j + 1) (by omega)
        have hb1 := hb j
        have hb2 : byF c d t (sprF c X t) (aOf c j) ≤ 64 := Nat.le_trans (byF_le c d t _ _) (pow43 (by omega))
        simp only [nlt (show mxJ (fun j => byF c d t (sprF c X t) (aOf c j)) j < 2147483648 by omega) (show byF c d t (sprF c X t) (aOf c j) < 2147483648 by omega)]
        rw [nI_1]
        unfold mxJ at h1
        split
        · rename_i z; rw [if_pos z] at h1; exact h1
        · rename_i z; rw [if_neg z] at h1; exact h1
    exact key (3 * c.1 + 1) 0 (by omega)
