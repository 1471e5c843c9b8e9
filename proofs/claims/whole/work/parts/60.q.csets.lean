/-! ===== PURE: sets of states in the judge ===== -/
theorem mvM : ∀ v, v < 64 → bt 1229782938247303441 v = decide (prt v 0 = 0) ∧ bt 4222189076152335 v = decide (prt v 1 = 0) ∧ bt 65535 v = decide (prt v 2 = 0) := by decide +kernel
theorem mvS : ∀ k, k < 3 → ∀ s, s < 4 → (nI s <<< ((2 * nI k) &&& 31)) = nI (s * 4 ^ k) ∧ s * 4 ^ k < 64 := by decide +kernel
theorem mvU1 : ∀ k, k < 3 → ∀ w, w < 4 → ∀ u, u < 64 → (decide (w * 4 ^ k ≤ u) && decide (prt (u - w * 4 ^ k) k = 0)) = decide (prt u k = w) := by decide +kernel
theorem mvU2 : ∀ k, k < 3 → ∀ u, u < 64 → ∀ s, s < 4 → u - prt u k * 4 ^ k + s * 4 ^ k = wth u k s := by
  intro k _ u _ s _
  rfl
theorem mvU : ∀ k, k < 3 → ∀ w, w < 4 → ∀ u, u < 64 → ∀ s, s < 4 → ((w * 4 ^ k ≤ u ∧ prt (u - w * 4 ^ k) k = 0) ↔ prt u k = w) ∧ (prt u k = w → u - w * 4 ^ k + s * 4 ^ k = wth u k s) := by
  intro k hk w hw u hu s hs
  refine ⟨?_, fun e => by subst e; exact mvU2 k hk u hu s hs⟩
  have h := mvU1 k hk w hw u hu
  constructor
  · rintro ⟨h1, h2⟩
    rw [decide_eq_true h1, decide_eq_true h2] at h
    exact of_decide_eq_true h.symm
  · intro h1
    rw [decide_eq_true h1, Bool.and_eq_true] at h
    exact ⟨of_decide_eq_true h.1, of_decide_eq_true h.2⟩
theorem mvB {X m : Int64} {k s w u : Nat} (hk : k < 3) (hs : s < 4) (hw : w < 4) (hm : ∀ v, v < 64 → bt m v = decide (prt v k = 0)) (hu : u < 64) : bt ((((Int64.toUInt64 X >>> (Int64.toUInt64 (Int32.toInt64 (nI s <<< ((2 * nI k) &&& 31))) &&& Int64.toUInt64 63)).toInt64) &&& m) <<< (Int32.toInt64 (nI w <<< ((2 * nI k) &&& 31)) &&& 63)) u = true ↔ (prt u k = w ∧ bt X (wth u k s) = true) := by
  obtain ⟨e1, b1⟩ := mvS k hk s hs
  obtain ⟨e2, b2⟩ := mvS k hk w hw
  obtain ⟨q1, q2⟩ := mvU k hk w hw u hu s hs
  rw [e1, e2, bt_shl _ b2 hu, bt_and, bt_ushr X b1, hm _ (by omega)]
  rw [← q1]
  constructor
  · intro h
    simp only [Bool.and_eq_true, decide_eq_true_eq] at h
    refine ⟨⟨h.1, h.2.2⟩, ?_⟩
    rw [← q2 (q1.mp ⟨h.1, h.2.2⟩), Nat.add_comm]
    exact h.2.1
  · rintro ⟨h1, h2⟩
    rw [← q2 (q1.mp h1), Nat.add_comm] at h2
    simp only [Bool.and_eq_true, decide_eq_true_eq]
    exact ⟨h1.1, h2, h1.2⟩
theorem s_X1_moved {X : Int64} {k s w : Nat} {σ : ST} {Q : Int64 → ST → Prop} (hk : k < 3) (hs : s < 4) (hw : w < 4) (h : ∀ y, (∀ u, u < 64 → (bt y u = true ↔ (prt u k = w ∧ bt X (wth u k s) = true))) → Q y σ) : wp_X1_moved X (nI k) (nI s) (nI w) σ Q := by
  unfold wp_X1_moved
  refine ⟨fun z => ⟨fun z1 => h _ (fun u hu => mvB hk hs hw (fun v hv => ?_) hu), fun z1 => h _ (fun u hu => mvB hk hs hw (fun v hv => ?_) hu)⟩, fun z => h _ (fun u hu => mvB hk hs hw (fun v hv => ?_) hu)⟩
  · rw [l0, neq (by omega) (by omega)] at z
    rw [l1, neq (by omega) (by omega)] at z1
    have : k = 2 := by omega
    subst this
    exact (mvM v hv).2.2
  · rw [l1, neq (by omega) (by omega)] at z1
    subst z1
    exact (mvM v hv).2.1
  · rw [l0, neq (by omega) (by omega)] at z
    subst z
    exact (mvM v hv).1
/-- all states moved by one part -/
theorem mv_iff {X : Int64} {k w u : Nat} (hk : k < 3) (hw : w < 4) (hu : u < 64) (s : Nat) (hs : s < 4) : (prt u k = w ∧ bt X (wth u k s) = true) ↔ (∃ v, v < 64 ∧ bt X v = true ∧ prt v k = s ∧ wth v k w = u) := by
  constructor
  · rintro ⟨h1, h2⟩
    obtain ⟨g1, g2, g3, -⟩ := wthK k hk s hs u hu
    exact ⟨_, g1, h2, g2, by rw [← h1]; exact g3⟩
  · rintro ⟨v, h1, h2, h3, h4⟩
    obtain ⟨g1, g2, g3, -⟩ := wthK k hk w hw v h1
    rw [h4] at g2 g3
    rw [h3] at g3
    exact ⟨g2, by rw [g3]; exact h2⟩
def preA (c : Cf) (v a : Nat) : Nat := if a = 9 then v else wth v (a / 3) (sendS c (a / 3) (prt v (a / 3)) (a % 3))
theorem preA_lt {c : Cf} (hc : Ck c) {v a : Nat} (hv : v < 64) (ha : isA c a) : preA c v a < 64 := by
  unfold preA
  split
  · exact hv
  · rename_i h9
    obtain ⟨h1, h2, h3, -⟩ := act3 hc ha h9
    exact (wthK _ h2 _ (sendS_lt hc h1 (prt_lt _ _) (by omega)) _ hv).1
def aOf (c : Cf) (j : Nat) : Nat := if j < 3 * c.1 then j else 9
theorem aOf_is (c : Cf) (j : Nat) : isA c (aOf c j) := by
  unfold aOf isA
  split
  · exact Or.inl (by assumption)
  · exact Or.inr rfl
theorem aOf_inv {c : Cf} {a : Nat} (h : isA c a) : ∃ j, j ≤ 3 * c.1 ∧ aOf c j = a := by
  rcases h with h | h
  · exact ⟨a, by omega, if_pos h⟩
  · exact ⟨3 * c.1, Nat.le_refl _, by rw [h]; exact if_neg (by omega)⟩
theorem s_X1_sent_L34 {c : Cf} {X : Int64} {j hi t : Nat} {σ : ST} {K Q : Int64 → ST → Prop} (hc : Ck c) (hR : RO c σ) (hj : j < 3 * c.1) (hhi : hi < 100) : ∀ (d s : Nat) (x : Int64), s + d = 4 → (∀ x', (∀ u, u < 64 → (bt x' u = true ↔ (bt x u = true ∨ ∃ v, v < 64 ∧ bt X v = true ∧ s ≤ prt v (j / 3) ∧ preA c v j = u))) → K x' σ) → wp_X1_sent_L34 X (nI hi) (nI t) (nI j) K Q (d + 1) x (nI s) σ := by
  have h3 := hc.1
  have hjk : j / 3 < c.1 := by omega
  intro d
  induction d with
  | zero =>
    intro s x hs h
    unfold wp_X1_sent_L34
    rw [l4, nle (by omega) (by omega)]
    refine ⟨fun _ => h x (fun u _ => ⟨fun q => Or.inl q, fun q => ?_⟩), fun q => absurd (by omega) q⟩
    rcases q with q | ⟨v, q1, q2, q3, q4⟩
    · exact q
    · have := prt_lt v (j / 3); omega
  | succ d ih =>
    intro s x hs h
    unfold wp_X1_sent_L34
    have e := ((hR.2.2 _ hjk).2.2 (j % 3) (by omega) s (by omega)).1
    have e2 : 4 * (3 * (j / 3) + j % 3) + s = 4 * j + s := by omega
    rw [e2] at e
    have e3 : (nI j / 3 : Int32) = nI (j / 3) := by rw [l3, pk_div (by omega) (by omega) (by omega)]
    have hsl := sendS_lt hc hjk (show s < 4 by omega) (show j % 3 < 4 by omega)
    rw [l4, nle (by omega) (by omega), pk_mul, nI_add, ncl (by omega), e, e3, nI_1]
    refine ⟨fun q => absurd q (by omega), fun _ => ⟨nvi (by omega) (by omega), s_X1_moved (by omega) (by omega) hsl (fun y hy => ih (s + 1) _ (by omega) (fun x' hx' => h x' (fun u hu => (hx' u hu).trans ?_)))⟩⟩
    rw [bt_or, Bool.or_eq_true, hy u hu, mv_iff (by omega) hsl hu s (by omega)]
    have pe : ∀ v, preA c v j = wth v (j / 3) (sendS c (j / 3) (prt v (j / 3)) (j % 3)) := fun v => if_neg (by omega)
    constructor
    · rintro ((q | ⟨v, q1, q2, q3, q4⟩) | ⟨v, q1, q2, q3, q4⟩)
      · exact Or.inl q
      · exact Or.inr ⟨v, q1, q2, by omega, by rw [pe, q3]; exact q4⟩
      · exact Or.inr ⟨v, q1, q2, by omega, q4⟩
    · rintro (q | ⟨v, q1, q2, q3, q4⟩)
      · exact Or.inl (Or.inl q)
      · by_cases z : prt v (j / 3) = s
        · rw [pe, z] at q4
          exact Or.inl (Or.inr ⟨v, q1, q2, z, q4⟩)
        · exact Or.inr ⟨v, q1, q2, by omega, q4⟩
theorem s_X1_sent_L6 {c : Cf} {X : Int64} {hi t : Nat} {σ : ST} {K Q : Int64 → ST → Prop} (hc : Ck c) (hR : RO c σ) (hhi : hi ≤ 3 * c.1) : ∀ (d j : Nat) (x : Int64), j + d = hi + 1 → (∀ x', (∀ u, u < 64 → (bt x' u = true ↔ (bt x u = true ∨ ∃ v, v < 64 ∧ bt X v = true ∧ ∃ j', j ≤ j' ∧ j' ≤ hi ∧ preA c v (aOf c j') = u))) → K x' σ) → wp_X1_sent_L6 X (nI hi) (nI t) K Q (d + 1) x (nI j) σ := by
  have h3 := hc.1
  intro d
  induction d with
  | zero =>
    intro j x hj h
    unfold wp_X1_sent_L6
    rw [nlt (by omega) (by omega)]
    refine ⟨fun _ => h x (fun u _ => ⟨fun q => Or.inl q, fun q => ?_⟩), fun q => absurd (by omega) q⟩
    rcases q with q | ⟨v, q1, q2, j', q3, q4, -⟩
    · exact q
    · omega
  | succ d ih =>
    intro j x hj h
    unfold wp_X1_sent_L6
    rw [hR.1, nlt (by omega) (by omega), nlt (by omega) (by omega), nI_1]
    refine ⟨fun q => absurd q (by omega), fun _ => ⟨fun q => ⟨5, ?_⟩, fun q => ?_⟩⟩
    · refine s_X1_sent_L34 hc hR q (by omega) 4 0 x (by omega) (fun x1 hx1 => ih (j + 1) _ (by omega) (fun x' hx' => h x' (fun u hu => (hx' u hu).trans ?_)))
      have ae : aOf c j = j := if_pos q
      rw [hx1 u hu]
      constructor
      · rintro ((z | ⟨v, z1, z2, -, z4⟩) | ⟨v, z1, z2, j', z3, z4⟩)
        · exact Or.inl z
        · exact Or.inr ⟨v, z1, z2, j, Nat.le_refl _, by omega, by rw [ae]; exact z4⟩
        · exact Or.inr ⟨v, z1, z2, j', by omega, z4⟩
      · rintro (z | ⟨v, z1, z2, j', z3, z4, z5⟩)
        · exact Or.inl (Or.inl z)
        · by_cases e : j' = j
          · subst e; rw [ae] at z5; exact Or.inl (Or.inr ⟨v, z1, z2, Nat.zero_le _, z5⟩)
          · exact Or.inr ⟨v, z1, z2, j', by omega, z4, z5⟩
    · refine ih (j + 1) _ (by omega) (fun x' hx' => h x' (fun u hu => (hx' u hu).trans ?_))
      have ae : ∀ v, preA c v (aOf c j) = v := fun v => by
        have e9 : aOf c j = 9 := if_neg q
        rw [e9]; exact if_pos rfl
      rw [bt_or, Bool.or_eq_true]
      constructor
      · rintro ((z | z) | ⟨v, z1, z2, j', z3, z4⟩)
        · exact Or.inl z
        · exact Or.inr ⟨u, hu, z, j, Nat.le_refl _, by omega, ae u⟩
        · exact Or.inr ⟨v, z1, z2, j', by omega, z4⟩
      · rintro (z | ⟨v, z1, z2, j', z3, z4, z5⟩)
        · exact Or.inl (Or.inl z)
        · by_cases e : j' = j
          · subst e; rw [ae] at z5; subst z5; exact Or.inl (Or.inr z2)
          · exact Or.inr ⟨v, z1, z2, j', by omega, z4, z5⟩
theorem s_X1_sent_L117 {c : Cf} {Y : Int64} {k t : Nat} {σ : ST} {K Q : Int64 → ST → Prop} (hc : Ck c) (hR : RO c σ) (hk : k < c.1) : ∀ (d s : Nat) (x : Int64), s + d = 4 → (∀ x', (∀ u, u < 64 → (bt x' u = true ↔ (bt x u = true ∨ ∃ v, v < 64 ∧ bt Y v = true ∧ s ≤ prt v k ∧ wth v k (c.2.1 k 1) = u))) → K x' σ) → wp_X1_sent_L117 (nI t) (nI k) Y K Q (d + 1) x (nI s) σ := by
  have h3 := hc.1
  have h4 := (hc.2 k hk).2.1
  intro d
  induction d with
  | zero =>
    intro s x hs h
    unfold wp_X1_sent_L117
    rw [l4, nle (by omega) (by omega)]
    refine ⟨fun _ => h x (fun u _ => ⟨fun q => Or.inl q, fun q => ?_⟩), fun q => absurd (by omega) q⟩
    rcases q with q | ⟨v, q1, q2, q3, q4⟩
    · exact q
    · have := prt_lt v k; omega
  | succ d ih =>
    intro s x hs h
    unfold wp_X1_sent_L117
    rw [l4, nle (by omega) (by omega), ncl (by omega), (hR.2.2 k hk).2.1, nI_1]
    refine ⟨fun q => absurd q (by omega), fun _ => ⟨nvi (by omega) (by omega), s_X1_moved (by omega) (by omega) (by omega) (fun y hy => ih (s + 1) _ (by omega) (fun x' hx' => h x' (fun u hu => (hx' u hu).trans ?_)))⟩⟩
    rw [bt_or, Bool.or_eq_true, hy u hu, mv_iff (by omega) (by omega) hu s (by omega)]
    constructor
    · rintro ((q | ⟨v, q1, q2, q3, q4⟩) | ⟨v, q1, q2, q3, q4⟩)
      · exact Or.inl q
      · exact Or.inr ⟨v, q1, q2, by omega, q4⟩
      · exact Or.inr ⟨v, q1, q2, by omega, q4⟩
    · rintro (q | ⟨v, q1, q2, q3, q4⟩)
      · exact Or.inl (Or.inl q)
      · by_cases z : prt v k = s
        · exact Or.inl (Or.inr ⟨v, q1, q2, z, q4⟩)
        · exact Or.inr ⟨v, q1, q2, by omega, q4⟩
theorem s_X1_sent_L82 {c : Cf} {t : Nat} {σ : ST} {Q : Int64 → ST → Prop} (hc : Ck c) (hR : RO c σ) (ht : t < 100000) {P : Nat → Prop} (hP : ∀ v, P v → v < 64) (h : ∀ y, (∀ u, u < 64 → (bt y u = true ↔ ∃ v, P v ∧ clnN c t c.1 v = u)) → Q y σ) : ∀ (d m : Nat) (x : Int64), m + d = c.1 → (∀ u, u < 64 → (bt x u = true ↔ ∃ v, P v ∧ clnN c t m v = u)) → wp_X1_sent_L82 (nI t) Q (d + 1) x (nI m) σ := by
  have h3 := hc.1
  intro d
  induction d with
  | zero =>
    intro m x hm hx
    have : m = c.1 := by omega
    subst this
    unfold wp_X1_sent_L82
    rw [hR.1, l3, pk_mul, nle (by omega) (by omega)]
    exact ⟨fun _ => h x hx, fun q => absurd (by omega) q⟩
  | succ d ih =>
    intro m x hm hx
    unfold wp_X1_sent_L82
    rw [hR.1, l3, pk_mul, nle (by omega) (by omega), nI_1]
    refine ⟨fun q => absurd q (by omega), fun _ => s_X1_isCleaned hc hR (show m < c.1 by omega) ht ?_⟩
    have ce : ∀ v, clnN c t (m + 1) v = if clB c m t then wth (clnN c t m v) m (c.2.1 m 1) else clnN c t m v := fun v => rfl
    cases e : clB c m t with
    | true =>
      refine ⟨fun _ => ⟨5, s_X1_sent_L117 hc hR (show m < c.1 by omega) 4 0 0 (by omega) (fun x' hx' => ih (m + 1) x' (by omega) (fun u hu => (hx' u hu).trans ?_))⟩, fun z => absurd z (by decide)⟩
      rw [bt_zero]
      constructor
      · rintro (q | ⟨v, q1, q2, -, q4⟩)
        · exact absurd q (by decide)
        · obtain ⟨v0, z1, z2⟩ := (hx v q1).mp q2
          exact ⟨v0, z1, by rw [ce, e, if_pos rfl, z2]; exact q4⟩
      · rintro ⟨v0, z1, z2⟩
        rw [ce, e, if_pos rfl] at z2
        have hl := clnN_lt hc (t := t) (hP v0 z1) m (by omega)
        exact Or.inr ⟨clnN c t m v0, hl, (hx _ hl).mpr ⟨v0, z1, rfl⟩, Nat.zero_le _, z2⟩
    | false =>
      refine ⟨fun z => absurd rfl z, fun _ => ih (m + 1) x (by omega) (fun u hu => (hx u hu).trans ?_)⟩
      constructor
      · rintro ⟨v0, z1, z2⟩
        exact ⟨v0, z1, by rw [ce, e, if_neg (by decide)]; exact z2⟩
      · rintro ⟨v0, z1, z2⟩
        rw [ce, e, if_neg (by decide)] at z2
        exact ⟨v0, z1, z2⟩
theorem s_X1_sent {c : Cf} {X : Int64} {lo hi t : Nat} {σ : ST} {Q : Int64 → ST → Prop} (hc : Ck c) (hR : RO c σ) (hlo : lo ≤ hi) (hhi : hi ≤ 3 * c.1) (ht : t < 100000) (h : ∀ y, (∀ u, u < 64 → (bt y u = true ↔ ∃ v, v < 64 ∧ bt X v = true ∧ ∃ j, lo ≤ j ∧ j ≤ hi ∧ sentA c v (aOf c j) t = u)) → Q y σ) : wp_X1_sent X (nI lo) (nI hi) (nI t) σ Q := by
  refine ⟨hi + 1 - lo + 1, s_X1_sent_L6 hc hR hhi (hi + 1 - lo) lo 0 (by omega) (fun x' hx' => ⟨c.1 + 1, ?_⟩)⟩
  refine s_X1_sent_L82 hc hR ht (P := fun w => w < 64 ∧ ∃ v, v < 64 ∧ bt X v = true ∧ ∃ j', lo ≤ j' ∧ j' ≤ hi ∧ preA c v (aOf c j') = w) (fun v hv => hv.1) (fun y hy => h y (fun u hu => (hy u hu).trans ?_)) c.1 0 x' (by omega) (fun u hu => (hx' u hu).trans ?_)
  · constructor
    · rintro ⟨w, ⟨z0, v, z1, z2, j, z3, z4, z5⟩, z6⟩
      refine ⟨v, z1, z2, j, z3, z4, ?_⟩
      rw [← z5] at z6
      exact z6
    · rintro ⟨v, z1, z2, j, z3, z4, z5⟩
      exact ⟨preA c v (aOf c j), ⟨preA_lt hc z1 (aOf_is c j), v, z1, z2, j, z3, z4, rfl⟩, z5⟩
  · rw [bt_zero]
    constructor
    · rintro (q | q)
      · exact absurd q (by decide)
      · exact ⟨u, ⟨hu, q⟩, rfl⟩
    · rintro ⟨w, ⟨z0, q⟩, z⟩
      have z : w = u := z
      subst z
      exact Or.inr q
theorem s_X1_sentAll {c : Cf} {X : Int64} {t : Nat} {σ : ST} {Q : Int64 → ST → Prop} (hc : Ck c) (hR : RO c σ) (ht : t < 100000) (h : Q (sprF c X t) σ) : wp_X1_sent X 0 (nI (3 * c.1)) (nI t) σ Q := by
  refine s_X1_sent (lo := 0) hc hR (Nat.zero_le _) (Nat.le_refl _) ht (fun y hy => ?_)
  have e : y = sprF c X t := bt_eqP (fun u hu => (hy u hu).trans ?_)
  · rw [e]; exact h
  · constructor
    · rintro ⟨v, z1, z2, j, -, -, z5⟩
      exact ⟨v, z1, z2, aOf c j, aOf_is c j, z5⟩
    · rintro ⟨v, z1, z2, a, z3, z4⟩
      obtain ⟨j, j1, j2⟩ := aOf_inv z3
      exact ⟨v, z1, z2, j, Nat.zero_le _, j1, by rw [j2]; exact z4⟩
