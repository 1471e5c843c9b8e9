/-! ===== PURE: the first row of acts of the sender ===== -/
def LD (c : Cf) (P : Nat → Nat × Nat) : Nat → Nat → Nat → Prop
  | 0, _, _ => True
  | d + 1, t, v => ∃ a, isA c a ∧ toldA c (sentA c v a t) (P t).1 = (P t).2 ∧ LD c P d (t + 1) (heardA c (sentA c v a t) (P t).1)
def LC (c : Cf) (P : Nat → Nat × Nat) (d t v a : Nat) : Prop := toldA c (sentA c v a t) (P t).1 = (P t).2 ∧ LD c P d (t + 1) (heardA c (sentA c v a t) (P t).1)
theorem LD_congr {c : Cf} {P P' : Nat → Nat × Nat} : ∀ d t v, (∀ u, t ≤ u → P u = P' u) → (LD c P d t v ↔ LD c P' d t v) := by
  intro d
  induction d with
  | zero => intro t v _; exact Iff.rfl
  | succ d ih =>
    intro t v h
    unfold LD
    rw [h t (Nat.le_refl _)]
    constructor
    · rintro ⟨a, h1, h2, h3⟩
      exact ⟨a, h1, h2, (ih (t + 1) _ (fun u hu => h u (by omega))).mp h3⟩
    · rintro ⟨a, h1, h2, h3⟩
      exact ⟨a, h1, h2, (ih (t + 1) _ (fun u hu => h u (by omega))).mpr h3⟩
theorem pR_spec {c : Cf} (hc : Ck c) {d t : Nat} {X : Int64} {i : Nat} (hX : X ≠ 0) (hi : i < mostF c (d + 1) t X) : pR c d t (sprF c X t) i < 4 ∧ pSum c d t (sprF c X t) (pR c d t (sprF c X t) i) ≤ i ∧ i < pSum c d t (sprF c X t) (pR c d t (sprF c X t) i + 1) := by
  have p4 := pSum4 c d t (sprF c X t)
  rw [(best (d := d) (t := t) hc hX).2.1] at p4
  have z0 : pSum c d t (sprF c X t) 0 = 0 := rfl
  unfold pR
  split
  · exact ⟨by omega, by omega, by assumption⟩
  · split
    · exact ⟨by omega, by omega, by assumption⟩
    · split
      · exact ⟨by omega, by omega, by assumption⟩
      · exact ⟨by omega, by omega, by show i < pSum c d t (sprF c X t) 4; omega⟩
theorem pth_LD {c : Cf} (hc : Ck c) : ∀ d t X i, i < mostF c d t X → ∃ v, v < 64 ∧ bt X v = true ∧ LD c (pth c d t X i) d t v := by
  intro d
  induction d with
  | zero =>
    intro t X i hi
    unfold mostF at hi
    have hX : X ≠ 0 := by
      intro q; rw [if_pos q] at hi; exact absurd hi (Nat.not_lt_zero i)
    obtain ⟨v, v1, v2⟩ := ne0_iff.mp hX
    exact ⟨v, v1, v2, trivial⟩
  | succ d ih =>
    intro t X i hi
    have hX : X ≠ 0 := by
      intro q; rw [q, mostF_zero] at hi; exact absurd hi (Nat.not_lt_zero i)
    obtain ⟨r1, r2, r3⟩ := pR_spec hc hX hi
    have es : pSum c d t (sprF c X t) (pR c d t (sprF c X t) i + 1) = pSum c d t (sprF c X t) (pR c d t (sprF c X t) i) + mostF c d (t + 1) (parF c (sprF c X t) (bA c d t (sprF c X t)) (pR c d t (sprF c X t) i)) := rfl
    obtain ⟨v', w1, w2, w3⟩ := ih (t + 1) _ (i - pSum c d t (sprF c X t) (pR c d t (sprF c X t) i)) (show _ < mostF c d (t + 1) (parF c (sprF c X t) (bA c d t (sprF c X t)) (pR c d t (sprF c X t) i)) by omega)
    obtain ⟨s, s1, s2, s3, s4⟩ := (bt_ofP _ w1).mp w2
    obtain ⟨v, v1, v2, a, a1, a2⟩ := (bt_ofP _ s1).mp s2
    refine ⟨v, v1, v2, a, a1, ?_, ?_⟩
    · rw [pth_at, a2]; exact s3
    · rw [pth_at, a2]
      dsimp only
      rw [s4]
      refine (LD_congr d (t + 1) v' (fun u hu => ?_)).mpr w3
      exact pth_ne (by omega)
noncomputable def wI (c : Cf) (P : Nat → Nat × Nat) (d t v : Nat) : Nat := lst (fun j => @decide (LC c P d t v (aOf c j)) (Classical.propDecidable _)) (3 * c.1) (3 * c.1)
theorem wI_spec {c : Cf} {P : Nat → Nat × Nat} {d t v : Nat} (h : LD c P (d + 1) t v) : wI c P d t v ≤ 3 * c.1 ∧ LC c P d t v (aOf c (wI c P d t v)) ∧ ∀ j, j < wI c P d t v → ¬ LC c P d t v (aOf c j) := by
  unfold wI
  rcases lst_spec (fun j => @decide (LC c P d t v (aOf c j)) (Classical.propDecidable _)) (3 * c.1) (3 * c.1) (Nat.le_refl _) with ⟨h1, h2, h3⟩ | ⟨h1, h2⟩
  · refine ⟨by omega, ?_, fun j hj q => ?_⟩
    · exact @of_decide_eq_true _ (Classical.propDecidable _) h2
    · have h4 := h3 j hj
      rw [@decide_eq_true _ (Classical.propDecidable _) q] at h4
      exact absurd h4 (by decide)
  · rw [h1]
    have hno : ∀ j, j < 3 * c.1 → ¬ LC c P d t v (aOf c j) := fun j hj q => by
      have h4 := h2 j hj
      rw [@decide_eq_true _ (Classical.propDecidable _) q] at h4
      exact absurd h4 (by decide)
    refine ⟨Nat.le_refl _, ?_, hno⟩
    obtain ⟨a, a1, a2, a3⟩ := h
    obtain ⟨j, j1, j2⟩ := aOf_inv a1
    by_cases q : j = 3 * c.1
    · rw [← q, j2]; exact ⟨a2, a3⟩
    · exact absurd (by rw [j2]; exact ⟨a2, a3⟩) (hno j (by omega))
noncomputable def wsh (c : Cf) (P : Nat → Nat × Nat) : Nat → Nat → Nat → Nat → Nat
  | 0, _, _, _ => 9
  | d + 1, t, v, u => if u = t then aOf c (wI c P d t v) else wsh c P d (t + 1) (heardA c (sentA c v (aOf c (wI c P d t v)) t) (P t).1) u
/-! the judge's -/
theorem aOf_self {c : Cf} {a : Nat} (h : isA c a) : aOf c a = a := by
  rcases h with h | h
  · exact if_pos h
  · subst h
    unfold aOf
    split <;> rfl
def RWS (n k i : Nat) (P : Nat → Nat × Nat) (σ : ST) : Prop := ∀ u, u < n → σ.2.2.1 (35 + 4 * k) (9 * i + 3 * u) = nI (P u).1 ∧ σ.2.2.1 (35 + 4 * k) (9 * i + 3 * u + 1) = nI (P u).2
def PK (c : Cf) (n : Nat) (P : Nat → Nat × Nat) : Prop := ∀ u, u < n → isA c (P u).1 ∧ (P u).2 < 4
theorem s_X3_leads {c : Cf} {n k i : Nat} {P : Nat → Nat × Nat} {σ : ST} {Q : Int32 → ST → Prop} (hc : Ck c) (hR : RO c σ) (hn : n ≤ 3) (hi : i < 64) (hw : σ.1 (34 + 4 * k) 3 = nI n) (hP : PK c n P) (hr : RWS n k i P σ) : ∀ (d u : Nat) (X : Int64), u + d = n → ((∃ v, v < 64 ∧ bt X v = true ∧ LD c P d u v) → Q 1 σ) → (¬ (∃ v, v < 64 ∧ bt X v = true ∧ LD c P d u v) → Q 0 σ) → wp_X3_leads_L7 k (nI i) Q (d + 1) X (nI u) σ := by
  have h3 := hc.1
  intro d
  induction d with
  | zero =>
    intro u X hu q1 q0
    have : u = n := by omega
    subst this
    unfold wp_X3_leads_L7
    rw [hw, lgc]
    refine ⟨fun _ => ⟨fun z => q0 ?_, fun z => q1 ?_⟩, fun z => absurd (Int32.le_refl _) z⟩
    · rintro ⟨v, v1, v2, -⟩
      exact ne0_iff.mpr ⟨v, v1, v2⟩ z
    · obtain ⟨v, v1, v2⟩ := ne0_iff.mp z
      exact ⟨v, v1, v2, trivial⟩
  | succ d ih =>
    intro u X hu q1 q0
    unfold wp_X3_leads_L7
    rw [hw, lgc, nle (by omega) (by omega), hR.1]
    have hp := hP u (by omega)
    have hl := isA_lt hc hp.1
    refine ⟨fun z => absurd z (by omega), fun _ => ⟨fun z => ⟨fun _ => q0 ?_, fun z2 => absurd z z2⟩, fun z => ?_⟩⟩
    · rintro ⟨v, v1, v2, -⟩
      exact ne0_iff.mpr ⟨v, v1, v2⟩ z
    · refine s_X1_sentAll hc hR (by omega) (s_place ⟨nvi (by omega) (by omega), s_place ?_⟩)
      rw [nI_1, ncl (by omega), ncl (by omega), (hr u (by omega)).1, (hr u (by omega)).2]
      refine ⟨nvi (by omega) (by omega), s_X1_heard hc hR (by omega) hp.2 ?_⟩
      rw [aOf_self hp.1, nI_1]
      have e : (∃ v, v < 64 ∧ bt (parF c (sprF c X u) (P u).1 (P u).2) v = true ∧ LD c P d (u + 1) v) ↔ (∃ v, v < 64 ∧ bt X v = true ∧ LD c P (d + 1) u v) := by
        constructor
        · rintro ⟨v', w1, w2, w3⟩
          obtain ⟨s, s1, s2, s3, s4⟩ := (bt_ofP _ w1).mp w2
          obtain ⟨v, v1, v2, a, a1, a2⟩ := (bt_ofP _ s1).mp s2
          exact ⟨v, v1, v2, a, a1, by rw [a2]; exact s3, by rw [a2, s4]; exact w3⟩
        · rintro ⟨v, v1, v2, a, a1, a2, a3⟩
          have b1 := sentA_lt hc (t := u) v1 a1
          have b2 := heardA_lt hc b1 hp.1
          exact ⟨_, b2, (bt_ofP _ b2).mpr ⟨_, b1, (bt_ofP _ b1).mpr ⟨v, v1, v2, a, a1, rfl⟩, a2, rfl⟩, a3⟩
      exact ih (u + 1) _ (by omega) (fun z => q1 (e.mp z)) (fun z => q0 (fun y => z (e.mpr y)))
theorem s_X3_step {c : Cf} {n k i j u v : Nat} {P : Nat → Nat × Nat} {X : Int64} {σ : ST} {Q : Int64 → ST → Prop} (hc : Ck c) (hR : RO c σ) (hn : n ≤ 3) (hi : i < 64) (hP : PK c n P) (hr : RWS n k i P σ) (hu : u < n) (hj : j ≤ 3 * c.1) (hv : v < 64) (hX : ∀ w, w < 64 → (bt X w = true ↔ w = v)) (h : ∀ y, (∀ w, w < 64 → (bt y w = true ↔ (toldA c (sentA c v (aOf c j) u) (P u).1 = (P u).2 ∧ heardA c (sentA c v (aOf c j) u) (P u).1 = w))) → Q y σ) : wp_X3_step k X (nI j) (nI i) (nI u) σ Q := by
  have h3 := hc.1
  have hp := hP u hu
  have hl := isA_lt hc hp.1
  unfold wp_X3_step
  refine s_X1_sent hc hR (Nat.le_refl _) hj (by omega) (fun y hy => s_place ⟨nvi (by omega) (by omega), s_place ?_⟩)
  rw [nI_1, ncl (by omega), ncl (by omega), (hr u hu).1, (hr u hu).2]
  refine ⟨nvi (by omega) (by omega), s_X1_heard hc hR (by omega) hp.2 (h _ (fun w hw => ?_))⟩
  rw [aOf_self hp.1]
  refine (bt_ofP _ hw).trans ?_
  constructor
  · rintro ⟨s, s1, s2, s3, s4⟩
    obtain ⟨v', v1, v2, j', j1, j2, j3⟩ := (hy s s1).mp s2
    have e1 := (hX v' v1).mp v2
    have e2 : j' = j := by omega
    rw [e1, e2] at j3
    rw [j3]
    exact ⟨s3, s4⟩
  · rintro ⟨s3, s4⟩
    have b1 := sentA_lt hc (t := u) hv (aOf_is c j)
    exact ⟨_, b1, (hy _ b1).mpr ⟨v, hv, (hX v hv).mpr rfl, j, Nat.le_refl _, Nat.le_refl _, rfl⟩, s3, s4⟩
theorem s_X3_addSenders_L30 {c : Cf} {n k i u d v : Nat} {P : Nat → Nat × Nat} {X : Int64} {σ : ST} {K : Int32 → ST → Prop} {Q : ST → Prop} (hc : Ck c) (hR : RO c σ) (hn : n ≤ 3) (hi : i < 64) (hw : σ.1 (34 + 4 * k) 3 = nI n) (hP : PK c n P) (hr : RWS n k i P σ) (hud : u + (d + 1) = n) (hv : v < 64) (hX : ∀ w, w < 64 → (bt X w = true ↔ w = v)) (hL : LD c P (d + 1) u v) (h : K (nI (wI c P d u v)) σ) : ∀ (e j : Nat), j + e = wI c P d u v → wp_X3_addSenders_L30 k (nI i) X (nI u) K Q (e + 1) (nI j) σ := by
  have h3 := hc.1
  obtain ⟨w1, w2, w3⟩ := wI_spec hL
  have body : ∀ (f j : Nat), j ≤ wI c P d u v → (j < 3 * c.1 → (LC c P d u v (aOf c j) → K (nI j) σ) ∧ (¬ LC c P d u v (aOf c j) → wp_X3_addSenders_L30 k (nI i) X (nI u) K Q f (nI (j + 1)) σ)) → (j = 3 * c.1 → K (nI j) σ) → wp_X3_addSenders_L30 k (nI i) X (nI u) K Q (f + 1) (nI j) σ := by
    intro f j hj g1 g2
    unfold wp_X3_addSenders_L30
    rw [hR.1, nle (by omega) (by omega), nI_1, nI_1]
    refine ⟨fun z => g2 (by omega), fun z => s_X3_step hc hR hn hi hP hr (by omega) (by omega) hv hX (fun y hy => ⟨d + 1, ?_⟩)⟩
    have e : (∃ w, w < 64 ∧ bt y w = true ∧ LD c P d (u + 1) w) ↔ LC c P d u v (aOf c j) := by
      constructor
      · rintro ⟨w, q1, q2, q3⟩
        obtain ⟨q4, q5⟩ := (hy w q1).mp q2
        exact ⟨q4, by rw [q5]; exact q3⟩
      · rintro ⟨q1, q2⟩
        have b1 := sentA_lt hc (t := u) hv (aOf_is c j)
        have b2 := heardA_lt hc b1 (hP u (by omega)).1
        exact ⟨_, b2, (hy _ b2).mpr ⟨q1, rfl⟩, q2⟩
    obtain ⟨g3, g4⟩ := g1 (by omega)
    exact s_X3_leads hc hR hn hi hw hP hr d (u + 1) y (by omega) (fun q => ⟨fun _ => g3 (e.mp q), fun z => absurd z (by decide)⟩) (fun q => ⟨fun z => absurd rfl z, fun _ => g4 (fun z => q (e.mpr z))⟩)
  intro e
  induction e with
  | zero =>
    intro j hj
    have : j = wI c P d u v := by omega
    subst this
    exact body 0 _ (Nat.le_refl _) (fun _ => ⟨fun _ => h, fun z => absurd w2 z⟩) (fun _ => h)
  | succ e ih =>
    intro j hj
    exact body (e + 1) j (by omega) (fun _ => ⟨fun z => absurd z (w3 j (by omega)), fun _ => ih (j + 1) (by omega)⟩) (fun z => absurd z (by omega))
