/-! ===== PURE: rows of letters ===== -/
theorem rS (σ : ST) (q i : Nat) (v : Int32) : (sR σ q i v).2.2.1 q i = v := by simp [sR, upd]
theorem rP (σ : ST) (q i : Nat) (v : Int32) {p : Nat} (h : p ≠ q) : (sR σ q i v).2.2.1 p = σ.2.2.1 p := by simp [sR, h]
theorem rI (σ : ST) (q i : Nat) (v : Int32) (p : Nat) {j : Nat} (h : j ≠ i) : (sR σ q i v).2.2.1 p j = σ.2.2.1 p j := by
  by_cases e : p = q
  · simp [sR, upd, e, h]
  · rw [rP σ q i v e]
theorem mxJ_ge {f : Nat → Nat} {j m : Nat} (h : j < m) : f j ≤ mxJ f m := by
  induction m with
  | zero => omega
  | succ m ih =>
    unfold mxJ
    by_cases e : j = m
    · subst e; split <;> omega
    · have := ih (by omega)
      split <;> omega
def bJ (f : Nat → Nat) : Nat → Nat
  | 0 => 0
  | m + 1 => if mxJ f m < f m then m else bJ f m
theorem bJ_spec (f : Nat → Nat) : ∀ m, 0 < mxJ f m → bJ f m < m ∧ f (bJ f m) = mxJ f m ∧ ∀ j, j < bJ f m → f j < mxJ f m := by
  intro m
  induction m with
  | zero => intro h; exact absurd h (Nat.lt_irrefl 0)
  | succ m ih =>
    intro h
    have eb : bJ f (m + 1) = if mxJ f m < f m then m else bJ f m := rfl
    have em : mxJ f (m + 1) = if mxJ f m < f m then f m else mxJ f m := rfl
    rw [em] at h
    rw [eb, em]
    by_cases q : mxJ f m < f m
    · simp only [if_pos q]
      exact ⟨by omega, by first | rfl | trivial, fun j hj => Nat.lt_of_le_of_lt (mxJ_ge hj) q⟩
    · rw [if_neg q] at h
      simp only [if_neg q]
      obtain ⟨h1, h2, h3⟩ := ih h
      exact ⟨by omega, h2, h3⟩
theorem bJ_le (f : Nat → Nat) : ∀ m, bJ f m ≤ m := by
  intro m
  induction m with
  | zero => exact Nat.le_refl _
  | succ m ih => unfold bJ; split <;> omega
noncomputable def bI (c : Cf) (d t : Nat) (S : Int64) : Nat := bJ (fun j => byF c d t S (aOf c j)) (3 * c.1 + 1)
noncomputable def bA (c : Cf) (d t : Nat) (S : Int64) : Nat := aOf c (bI c d t S)
noncomputable def pSum (c : Cf) (d t : Nat) (S : Int64) : Nat → Nat
  | 0 => 0
  | r + 1 => pSum c d t S r + mostF c d (t + 1) (parF c S (bA c d t S) r)
noncomputable def pR (c : Cf) (d t : Nat) (S : Int64) (i : Nat) : Nat := if i < pSum c d t S 1 then 0 else if i < pSum c d t S 2 then 1 else if i < pSum c d t S 3 then 2 else 3
noncomputable def pth (c : Cf) : Nat → Nat → Int64 → Nat → Nat → Nat × Nat
  | 0, _, _, _, _ => (9, 0)
  | d + 1, t, X, i, u => if u = t then (bA c d t (sprF c X t), pR c d t (sprF c X t) i) else pth c d (t + 1) (parF c (sprF c X t) (bA c d t (sprF c X t)) (pR c d t (sprF c X t) i)) (i - pSum c d t (sprF c X t) (pR c d t (sprF c X t) i)) u
theorem pR_is {c : Cf} {d t : Nat} {S : Int64} {i r : Nat} (hr : r < 4) (h1 : pSum c d t S r ≤ i) (h2 : i < pSum c d t S (r + 1)) : pR c d t S i = r := by
  have a1 : pSum c d t S 1 ≤ pSum c d t S 2 := Nat.le_add_right _ _
  have a2 : pSum c d t S 2 ≤ pSum c d t S 3 := Nat.le_add_right _ _
  unfold pR
  rcases (by omega : r = 0 ∨ r = 1 ∨ r = 2 ∨ r = 3) with e | e | e | e <;> subst e
  · rw [if_pos h2]
  · rw [if_neg (by omega), if_pos h2]
  · rw [if_neg (by omega), if_neg (by omega), if_pos h2]
  · rw [if_neg (by omega), if_neg (by omega), if_neg (by omega)]
theorem mostF_pos {c : Cf} (hc : Ck c) : ∀ d t X, X ≠ 0 → 0 < mostF c d t X := by
  intro d
  induction d with
  | zero => intro t X h; unfold mostF; rw [if_neg h]; omega
  | succ d ih =>
    intro t X h
    rw [mostF_J hc h]
    have hS := sprF_ne (t := t) hc h
    have h1 := mxJ_ge (f := fun j => byF c d t (sprF c X t) (aOf c j)) (show 3 * c.1 < 3 * c.1 + 1 by omega)
    refine Nat.lt_of_lt_of_le ?_ h1
    show 0 < byF c d t (sprF c X t) (aOf c (3 * c.1))
    rw [show aOf c (3 * c.1) = 9 from if_neg (by omega)]
    have hp : parF c (sprF c X t) 9 0 ≠ 0 := by
      rw [parF_ne hc (Or.inr rfl)]
      obtain ⟨v, v1, v2⟩ := ne0_iff.mp hS
      exact ⟨v, v1, v2, if_pos rfl⟩
    have := ih (t + 1) _ hp
    unfold byF
    omega
theorem best {c : Cf} (hc : Ck c) {d t : Nat} {X : Int64} (hX : X ≠ 0) : bI c d t (sprF c X t) ≤ 3 * c.1 ∧ byF c d t (sprF c X t) (bA c d t (sprF c X t)) = mostF c (d + 1) t X ∧ ∀ j, j < bI c d t (sprF c X t) → byF c d t (sprF c X t) (aOf c j) < mostF c (d + 1) t X := by
  have h := mostF_pos hc (d + 1) t X hX
  rw [mostF_J hc hX] at h ⊢
  obtain ⟨h1, h2, h3⟩ := bJ_spec _ _ h
  exact ⟨by unfold bI; omega, h2, h3⟩
theorem pSum4 (c : Cf) (d t : Nat) (S : Int64) : pSum c d t S 4 = byF c d t S (bA c d t S) := by
  simp only [pSum, byF, Nat.zero_add]
theorem pth_at {c : Cf} {d t : Nat} {X : Int64} {i : Nat} : pth c (d + 1) t X i t = (bA c d t (sprF c X t), pR c d t (sprF c X t) i) := if_pos rfl
theorem pth_ne {c : Cf} {d t : Nat} {X : Int64} {i u : Nat} (h : u ≠ t) : pth c (d + 1) t X i u = pth c d (t + 1) (parF c (sprF c X t) (bA c d t (sprF c X t)) (pR c d t (sprF c X t) i)) (i - pSum c d t (sprF c X t) (pR c d t (sprF c X t) i)) u := if_neg h
/-! the judge's rows grow -/
def FrW (k : Nat) (σ σ' : ST) : Prop := (∀ q s, q ≠ 34 + 4 * k ∨ s ≠ 4 → σ'.1 q s = σ.1 q s) ∧ σ'.2.1 = σ.2.1 ∧ σ'.2.2.2 = σ.2.2.2 ∧ ∀ q, q ≠ 35 + 4 * k → q ≠ 36 + 4 * k → q ≠ 37 + 4 * k → σ'.2.2.1 q = σ.2.2.1 q
theorem FrW.rf (k : Nat) (σ : ST) : FrW k σ σ := ⟨fun _ _ _ => rfl, rfl, rfl, fun _ _ _ _ => rfl⟩
theorem FrW.tr {k : Nat} {σ σ1 σ2 : ST} (h : FrW k σ σ1) (g : FrW k σ1 σ2) : FrW k σ σ2 := ⟨fun q s z => (g.1 q s z).trans (h.1 q s z), g.2.1.trans h.2.1, g.2.2.1.trans h.2.2.1, fun q a b d => (g.2.2.2 q a b d).trans (h.2.2.2 q a b d)⟩
theorem FrW.arr {k : Nat} (σ : ST) {q : Nat} (i : Nat) (v : Int32) (h : q = 35 + 4 * k ∨ q = 36 + 4 * k ∨ q = 37 + 4 * k) : FrW k σ (sR σ q i v) := ⟨fun _ _ _ => rfl, rfl, rfl, fun p a b d => rP σ q i v (by omega)⟩
theorem RO.frW {c : Cf} {k : Nat} {σ σ' : ST} (h : RO c σ) (f : FrW k σ σ') : RO c σ' := by
  refine ⟨by rw [f.1 10 5 (Or.inl (by omega))]; exact h.1, by rw [f.2.1]; exact h.2.1, ?_⟩
  rw [f.2.2.2 14 (by omega) (by omega) (by omega), f.2.2.2 15 (by omega) (by omega) (by omega), f.2.2.2 11 (by omega) (by omega) (by omega), f.2.2.2 12 (by omega) (by omega) (by omega), f.2.2.2 13 (by omega) (by omega) (by omega)]
  exact h.2.2
def GPre (c : Cf) (n k t m : Nat) (A : Nat → Nat × Nat) (σ : ST) : Prop := RO c σ ∧ σ.1 (34 + 4 * k) 3 = nI n ∧ σ.1 (34 + 4 * k) 4 = nI m ∧ ∀ u, u < t → σ.2.2.1 (36 + 4 * k) u = nI (A u).1 ∧ σ.2.2.1 (37 + 4 * k) u = nI (A u).2
def GPost (n k t m N : Nat) (P : Nat → Nat → Nat × Nat) (σ σ' : ST) : Prop := FrW k σ σ' ∧ σ'.1 (34 + 4 * k) 4 = nI (m + N) ∧ (∀ u, u < t → σ'.2.2.1 (36 + 4 * k) u = σ.2.2.1 (36 + 4 * k) u ∧ σ'.2.2.1 (37 + 4 * k) u = σ.2.2.1 (37 + 4 * k) u) ∧ (∀ p, p < 9 * m → σ'.2.2.1 (35 + 4 * k) p = σ.2.2.1 (35 + 4 * k) p) ∧ ∀ i, i < N → ∀ u, u < n → σ'.2.2.1 (35 + 4 * k) (9 * (m + i) + 3 * u) = nI (P i u).1 ∧ σ'.2.2.1 (35 + 4 * k) (9 * (m + i) + 3 * u + 1) = nI (P i u).2
theorem s_place {i t : Nat} {σ : ST} {Q : Int32 → ST → Prop} (h : Q (nI (9 * i + 3 * t)) σ) : wp_X3_place (nI i) (nI t) σ Q := by
  unfold wp_X3_place
  rw [l3, pk_mul, nI_add, pk_mul, show 3 * (3 * i + t) = 9 * i + 3 * t by omega]
  exact h
theorem s_X3_addLetter {c : Cf} {n k m : Nat} {A : Nat → Nat × Nat} {σ : ST} {Q : ST → Prop} (hn : n ≤ 3) (hm : m < 64) (hP : GPre c n k n m A σ) (h : ∀ σ', GPost n k n m 1 (fun _ u => A u) σ σ' → Q σ') : wp_X3_addLetter k σ Q := by
  unfold wp_X3_addLetter
  rw [hP.2.2.1, l64, nlt (by omega) (by omega)]
  refine ⟨fun _ => ⟨n + 1, ?_⟩, fun z => absurd hm z⟩
  have key : ∀ (d u : Nat) (σ1 : ST), u + d = n → FrW k σ σ1 → σ1.1 (34 + 4 * k) 4 = nI m → σ1.2.2.1 (36 + 4 * k) = σ.2.2.1 (36 + 4 * k) → σ1.2.2.1 (37 + 4 * k) = σ.2.2.1 (37 + 4 * k) → (∀ p, p < 9 * m → σ1.2.2.1 (35 + 4 * k) p = σ.2.2.1 (35 + 4 * k) p) → (∀ w, w < u → σ1.2.2.1 (35 + 4 * k) (9 * m + 3 * w) = nI (A w).1 ∧ σ1.2.2.1 (35 + 4 * k) (9 * m + 3 * w + 1) = nI (A w).2) → wp_X3_addLetter_L12 k (fun σ11 => (∀ σ12, σ12 = sI σ11 (34 + 4 * k) 4 ((σ11.1 (34 + 4 * k) 4) + 1) → Q σ12)) Q (d + 1) (nI u) σ1 := by
    intro d
    induction d with
    | zero =>
      intro u σ1 hu hF hm1 e6 e7 e5 e8
      have : u = n := by omega
      subst this
      unfold wp_X3_addLetter_L12
      rw [hF.1 _ 3 (Or.inr (by omega)), hP.2.1, nle (by omega) (by omega)]
      refine ⟨fun _ σ12 e12 => ?_, fun z => absurd (Nat.le_refl _) z⟩
      subst e12
      refine h _ ⟨hF.tr ⟨fun q s z => ?_, rfl, rfl, fun _ _ _ _ => rfl⟩, ?_, fun w hw => ?_, e5, fun i hi w hw => ?_⟩
      · show (if q = 34 + 4 * k ∧ s = 4 then _ else σ1.1 q s) = _
        rw [if_neg (by omega)]
      · show (if 34 + 4 * k = 34 + 4 * k ∧ 4 = 4 then _ else _) = _
        rw [if_pos ⟨rfl, rfl⟩, hm1, nI_1]
      · exact ⟨congrFun e6 w, congrFun e7 w⟩
      · have : i = 0 := by omega
        subst this
        exact e8 w hw
    | succ d ih =>
      intro u σ1 hu hF hm1 e6 e7 e5 e8
      unfold wp_X3_addLetter_L12
      rw [hF.1 _ 3 (Or.inr (by omega)), hP.2.1, nle (by omega) (by omega), hm1]
      refine ⟨fun z => absurd z (by omega), fun _ => s_place ⟨nvi (by omega) (by omega), nvi (by omega) (by omega), fun σ5 e => ?_⟩⟩
      rw [ncl (by omega), ncl (by omega)] at e
      subst e
      show wp_X3_place (σ1.1 (34 + 4 * k) 4) _ _ _
      rw [hm1]
      refine s_place ?_
      rw [nI_1]
      refine ⟨nvi (by omega) (by omega), fun σ9 e => ?_⟩
      rw [ncl (by omega), ncl (by omega)] at e
      subst e
      rw [nI_1]
      have a6 : σ1.2.2.1 (36 + 4 * k) u = nI (A u).1 := (congrFun e6 u).trans (hP.2.2.2 u (by omega)).1
      have a7 : σ1.2.2.1 (37 + 4 * k) u = nI (A u).2 := (congrFun e7 u).trans (hP.2.2.2 u (by omega)).2
      refine ih (u + 1) _ (by omega) (hF.tr ((FrW.arr σ1 _ _ (Or.inl rfl)).tr (FrW.arr _ _ _ (Or.inl rfl)))) hm1 ?_ ?_ (fun p hp => ?_) (fun w hw => ?_)
      · rw [rP _ _ _ _ (by omega), rP _ _ _ _ (by omega)]; exact e6
      · rw [rP _ _ _ _ (by omega), rP _ _ _ _ (by omega)]; exact e7
      · rw [rI _ _ _ _ _ (by omega), rI _ _ _ _ _ (by omega)]; exact e5 p hp
      · by_cases z : w = u
        · subst z
          refine ⟨?_, ?_⟩
          · rw [rI _ _ _ _ _ (by omega), rS]; exact a6
          · rw [rS, rP _ _ _ _ (by omega)]; exact a7
        · rw [rI _ _ _ _ _ (by omega), rI _ _ _ _ _ (by omega), rI _ _ _ _ _ (by omega), rI _ _ _ _ _ (by omega)]
          exact e8 w (by omega)
  exact key n 0 σ (by omega) (FrW.rf k σ) hP.2.2.1 rfl rfl (fun _ _ => rfl) (fun w hw => absurd hw (by omega))
