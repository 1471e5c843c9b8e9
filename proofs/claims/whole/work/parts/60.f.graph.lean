/-! ===== PURE: the shortest telling path, and the queue that finds it ===== -/
theorem pig : ∀ (N n : Nat) (f : Nat → Nat), (∀ i, i < n → f i < N) → (∀ i j, i < n → j < n → f i = f j → i = j) → n ≤ N := by
  intro N
  induction N with
  | zero =>
    intro n f h1 _
    rcases Nat.eq_zero_or_pos n with h | h
    · omega
    · have := h1 0 h; omega
  | succ N ih =>
    intro n f h1 h2
    rcases Nat.eq_zero_or_pos n with h | h
    · omega
    · have h3 : n - 1 ≤ N := by
        by_cases hx : ∃ i, i < n ∧ f i = N
        · obtain ⟨i, hi, e⟩ := hx
          refine ih (n - 1) (fun j => if j = i then f (n - 1) else f j) (fun j hj => ?_) (fun j j2 hj hj2 ej => ?_)
          · show (if j = i then f (n - 1) else f j) < N
            by_cases q : j = i
            · rw [if_pos q]
              have g1 := h1 (n - 1) (by omega)
              have g2 : f (n - 1) ≠ N := fun z => by
                have := h2 (n - 1) i (by omega) hi (z.trans e.symm); omega
              omega
            · rw [if_neg q]
              have g1 := h1 j (by omega)
              have g2 : f j ≠ N := fun z => q (h2 j i (by omega) hi (z.trans e.symm))
              omega
          · by_cases q : j = i
            · by_cases q2 : j2 = i
              · omega
              · rw [if_pos q, if_neg q2] at ej
                have := h2 (n - 1) j2 (by omega) (by omega) ej; omega
            · by_cases q2 : j2 = i
              · rw [if_neg q, if_pos q2] at ej
                have := h2 j (n - 1) (by omega) (by omega) ej; omega
              · rw [if_neg q, if_neg q2] at ej
                exact h2 j j2 (by omega) (by omega) ej
        · refine ih (n - 1) f (fun j hj => ?_) (fun j j2 hj hj2 ej => h2 j j2 (by omega) (by omega) ej)
          have g1 := h1 j (by omega)
          have g2 : f j ≠ N := fun z => hx ⟨j, by omega, z⟩
          omega
      omega
/-- the least number below a bound at which p holds -/
def lst (p : Nat → Bool) : Nat → Nat → Nat
  | 0, d => d
  | n + 1, d => let m := lst p n d; if m < n then m else if p n then n else d
theorem lst_spec (p : Nat → Bool) (d : Nat) : ∀ n, n ≤ d → (lst p n d < n ∧ p (lst p n d) = true ∧ ∀ j, j < lst p n d → p j = false) ∨ (lst p n d = d ∧ ∀ j, j < n → p j = false) := by
  intro n
  induction n with
  | zero => intro _; exact Or.inr ⟨rfl, fun j hj => absurd hj (by omega)⟩
  | succ n ih =>
    intro hd
    unfold lst
    dsimp only
    rcases ih (by omega) with ⟨h1, h2, h3⟩ | ⟨h1, h2⟩
    · rw [if_pos h1]
      exact Or.inl ⟨by omega, h2, h3⟩
    · rw [if_neg (by omega)]
      cases e : p n with
      | true =>
        rw [if_pos rfl]
        exact Or.inl ⟨by omega, e, h2⟩
      | false =>
        rw [if_neg (by decide)]
        refine Or.inr ⟨rfl, fun j hj => ?_⟩
        by_cases q : j = n
        · subst q; exact e
        · exact h2 j (by omega)
section GR
variable (T : Nat → Nat → Bool) (S : Nat → Nat → Nat)
def Tel : Nat → Nat → Bool
  | 0, _ => false
  | r + 1, v => (List.range 64).any (fun e => T v e || Tel r (S v e))
theorem Tel_succ {r v : Nat} : Tel T S (r + 1) v = true ↔ ∃ e, e < 64 ∧ (T v e = true ∨ Tel T S r (S v e) = true) := by
  show ((List.range 64).any (fun e => T v e || Tel T S r (S v e))) = true ↔ _
  rw [List.any_eq_true]
  constructor
  · rintro ⟨e, h1, h2⟩
    exact ⟨e, List.mem_range.mp h1, by simpa using h2⟩
  · rintro ⟨e, h1, h2⟩
    exact ⟨e, List.mem_range.mpr h1, by simpa using h2⟩
theorem Tel_mono {r : Nat} : ∀ {v : Nat}, Tel T S r v = true → Tel T S (r + 1) v = true := by
  induction r with
  | zero => intro v h; exact absurd h (by simp [Tel])
  | succ r ih =>
    intro v h
    obtain ⟨e, h1, h2⟩ := (Tel_succ T S).mp h
    refine (Tel_succ T S).mpr ⟨e, h1, ?_⟩
    rcases h2 with h2 | h2
    · exact Or.inl h2
    · exact Or.inr (ih h2)
theorem Tel_le {r r' v : Nat} (h : r ≤ r') (ht : Tel T S r v = true) : Tel T S r' v = true := by
  induction r' with
  | zero =>
    have : r = 0 := by omega
    subst this; exact ht
  | succ r' ih =>
    by_cases e : r = r' + 1
    · subst e; exact ht
    · exact Tel_mono T S (ih (by omega))
/-- exactly so far -/
def Dx (r v : Nat) : Prop := Tel T S r v = true ∧ ∀ j, j < r → Tel T S j v = false
theorem Dx_uniq {r r' v : Nat} (h : Dx T S r v) (h' : Dx T S r' v) : r = r' := by
  rcases Nat.lt_trichotomy r r' with q | q | q
  · have := h'.2 r q; rw [h.1] at this; cases this
  · exact q
  · have := h.2 r' q; rw [h'.1] at this; cases this
theorem Dx_ex {r v : Nat} (h : Tel T S r v = true) : ∃ r', r' ≤ r ∧ Dx T S r' v := by
  rcases lst_spec (fun j => Tel T S j v) (r + 1) (r + 1) (Nat.le_refl _) with ⟨h1, h2, h3⟩ | ⟨_, h2⟩
  · exact ⟨_, by omega, h2, h3⟩
  · have := h2 r (by omega)
    rw [h] at this; cases this
variable (hS : ∀ v, v < 64 → ∀ e, e < 64 → S v e < 64)
theorem Dx_chain {r : Nat} : ∀ {v : Nat}, v < 64 → (∀ v, v < 64 → ∀ e, e < 64 → S v e < 64) → Dx T S r v → ∃ f : Nat → Nat, ∀ i, 1 ≤ i → i ≤ r → f i < 64 ∧ Dx T S i (f i) := by
  induction r with
  | zero => intro v _ _ _; exact ⟨fun _ => 0, fun i h1 h2 => absurd h2 (by omega)⟩
  | succ r ih =>
    intro v hv hS h
    rcases Nat.eq_zero_or_pos r with q | q
    · subst q
      refine ⟨fun _ => v, fun i h1 h2 => ?_⟩
      have : i = 1 := by omega
      subst this
      exact ⟨hv, h⟩
    · obtain ⟨e, h1, h2⟩ := (Tel_succ T S).mp h.1
      have h3 : Tel T S r (S v e) = true := by
        rcases h2 with h2 | h2
        · have := h.2 1 (by omega)
          rw [(Tel_succ T S).mpr ⟨e, h1, Or.inl h2⟩] at this
          cases this
        · exact h2
      have h4 : Dx T S r (S v e) := by
        refine ⟨h3, fun j hj => ?_⟩
        cases hq : Tel T S j (S v e) with
        | false => rfl
        | true =>
          have := h.2 (j + 1) (by omega)
          rw [(Tel_succ T S).mpr ⟨e, h1, Or.inr hq⟩] at this
          cases this
      obtain ⟨f, hf⟩ := ih (hS v hv e h1) hS h4
      refine ⟨fun i => if i = r + 1 then v else f i, fun i h1 h2 => ?_⟩
      by_cases q : i = r + 1
      · subst q
        dsimp only
        rw [if_pos rfl]
        exact ⟨hv, h⟩
      · dsimp only
        rw [if_neg q]
        exact hf i h1 (by omega)
theorem Dx_64 (hS : ∀ v, v < 64 → ∀ e, e < 64 → S v e < 64) {r v : Nat} (hv : v < 64) (h : Dx T S r v) : r ≤ 64 := by
  obtain ⟨f, hf⟩ := Dx_chain T S hv hS h
  refine pig 64 r (fun i => f (i + 1)) (fun i hi => (hf (i + 1) (by omega) (by omega)).1) (fun i j hi hj e => ?_)
  have h1 := (hf (i + 1) (by omega) (by omega)).2
  have h2 := (hf (j + 1) (by omega) (by omega)).2
  rw [← e] at h2
  have := Dx_uniq T S h1 h2
  omega
/-- how far it is; 1000: never -/
def dst (v : Nat) : Nat := lst (fun r => Tel T S r v) 65 1000
theorem dst_cases (v : Nat) : (dst T S v ≤ 64 ∧ Dx T S (dst T S v) v) ∨ (dst T S v = 1000 ∧ ∀ j, j < 65 → Tel T S j v = false) := by
  rcases lst_spec (fun r => Tel T S r v) 1000 65 (by decide) with ⟨h1, h2, h3⟩ | ⟨h1, h2⟩
  · exact Or.inl ⟨by show lst _ 65 1000 ≤ 64; omega, h2, h3⟩
  · exact Or.inr ⟨h1, h2⟩
theorem dst_of (hS : ∀ v, v < 64 → ∀ e, e < 64 → S v e < 64) {r v : Nat} (hv : v < 64) (h : Tel T S r v = true) : dst T S v ≤ r ∧ dst T S v ≤ 64 ∧ Dx T S (dst T S v) v := by
  obtain ⟨r', h1, h2⟩ := Dx_ex T S h
  have h3 := Dx_64 T S hS hv h2
  rcases dst_cases T S v with ⟨g1, g2⟩ | ⟨_, g2⟩
  · have := Dx_uniq T S g2 h2
    exact ⟨by omega, g1, g2⟩
  · have := g2 r' (by omega)
    rw [h2.1] at this; cases this
theorem dst_pos (v : Nat) : 1 ≤ dst T S v := by
  rcases dst_cases T S v with ⟨_, g2⟩ | ⟨g1, _⟩
  · rcases Nat.eq_zero_or_pos (dst T S v) with q | q
    · rw [q] at g2
      have := g2.1
      simp [Tel] at this
    · exact q
  · omega
theorem dst_T (hS : ∀ v, v < 64 → ∀ e, e < 64 → S v e < 64) {v e : Nat} (hv : v < 64) (he : e < 64) (h : T v e = true) : dst T S v = 1 := by
  have h1 := (dst_of T S hS hv ((Tel_succ T S (r := 0)).mpr ⟨e, he, Or.inl h⟩)).1
  have h2 := dst_pos T S v
  omega
theorem dst_S (hS : ∀ v, v < 64 → ∀ e, e < 64 → S v e < 64) {v e : Nat} (hv : v < 64) (he : e < 64) : dst T S v ≤ 1 + dst T S (S v e) := by
  rcases dst_cases T S (S v e) with ⟨_, g2⟩ | ⟨g1, _⟩
  · have := (dst_of T S hS hv ((Tel_succ T S).mpr ⟨e, he, Or.inr g2.1⟩)).1
    omega
  · rcases dst_cases T S v with ⟨g3, _⟩ | ⟨g3, _⟩ <;> omega
def aft (v e : Nat) : Nat := if T v e then 1 else 1 + dst T S (S v e)
theorem aft_ge (hS : ∀ v, v < 64 → ∀ e, e < 64 → S v e < 64) {v e : Nat} (hv : v < 64) (he : e < 64) : dst T S v ≤ aft T S v e := by
  unfold aft
  split
  · rename_i h; exact Nat.le_of_eq (dst_T T S hS hv he h)
  · exact dst_S T S hS hv he
theorem aft_ex (hS : ∀ v, v < 64 → ∀ e, e < 64 → S v e < 64) {v : Nat} (hv : v < 64) (h : dst T S v < 1000) : ∃ e, e < 64 ∧ aft T S v e = dst T S v := by
  rcases dst_cases T S v with ⟨_, g2⟩ | ⟨g1, _⟩
  · have hp := dst_pos T S v
    obtain ⟨r, hr⟩ : ∃ r, dst T S v = r + 1 := ⟨dst T S v - 1, by omega⟩
    have g3 := g2.1
    rw [hr] at g3
    obtain ⟨e, he, h1⟩ := (Tel_succ T S).mp g3
    refine ⟨e, he, ?_⟩
    have hge := aft_ge T S hS hv he
    unfold aft at hge ⊢
    split
    · rename_i ht; exact (dst_T T S hS hv he ht).symm
    · rename_i ht
      rw [if_neg ht] at hge
      rcases h1 with h1 | h1
      · exact absurd h1 ht
      · have := (dst_of T S hS (hS v hv e he) h1).1
        omega
  · omega
/-- the first edge that goes the right way -/
def ge (v : Nat) : Nat := lst (fun e => decide (aft T S v e = dst T S v)) 64 64
theorem ge_spec (hS : ∀ v, v < 64 → ∀ e, e < 64 → S v e < 64) {v : Nat} (hv : v < 64) (h : dst T S v < 1000) : ge T S v < 64 ∧ aft T S v (ge T S v) = dst T S v ∧ ∀ j, j < ge T S v → aft T S v j ≠ dst T S v := by
  rcases lst_spec (fun e => decide (aft T S v e = dst T S v)) 64 64 (Nat.le_refl _) with ⟨h1, h2, h3⟩ | ⟨_, h2⟩
  · exact ⟨h1, of_decide_eq_true h2, fun j hj => of_decide_eq_false (h3 j hj)⟩
  · obtain ⟨e, he, h3⟩ := aft_ex T S hS hv h
    have := h2 e he
    simp [h3] at this
/-- the path -/
def gp (s : Nat) : Nat → Nat
  | 0 => s
  | i + 1 => S (gp s i) (ge T S (gp s i))
theorem gp_spec (hS : ∀ v, v < 64 → ∀ e, e < 64 → S v e < 64) {s : Nat} (hs : s < 64) (h : dst T S s ≤ 64) : ∀ i, i < dst T S s → gp T S s i < 64 ∧ dst T S (gp T S s i) = dst T S s - i := by
  intro i
  induction i with
  | zero => intro _; exact ⟨hs, (Nat.sub_zero _).symm⟩
  | succ i ih =>
    intro hi
    obtain ⟨h1, h2⟩ := ih (by omega)
    obtain ⟨g1, g2, g3⟩ := ge_spec T S hS h1 (by omega)
    refine ⟨hS _ h1 _ g1, ?_⟩
    show dst T S (S (gp T S s i) (ge T S (gp T S s i))) = _
    unfold aft at g2
    split at g2
    · omega
    · omega
theorem gp_edge (hS : ∀ v, v < 64 → ∀ e, e < 64 → S v e < 64) {s : Nat} (hs : s < 64) (h : dst T S s ≤ 64) {i : Nat} (hi : i < dst T S s) : ge T S (gp T S s i) < 64 ∧ (i + 1 < dst T S s → T (gp T S s i) (ge T S (gp T S s i)) = false) ∧ (i + 1 = dst T S s → T (gp T S s i) (ge T S (gp T S s i)) = true) := by
  obtain ⟨h1, h2⟩ := gp_spec T S hS hs h i hi
  obtain ⟨g1, g2, g3⟩ := ge_spec T S hS h1 (by omega)
  refine ⟨g1, fun q => ?_, fun q => ?_⟩
  · unfold aft at g2
    cases e : T (gp T S s i) (ge T S (gp T S s i)) with
    | false => rfl
    | true => rw [e, if_pos rfl] at g2; omega
  · unfold aft at g2
    cases e : T (gp T S s i) (ge T S (gp T S s i)) with
    | true => rfl
    | false =>
      rw [e, if_neg (by decide)] at g2
      have := dst_pos T S (S (gp T S s i) (ge T S (gp T S s i)))
      omega
end GR
