/-! ===== PURE: the judge and the reference side by side ===== -/
def PCa (c : Cf) (ch k : Nat) (σ : ST) : Prop := (σ.1 (16 + 6 * k) 7 = -1 ∨ ∃ a, a ≤ ch ∧ σ.1 (16 + 6 * k) 7 = nI a) ∧ (σ.1 (16 + 6 * k) 7 = nI ch → k < c.1 → PO c k σ)
def WCa (c : Cf) (ch n : Nat) (σ : ST) : Prop := σ.1 (34 + 4 * n) 3 = nI n ∧ (σ.1 (34 + 4 * n) 5 = -1 ∨ ∃ a, a ≤ ch ∧ σ.1 (34 + 4 * n) 5 = nI a) ∧ (σ.1 (34 + 4 * n) 5 = nI ch → WO c n σ)
def CS (c : Cf) (now : Nat → Nat) (pr : Nat → Nat → Int32) (ch t : Nat) (σ : ST) : Prop := RC c σ ∧ (∀ k, k < c.1 → σ.1 (4 + 2 * k) 6 = nI (now k)) ∧ (∀ k, k < c.1 → ∀ w, w < 4 → σ.2.2.1 (5 + 2 * k) w = pr k w) ∧ σ.1 0 5 = nI t ∧ σ.1 0 6 = nI ch ∧ (∀ k, k < 3 → PCa c ch k σ) ∧ ∀ n, n < 4 → WCa c ch n σ
def KI (q : Nat) (τ : ST) : Prop := τ.1 0 16 = nI q ∧ ∀ j, j < 4096 → ∃ p, p ≤ q ∧ τ.2.2.1 13 j = nI p
def MS (c : Cf) (now : Nat → Nat) (pr : Nat → Nat → Int32) (q t : Nat) (τ : ST) : Prop := RM c τ ∧ (∀ k, k < c.1 → τ.2.2.1 7 k = nI (now k)) ∧ (∀ k, k < c.1 → ∀ w, w < 4 → τ.2.2.1 6 (4 * k + w) = pr k w) ∧ τ.1 0 10 = nI t ∧ KI q τ
def Rel (B : Nat) (σ τ : ST) : Prop := ∃ c now pr ch q t, Ck c ∧ (∀ k, k < c.1 → now k < 4) ∧ ch ≤ B ∧ t ≤ B ∧ q ≤ 65 * B ∧ CS c now pr ch t σ ∧ MS c now pr q t τ
theorem PCa.keep {c : Cf} {ch k : Nat} {σ σ' : ST} (h : PCa c ch k σ) (h1 : σ'.1 (16 + 6 * k) = σ.1 (16 + 6 * k)) (h2 : σ'.2.2.1 (17 + 6 * k) = σ.2.2.1 (17 + 6 * k)) : PCa c ch k σ' := by
  refine ⟨by rw [h1]; exact h.1, fun z y => (h.2 (by rw [← h1]; exact z) y).keep (by rw [h1]) h2⟩
theorem WO.keep {c : Cf} {n : Nat} {σ σ' : ST} (h : WO c n σ) (h1 : σ'.1 (34 + 4 * n) = σ.1 (34 + 4 * n)) (h2 : σ'.2.2.1 (35 + 4 * n) = σ.2.2.1 (35 + 4 * n)) : WO c n σ' := ⟨by rw [h1]; exact h.1, by rw [h2]; exact h.2⟩
theorem WCa.keep {c : Cf} {ch n : Nat} {σ σ' : ST} (h : WCa c ch n σ) (h1 : σ'.1 (34 + 4 * n) = σ.1 (34 + 4 * n)) (h2 : σ'.2.2.1 (35 + 4 * n) = σ.2.2.1 (35 + 4 * n)) : WCa c ch n σ' := by
  refine ⟨by rw [h1]; exact h.1, by rw [h1]; exact h.2.1, fun z => (h.2.2 (by rw [← h1]; exact z)).keep h1 h2⟩
theorem stale {x : Int32} {ch : Nat} (h : x = -1 ∨ ∃ a, a ≤ ch ∧ x = nI a) (hch : ch < 100000) : (x = -1 ∨ ∃ a, a ≤ ch + 1 ∧ x = nI a) ∧ x ≠ nI (ch + 1) := by
  rcases h with h | ⟨a, h1, h2⟩
  · refine ⟨Or.inl h, fun z => ?_⟩
    rw [h] at z
    rcases nm1 (ch + 1) with y | y
    · exact y z.symm
    · omega
  · refine ⟨Or.inr ⟨a, by omega, h2⟩, fun z => ?_⟩
    rw [h2, neq (by omega) (by omega)] at z
    omega
theorem PCa.bump {c c' : Cf} {ch k : Nat} {σ σ' : ST} (h : PCa c ch k σ) (hch : ch < 100000) (h1 : σ'.1 (16 + 6 * k) = σ.1 (16 + 6 * k)) : PCa c' (ch + 1) k σ' := by
  obtain ⟨s1, s2⟩ := stale h.1 hch
  exact ⟨by rw [h1]; exact s1, fun z => absurd (by rw [h1] at z; exact z) s2⟩
theorem WCa.bump {c c' : Cf} {ch n : Nat} {σ σ' : ST} (h : WCa c ch n σ) (hch : ch < 100000) (h1 : σ'.1 (34 + 4 * n) = σ.1 (34 + 4 * n)) : WCa c' (ch + 1) n σ' := by
  obtain ⟨s1, s2⟩ := stale h.2.1 hch
  exact ⟨by rw [h1]; exact h.1, by rw [h1]; exact s1, fun z => absurd (by rw [h1] at z; exact z) s2⟩
theorem RC.keep {c : Cf} {σ σ' : ST} (hc : Ck c) (h : RC c σ) (f1 : ∀ q, q < 10 → σ'.1 q = σ.1 q ∧ σ'.2.1 q = σ.2.1 q) : RC c σ' := by
  have h3 := hc.1
  refine ⟨by rw [(f1 0 (by omega)).1]; exact h.1, fun k hk => ?_⟩
  have e := f1 (4 + 2 * k) (by omega)
  rw [e.1, e.2]
  exact h.2 k hk
theorem CS.keep {c : Cf} {now : Nat → Nat} {pr : Nat → Nat → Int32} {ch t : Nat} {σ σ' : ST} (hc : Ck c) (h : CS c now pr ch t σ) (f1 : ∀ q, q < 10 → σ'.1 q = σ.1 q ∧ σ'.2.1 q = σ.2.1 q ∧ σ'.2.2.1 q = σ.2.2.1 q) (hp : ∀ k, k < 3 → PCa c ch k σ') (hw : ∀ n, n < 4 → WCa c ch n σ') : CS c now pr ch t σ' := by
  have h3 := hc.1
  refine ⟨h.1.keep hc (fun q hq => ⟨(f1 q hq).1, (f1 q hq).2.1⟩), fun k hk => ?_, fun k hk => ?_, ?_, ?_, hp, hw⟩
  · rw [(f1 (4 + 2 * k) (by omega)).1]; exact h.2.1 k hk
  · rw [(f1 (5 + 2 * k) (by omega)).2.2]; exact h.2.2.1 k hk
  · rw [(f1 0 (by omega)).1]; exact h.2.2.2.1
  · rw [(f1 0 (by omega)).1]; exact h.2.2.2.2.1
theorem CS.frR {c : Cf} {now : Nat → Nat} {pr : Nat → Nat → Int32} {ch t : Nat} {σ σ' : ST} (hc : Ck c) (h : CS c now pr ch t σ) (f : FrR σ σ') : CS c now pr ch t σ' := by
  refine h.keep hc (fun q hq => ⟨(f.1 q (by omega)).1, (f.1 q (by omega)).2, f.2.2 q (by omega)⟩) (fun k hk => (h.2.2.2.2.2.1 k hk).keep ?_ ?_) (fun n hn => (h.2.2.2.2.2.2 n hn).keep ?_ ?_)
  · exact (f.1 _ (by omega)).1
  · exact f.2.2 _ (by omega)
  · exact (f.1 _ (by omega)).1
  · exact f.2.2 _ (by omega)
theorem CS.frPR {c : Cf} {now : Nat → Nat} {pr : Nat → Nat → Int32} {ch t k : Nat} {σ σ' : ST} (hc : Ck c) (h : CS c now pr ch t σ) (hk : k < 3) (f : FrPR k σ σ') (hp : PO c k σ') (ha : σ'.1 (16 + 6 * k) 7 = nI ch) : CS c now pr ch t σ' := by
  refine h.keep hc (fun q hq => f.1 q (by omega)) (fun k' hk' => ?_) (fun n hn => (h.2.2.2.2.2.2 n hn).keep (f.1 _ (by omega)).1 (f.1 _ (by omega)).2.2)
  by_cases z : k' = k
  · subst z
    exact ⟨Or.inr ⟨ch, Nat.le_refl _, ha⟩, fun _ _ => hp⟩
  · exact (h.2.2.2.2.2.1 k' hk').keep (f.1 _ (by omega)).1 (f.1 _ (by omega)).2.2
theorem CS.frW {c : Cf} {now : Nat → Nat} {pr : Nat → Nat → Int32} {ch t n : Nat} {σ σ' : ST} (hc : Ck c) (h : CS c now pr ch t σ) (hn : n < 4) (f : FrWR n σ σ') (hp : WO c n σ') (ha : σ'.1 (34 + 4 * n) 5 = nI ch) : CS c now pr ch t σ' := by
  have row : ∀ q, q ≠ 10 → q ≠ 34 + 4 * n → σ'.1 q = σ.1 q := fun q a b => funext (fun s => f.1 q s a (Or.inl b))
  refine h.keep hc (fun q hq => ⟨row q (by omega) (by omega), f.2.1 q (by omega), f.2.2.2 q (by omega) (by omega) (by omega) (by omega)⟩) (fun k hk => (h.2.2.2.2.2.1 k hk).keep (row _ (by omega) (by omega)) (f.2.2.2 _ (by omega) (by omega) (by omega) (by omega))) (fun m hm => ?_)
  by_cases z : m = n
  · subst z
    refine ⟨?_, Or.inr ⟨ch, Nat.le_refl _, ha⟩, fun _ => hp⟩
    rw [f.1 _ 3 (by omega) (Or.inr (by omega))]
    exact (h.2.2.2.2.2.2 m hm).1
  · exact (h.2.2.2.2.2.2 m hm).keep (row _ (by omega) (by omega)) (f.2.2.2 _ (by omega) (by omega) (by omega) (by omega))
theorem Rel.up {B : Nat} {σ τ : ST} (h : Rel B σ τ) : Rel (B + 1) σ τ := by
  obtain ⟨c, now, pr, ch, q, t, h1, h2, h3, h4, h5, h6⟩ := h
  exact ⟨c, now, pr, ch, q, t, h1, h2, by omega, by omega, by omega, h6⟩
theorem MS.fr10 {c : Cf} {now : Nat → Nat} {pr : Nat → Nat → Int32} {q t : Nat} {τ τ' : ST} (h : MS c now pr q t τ) (f : Fr10 τ τ') : MS c now pr q t τ' := by
  refine ⟨f.RM h.1, fun k hk => ?_, fun k hk => ?_, ?_, ?_, ?_⟩
  · rw [f.2.2.2 7 (by omega)]; exact h.2.1 k hk
  · rw [f.2.2.2 6 (by omega)]; exact h.2.2.1 k hk
  · rw [f.1]; exact h.2.2.2.1
  · rw [f.1]; exact h.2.2.2.2.1
  · rw [f.2.2.2 13 (by omega)]; exact h.2.2.2.2.2
/-! clear -/
theorem r_clear {B : Nat} {σ τ : ST} {P : ST → ST → Prop} (hB : B < 1000) (h : Rel B σ τ) (k : ∀ σ' τ', Rel (B + 1) σ' τ' → P σ' τ') : wp_X4_clear σ (fun σ' => wp_X5_clear τ (fun τ' => P σ' τ')) := by
  obtain ⟨c, now, pr, ch, q, t, h1, h2, h3, h4, h5, h6, h7⟩ := h
  intro σ1 e1 σ2 e2 τ1 e3
  refine k _ _ ⟨(0, c.2), now, pr, ch + 1, q, t, ⟨Nat.zero_le _, fun k hk => absurd hk (Nat.not_lt_zero k)⟩, fun k hk => absurd hk (Nat.not_lt_zero k), by omega, by omega, by omega, ⟨⟨?_, fun k hk => absurd hk (Nat.not_lt_zero k)⟩, fun k hk => absurd hk (Nat.not_lt_zero k), fun k hk => absurd hk (Nat.not_lt_zero k), ?_, ?_, fun k hk => (h6.2.2.2.2.2.1 k hk).bump (by omega) ?_, fun n hn => (h6.2.2.2.2.2.2 n hn).bump (by omega) ?_⟩, ⟨⟨?_, fun k hk => absurd hk (Nat.not_lt_zero k)⟩, fun k hk => absurd hk (Nat.not_lt_zero k), fun k hk => absurd hk (Nat.not_lt_zero k), ?_, ?_, ?_⟩⟩
  · rw [e2, e1]; simp [sI]; rfl
  · rw [e2, e1]; simp [sI]; exact h6.2.2.2.1
  · rw [e2, e1]; simp [sI]; rw [h6.2.2.2.2.1, nI_1]
  · rw [e2, e1]; funext s; simp [sI]
  · rw [e2, e1]; funext s; simp [sI]
  · rw [e3]; simp [sI]; rfl
  · rw [e3]; simp [sI]; exact h7.2.2.2.1
  · rw [e3]; simp [sI]; exact h7.2.2.2.2.1
  · rw [e3]; exact h7.2.2.2.2.2
/-! ticks, state -/
theorem r_ticks {B : Nat} {σ τ : ST} {P : Int32 → Int32 → ST → ST → Prop} (h : Rel B σ τ) (k : ∀ r σ' τ', Rel (B + 1) σ' τ' → P r r σ' τ') : wp_X4_ticks σ (fun r σ' => wp_X5_ticks τ (fun r' τ' => P r r' σ' τ')) := by
  have hu := h.up
  obtain ⟨c, now, pr, ch, q, t, h1, h2, h3, h4, h5, h6, h7⟩ := h
  show P (σ.1 0 5) (τ.1 0 10) σ τ
  rw [h6.2.2.2.1, h7.2.2.2.1]
  exact k _ _ _ hu
theorem r_state {B : Nat} {x : Int32} {σ τ : ST} {P : Int32 → Int32 → ST → ST → Prop} (h : Rel B σ τ) (k : ∀ r σ' τ', Rel (B + 1) σ' τ' → P r r σ' τ') : wp_X4_state x σ (fun r σ' => wp_X5_state x τ (fun r' τ' => P r r' σ' τ')) := by
  have hu := h.up
  obtain ⟨c, now, pr, ch, q, t, h1, h2, h3, h4, h5, h6, h7⟩ := h
  have h13 := h1.1
  refine s_X4_isThing h1.1 h6.1.1 (fun j hj e => ⟨fun z => absurd z (by decide), fun _ => ?_⟩) (fun hno => ⟨fun _ => ?_, fun z => absurd rfl z⟩)
  · subst e
    rw [ncl (by omega)]
    refine ⟨nvi (by omega) (by omega), s_X5_isThing h1.1 h7.1.1 (fun j' hj' e => ⟨fun z => absurd z (by decide), fun _ => ?_⟩) (fun hno => absurd rfl (hno j hj))⟩
    rw [ncl (by omega), h6.2.1 j hj, h7.2.1 j hj]
    exact ⟨nvi (by omega) (by omega), k _ _ _ hu⟩
  · exact s_X5_isThing h1.1 h7.1.1 (fun j' hj' e => absurd e (hno j' hj')) (fun _ => ⟨fun _ => k _ _ _ hu, fun z => absurd rfl z⟩)
/-! of -/
theorem r_of {B : Nat} {x y : Int32} {σ τ : ST} {P : Int32 → Int32 → ST → ST → Prop} (h : Rel B σ τ) (k : ∀ r σ' τ', Rel (B + 1) σ' τ' → P r r σ' τ') : wp_X4_of x y σ (fun r σ' => wp_X5_of x y τ (fun r' τ' => P r r' σ' τ')) := by
  have hu := h.up
  obtain ⟨c, now, pr, ch, q, t, h1, h2, h3, h4, h5, h6, h7⟩ := h
  have h13 := h1.1
  refine s_X4_isThing h1.1 h6.1.1 (fun j hj e => ⟨fun _ => ?_, fun z => absurd z (by decide)⟩) (fun hno => ⟨fun z => absurd rfl z, fun _ => ?_⟩)
  · subst e
    obtain ⟨a1, a2, a3, a4, a5, -⟩ := h6.1.2 j hj
    obtain ⟨b1, b2, b3, b4, b5, -⟩ := h7.1.2 j hj
    have hv : vp_in (nI j) 3 := nvi (by omega) (by omega)
    have go : ∀ {R : Int32 → ST → Prop}, (((y = 0 → (vp_in (nI j) 3 ∧ R (τ.2.2.1 1 (Int32.toNatClampNeg (nI j))) τ)) ∧ (¬ y = 0 → ((y = 1 → (vp_in (nI j) 3 ∧ R (τ.2.2.1 2 (Int32.toNatClampNeg (nI j))) τ)) ∧ (¬ y = 1 → ((y = 2 → (vp_in (nI j) 3 ∧ R (τ.2.2.1 3 (Int32.toNatClampNeg (nI j))) τ)) ∧ (¬ y = 2 → ((y = 3 → (vp_in (nI j) 3 ∧ R (τ.2.2.1 4 (Int32.toNatClampNeg (nI j))) τ)) ∧ (¬ y = 3 → ((y = 4 → (vp_in (nI j) 3 ∧ R (τ.2.2.1 5 (Int32.toNatClampNeg (nI j))) τ)) ∧ (¬ y = 4 → R (-1) τ)))))))))) → wp_X5_of (nI j) y τ R) := by
      intro R g
      exact s_X5_isThing h1.1 h7.1.1 (fun j' hj' e => ⟨fun _ => g, fun z => absurd z (by decide)⟩) (fun hno => absurd rfl (hno j hj))
    rw [ncl (by omega), a1, a2, a3, a4, a5]
    rw [ncl (by omega), b1, b2, b3, b4, b5] at go
    refine ⟨fun y0 => ⟨hv, go ?_⟩, fun y0 => ⟨fun y1 => ⟨hv, go ?_⟩, fun y1 => ⟨fun y2 => ⟨hv, go ?_⟩, fun y2 => ⟨fun y3 => ⟨hv, go ?_⟩, fun y3 => ⟨fun y4 => ⟨hv, go ?_⟩, fun y4 => go ?_⟩⟩⟩⟩⟩
    · exact ⟨fun _ => ⟨hv, k _ _ _ hu⟩, fun z => absurd y0 z⟩
    · exact ⟨fun z => absurd z y0, fun _ => ⟨fun _ => ⟨hv, k _ _ _ hu⟩, fun z => absurd y1 z⟩⟩
    · exact ⟨fun z => absurd z y0, fun _ => ⟨fun z => absurd z y1, fun _ => ⟨fun _ => ⟨hv, k _ _ _ hu⟩, fun z => absurd y2 z⟩⟩⟩
    · exact ⟨fun z => absurd z y0, fun _ => ⟨fun z => absurd z y1, fun _ => ⟨fun z => absurd z y2, fun _ => ⟨fun _ => ⟨hv, k _ _ _ hu⟩, fun z => absurd y3 z⟩⟩⟩⟩
    · exact ⟨fun z => absurd z y0, fun _ => ⟨fun z => absurd z y1, fun _ => ⟨fun z => absurd z y2, fun _ => ⟨fun z => absurd z y3, fun _ => ⟨fun _ => ⟨hv, k _ _ _ hu⟩, fun z => absurd y4 z⟩⟩⟩⟩⟩
    · exact ⟨fun z => absurd z y0, fun _ => ⟨fun z => absurd z y1, fun _ => ⟨fun z => absurd z y2, fun _ => ⟨fun z => absurd z y3, fun _ => ⟨fun z => absurd z y4, fun _ => k _ _ _ hu⟩⟩⟩⟩⟩
  · exact s_X5_isThing h1.1 h7.1.1 (fun j' hj' e => absurd e (hno j' hj')) (fun _ => ⟨fun z => absurd rfl z, fun _ => k _ _ _ hu⟩)
