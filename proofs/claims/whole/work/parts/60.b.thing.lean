/-! ===== PURE: what acts do ===== -/
/-- number of things; kind, first, wall, clean, pad of each; rows of a table -/
abbrev Cf : Type := Nat × (Nat → Nat → Nat) × (Nat → Int64) × (Nat → Int64)
def nK (kd p s a : Nat) : Nat := if 2 ≤ a then s else if kd = 0 then (if a = 0 then p + 1 else 0) else if kd = 1 then (if a = 0 then (if 3 ≤ s then 3 else s + 1) else s - 1) else if kd = 2 then (if a = 0 then (if s = 0 then p + 1 else s) else if s = p + 1 then 0 else s) else if a = 0 then s else (s + 1) % 4
def aK (kd p s a : Nat) : Nat := if 2 ≤ a then 0 else if kd = 0 then (if a = 0 then (if s = p + 1 then 0 else 1) else 0) else if kd = 1 then (if a = 0 then (if s = 3 then 1 else 0) else if s = 0 then 1 else 0) else if kd = 2 then (if s = p + 1 then 0 else if a = 0 then (if s = 0 then 0 else 1) else 1) else if a = 0 then s else 0
def nxt (c : Cf) (k p s a : Nat) : Nat := if c.2.1 k 0 = 4 then tb (c.2.2.1 k) (12 * p + 3 * s + a) else nK (c.2.1 k 0) p s a
def ans (c : Cf) (k p s a : Nat) : Nat := if c.2.1 k 0 = 4 then tb (c.2.2.2 k) (12 * p + 3 * s + a) else aK (c.2.1 k 0) p s a
def RC (c : Cf) (σ : ST) : Prop := σ.1 0 4 = nI c.1 ∧ ∀ k, k < c.1 → σ.1 (4 + 2 * k) 1 = nI (c.2.1 k 0) ∧ σ.1 (4 + 2 * k) 2 = nI (c.2.1 k 1) ∧ σ.1 (4 + 2 * k) 3 = nI (c.2.1 k 2) ∧ σ.1 (4 + 2 * k) 4 = nI (c.2.1 k 3) ∧ σ.1 (4 + 2 * k) 5 = nI (c.2.1 k 4) ∧ (c.2.1 k 0 = 4 → σ.2.1 (4 + 2 * k) 7 = c.2.2.1 k ∧ σ.2.1 (4 + 2 * k) 8 = c.2.2.2 k)
/-- the things' rows, walls aside -/
def RT (c : Cf) (σ : ST) : Prop := ∀ k, k < c.1 → σ.1 (4 + 2 * k) 1 = nI (c.2.1 k 0) ∧ σ.1 (4 + 2 * k) 2 = nI (c.2.1 k 1) ∧ σ.1 (4 + 2 * k) 4 = nI (c.2.1 k 3) ∧ σ.1 (4 + 2 * k) 5 = nI (c.2.1 k 4) ∧ (c.2.1 k 0 = 4 → σ.2.1 (4 + 2 * k) 7 = c.2.2.1 k ∧ σ.2.1 (4 + 2 * k) 8 = c.2.2.2 k)
theorem RC.T {c : Cf} {σ : ST} (h : RC c σ) : RT c σ := fun k hk => ⟨(h.2 k hk).1, (h.2 k hk).2.1, (h.2 k hk).2.2.2.1, (h.2 k hk).2.2.2.2.1, (h.2 k hk).2.2.2.2.2⟩
def RM (c : Cf) (τ : ST) : Prop := τ.1 0 0 = nI c.1 ∧ ∀ k, k < c.1 → τ.2.2.1 1 k = nI (c.2.1 k 0) ∧ τ.2.2.1 2 k = nI (c.2.1 k 1) ∧ τ.2.2.1 3 k = nI (c.2.1 k 2) ∧ τ.2.2.1 4 k = nI (c.2.1 k 3) ∧ τ.2.2.1 5 k = nI (c.2.1 k 4) ∧ (c.2.1 k 0 = 4 → τ.2.2.2 8 k = c.2.2.1 k ∧ τ.2.2.2 9 k = c.2.2.2 k)
def Ck (c : Cf) : Prop := c.1 ≤ 3 ∧ ∀ k, k < c.1 → c.2.1 k 0 ≤ 4 ∧ c.2.1 k 1 ≤ 3 ∧ c.2.1 k 2 ≤ 3 ∧ 1 ≤ c.2.1 k 3 ∧ c.2.1 k 3 ≤ 4 ∧ c.2.1 k 4 ≤ 3
theorem nK_le : ∀ kd, kd < 4 → ∀ p, p < 2 → ∀ s, s < 4 → ∀ a, a < 3 → nK kd p s a < 4 := by decide +kernel
theorem aK_le : ∀ kd, kd < 4 → ∀ p, p < 2 → ∀ s, s < 4 → ∀ a, a < 3 → aK kd p s a < 4 := by decide +kernel
theorem nxt_lt {c : Cf} (hc : Ck c) {k p s a : Nat} (hk : k < c.1) (hp : p < 2) (hs : s < 4) (ha : a < 3) : nxt c k p s a < 4 := by
  unfold nxt
  split
  · exact tb_lt _ _
  · exact nK_le _ (by have := (hc.2 k hk).1; omega) p hp s hs a ha
theorem ans_lt {c : Cf} (hc : Ck c) {k p s a : Nat} (hk : k < c.1) (hp : p < 2) (hs : s < 4) (ha : a < 3) : ans c k p s a < 4 := by
  unfold ans
  split
  · exact tb_lt _ _
  · exact aK_le _ (by have := (hc.2 k hk).1; omega) p hp s hs a ha
theorem z0 : nI 0 = 0 := rfl
theorem z1 : nI 1 = 1 := rfl
theorem z2 : nI 2 = 2 := rfl
theorem z3 : nI 3 = 3 := rfl
theorem z4 : nI 4 = 4 := rfl
theorem z5 : nI 5 = 5 := rfl
theorem z6 : nI 6 = 6 := rfl
theorem z7 : nI 7 = 7 := rfl
theorem an1 : (1 : Int32) &&& 3 = 1 := by decide
theorem an2 : (2 : Int32) &&& 3 = 2 := by decide
theorem an3 : (3 : Int32) &&& 3 = 3 := by decide
theorem an4 : (4 : Int32) &&& 3 = 0 := by decide
set_option maxHeartbeats 4000000 in
theorem s_X2_nextByKind {k kd p s a : Nat} {σ : ST} {Q : Int32 → ST → Prop} (hkd : σ.1 (4 + 2 * k) 1 = nI kd) (h1 : kd < 4) (h2 : p < 2) (h3 : s < 4) (h4 : a < 3) (h : Q (nI (nK kd p s a)) σ) : wp_X2_nextByKind k (nI (p + 1)) (nI s) (nI a) σ Q := by
  unfold wp_X2_nextByKind
  rw [hkd]
  clear hkd
  rcases (show kd = 0 ∨ kd = 1 ∨ kd = 2 ∨ kd = 3 by omega) with rfl | rfl | rfl | rfl <;> rcases (show p = 0 ∨ p = 1 by omega) with rfl | rfl <;> rcases (show s = 0 ∨ s = 1 ∨ s = 2 ∨ s = 3 by omega) with rfl | rfl | rfl | rfl <;> rcases (show a = 0 ∨ a = 1 ∨ a = 2 by omega) with rfl | rfl | rfl <;> simpa [nK, z0, z1, z2, z3, z4, an1, an2, an3, an4] using h
set_option maxHeartbeats 4000000 in
theorem s_X2_answerByKind {k kd p s a : Nat} {σ : ST} {Q : Int32 → ST → Prop} (hkd : σ.1 (4 + 2 * k) 1 = nI kd) (h1 : kd < 4) (h2 : p < 2) (h3 : s < 4) (h4 : a < 3) (h : Q (nI (aK kd p s a)) σ) : wp_X2_answerByKind k (nI (p + 1)) (nI s) (nI a) σ Q := by
  unfold wp_X2_answerByKind
  rw [hkd]
  clear hkd
  rcases (show kd = 0 ∨ kd = 1 ∨ kd = 2 ∨ kd = 3 by omega) with rfl | rfl | rfl | rfl <;> rcases (show p = 0 ∨ p = 1 by omega) with rfl | rfl <;> rcases (show s = 0 ∨ s = 1 ∨ s = 2 ∨ s = 3 by omega) with rfl | rfl | rfl | rfl <;> rcases (show a = 0 ∨ a = 1 ∨ a = 2 by omega) with rfl | rfl | rfl <;> simpa [aK, z0, z1, z2, z3, z4] using h
theorem tsh {p s a : Nat} : (2 : Int32) * (((12 * nI p) + (3 * nI s)) + nI a) = nI (2 * (12 * p + 3 * s + a)) := by
  rw [l2, l12, l3, pk_mul, pk_mul, nI_add, nI_add, pk_mul]
theorem s_X2_told {x : Int64} {p s a : Nat} {σ : ST} {Q : Int32 → ST → Prop} (h2 : p < 2) (h3 : s < 4) (h4 : a < 3) (h : Q (nI (tb x (12 * p + 3 * s + a))) σ) : wp_X2_told x (nI p) (nI s) (nI a) σ Q := by
  unfold wp_X2_told
  rw [tsh, low2, bt_ushr _ (by omega), bt_ushr _ (by omega)]
  exact h
theorem s_X2_next {c : Cf} {k p s a : Nat} {σ : ST} {Q : Int32 → ST → Prop} (hc : Ck c) (hR : RT c σ) (hk : k < c.1) (h2 : p < 2) (h3 : s < 4) (h4 : a < 3) (h : Q (nI (nxt c k p s a)) σ) : wp_X2_next k (nI p) (nI s) (nI a) σ Q := by
  obtain ⟨e1, -, -, -, e2⟩ := hR k hk
  have b1 := (hc.2 k hk).1
  unfold wp_X2_next
  unfold nxt at h
  rw [e1, l4, neq (by omega) (by omega)]
  refine ⟨fun q => ?_, fun q => ?_⟩
  · rw [if_neg q] at h
    rw [nI_1]
    exact s_X2_nextByKind e1 (by omega) h2 h3 h4 h
  · rw [if_pos q] at h
    rw [(e2 q).1]
    exact s_X2_told h2 h3 h4 h
theorem s_X2_answer {c : Cf} {k p s a : Nat} {σ : ST} {Q : Int32 → ST → Prop} (hc : Ck c) (hR : RT c σ) (hk : k < c.1) (h2 : p < 2) (h3 : s < 4) (h4 : a < 3) (h : Q (nI (ans c k p s a)) σ) : wp_X2_answer k (nI p) (nI s) (nI a) σ Q := by
  obtain ⟨e1, -, -, -, e2⟩ := hR k hk
  have b1 := (hc.2 k hk).1
  unfold wp_X2_answer
  unfold ans at h
  rw [e1, l4, neq (by omega) (by omega)]
  refine ⟨fun q => ?_, fun q => ?_⟩
  · rw [if_neg q] at h
    rw [nI_1]
    exact s_X2_answerByKind e1 (by omega) h2 h3 h4 h
  · rw [if_pos q] at h
    rw [(e2 q).2]
    exact s_X2_told h2 h3 h4 h
