/-! ===== PURE: things come ===== -/
def lim (kd : Nat) : Nat := if kd = 0 ∨ kd = 2 then 3 else 4
theorem s_X4_canBe {kd : Nat} {x : Int32} {σ : ST} {Q : Int32 → ST → Prop} (hk : kd ≤ 4) (h1 : ∀ s, s < lim kd → x = nI s → Q 1 σ) (h0 : (∀ s, s < lim kd → x ≠ nI s) → Q 0 σ) : wp_X4_canBe (nI kd) x σ Q := by
  unfold wp_X4_canBe
  have neg : x < 0 → ∀ s, s < lim kd → x ≠ nI s := by
    intro z s hs e
    subst e
    rw [l0, nlt (by unfold lim at hs; split at hs <;> omega) (by omega)] at z
    exact absurd z (Nat.not_lt_zero s)
  have big : ∀ L, L = lim kd → nI L ≤ x → ∀ s, s < lim kd → x ≠ nI s := by
    intro L hL z s hs e
    subst e
    have : lim kd ≤ 4 := by unfold lim; split <;> omega
    rw [nle (by omega) (by omega)] at z
    omega
  have ok : ∀ L, L = lim kd → ¬ x < 0 → ¬ nI L ≤ x → Q 1 σ := by
    intro L hL z1 z2
    have : lim kd ≤ 4 := by unfold lim; split <;> omega
    rcases pk_ix x (n := L) (by omega) with y | y | ⟨j, j1, j2⟩
    · exact absurd y z1
    · exact absurd y z2
    · exact h1 j (by omega) j2
  rw [l0, neq (by omega) (by omega), l2, neq (by omega) (by omega)]
  refine ⟨fun z => h0 (neg z), fun z => ⟨fun e => ?_, fun e => ⟨fun e2 => ?_, fun e2 => ?_⟩⟩⟩
  · have el : 3 = lim kd := by unfold lim; rw [if_pos (Or.inl e)]
    exact ⟨fun y => h0 (big 3 el y), fun y => ok 3 el z y⟩
  · have el : 4 = lim kd := by unfold lim; rw [if_neg (by omega)]
    exact ⟨fun y => h0 (big 4 el y), fun y => ok 4 el z y⟩
  · have el : 3 = lim kd := by unfold lim; rw [if_pos (Or.inr e2)]
    exact ⟨fun y => h0 (big 3 el y), fun y => ok 3 el z y⟩
def ComeC (n : Nat) (x1 x2 : Int32) (x3 x5 : Int64) (σ σ' : ST) : Prop := (∀ q, q ≠ 4 + 2 * n → σ'.1 q = σ.1 q) ∧ (∀ q, q ≠ 4 + 2 * n → σ'.2.1 q = σ.2.1 q) ∧ (∀ q, q ≠ 5 + 2 * n → σ'.2.2.1 q = σ.2.2.1 q) ∧ σ'.1 (4 + 2 * n) 1 = x1 ∧ σ'.1 (4 + 2 * n) 2 = x2 ∧ σ'.1 (4 + 2 * n) 3 = 0 ∧ σ'.1 (4 + 2 * n) 4 = 1 ∧ σ'.1 (4 + 2 * n) 5 = 0 ∧ σ'.1 (4 + 2 * n) 6 = x2 ∧ σ'.2.1 (4 + 2 * n) 7 = x3 ∧ σ'.2.1 (4 + 2 * n) 8 = x5 ∧ ∀ w, w < 4 → σ'.2.2.1 (5 + 2 * n) w = if w = 0 then 0 else 1
theorem s_X2_come {n : Nat} {x1 x2 : Int32} {x3 x5 : Int64} {σ : ST} {Q : ST → Prop} (h : ∀ σ', ComeC n x1 x2 x3 x5 σ σ' → Q σ') : wp_X2_come n x1 x2 x3 x5 σ Q := by
  intro σ1 e1 σ2 e2 σ3 e3 σ4 e4 σ5 e5 σ6 e6 σ7 e7 σ8 e8
  refine s_fill (by omega) (fun σ9 g σ10 e10 => h σ10 ?_)
  obtain ⟨g1, g2, g3, g4, g5⟩ := g
  rw [show Int32.toNatClampNeg 0 = 0 from rfl] at e10
  subst e10 e8 e7 e6 e5 e4 e3 e2 e1
  refine ⟨fun q hq => ?_, fun q hq => ?_, fun q hq => ?_, ?_, ?_, ?_, ?_, ?_, ?_, ?_, ?_, fun w hw => ?_⟩
  · funext s; simp [sR, g1, sI, sL, hq]
  · funext s; simp [sR, g2, sI, sL, hq]
  · rw [rP _ _ _ _ hq, g4 q hq]; rfl
  · simp [sR, g1, sI, sL]
  · simp [sR, g1, sI, sL]
  · simp [sR, g1, sI, sL]
  · simp [sR, g1, sI, sL]
  · simp [sR, g1, sI, sL]
  · simp [sR, g1, sI, sL]
  · simp [sR, g2, sI, sL]
  · simp [sR, g2, sI, sL]
  · by_cases z : w = 0
    · subst z; rw [rS, if_pos rfl]
    · rw [rI _ _ _ _ _ z, g5 w, if_pos hw, if_neg z]
def newC (c : Cf) (kd s : Nat) (nx an : Int64) : Cf := (c.1 + 1, fun k j => if k = c.1 then (if j = 0 then kd else if j = 1 then s else if j = 3 then 1 else 0) else c.2.1 k j, fun k => if k = c.1 then nx else c.2.2.1 k, fun k => if k = c.1 then an else c.2.2.2 k)
theorem newC_ok {c : Cf} {kd s : Nat} {nx an : Int64} (hc : Ck c) (h : c.1 < 3) (hk : kd ≤ 4) (hs : s < 4) : Ck (newC c kd s nx an) := by
  refine ⟨h, fun k hk2 => ?_⟩
  by_cases z : k = c.1
  · subst z; simp [newC]; omega
  · have hk2 : k < c.1 + 1 := hk2
    have := hc.2 k (by omega)
    simp [newC, z]; exact this
def nw1 (c : Cf) (now : Nat → Nat) (s : Nat) : Nat → Nat := fun k => if k = c.1 then s else now k
def pr1 (c : Cf) (pr : Nat → Nat → Int32) : Nat → Nat → Int32 := fun k w => if k = c.1 then (if w = 0 then 0 else 1) else pr k w
theorem CS.come {c : Cf} {now : Nat → Nat} {pr : Nat → Nat → Int32} {ch t kd s : Nat} {nx an : Int64} {σ σ' : ST} (hc : Ck c) (hch : ch < 1000) (hn : c.1 < 3) (h : CS c now pr ch t σ) (g : ComeC c.1 (nI kd) (nI s) nx an σ σ') : ∀ σ2 σ3, σ2 = sI σ' 0 4 (σ'.1 0 4 + 1) → σ3 = sI σ2 0 6 (σ2.1 0 6 + 1) → CS (newC c kd s nx an) (nw1 c now s) (pr1 c pr) (ch + 1) t σ3 ∧ σ3.1 0 4 - 1 = nI c.1 := by
  intro σ2 σ3 e2 e3
  have z4 : σ3.1 0 4 = nI (c.1 + 1) := by
    rw [e3, e2]; simp [sI]; rw [g.1 0 (by omega), h.1.1, nI_1]
  have oth : ∀ q, q ≠ 0 → σ3.1 q = σ'.1 q := by
    intro q hq; rw [e3, e2]; funext s; simp [sI, hq]
  have ol : σ3.2.1 = σ'.2.1 := by rw [e3, e2]; rfl
  have oa : σ3.2.2.1 = σ'.2.2.1 := by rw [e3, e2]; rfl
  refine ⟨⟨⟨z4, fun k hk => ?_⟩, fun k hk => ?_, fun k hk w hw => ?_, ?_, ?_, fun k hk => (h.2.2.2.2.2.1 k hk).bump (by omega) ?_, fun n hn => (h.2.2.2.2.2.2 n hn).bump (by omega) ?_⟩, by rw [z4, nI_pred]⟩
  · have hk : k < c.1 + 1 := hk
    by_cases z : k = c.1
    · subst z
      rw [oth _ (by omega), ol]
      simp only [newC, if_true]
      exact ⟨g.2.2.2.1, g.2.2.2.2.1, g.2.2.2.2.2.1, g.2.2.2.2.2.2.1, g.2.2.2.2.2.2.2.1, fun _ => ⟨g.2.2.2.2.2.2.2.2.2.1, g.2.2.2.2.2.2.2.2.2.2.1⟩⟩
    · rw [oth _ (by omega), ol, g.1 _ (by omega), g.2.1 _ (by omega)]
      simp only [newC, if_neg z]
      exact h.1.2 k (by omega)
  · have hk : k < c.1 + 1 := hk
    unfold nw1
    by_cases z : k = c.1
    · subst z
      rw [oth _ (by omega), if_pos rfl]; exact g.2.2.2.2.2.2.2.2.1
    · rw [oth _ (by omega), g.1 _ (by omega), if_neg z]; exact h.2.1 k (by omega)
  · have hk : k < c.1 + 1 := hk
    unfold pr1
    by_cases z : k = c.1
    · subst z
      rw [oa, if_pos rfl]; exact g.2.2.2.2.2.2.2.2.2.2.2 w hw
    · rw [oa, g.2.2.1 _ (by omega), if_neg z]; exact h.2.2.1 k (by omega) w hw
  · rw [e3, e2]; simp [sI]; rw [g.1 0 (by omega)]; exact h.2.2.2.1
  · rw [e3, e2]; simp [sI]; rw [g.1 0 (by omega), h.2.2.2.2.1, nI_1]
  · rw [oth _ (by omega), g.1 _ (by omega)]
  · rw [oth _ (by omega), g.1 _ (by omega)]
theorem s_X4_come {c : Cf} {now : Nat → Nat} {pr : Nat → Nat → Int32} {ch t kd : Nat} {x : Int32} {nx an : Int64} {σ : ST} {Q : Int32 → ST → Prop} (hc : Ck c) (hch : ch < 1000) (h : CS c now pr ch t σ) (hk : kd ≤ 4) (h1 : ∀ s, s < lim kd → x = nI s → c.1 < 3 → ∀ σ', CS (newC c kd s nx an) (nw1 c now s) (pr1 c pr) (ch + 1) t σ' → Q (nI c.1) σ') (h0 : (∀ s, s < lim kd → x = nI s → ¬ c.1 < 3) → Q (-1) σ) : wp_X4_come (nI kd) x nx an σ Q := by
  have h3 := hc.1
  unfold wp_X4_come
  rw [h.1.1, l3, nle (by omega) (by omega)]
  refine ⟨fun z => h0 (fun _ _ _ y => absurd z (by omega)), fun z => s_X4_canBe hk (fun s hs e => ⟨fun _ => ?_, fun y => absurd y (by decide)⟩) (fun hno => ⟨fun y => absurd rfl y, fun _ => h0 (fun s hs e => absurd e (hno s hs))⟩)⟩
  subst e
  rw [h.1.1, ncl (by omega)]
  refine ⟨nvi (by omega) (by omega), s_X2_come (fun σ5 g σ6 e6 σ7 e7 => ?_)⟩
  obtain ⟨q1, q2⟩ := h.come hc hch (by omega) g σ6 σ7 e6 e7
  rw [q2]
  exact h1 s hs rfl (by omega) σ7 q1
/-! the reference's -/
def ComeM (n : Nat) (x1 x2 : Int32) (τ τ' : ST) : Prop := (∀ s, s ≠ 0 → τ'.1 0 s = τ.1 0 s) ∧ τ'.1 0 0 = nI (n + 1) ∧ τ'.2.2.2 = τ.2.2.2 ∧ τ'.2.2.1 13 = τ.2.2.1 13 ∧ (∀ p j, p < 8 → p ≠ 6 → j ≠ n → τ'.2.2.1 p j = τ.2.2.1 p j) ∧ τ'.2.2.1 1 n = x1 ∧ τ'.2.2.1 2 n = x2 ∧ τ'.2.2.1 3 n = 0 ∧ τ'.2.2.1 4 n = 1 ∧ τ'.2.2.1 5 n = 0 ∧ τ'.2.2.1 7 n = x2 ∧ (∀ j, j < 4 * n → τ'.2.2.1 6 j = τ.2.2.1 6 j) ∧ ∀ w, w < 4 → τ'.2.2.1 6 (4 * n + w) = if w = 0 then 0 else 1
theorem s_X5_comes {n : Nat} {x1 x2 : Int32} {τ : ST} {Q : Int32 → ST → Prop} (hn : n < 3) (hm : τ.1 0 0 = nI n) (h : ∀ τ', ComeM n x1 x2 τ τ' → Q (nI n) τ') : wp_X5_comes x1 x2 τ Q := by
  unfold wp_X5_comes
  rw [hm, ncl (by omega), nI_1]
  intro σ1 e1
  refine ⟨nvi (by omega) (by omega), fun σ3 e3 σ4 e4 σ5 e5 σ6 e6 σ7 e7 => ⟨5, ?_⟩⟩
  have st : ∀ (f w : Nat) (τ1 : ST), w < 4 → wp_X5_comes_L53 x2 (nI n) (fun σ13 => (∀ σ14, σ14 = sR σ13 7 n x2 → Q (nI n) σ14)) Q f (nI (w + 1)) (sR τ1 6 (4 * n + w) (if w = 0 then 0 else 1)) → wp_X5_comes_L53 x2 (nI n) (fun σ13 => (∀ σ14, σ14 = sR σ13 7 n x2 → Q (nI n) σ14)) Q (f + 1) (nI w) τ1 := by
    intro f w τ1 hw g
    unfold wp_X5_comes_L53
    rw [l4, nle (by omega) (by omega), pk_mul, nI_add, ncl (by omega), nI_1, l0, neq (by omega) (by omega)]
    refine ⟨fun z => absurd z (by omega), fun _ => ⟨fun z => ⟨nvi (by omega) (by omega), fun σ9 e9 => ?_⟩, fun z => ⟨nvi (by omega) (by omega), fun σ9 e9 => ?_⟩⟩⟩
    · rw [if_neg z] at g; rw [e9]; exact g
    · rw [if_pos z] at g; rw [e9]; exact g
  refine st 4 0 σ7 (by omega) (st 3 1 _ (by omega) (st 2 2 _ (by omega) (st 1 3 _ (by omega) ?_)))
  unfold wp_X5_comes_L53
  refine ⟨fun _ σ14 e14 => h σ14 ?_, fun z => absurd (by decide) z⟩
  subst e14 e7 e6 e5 e4 e3 e1
  refine ⟨fun s hs => ?_, ?_, rfl, ?_, fun p j hp hp6 hj => ?_, ?_, ?_, ?_, ?_, ?_, ?_, fun j hj => ?_, fun w hw => ?_⟩
  · simp [sR, sI, hs]
  · simp [sR, sI]
  · simp [sR, sI]
  · rw [rI _ _ _ _ _ hj]
    rw [rP _ _ _ _ hp6, rP _ _ _ _ hp6, rP _ _ _ _ hp6, rP _ _ _ _ hp6]
    rw [rI _ _ _ _ _ hj, rI _ _ _ _ _ hj, rI _ _ _ _ _ hj, rI _ _ _ _ _ hj, rI _ _ _ _ _ hj]; rfl
  · simp [sR, sI, upd]
  · simp [sR, sI, upd]
  · simp [sR, sI, upd]
  · simp [sR, sI, upd]
  · simp [sR, sI, upd]
  · simp [sR, sI, upd]
  · rw [rP _ _ _ _ (by omega), rI _ _ _ _ _ (by omega), rI _ _ _ _ _ (by omega), rI _ _ _ _ _ (by omega), rI _ _ _ _ _ (by omega)]
    simp [sR, sI]
  · rw [rP _ _ _ _ (by omega)]
    rcases (by omega : w = 0 ∨ w = 1 ∨ w = 2 ∨ w = 3) with z | z | z | z <;> subst z
    · rw [rI _ _ _ _ _ (by omega), rI _ _ _ _ _ (by omega), rI _ _ _ _ _ (by omega), rS]
    · rw [rI _ _ _ _ _ (by omega), rI _ _ _ _ _ (by omega), rS]
    · rw [rI _ _ _ _ _ (by omega), rS]
    · rw [rS]
theorem MS.come {c : Cf} {now : Nat → Nat} {pr : Nat → Nat → Int32} {q t kd s : Nat} {nx an : Int64} {τ τ' τ2 : ST} (hc : Ck c) (h : MS c now pr q t τ) (g : ComeM c.1 (nI kd) (nI s) τ τ') (f1 : τ2.1 = τ'.1) (f2 : τ2.2.2.1 = τ'.2.2.1) (f3 : ∀ p j, j ≠ c.1 → τ2.2.2.2 p j = τ'.2.2.2 p j) (f4 : kd = 4 → τ2.2.2.2 8 c.1 = nx ∧ τ2.2.2.2 9 c.1 = an) : MS (newC c kd s nx an) (nw1 c now s) (pr1 c pr) q t τ2 := by
  obtain ⟨g1, g2, g3, g4, g5, g6, g7, g8, g9, g10, g11, g12, g13⟩ := g
  refine ⟨⟨by rw [f1]; exact g2, fun k hk => ?_⟩, fun k hk => ?_, fun k hk w hw => ?_, ?_, ?_, ?_⟩
  · have hk : k < c.1 + 1 := hk
    rw [f2]
    by_cases z : k = c.1
    · subst z
      simp only [newC, if_true]
      exact ⟨g6, g7, g8, g9, g10, fun y => f4 y⟩
    · rw [f3 _ _ z, f3 _ _ z, g3]
      simp only [newC, if_neg z]
      rw [g5 1 k (by omega) (by omega) z, g5 2 k (by omega) (by omega) z, g5 3 k (by omega) (by omega) z, g5 4 k (by omega) (by omega) z, g5 5 k (by omega) (by omega) z]
      exact h.1.2 k (by omega)
  · have hk : k < c.1 + 1 := hk
    unfold nw1
    rw [f2]
    by_cases z : k = c.1
    · subst z; rw [if_pos rfl]; exact g11
    · rw [if_neg z, g5 7 k (by omega) (by omega) z]; exact h.2.1 k (by omega)
  · have hk : k < c.1 + 1 := hk
    unfold pr1
    rw [f2]
    by_cases z : k = c.1
    · subst z; rw [if_pos rfl]; exact g13 w hw
    · rw [if_neg z, g12 _ (by omega)]; exact h.2.2.1 k (by omega) w hw
  · rw [f1, g1 _ (by omega)]; exact h.2.2.2.1
  · rw [f1, g1 _ (by omega)]; exact h.2.2.2.2.1
  · rw [f2, g4]; exact h.2.2.2.2.2
theorem rel_come {B : Nat} {c : Cf} {now : Nat → Nat} {pr : Nat → Nat → Int32} {ch q t kd s : Nat} {nx an : Int64} {σ τ : ST} (h1 : Ck c) (h2 : ∀ k, k < c.1 → now k < 4) (h3 : ch ≤ B) (h4 : t ≤ B) (h5 : q ≤ 65 * B) (hk : kd ≤ 4) (hs : s < 4) (hn : c.1 < 3) (a : CS (newC c kd s nx an) (nw1 c now s) (pr1 c pr) (ch + 1) t σ) (b : MS (newC c kd s nx an) (nw1 c now s) (pr1 c pr) q t τ) : Rel (B + 1) σ τ := by
  refine ⟨_, _, _, ch + 1, q, t, newC_ok h1 hn hk hs, fun k hk => ?_, by omega, by omega, by omega, a, b⟩
  have hk : k < c.1 + 1 := hk
  unfold nw1
  split
  · exact hs
  · exact h2 k (by omega)
theorem lim_le (kd : Nat) : lim kd ≤ 4 := by unfold lim; split <;> omega
theorem s_X5_thing {n : Nat} {x1 x2 : Int32} {τ : ST} {Q : Int32 → ST → Prop} (hn : n ≤ 3) (hm : τ.1 0 0 = nI n) (h1 : ∀ kd s, kd ≤ 3 → s < lim kd → x1 = nI kd → x2 = nI s → n < 3 → wp_X5_comes (nI kd) (nI s) τ Q) (h0 : (∀ kd s, kd ≤ 3 → s < lim kd → x1 = nI kd → x2 = nI s → ¬ n < 3) → Q (-1) τ) : wp_X5_thing x1 x2 τ Q := by
  have part : ∀ (L : Nat) (lI : Int32), lI = nI (L - 1) → (∀ kd, kd ≤ 3 → x1 = nI kd → lim kd = L) → 1 ≤ L → L ≤ 4 → wp_X5_isIn x1 0 3 τ (fun r2 σ1 => ((r2 = 0 → Q (-1) σ1) ∧ (¬ r2 = 0 → (wp_X5_isIn x2 0 lI σ1 (fun r4 σ3 => ((r4 = 0 → Q (-1) σ3) ∧ (¬ r4 = 0 → ((¬ (σ3.1 0 0) = 3 → (wp_X5_comes x1 x2 σ3 (fun r6 σ5 => Q r6 σ5))) ∧ ((σ3.1 0 0) = 3 → Q (-1) σ3))))))))) := by
    intro L lI hl hL hL1 hL4
    subst hl
    refine s_X5_isIn (fun z => ⟨fun y => absurd y (by decide), fun _ => ?_⟩) (fun z => ⟨fun _ => h0 (fun kd s k1 k2 k3 k4 => ?_), fun y => absurd rfl y⟩)
    · obtain ⟨kd, k1, k2⟩ := (le_nI (n := 3) (by omega)).mp z
      refine s_X5_isIn (fun y => ⟨fun w => absurd w (by decide), fun _ => ?_⟩) (fun y => ⟨fun _ => h0 (fun kd' s k3 k4 k5 k6 => ?_), fun w => absurd rfl w⟩)
      · obtain ⟨s, s1, s2⟩ := (le_nI (n := L - 1) (by omega)).mp y
        have el := hL kd k1 k2
        rw [hm, l3, neq (by omega) (by omega), k2, s2]
        exact ⟨fun w => h1 kd s k1 (by omega) k2 s2 (by omega), fun w => h0 (fun kd' s' _ _ _ _ w2 => by omega)⟩
      · exfalso
        apply y
        have el := hL kd' k3 k5
        exact (le_nI (n := L - 1) (by omega)).mpr ⟨s, by omega, k6⟩
    · exact absurd ((le_nI (n := 3) (by omega)).mpr ⟨kd, k1, k3⟩) z
  unfold wp_X5_thing
  refine ⟨fun z => part 3 2 rfl (fun kd k1 k2 => ?_) (by omega) (by omega), fun z => ⟨fun z2 => part 4 3 rfl (fun kd k1 k2 => ?_) (by omega) (by omega), fun z2 => part 3 2 rfl (fun kd k1 k2 => ?_) (by omega) (by omega)⟩⟩
  · rw [k2, l0, neq (by omega) (by omega)] at z
    unfold lim; rw [if_pos (Or.inl z)]
  · rw [k2, l0, neq (by omega) (by omega)] at z
    rw [k2, l2, neq (by omega) (by omega)] at z2
    unfold lim; rw [if_neg (by omega)]
  · rw [k2, l2, neq (by omega) (by omega)] at z2
    unfold lim; rw [if_pos (Or.inr z2)]
theorem s_X4_thing {c : Cf} {now : Nat → Nat} {pr : Nat → Nat → Int32} {ch t : Nat} {x1 x2 : Int32} {σ : ST} {Q : Int32 → ST → Prop} (hc : Ck c) (hch : ch < 1000) (h : CS c now pr ch t σ) (h1 : ∀ kd s, kd ≤ 3 → s < lim kd → x1 = nI kd → x2 = nI s → c.1 < 3 → ∀ σ', CS (newC c kd s 0 0) (nw1 c now s) (pr1 c pr) (ch + 1) t σ' → Q (nI c.1) σ') (h0 : (∀ kd s, kd ≤ 3 → s < lim kd → x1 = nI kd → x2 = nI s → ¬ c.1 < 3) → Q (-1) σ) : wp_X4_thing x1 x2 σ Q := by
  unfold wp_X4_thing
  rcases pk_ix x1 (n := 4) (by omega) with y | y | ⟨kd, j1, j2⟩
  · refine ⟨fun _ => h0 (fun kd s k1 k2 k3 k4 => ?_), fun z => absurd y z⟩
    rw [k3, l0, nlt (by omega) (by omega)] at y; exact absurd y (Nat.not_lt_zero kd)
  · have hno : ∀ kd s, kd ≤ 3 → s < lim kd → x1 = nI kd → x2 = nI s → ¬ c.1 < 3 := fun kd s k1 k2 k3 k4 => by
      rw [k3, nle (by omega) (by omega)] at y; omega
    refine ⟨fun _ => h0 hno, fun _ => ⟨fun z => ?_, fun _ => h0 hno⟩⟩
    have e : nI 4 ≤ nI 3 := Int32.le_trans y z
    rw [nle (by omega) (by omega)] at e; omega
  · subst j2
    rw [l0, nlt (by omega) (by omega), l3, nle (by omega) (by omega)]
    refine ⟨fun z => absurd z (Nat.not_lt_zero kd), fun _ => ⟨fun _ => ?_, fun z => absurd (by omega) z⟩⟩
    refine s_X4_come hc hch h (by omega) (fun s hs e hn σ' g => h1 kd s (by omega) hs rfl e hn σ' g) (fun hno => h0 (fun kd' s k1 k2 k3 k4 => ?_))
    rw [neq (by omega) (by omega)] at k3
    subst k3
    exact hno s k2 k4
theorem r_thing {B : Nat} {x y : Int32} {σ τ : ST} {P : Int32 → Int32 → ST → ST → Prop} (hB : B < 1000) (h : Rel B σ τ) (k : ∀ r σ' τ', Rel (B + 1) σ' τ' → P r r σ' τ') : wp_X4_thing x y σ (fun r σ' => wp_X5_thing x y τ (fun r' τ' => P r r' σ' τ')) := by
  have hu := h.up
  obtain ⟨c, now, pr, ch, q, t, h1, h2, h3, h4, h5, h6, h7⟩ := h
  refine s_X4_thing h1 (by omega) h6 (fun kd s k1 k2 k3 k4 k5 σ' g => s_X5_thing h1.1 h7.1.1 (fun kd' s' j1 j2 j3 j4 j5 => ?_) (fun hno => absurd k5 (hno kd s k1 k2 k3 k4))) (fun hno => s_X5_thing h1.1 h7.1.1 (fun kd' s' j1 j2 j3 j4 j5 => absurd j5 (hno kd' s' j1 j2 j3 j4)) (fun _ => k _ _ _ hu))
  have l1 := lim_le kd
  have l2 := lim_le kd'
  rw [k3, neq (by omega) (by omega)] at j3
  rw [k4, neq (by omega) (by omega)] at j4
  subst j3 j4
  exact s_X5_comes k5 h7.1.1 (fun τ' g2 => k _ _ _ (rel_come h1 h2 h3 h4 h5 (by omega) (by omega) k5 g (h7.come h1 g2 rfl rfl (fun _ _ _ => rfl) (fun z => absurd z (by omega)))))
theorem r_table {B : Nat} {x : Int32} {nx an : Int64} {σ τ : ST} {P : Int32 → Int32 → ST → ST → Prop} (hB : B < 1000) (h : Rel B σ τ) (k : ∀ r σ' τ', Rel (B + 1) σ' τ' → P r r σ' τ') : wp_X4_table x nx an σ (fun r σ' => wp_X5_table x nx an τ (fun r' τ' => P r r' σ' τ')) := by
  have hu := h.up
  obtain ⟨c, now, pr, ch, q, t, h1, h2, h3, h4, h5, h6, h7⟩ := h
  have hc3 := h1.1
  have l4' : lim 4 = 4 := rfl
  have tm : ∀ {R : Int32 → ST → Prop}, (∀ s, s < 4 → x = nI s → c.1 < 3 → ∀ τ1, ComeM c.1 (nI 4) (nI s) τ τ1 → R (nI c.1) (sJ (sJ τ1 8 c.1 nx) 9 c.1 an)) → ((∀ s, s < 4 → x = nI s → ¬ c.1 < 3) → R (-1) τ) → wp_X5_table x nx an τ R := by
    intro R g1 g0
    refine s_X5_isIn (fun z => ⟨fun y => absurd y (by decide), fun _ => ?_⟩) (fun z => ⟨fun _ => g0 (fun s s1 s2 => absurd ((le_nI (n := 3) (by omega)).mpr ⟨s, by omega, s2⟩) z), fun y => absurd rfl y⟩)
    obtain ⟨s, s1, s2⟩ := (le_nI (n := 3) (by omega)).mp z
    rw [h7.1.1, l3, neq (by omega) (by omega)]
    refine ⟨fun w => ?_, fun w => g0 (fun _ _ _ y => by omega)⟩
    subst s2
    refine s_X5_comes (n := c.1) (by omega) h7.1.1 (fun τ1 g => ⟨nvi (by omega) (by omega), fun σ6 e6 σ7 e7 => ?_⟩)
    rw [ncl (by omega)] at e6 e7
    subst e7 e6
    exact g1 s (by omega) rfl (by omega) τ1 g
  refine s_X4_come (kd := 4) h1 (by omega) h6 (by omega) (fun s hs e hn σ' g => tm (fun s' j1 j2 j3 τ1 g2 => ?_) (fun hno => absurd hn (hno s (by omega) e))) (fun hno => tm (fun s' j1 j2 j3 τ1 g2 => absurd j3 (hno s' (by omega) j2)) (fun _ => k _ _ _ hu))
  rw [e, neq (by omega) (by omega)] at j2
  subst j2
  refine k _ _ _ (rel_come h1 h2 h3 h4 h5 (by omega) (by omega) hn g (h7.come h1 g2 rfl rfl (fun p j hj => ?_) (fun _ => ⟨?_, ?_⟩)))
  · by_cases z8 : p = 8
    · subst z8; simp [sJ, vp_updL, hj]
    · by_cases z9 : p = 9
      · subst z9; simp [sJ, vp_updL, hj]
      · simp [sJ, z8, z9]
  · simp [sJ, vp_updL]
  · simp [sJ, vp_updL]
