/-! ===== PURE: the room is built ===== -/
theorem s_X4_wallIn {W k : Nat} {σ : ST} {Q : Int32 → ST → Prop} (hW : W < 64) (hk : k < 3) (h : Q (nI (W / 4 ^ k % 4)) σ) : wp_X4_wallIn (nI W) (nI k) σ Q := by
  unfold wp_X4_wallIn
  have : ∀ W, W < 64 → ∀ k, k < 3 → ((nI W >>> ((2 * nI k) &&& 31)) &&& 3) = nI (W / 4 ^ k % 4) := by decide +kernel
  rw [this W hW k hk]
  exact h
def setW (c : Cf) (W : Nat) : Cf := (c.1, fun k j => if j = 2 then W / 4 ^ k % 4 else c.2.1 k j, c.2.2.1, c.2.2.2)
theorem setW_ok {c : Cf} (hc : Ck c) (W : Nat) : Ck (setW c W) := by
  refine ⟨hc.1, fun k hk => ?_⟩
  have h := hc.2 k hk
  have h2 : W / 4 ^ k % 4 < 4 := Nat.mod_lt _ (by decide)
  exact ⟨h.1, h.2.1, by show W / 4 ^ k % 4 ≤ 3; omega, h.2.2.2.1, h.2.2.2.2.1, h.2.2.2.2.2⟩
theorem setW_T {c : Cf} {W : Nat} {σ : ST} (h : RT c σ) : RT (setW c W) σ := h
theorem stN_setW (c : Cf) (W n : Nat) : stN (setW c W) n = stN c n := by
  induction n with
  | zero => rfl
  | succ n ih => unfold stN; rw [ih]; rfl
theorem stN_lt {c : Cf} (hc : Ck c) : ∀ n, n ≤ c.1 → stN c n < 4 ^ n := by
  intro n
  induction n with
  | zero => intro _; exact Nat.one_pos
  | succ n ih =>
    intro hn
    unfold stN
    have h1 := ih (by omega)
    have h2 := (hc.2 n (by omega)).2.1
    have h3 : c.2.1 n 1 * 4 ^ n ≤ 3 * 4 ^ n := Nat.mul_le_mul_right _ h2
    rw [Nat.pow_succ]
    omega
theorem stv_lt {c : Cf} (hc : Ck c) : stv c < 64 := by
  have h1 := stN_lt hc c.1 (Nat.le_refl _)
  have h2 : (4 : Nat) ^ c.1 ≤ 4 ^ 3 := Nat.pow_le_pow_right (by decide) hc.1
  unfold stv
  omega
def FrR (σ σ' : ST) : Prop := (∀ q, q ≠ 10 → σ'.1 q = σ.1 q ∧ σ'.2.1 q = σ.2.1 q) ∧ σ'.2.2.2 = σ.2.2.2 ∧ ∀ q, (q < 11 ∨ 15 < q) → σ'.2.2.1 q = σ.2.2.1 q
theorem FrR.rf (σ : ST) : FrR σ σ := ⟨fun _ _ => ⟨rfl, rfl⟩, rfl, fun _ _ => rfl⟩
theorem FrR.tr {σ σ1 σ2 : ST} (h : FrR σ σ1) (g : FrR σ1 σ2) : FrR σ σ2 := ⟨fun q hq => ⟨(g.1 q hq).1.trans (h.1 q hq).1, (g.1 q hq).2.trans (h.1 q hq).2⟩, g.2.1.trans h.2.1, fun q hq => (g.2.2 q hq).trans (h.2.2 q hq)⟩
theorem FrR.T {c : Cf} {σ σ' : ST} (hc : Ck c) (h : FrR σ σ') (hT : RT c σ) : RT c σ' := by
  intro k hk
  have hk3 := hc.1
  obtain ⟨e1, e2⟩ := h.1 (4 + 2 * k) (by omega)
  rw [e1, e2]
  exact hT k hk
def rowK (c : Cf) (k a : Nat) (σ : ST) : Prop := ∀ s, s < 4 → σ.2.2.1 11 (4 * (3 * k + a) + s) = nI (sendS c k s a) ∧ σ.2.2.1 12 (4 * (3 * k + a) + s) = nI (hearS c k s a) ∧ σ.2.2.1 13 (4 * (3 * k + a) + s) = nI (answ c k s a)
def hdK (c : Cf) (k : Nat) (σ : ST) : Prop := σ.2.2.1 14 k = nI (if c.2.1 k 2 = 1 then c.2.1 k 3 else 0) ∧ σ.2.2.1 15 k = nI (c.2.1 k 1)
def IB (c : Cf) (m : Nat) (σ σ1 : ST) : Prop := FrR σ σ1 ∧ σ1.1 10 5 = nI (3 * c.1) ∧ (∀ v, v < 64 → bt (σ1.2.1 10 6) v = decide (v = stN c m)) ∧ ∀ k, k < m → hdK c k σ1 ∧ ∀ a, a < 3 → rowK c k a σ1
def IB2 (c : Cf) (m a : Nat) (σ σ1 : ST) : Prop := FrR σ σ1 ∧ σ1.1 10 5 = nI (3 * c.1) ∧ (∀ v, v < 64 → bt (σ1.2.1 10 6) v = decide (v = stN c (m + 1))) ∧ (∀ k, k < m → hdK c k σ1 ∧ ∀ a, a < 3 → rowK c k a σ1) ∧ hdK c m σ1 ∧ ∀ a', a' < a → rowK c m a' σ1
theorem BA.fr {c : Cf} {k a m : Nat} {σ σ' : ST} (h : BA c k a m σ σ') : FrR σ σ' := ⟨fun q _ => ⟨by rw [h.1], by rw [h.2.1]⟩, h.2.2.1, fun q hq => h.2.2.2.1 q (by omega) (by omega) (by omega)⟩
theorem BA.row {c : Cf} {k a k2 a2 : Nat} {σ σ' : ST} (h : BA c k a 4 σ σ') (hne : 3 * k2 + a2 ≠ 3 * k + a) (hr : rowK c k2 a2 σ) : rowK c k2 a2 σ' := by
  intro s hs
  obtain ⟨e1, e2, e3⟩ := h.2.2.2.2.1 (4 * (3 * k2 + a2) + s) (by omega)
  rw [e1, e2, e3]
  exact hr s hs
theorem BA.hd {c : Cf} {k a k2 : Nat} {σ σ' : ST} (h : BA c k a 4 σ σ') (hr : hdK c k2 σ) : hdK c k2 σ' := by
  unfold hdK
  rw [h.2.2.2.1 14 (by decide) (by decide) (by decide), h.2.2.2.1 15 (by decide) (by decide) (by decide)]
  exact hr
theorem IB2.step {c : Cf} {m a : Nat} {σ σ1 σ2 : ST} (ha : a < 3) (h : IB2 c m a σ σ1) (hB : BA c m a 4 σ1 σ2) : IB2 c m (a + 1) σ σ2 := by
  obtain ⟨h1, h2, h3, h4, h5, h6⟩ := h
  refine ⟨h1.tr hB.fr, by rw [hB.1]; exact h2, by rw [hB.2.1]; exact h3, fun k hk => ⟨hB.hd (h4 k hk).1, fun a2 ha2 => hB.row (by omega) ((h4 k hk).2 a2 ha2)⟩, hB.hd h5, fun a2 ha2 => ?_⟩
  by_cases e : a2 = a
  · subst e
    exact fun s hs => hB.2.2.2.2.2 s hs
  · exact hB.row (by omega) (h6 a2 (by omega))
theorem s_X1_build_L87 {c : Cf} {m W n0 : Nat} {σ : ST} {K Q : ST → Prop} (hc : Ck c) (hT : RT c σ) (hm : m < c.1) (hW : W < 64) (hw : c.2.1 m 2 = W / 4 ^ m % 4) (h : ∀ σ', IB2 c m 3 σ σ' → K σ') :
    ∀ (d a : Nat) (σ1 : ST), a + d = 3 → IB2 c m a σ σ1 → wp_X1_build_L87 (nI n0) (nI W) (nI m) K Q (d + 1) (nI a) σ1 := by
  have b3 := hc.1
  intro d
  induction d with
  | zero =>
    intro a σ1 ha hB
    have : a = 3 := by omega
    subst this
    unfold wp_X1_build_L87
    exact ⟨fun _ => h _ hB, fun q => absurd (Int32.le_refl _) q⟩
  | succ d ih =>
    intro a σ1 ha hB
    unfold wp_X1_build_L87
    rw [l3, nle (by omega) (by omega)]
    refine ⟨fun q => absurd q (by omega), fun _ => ⟨nvi (by omega) (by omega), s_X4_wallIn hW (by omega) ?_⟩⟩
    rw [ncl (by omega), ← hw]
    refine s_X1_buildAct hc (hB.1.T hc hT) hm (by omega) (fun σ' hB' => ?_)
    rw [nI_1]
    exact ih (a + 1) σ' (by omega) (hB.step (by omega) hB')
theorem IB2.top {c : Cf} {m : Nat} {σ σ1 : ST} (h : IB2 c m 3 σ σ1) : IB c (m + 1) σ σ1 := by
  obtain ⟨h1, h2, h3, h4, h5, h6⟩ := h
  refine ⟨h1, h2, h3, fun k hk => ?_⟩
  by_cases e : k = m
  · subst e; exact ⟨h5, h6⟩
  · exact h4 k (by omega)
theorem IB.hdstep {c : Cf} {m : Nat} {σ σ1 : ST} (hc : Ck c) (hm : m < c.1) (h : IB c m σ σ1) {v : Int32} (hv : v = nI (if c.2.1 m 2 = 1 then c.2.1 m 3 else 0)) {x : Int64} (hx : ∀ v, v < 64 → bt x v = decide (v = stN c (m + 1))) : IB2 c m 0 σ (sR (sR (sL σ1 10 6 x) 15 m (nI (c.2.1 m 1))) 14 m v) := by
  obtain ⟨h1, h2, h3, h4⟩ := h
  refine ⟨⟨fun q hq => ?_, h1.2.1, fun q hq => ?_⟩, h2, fun w hw => ?_, fun k hk => ⟨?_, fun a ha s hs => ?_⟩, ⟨?_, ?_⟩, fun a ha => absurd ha (by omega)⟩
  · have := h1.1 q hq
    refine ⟨this.1, ?_⟩
    rw [← this.2]
    funext z
    simp [sR, sL, hq]
  · have h14 : ¬ q = 14 := by omega
    have h15 : ¬ q = 15 := by omega
    rw [← h1.2.2 q hq]
    simp [sR, sL, h14, h15]
  · show bt ((sR (sR (sL σ1 10 6 x) 15 m (nI (c.2.1 m 1))) 14 m v).2.1 10 6) w = _
    simp [sR, sL, hx w hw]
  · obtain ⟨⟨g1, g2⟩, -⟩ := h4 k hk
    have hne : ¬ k = m := by omega
    simp [hdK, sR, sL, upd, hne, g1, g2]
  · have := (h4 k hk).2 a ha s hs
    simpa [sR, sL] using this
  · simp [sR, sL, upd, hv]
  · simp [sR, sL, upd]
theorem fsh : ∀ f, f < 4 → ∀ k, k < 3 → (nI f <<< ((2 * nI k) &&& 31)) = nI (f * 4 ^ k) := by decide +kernel
theorem s_X1_build_L15 {c : Cf} {W : Nat} {σ : ST} {Q : ST → Prop} (hc : Ck c) (hT : RT c σ) (hW : W < 64) (hw : ∀ k, k < c.1 → c.2.1 k 2 = W / 4 ^ k % 4) (h : ∀ σ', IB c c.1 σ σ' → Q σ') :
    ∀ (d m : Nat) (σ1 : ST), m + d = c.1 → IB c m σ σ1 → wp_X1_build_L15 (nI c.1) (nI W) Q (d + 1) (nI m) σ1 := by
  have b3 := hc.1
  intro d
  induction d with
  | zero =>
    intro m σ1 hm hB
    have : m = c.1 := by omega
    subst this
    unfold wp_X1_build_L15
    exact ⟨fun _ => h _ hB, fun q => absurd (Int32.le_refl _) q⟩
  | succ d ih =>
    intro m σ1 hm hB
    have hmc : m < c.1 := by omega
    have b1 := hc.2 m hmc
    have hT1 := hB.1.T hc hT
    obtain ⟨-, e2, e4, -, -⟩ := hT1 m hmc
    unfold wp_X1_build_L15
    rw [nle (by omega) (by omega)]
    refine ⟨fun q => absurd q (by omega), fun _ => ⟨nvi (by omega) (by omega), fun σ5 e5 σ7 e7 => s_X4_wallIn hW (by omega) ?_⟩⟩
    rw [ncl (by omega)] at e5 e7
    rw [ncl (by omega)]
    rw [← hw m hmc, l1, qeq (by omega) (by omega)]
    have hx : ∀ v, v < 64 → bt (σ1.2.1 10 6 <<< (Int32.toInt64 ((σ1.1 (4 + 2 * m) 2 : Int32) <<< (((2 * nI m) : Int32) &&& 31)) &&& 63)) v = decide (v = stN c (m + 1)) := by
      intro v hv
      rw [e2, fsh _ (by omega) m (by omega)]
      have hp : (4 : Nat) ^ m ≤ 4 ^ 2 := Nat.pow_le_pow_right (by decide) (by omega)
      have hq : c.2.1 m 1 * 4 ^ m ≤ 3 * 4 ^ 2 := Nat.mul_le_mul b1.2.1 hp
      rw [bt_shl _ (by omega) hv]
      rw [hB.2.2.1 (v - c.2.1 m 1 * 4 ^ m) (by omega)]
      have e9 : stN c (m + 1) = stN c m + c.2.1 m 1 * 4 ^ m := rfl
      rw [e9]
      by_cases z : c.2.1 m 1 * 4 ^ m ≤ v
      · simp only [z, decide_true, Bool.true_and]
        congr 1
        apply propext
        omega
      · have z2 : ¬ v = stN c m + c.2.1 m 1 * 4 ^ m := by omega
        simp [z, z2]
    have efirst : σ5.1 (4 + 2 * m) 2 = nI (c.2.1 m 1) := by rw [e5]; exact e2
    rw [efirst] at e7
    have eclean : σ7.1 (4 + 2 * m) 4 = nI (c.2.1 m 3) := by rw [e7, e5]; exact e4
    refine ⟨fun q => fun σ10 e10 => ⟨4, s_X1_build_L87 hc hT hmc hW (hw m hmc) (fun σ' hB' => ?_) 3 0 σ10 (by omega) ?_⟩, fun q => fun σ10 e10 => ⟨4, s_X1_build_L87 hc hT hmc hW (hw m hmc) (fun σ' hB' => ?_) 3 0 σ10 (by omega) ?_⟩⟩
    · rw [nI_add]; exact ih (m + 1) σ' (by omega) hB'.top
    · rw [e10, e7, e5]; exact hB.hdstep hc hmc (by rw [if_neg q]; rfl) hx
    · rw [nI_add]; exact ih (m + 1) σ' (by omega) hB'.top
    · rw [eclean] at e10; rw [e10, e7, e5]; exact hB.hdstep hc hmc (by rw [if_pos q]) hx
theorem s_X1_build {c : Cf} {W : Nat} {σ : ST} {Q : ST → Prop} (hc : Ck c) (hT : RT c σ) (hW : W < 64) (h : ∀ σ', FrR σ σ' → RO (setW c W) σ' → Q σ') : wp_X1_build (nI c.1) (nI W) σ Q := by
  unfold wp_X1_build
  intro σ1 e1 σ2 e2
  have hc' := setW_ok hc W
  refine ⟨c.1 + 1, s_X1_build_L15 (c := setW c W) (σ := σ) hc' hT hW (fun k _ => rfl) (fun σ' hB => h σ' hB.1 ⟨hB.2.1, hB.2.2.1, fun k hk => ⟨((hB.2.2.2 k hk).1).1, ((hB.2.2.2 k hk).1).2, (hB.2.2.2 k hk).2⟩⟩) c.1 0 σ2 (by show 0 + c.1 = c.1; omega) ?_⟩
  rw [e2, e1]
  refine ⟨⟨fun q hq => ⟨?_, ?_⟩, rfl, fun _ _ => rfl⟩, ?_, fun v hv => ?_, fun k hk => absurd hk (by omega)⟩
  · funext z; simp [sL, sI, hq]
  · funext z; simp [sL, sI, hq]
  · simp [sL, sI, l3, pk_mul, setW]
  · have e : bt ((sL (sI σ 10 5 (3 * nI c.1)) 10 6 1).2.1 10 6) v = bt 1 v := by simp [sL, sI]
    rw [e, bt_lit1 v hv]
    rfl
