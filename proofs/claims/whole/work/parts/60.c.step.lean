/-! ===== PURE: one tick at one thing, both sides ===== -/
def sendS (c : Cf) (k s a : Nat) : Nat := if a = 3 ∨ c.2.1 k 2 = 2 then s else nxt c k 0 s a
def clS (c : Cf) (k s t : Nat) : Nat := if c.2.1 k 2 = 1 ∧ (t + 1) % c.2.1 k 3 = 0 then c.2.1 k 1 else s
def hearS (c : Cf) (k s a : Nat) : Nat := if a = 3 then s else nxt c k 1 s a
def rawA (c : Cf) (k s a : Nat) : Nat := if a = 3 then 0 else ans c k 1 s a
def answ (c : Cf) (k s a : Nat) : Nat := if c.2.1 k 2 = 3 ∧ c.2.1 k 4 < rawA c k s a then c.2.1 k 4 else rawA c k s a
def prd (c : Cf) (k : Nat) : Nat := if c.2.1 k 2 = 1 then c.2.1 k 3 else 1
theorem sendS_lt {c : Cf} (hc : Ck c) {k s a : Nat} (hk : k < c.1) (hs : s < 4) (ha : a < 4) : sendS c k s a < 4 := by
  unfold sendS
  split
  · exact hs
  · exact nxt_lt hc hk (by omega) hs (by omega)
theorem clS_lt {c : Cf} (hc : Ck c) {k s t : Nat} (hk : k < c.1) (hs : s < 4) : clS c k s t < 4 := by
  unfold clS
  have := (hc.2 k hk).2.1
  split <;> omega
theorem hearS_lt {c : Cf} (hc : Ck c) {k s a : Nat} (hk : k < c.1) (hs : s < 4) (ha : a < 4) : hearS c k s a < 4 := by
  unfold hearS
  split
  · exact hs
  · exact nxt_lt hc hk (by omega) hs (by omega)
theorem rawA_lt {c : Cf} (hc : Ck c) {k s a : Nat} (hk : k < c.1) (hs : s < 4) (ha : a < 4) : rawA c k s a < 4 := by
  unfold rawA
  split
  · omega
  · exact ans_lt hc hk (by omega) hs (by omega)
theorem answ_lt {c : Cf} (hc : Ck c) {k s a : Nat} (hk : k < c.1) (hs : s < 4) (ha : a < 4) : answ c k s a < 4 := by
  unfold answ
  have h1 := (hc.2 k hk).2.2.2.2.2
  have h2 := rawA_lt hc hk hs ha
  split <;> omega
theorem low2' (y : Int64) : Int64.toInt32 (y &&& 3) = nI ((bt y 0).toNat + 2 * (bt y 1).toNat) := by
  rw [← low2, Int64.toInt32_and]
  rfl
theorem tb_mod {p s a : Nat} (h2 : p < 2) (h3 : s < 4) (h4 : a < 3) : 12 * p + 3 * s + a < 24 := by omega
set_option maxHeartbeats 4000000 in
theorem actK {kd p s a : Nat} (h1 : kd < 4) (h2 : p < 2) (h3 : s < 4) (h4 : a < 3) {P : Int32 → Prop} (h : P (nI (nK kd p s a + 4 * aK kd p s a))) :
  ((¬ nI a = 2 → ((nI kd = 0 → ((¬ nI a = 1 → ((¬ nI s = (nI p + 1) → P ((nI p + 1) + 4)) ∧
  (nI s = (nI p + 1) → P (nI s)))) ∧
  (nI a = 1 → P 0))) ∧
  (¬ nI kd = 0 → ((nI kd = 1 → ((¬ nI a = 0 → ((¬ nI s = 0 → P (nI s - 1)) ∧
  (nI s = 0 → P (nI s + 4)))) ∧
  (nI a = 0 → ((¬ nI s = 3 → P (nI s + 1)) ∧
  (nI s = 3 → P (nI s + 4)))))) ∧
  (¬ nI kd = 1 → ((nI kd = 2 → ((¬ nI a = 0 → ((¬ nI s = (nI p + 1) → P (nI s + 4)) ∧
  (nI s = (nI p + 1) → P 0))) ∧
  (nI a = 0 → ((nI s = 0 → P (nI p + 1)) ∧
  (¬ nI s = 0 → ((¬ nI s = (nI p + 1) → P (nI s + 4)) ∧
  (nI s = (nI p + 1) → P (nI p + 1)))))))) ∧
  (¬ nI kd = 2 → ((¬ nI a = 0 → P ((nI s + 1) - (nI s + 1) / 4 * 4)) ∧
  (nI a = 0 → P (nI s + (4 * nI s))))))))))) ∧
  (nI a = 2 → P (nI s))) := by
  rcases (show kd = 0 ∨ kd = 1 ∨ kd = 2 ∨ kd = 3 by omega) with rfl | rfl | rfl | rfl <;> rcases (show p = 0 ∨ p = 1 by omega) with rfl | rfl <;> rcases (show s = 0 ∨ s = 1 ∨ s = 2 ∨ s = 3 by omega) with rfl | rfl | rfl | rfl <;> rcases (show a = 0 ∨ a = 1 ∨ a = 2 by omega) with rfl | rfl | rfl <;> simpa [nK, aK, nI] using h
theorem s_X5_act {c : Cf} {k p s a : Nat} {τ : ST} {Q : Int32 → ST → Prop} (hc : Ck c) (hR : RM c τ) (hk : k < c.1) (h2 : p < 2) (h3 : s < 4) (h4 : a < 3) (h : Q (nI (nxt c k p s a + 4 * ans c k p s a)) τ) : wp_X5_act (nI k) (nI p) (nI s) (nI a) τ Q := by
  obtain ⟨e1, -, -, -, -, e2⟩ := hR.2 k hk
  have b1 := (hc.2 k hk).1
  have b3 := hc.1
  unfold wp_X5_act
  unfold nxt ans at h
  refine ⟨nvi (by omega) (by omega), ?_⟩
  simp only [ncl (show k < 2147483648 by omega), e1]
  by_cases q : c.2.1 k 0 = 4
  · rw [if_pos q, if_pos q] at h
    refine ⟨fun q2 => absurd (by rw [q]; rfl) q2, fun _ => ?_⟩
    have hj := tb_mod h2 h3 h4
    rw [(e2 q).1, (e2 q).2, tsh, sh64 (by omega), low2', low2', bt_sar _ (by omega) (by omega), bt_sar _ (by omega) (by omega), bt_sar _ (by omega) (by omega), bt_sar _ (by omega) (by omega), l4, pk_mul, nI_add]
    exact h
  · rw [if_neg q, if_neg q] at h
    refine ⟨fun _ => ?_, fun q2 => absurd ((neq (b := 4) (by omega) (by omega)).mp q2) q⟩
    exact actK (P := fun r => Q r τ) (by omega) h2 h3 h4 h
theorem qeq {a b : Nat} (ha : a < 2147483648) (hb : b < 2147483648) : (nI a = nI b) = (a = b) := propext (neq ha hb)
theorem qle {a b : Nat} (ha : a < 2147483648) (hb : b < 2147483648) : (nI a ≤ nI b) = (a ≤ b) := propext (nle ha hb)
theorem qlt {a b : Nat} (ha : a < 2147483648) (hb : b < 2147483648) : (nI a < nI b) = (a < b) := propext (nlt ha hb)
theorem s_X5_sends {c : Cf} {k s a : Nat} {τ : ST} {Q : Int32 → ST → Prop} (hc : Ck c) (hR : RM c τ) (hk : k < c.1) (h3 : s < 4) (h4 : a < 4) (h : Q (nI (sendS c k s a)) τ) : wp_X5_sends (nI k) (nI s) (nI a) τ Q := by
  obtain ⟨-, -, e3, -, -, -⟩ := hR.2 k hk
  have b1 := hc.2 k hk
  have b3 := hc.1
  unfold wp_X5_sends
  unfold sendS at h
  simp only [ncl (show k < 2147483648 by omega), e3, l3, l2, qeq (show a < 2147483648 by omega) (show 3 < 2147483648 by omega), qeq (show c.2.1 k 2 < 2147483648 by omega) (show 2 < 2147483648 by omega)]
  refine ⟨fun q => by rw [if_pos (Or.inl q)] at h; exact h, fun q => ⟨nvi (by omega) (by omega), fun q2 => ?_, fun q2 => by rw [if_pos (Or.inr q2)] at h; exact h⟩⟩
  rw [if_neg (by omega)] at h
  refine s_X5_act (p := 0) hc hR hk (by omega) h3 (by omega) ?_
  have hb := nxt_lt hc (p := 0) hk (by omega) h3 (show a < 3 by omega)
  have hb2 := ans_lt hc (p := 0) hk (by omega) h3 (show a < 3 by omega)
  rw [l4, pk_rem (by omega) (by omega) (by omega), show (nxt c k 0 s a + 4 * ans c k 0 s a) % 4 = nxt c k 0 s a by omega]
  exact h
theorem s_X5_hears {c : Cf} {k s a : Nat} {τ : ST} {Q : Int32 → ST → Prop} (hc : Ck c) (hR : RM c τ) (hk : k < c.1) (h3 : s < 4) (h4 : a < 4) (h : Q (nI (hearS c k s a)) τ) : wp_X5_hears (nI k) (nI s) (nI a) τ Q := by
  unfold wp_X5_hears
  unfold hearS at h
  simp only [l3, qeq (show a < 2147483648 by omega) (show 3 < 2147483648 by omega)]
  refine ⟨fun q => ?_, fun q => by rw [if_pos q] at h; exact h⟩
  rw [if_neg q] at h
  refine s_X5_act (p := 1) hc hR hk (by omega) h3 (by omega) ?_
  have hb := nxt_lt hc (p := 1) hk (by omega) h3 (show a < 3 by omega)
  have hb2 := ans_lt hc (p := 1) hk (by omega) h3 (show a < 3 by omega)
  rw [l4, pk_rem (by omega) (by omega) (by omega), show (nxt c k 1 s a + 4 * ans c k 1 s a) % 4 = nxt c k 1 s a by omega]
  exact h
theorem s_X5_cleans {c : Cf} {k s t : Nat} {τ : ST} {Q : Int32 → ST → Prop} (hc : Ck c) (hR : RM c τ) (hk : k < c.1) (ht : t < 100000) (h : Q (nI (clS c k s t)) τ) : wp_X5_cleans (nI k) (nI s) (nI t) τ Q := by
  obtain ⟨-, e2, e3, e4, -, -⟩ := hR.2 k hk
  have b1 := hc.2 k hk
  have b3 := hc.1
  unfold wp_X5_cleans
  unfold clS at h
  simp only [ncl (show k < 2147483648 by omega), e2, e3, e4, l0, l1, nI_add, qeq (show c.2.1 k 2 < 2147483648 by omega) (show 1 < 2147483648 by omega)]
  refine ⟨nvi (by omega) (by omega), fun q => by rw [if_neg (by omega)] at h; exact h, fun q => ?_⟩
  rw [pk_rem (by omega) (by omega) (by omega)]
  have hm : (t + 1) % c.2.1 k 3 < 4 := Nat.lt_of_lt_of_le (Nat.mod_lt _ (by omega)) (by omega)
  simp only [qeq (show (t + 1) % c.2.1 k 3 < 2147483648 by omega) (show 0 < 2147483648 by omega), qeq (show c.2.1 k 3 < 2147483648 by omega) (show 0 < 2147483648 by omega)]
  refine ⟨by omega, fun q2 => ?_, fun q2 => ?_⟩
  · rw [if_neg (fun z => q2 z.2)] at h; exact h
  · rw [if_pos ⟨q, q2⟩] at h; exact h
theorem s_X5_answers {c : Cf} {k s a : Nat} {τ : ST} {Q : Int32 → ST → Prop} (hc : Ck c) (hR : RM c τ) (hk : k < c.1) (h3 : s < 4) (h4 : a < 4) (h : Q (nI (answ c k s a)) τ) : wp_X5_answers (nI k) (nI s) (nI a) τ Q := by
  obtain ⟨-, -, e3, -, e5, -⟩ := hR.2 k hk
  have b1 := hc.2 k hk
  have b3 := hc.1
  have br := rawA_lt hc hk h3 h4
  unfold wp_X5_answers
  unfold answ at h
  simp only [ncl (show k < 2147483648 by omega), l3, qeq (show a < 2147483648 by omega) (show 3 < 2147483648 by omega)]
  refine ⟨fun q => ?_, fun q => ?_⟩
  · have er : rawA c k s a = ans c k 1 s a := if_neg q
    refine s_X5_act (p := 1) hc hR hk (by omega) h3 (by omega) ?_
    have hb := nxt_lt hc (p := 1) hk (by omega) h3 (show a < 3 by omega)
    have hb2 := ans_lt hc (p := 1) hk (by omega) h3 (show a < 3 by omega)
    rw [l4, pk_div (by omega) (by omega) (by omega), show (nxt c k 1 s a + 4 * ans c k 1 s a) / 4 = ans c k 1 s a by omega]
    rw [er] at h
    simp only [e3, e5, qeq (show c.2.1 k 2 < 2147483648 by omega) (show 3 < 2147483648 by omega), qle (show ans c k 1 s a < 2147483648 by omega) (show c.2.1 k 4 < 2147483648 by omega)]
    refine ⟨nvi (by omega) (by omega), fun q2 => ?_, fun q2 => ⟨fun q3 => ?_, fun q3 => ?_⟩⟩
    · rw [if_neg (fun z => q2 z.1)] at h; exact h
    · rw [if_neg (by omega)] at h; exact h
    · rw [if_pos (by omega)] at h; exact h
  · have er : rawA c k s a = 0 := if_pos q
    rw [er] at h
    simp only [e3, e5, l0, qeq (show c.2.1 k 2 < 2147483648 by omega) (show 3 < 2147483648 by omega), qle (show 0 < 2147483648 by omega) (show c.2.1 k 4 < 2147483648 by omega)]
    rw [if_neg (by omega)] at h
    exact ⟨nvi (by omega) (by omega), fun _ => h, fun _ => ⟨fun _ => h, fun z => absurd (Nat.zero_le _) z⟩⟩
theorem s_X5_phases {c : Cf} {k : Nat} {τ : ST} {Q : Int32 → ST → Prop} (hc : Ck c) (hR : RM c τ) (hk : k < c.1) (h : Q (nI (prd c k)) τ) : wp_X5_phases (nI k) τ Q := by
  obtain ⟨-, -, e3, e4, -, -⟩ := hR.2 k hk
  have b1 := hc.2 k hk
  have b3 := hc.1
  unfold wp_X5_phases
  unfold prd at h
  simp only [ncl (show k < 2147483648 by omega), e3, e4, l1, qeq (show c.2.1 k 2 < 2147483648 by omega) (show 1 < 2147483648 by omega)]
  refine ⟨nvi (by omega) (by omega), fun q => ?_, fun q => ?_⟩
  · rw [if_neg q] at h; exact h
  · rw [if_pos q] at h; exact h
theorem prd_le {c : Cf} (hc : Ck c) {k : Nat} (hk : k < c.1) : 1 ≤ prd c k ∧ prd c k ≤ 4 := by
  have b1 := hc.2 k hk
  unfold prd
  split <;> omega
theorem s_X5_at {a b t : Nat} {τ : ST} {Q : Int32 → ST → Prop} (h : Q (nI (16 * t + 4 * a + b)) τ) : wp_X5_at (nI a) (nI b) (nI t) τ Q := by
  unfold wp_X5_at
  rw [l16, l4, pk_mul, pk_mul, nI_add, nI_add]
  exact h
