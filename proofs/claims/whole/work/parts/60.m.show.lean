/-! ===== PURE: the reference shows the pair ===== -/
theorem s_X5_isIn {x lo hi : Int32} {σ : ST} {Q : Int32 → ST → Prop} (h1 : lo ≤ x ∧ x ≤ hi → Q 1 σ) (h0 : ¬ (lo ≤ x ∧ x ≤ hi) → Q 0 σ) : wp_X5_isIn x lo hi σ Q := by
  unfold wp_X5_isIn
  exact ⟨fun q => h0 (fun z => Int32.not_lt.mpr z.1 q), fun q => ⟨fun q2 => h0 (fun z => Int32.not_lt.mpr z.2 q2), fun q2 => h1 ⟨Int32.not_lt.mp q, Int32.not_lt.mp q2⟩⟩⟩
theorem le_nI {x : Int32} {n : Nat} (hn : n < 2147483648) : (0 ≤ x ∧ x ≤ nI n) ↔ ∃ k, k ≤ n ∧ x = nI k := by
  constructor
  · rintro ⟨h1, h2⟩
    obtain ⟨j, hj, rfl⟩ := nI_of (x := x) (Int32.not_lt.mpr h1)
    exact ⟨j, (nle (by omega) hn).mp h2, rfl⟩
  · rintro ⟨k, hk, rfl⟩
    exact ⟨nI_pos' (by omega), (nle (by omega) hn).mpr hk⟩
theorem thingIx {x : Int32} {n : Nat} (hn : n ≤ 100) : (0 ≤ x ∧ x ≤ nI n - 1) ↔ ∃ k, k < n ∧ x = nI k := by
  rcases Nat.eq_zero_or_pos n with q | q
  · subst q
    constructor
    · rintro ⟨h1, h2⟩
      exfalso
      have h3 := Int32.le_iff_toInt_le.mp h1
      have h4 := Int32.le_iff_toInt_le.mp h2
      have e1 : (0 : Int32).toInt = 0 := by decide
      have e2 : (nI 0 - 1).toInt = -1 := by decide
      omega
    · rintro ⟨k, hk, -⟩; omega
  · rw [l1, pk_sub q, le_nI (by omega)]
    constructor
    · rintro ⟨k, hk, e⟩; exact ⟨k, by omega, e⟩
    · rintro ⟨k, hk, e⟩; exact ⟨k, by omega, e⟩
theorem s_X5_isThing {n : Nat} {x : Int32} {τ : ST} {Q : Int32 → ST → Prop} (hn : n ≤ 3) (hm : τ.1 0 0 = nI n) (h1 : ∀ k, k < n → x = nI k → Q 1 τ) (h0 : (∀ k, k < n → x ≠ nI k) → Q 0 τ) : wp_X5_isThing x τ Q := by
  unfold wp_X5_isThing
  rw [hm]
  refine s_X5_isIn (fun q => ⟨Or.inr rfl, ?_⟩) (fun q => ⟨Or.inl rfl, ?_⟩)
  · obtain ⟨k, hk, e⟩ := (thingIx (by omega)).mp q
    exact h1 k hk e
  · exact h0 (fun k hk e => q ((thingIx (by omega)).mpr ⟨k, hk, e⟩))
theorem s_X4_isThing {n : Nat} {x : Int32} {σ : ST} {Q : Int32 → ST → Prop} (hn : n ≤ 3) (hm : σ.1 0 4 = nI n) (h1 : ∀ k, k < n → x = nI k → Q 1 σ) (h0 : (∀ k, k < n → x ≠ nI k) → Q 0 σ) : wp_X4_isThing x σ Q := by
  unfold wp_X4_isThing
  rw [hm]
  rcases pk_ix x (show n < 2 ^ 31 by omega) with q | q | ⟨k, hk, rfl⟩
  · have hno : ∀ k, k < n → x ≠ nI k := fun k hk e => nI_pos (n := k) (by omega) (e ▸ q)
    refine ⟨fun _ => h0 hno, fun z => absurd q z⟩
  · have hno : ∀ k, k < n → x ≠ nI k := fun k hk e => by
      rw [e, nle (by omega) (by omega)] at q; omega
    exact ⟨fun _ => h0 hno, fun _ => ⟨fun _ => h0 hno, fun z => absurd q z⟩⟩
  · refine ⟨fun z => absurd z (nI_pos (by omega)), fun _ => ⟨fun z => ?_, fun _ => h1 k hk rfl⟩⟩
    rw [nle (by omega) (by omega)] at z; omega
theorem s_X5_named {k a : Nat} {σ : ST} {Q : Int32 → ST → Prop} (ha : a < 4) (h : Q (nI (nmd k a)) σ) : wp_X5_named (nI k) (nI a) σ Q := by
  unfold wp_X5_named
  unfold nmd at h
  rw [l3, l9, pk_mul, nI_add, neq (by omega) (by omega)]
  exact ⟨fun q => by rw [if_neg q] at h; exact h, fun q => by rw [if_pos q] at h; exact h⟩
def AR (c : Cf) (k : Nat) (τ : ST) : Prop := ∀ v, v < 64 → v % 4 < prd c k → τ.2.2.1 10 (mv v) = nI (dst (gT c k) (gS c k) v)
theorem aft_le (T : Nat → Nat → Bool) (S : Nat → Nat → Nat) (v e : Nat) : aft T S v e ≤ 1001 := by
  unfold aft
  split
  · omega
  · rcases dst_cases T S (S v e) with ⟨q, -⟩ | ⟨q, -⟩ <;> omega
theorem s_X5_show_L79 {c : Cf} {k i L v : Nat} {x2 x3 : Int32} {τ : ST} {K : Int32 → ST → Prop} {Q : Int32 → ST → Prop} (hc : Ck c) (hR : RM c τ) (hk : k < c.1) (hA : AR c k τ) (hv : v < 64) (hL : L ≤ 64) (hi : i < L) (hd : dst (gT c k) (gS c k) v = L - i) (h : K (nI (ge (gT c k) (gS c k) v)) τ) :
    ∀ (d w : Nat), w + d = ge (gT c k) (gS c k) v → wp_X5_show_L79 (nI k) x2 x3 (nI L) (nI (v / 16)) (nI (v / 4 % 4)) (nI i) (nI (v % 4)) K Q (d + 1) (nI w) τ := by
  have hS := gS_lt hc hk
  obtain ⟨g1, g2, g3⟩ := ge_spec (gT c k) (gS c k) hS hv (by omega)
  have er : ∀ w, w < 64 → (if gT c k v w then (1 : Int32) else 1 + τ.2.2.1 10 (mv (gS c k v w))) = nI (aft (gT c k) (gS c k) v w) := by
    intro w hw
    rw [hA _ (hS v hv w hw) (gS_valid hc hk)]
    unfold aft
    cases gT c k v w with
    | true => rfl
    | false => rw [if_neg (by decide), if_neg (by decide), l1, nI_add]
  intro d
  induction d with
  | zero =>
    intro w hw
    have : w = ge (gT c k) (gS c k) v := by omega
    unfold wp_X5_show_L79
    obtain ⟨b1, b2, b3⟩ := idx1 w (by omega)
    rw [b1, b2, b3]
    refine s_X5_after hc hR hk hv (by omega) ?_
    rw [er w (by omega), pk_sub (by omega), neq (by have := aft_le (gT c k) (gS c k) v w; omega) (by omega)]
    rw [this]
    exact ⟨fun _ => h, fun q => absurd (g2.trans hd) q⟩
  | succ d ih =>
    intro w hw
    unfold wp_X5_show_L79
    obtain ⟨b1, b2, b3⟩ := idx1 w (by omega)
    rw [b1, b2, b3]
    refine s_X5_after hc hR hk hv (by omega) ?_
    rw [er w (by omega), pk_sub (by omega), neq (by have := aft_le (gT c k) (gS c k) v w; omega) (by omega), nI_1]
    exact ⟨fun q => absurd (q.trans hd.symm) (g3 w (by omega)), fun _ => ih (w + 1) (by omega)⟩
theorem gS_parts {c : Cf} (hc : Ck c) {k v e : Nat} (hk : k < c.1) (hv : v < 64) (he : e < 64) : gS c k v e / 16 = hearS c k (pA c k v e) (e % 4) ∧ gS c k v e / 4 % 4 = hearS c k (pB c k v e) (e % 4) ∧ gS c k v e % 4 = (v % 4 + 1) % prd c k := by
  have hp := prd_le hc hk
  have hhA := hearS_lt hc hk (pA_lt hc hk hv he) (show e % 4 < 4 by omega)
  have hhB := hearS_lt hc hk (pB_lt hc hk hv he) (show e % 4 < 4 by omega)
  have hpm : (v % 4 + 1) % prd c k < prd c k := Nat.mod_lt _ (by omega)
  unfold gS
  omega
theorem gS_mod {c : Cf} (hc : Ck c) {k v e : Nat} (hk : k < c.1) : gS c k v e % 4 = (v % 4 + 1) % prd c k := by
  have hp := prd_le hc hk
  have hpm : (v % 4 + 1) % prd c k < prd c k := Nat.mod_lt _ (by omega)
  unfold gS
  omega
theorem pRow_val (c : Cf) (k t j : Nat) : pRow c k t j = pVal c k (gp (gT c k) (gS c k) (stP c k) t) (ge (gT c k) (gS c k) (gp (gT c k) (gS c k) (stP c k) t)) j := rfl
theorem pVal_0 (c : Cf) (k v e : Nat) : pVal c k v e 0 = nmd k (e / 16) := rfl
theorem pVal_1 (c : Cf) (k v e : Nat) : pVal c k v e 1 = nmd k (e / 4 % 4) := rfl
theorem pVal_2 (c : Cf) (k v e : Nat) : pVal c k v e 2 = nmd k (e % 4) := rfl
theorem pVal_3 (c : Cf) (k v e : Nat) : pVal c k v e 3 = answ c k (pA c k v e) (e % 4) := rfl
theorem pVal_4 (c : Cf) (k v e : Nat) : pVal c k v e 4 = answ c k (pB c k v e) (e % 4) := rfl
theorem gp_tick {c : Cf} (hc : Ck c) {k : Nat} (hk : k < c.1) : ∀ i, gp (gT c k) (gS c k) (stP c k) i % 4 = i % prd c k := by
  have hp := prd_le hc hk
  intro i
  induction i with
  | zero => show stP c k % 4 = _; unfold stP; rw [Nat.zero_mod]; omega
  | succ i ih =>
    show gS c k (gp (gT c k) (gS c k) (stP c k) i) _ % 4 = _
    rw [gS_mod hc hk, ih, Nat.mod_add_mod]
theorem s_X5_show_L59 {c : Cf} {k t j : Nat} {τ : ST} {Q : Int32 → ST → Prop} (hc : Ck c) (hR : RM c τ) (hk : k < c.1) (hA : AR c k τ) (hL : dst (gT c k) (gS c k) (stP c k) ≤ 64) (ht : t < dst (gT c k) (gS c k) (stP c k)) (hj : j < 5) (h : Q (nI (pRow c k t j)) τ) :
    ∀ (d i : Nat), i + d = t → wp_X5_show_L59 (nI k) (nI t) (nI j) (nI (dst (gT c k) (gS c k) (stP c k))) Q (d + 1) (nI (gp (gT c k) (gS c k) (stP c k) i / 16)) (nI (gp (gT c k) (gS c k) (stP c k) i / 4 % 4)) (nI i) τ := by
  have hS := gS_lt hc hk
  have hs := stP_lt hc hk
  have hp := prd_le hc hk
  have hk3 := hc.1
  intro d
  induction d with
  | zero => ?_
  | succ d ih => ?_
  · intro i hi
    have hit : i = t := by omega
    subst hit
    obtain ⟨p1, p2⟩ := gp_spec (gT c k) (gS c k) hS hs hL i ht
    obtain ⟨g1, -, -⟩ := gp_edge (gT c k) (gS c k) hS hs hL ht
    have htk := gp_tick hc hk i
    unfold wp_X5_show_L59
    rw [nle (by omega) (by omega)]
    refine ⟨fun q => absurd q (by omega), fun _ => s_X5_phases hc hR hk ?_⟩
    rw [pk_rem (by omega) (by omega) (by omega), l0, neq (by omega) (by omega), ← htk]
    refine ⟨by omega, ge (gT c k) (gS c k) (gp (gT c k) (gS c k) (stP c k) i) + 1, s_X5_show_L79 hc hR hk hA p1 hL ht p2 ?_ _ 0 (by omega)⟩
    obtain ⟨b1, b2, b3⟩ := idx1 _ g1
    rw [b1, b2, b3]
    refine s_X5_sends hc hR hk (by omega) (by omega) (s_X5_cleans hc hR hk (by omega) (s_X5_sends hc hR hk (by omega) (by omega) (s_X5_cleans hc hR hk (by omega) ?_)))
    have hpA := pA_lt hc hk p1 g1
    have hpB := pB_lt hc hk p1 g1
    unfold pA at hpA
    unfold pB at hpB
    refine ⟨fun q => absurd rfl q, fun _ => ?_⟩
    rw [pRow_val] at h
    rcases (show j = 0 ∨ j = 1 ∨ j = 2 ∨ j = 3 ∨ j = 4 by omega) with rfl | rfl | rfl | rfl | rfl
    · rw [pVal_0] at h
      exact ⟨fun q => absurd rfl q, fun _ => s_X5_named (by omega) h⟩
    · rw [pVal_1] at h
      exact ⟨fun _ => ⟨fun q => absurd rfl q, fun _ => s_X5_named (by omega) h⟩, fun q => absurd q (by decide)⟩
    · rw [pVal_2] at h
      exact ⟨fun _ => ⟨fun _ => ⟨fun q => absurd rfl q, fun _ => s_X5_named (by omega) h⟩, fun q => absurd q (by decide)⟩, fun q => absurd q (by decide)⟩
    · rw [pVal_3] at h
      exact ⟨fun _ => ⟨fun _ => ⟨fun _ => ⟨fun q => absurd rfl q, fun _ => s_X5_answers hc hR hk hpA (by omega) h⟩, fun q => absurd q (by decide)⟩, fun q => absurd q (by decide)⟩, fun q => absurd q (by decide)⟩
    · rw [pVal_4] at h
      exact ⟨fun _ => ⟨fun _ => ⟨fun _ => ⟨fun _ => s_X5_answers hc hR hk hpB (by omega) h, fun q => absurd q (by decide)⟩, fun q => absurd q (by decide)⟩, fun q => absurd q (by decide)⟩, fun q => absurd q (by decide)⟩
  · intro i hi
    have hiL : i < dst (gT c k) (gS c k) (stP c k) := by omega
    obtain ⟨p1, p2⟩ := gp_spec (gT c k) (gS c k) hS hs hL i hiL
    obtain ⟨g1, -, -⟩ := gp_edge (gT c k) (gS c k) hS hs hL hiL
    have htk := gp_tick hc hk i
    unfold wp_X5_show_L59
    rw [nle (by omega) (by omega)]
    refine ⟨fun q => absurd q (by omega), fun _ => s_X5_phases hc hR hk ?_⟩
    rw [pk_rem (by omega) (by omega) (by omega), l0, neq (by omega) (by omega), ← htk]
    refine ⟨by omega, ge (gT c k) (gS c k) (gp (gT c k) (gS c k) (stP c k) i) + 1, s_X5_show_L79 hc hR hk hA p1 hL hiL p2 ?_ _ 0 (by omega)⟩
    obtain ⟨b1, b2, b3⟩ := idx1 _ g1
    rw [b1, b2, b3]
    refine s_X5_sends hc hR hk (by omega) (by omega) (s_X5_cleans hc hR hk (by omega) (s_X5_sends hc hR hk (by omega) (by omega) (s_X5_cleans hc hR hk (by omega) ?_)))
    have hpA := pA_lt hc hk p1 g1
    have hpB := pB_lt hc hk p1 g1
    have hhA := hearS_lt hc hk hpA (show ge (gT c k) (gS c k) (gp (gT c k) (gS c k) (stP c k) i) % 4 < 4 by omega)
    have hhB := hearS_lt hc hk hpB (show ge (gT c k) (gS c k) (gp (gT c k) (gS c k) (stP c k) i) % 4 < 4 by omega)
    rw [neq (by omega) (by omega)]
    refine ⟨fun _ => ?_, fun q => absurd q (by omega)⟩
    show wp_X5_hears (nI k) (nI (pA c k (gp (gT c k) (gS c k) (stP c k) i) (ge (gT c k) (gS c k) (gp (gT c k) (gS c k) (stP c k) i)))) _ τ _
    refine s_X5_hears hc hR hk hpA (by omega) ?_
    show wp_X5_hears (nI k) (nI (pB c k (gp (gT c k) (gS c k) (stP c k) i) (ge (gT c k) (gS c k) (gp (gT c k) (gS c k) (stP c k) i)))) _ τ _
    refine s_X5_hears hc hR hk hpB (by omega) ?_
    have hpm : (gp (gT c k) (gS c k) (stP c k) i % 4 + 1) % prd c k < prd c k := Nat.mod_lt _ (by omega)
    have hn := ih (i + 1) (by omega)
    have en : gp (gT c k) (gS c k) (stP c k) (i + 1) = gS c k (gp (gT c k) (gS c k) (stP c k) i) (ge (gT c k) (gS c k) (gp (gT c k) (gS c k) (stP c k) i)) := rfl
    have e1 : gp (gT c k) (gS c k) (stP c k) (i + 1) / 16 = hearS c k (pA c k (gp (gT c k) (gS c k) (stP c k) i) (ge (gT c k) (gS c k) (gp (gT c k) (gS c k) (stP c k) i))) (ge (gT c k) (gS c k) (gp (gT c k) (gS c k) (stP c k) i) % 4) := by rw [en]; exact (gS_parts hc hk p1 g1).1
    have e2 : gp (gT c k) (gS c k) (stP c k) (i + 1) / 4 % 4 = hearS c k (pB c k (gp (gT c k) (gS c k) (stP c k) i) (ge (gT c k) (gS c k) (gp (gT c k) (gS c k) (stP c k) i))) (ge (gT c k) (gS c k) (gp (gT c k) (gS c k) (stP c k) i) % 4) := by rw [en]; exact (gS_parts hc hk p1 g1).2.1
    rw [e1, e2] at hn
    rw [nI_1]
    exact hn
