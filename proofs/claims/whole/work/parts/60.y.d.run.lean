/-! ===== PURE: runs ===== -/
theorem CS.now {c : Cf} {now now' : Nat → Nat} {pr : Nat → Nat → Int32} {ch t t' : Nat} {σ σ' : ST} (hc : Ck c) (h : CS c now pr ch t σ) (f1 : ∀ q s, ¬ (4 ≤ q ∧ q < 10 ∧ s = 6) → ¬ (q = 0 ∧ s = 5) → σ'.1 q s = σ.1 q s) (f2 : σ'.2 = σ.2) (f3 : ∀ k, k < c.1 → σ'.1 (4 + 2 * k) 6 = nI (now' k)) (f4 : σ'.1 0 5 = nI t') : CS c now' pr ch t' σ' := by
  have h3 := hc.1
  refine ⟨⟨?_, fun k hk => ?_⟩, f3, fun k hk => ?_, f4, ?_, fun k hk => (h.2.2.2.2.2.1 k hk).keep ?_ ?_, fun n hn => (h.2.2.2.2.2.2 n hn).keep ?_ ?_⟩
  · rw [f1 0 4 (by omega) (by omega)]; exact h.1.1
  · rw [f1 _ 1 (by omega) (by omega), f1 _ 2 (by omega) (by omega), f1 _ 3 (by omega) (by omega), f1 _ 4 (by omega) (by omega), f1 _ 5 (by omega) (by omega), f2]
    exact h.1.2 k hk
  · rw [f2]; exact h.2.2.1 k hk
  · rw [f1 0 6 (by omega) (by omega)]; exact h.2.2.2.2.1
  · funext s; exact f1 _ _ (by omega) (by omega)
  · rw [f2]
  · funext s; exact f1 _ _ (by omega) (by omega)
  · rw [f2]
theorem MS.now {c : Cf} {now now' : Nat → Nat} {pr : Nat → Nat → Int32} {q t t' : Nat} {τ τ' : ST} (h : MS c now pr q t τ) (f1 : ∀ p s, ¬ (p = 0 ∧ s = 10) → τ'.1 p s = τ.1 p s) (f2 : τ'.2.2.2 = τ.2.2.2) (f3 : ∀ p, p ≠ 7 → τ'.2.2.1 p = τ.2.2.1 p) (f4 : ∀ k, k < c.1 → τ'.2.2.1 7 k = nI (now' k)) (f5 : τ'.1 0 10 = nI t') : MS c now' pr q t' τ' := by
  refine ⟨⟨?_, fun k hk => ?_⟩, f4, fun k hk => ?_, f5, ?_, ?_⟩
  · rw [f1 0 0 (by omega)]; exact h.1.1
  · rw [f3 1 (by omega), f3 2 (by omega), f3 3 (by omega), f3 4 (by omega), f3 5 (by omega), f2]
    exact h.1.2 k hk
  · rw [f3 6 (by omega)]; exact h.2.2.1 k hk
  · rw [f1 0 16 (by omega)]; exact h.2.2.2.2.1
  · rw [f3 13 (by omega)]; exact h.2.2.2.2.2
theorem r_begin {B : Nat} {σ τ : ST} {P : ST → ST → Prop} (h : Rel B σ τ) (k : ∀ σ' τ', Rel (B + 1) σ' τ' → P σ' τ') : wp_X4_begin σ (fun σ' => wp_X5_begin τ (fun τ' => P σ' τ')) := by
  obtain ⟨c, now, pr, ch, q, t, h1, h2, h3, h4, h5, h6, h7⟩ := h
  have c3 := h1.1
  have M : ∀ {R : ST → Prop}, (∀ τ', MS c (fun k => c.2.1 k 1) pr q 0 τ' → R τ') → wp_X5_begin τ R := by
    intro R g τ1 e1
    refine ⟨c.1 + 1, ?_⟩
    have key : ∀ (d m : Nat) (τ2 : ST), m + d = c.1 → τ2.1 = τ1.1 → τ2.2.2.2 = τ.2.2.2 → (∀ p, p ≠ 7 → τ2.2.2.1 p = τ.2.2.1 p) → (∀ j, j < m → τ2.2.2.1 7 j = nI (c.2.1 j 1)) → wp_X5_begin_L7 R (d + 1) (nI m) τ2 := by
      intro d
      induction d with
      | zero =>
        intro m τ2 hm a1 a2 a3 a4
        have : m = c.1 := by omega
        subst this
        have e0 : τ2.1 0 0 = nI c.1 := by rw [a1, e1]; simp [sI]; exact h7.1.1
        unfold wp_X5_begin_L7
        rw [e0]
        refine ⟨fun _ => g τ2 (h7.now (fun p s hs => ?_) a2 a3 a4 ?_), fun z => absurd (Int32.le_refl _) z⟩
        · rw [a1, e1]; show (if p = 0 ∧ s = 10 then _ else τ.1 p s) = _; rw [if_neg hs]
        · rw [a1, e1]; simp [sI]; rfl
      | succ d ih =>
        intro m τ2 hm a1 a2 a3 a4
        have e0 : τ2.1 0 0 = nI c.1 := by rw [a1, e1]; simp [sI]; exact h7.1.1
        unfold wp_X5_begin_L7
        rw [e0, nle (by omega) (by omega), ncl (by omega), a3 2 (by omega), (h7.1.2 m (by omega)).2.1, nI_1]
        refine ⟨fun z => absurd z (by omega), fun _ => ⟨nvi (by omega) (by omega), fun σ3 e3 => ?_⟩⟩
        subst e3
        refine ih (m + 1) _ (by omega) a1 a2 (fun p hp => by rw [rP _ _ _ _ hp]; exact a3 p hp) (fun j hj => ?_)
        by_cases z : j = m
        · subst z; rw [rS]
        · rw [rI _ _ _ _ _ z]; exact a4 j (by omega)
    exact key c.1 0 τ1 (by omega) rfl (by rw [e1]; rfl) (fun p _ => by rw [e1]; rfl) (fun j hj => absurd hj (Nat.not_lt_zero j))
  refine ⟨c.1 + 1, ?_⟩
  have key : ∀ (d m : Nat) (σ2 : ST), m + d = c.1 → σ2.2 = σ.2 → (∀ q s, ¬ (4 ≤ q ∧ q < 10 ∧ s = 6) → σ2.1 q s = σ.1 q s) → (∀ j, j < m → σ2.1 (4 + 2 * j) 6 = nI (c.2.1 j 1)) → wp_X4_begin_L2 (fun σ6 => (∀ σ7, σ7 = sI σ6 0 5 0 → wp_X5_begin τ (fun τ' => P σ7 τ'))) (fun σ' => wp_X5_begin τ (fun τ' => P σ' τ')) (d + 1) (nI m) σ2 := by
    intro d
    induction d with
    | zero =>
      intro m σ2 hm a1 a2 a3
      have : m = c.1 := by omega
      subst this
      unfold wp_X4_begin_L2
      rw [a2 0 4 (by omega), h6.1.1]
      refine ⟨fun _ σ7 e7 => M (fun τ' g => k _ _ ⟨c, fun k => c.2.1 k 1, pr, ch, q, 0, h1, fun j hj => by have := (h1.2 j hj).2.1; show c.2.1 j 1 < 4; omega, by omega, by omega, by omega, h6.now h1 (fun q s g1 g2 => ?_) ?_ (fun j hj => ?_) ?_, g⟩), fun z => absurd (Int32.le_refl _) z⟩
      · rw [e7]; show (if q = 0 ∧ s = 5 then _ else σ2.1 q s) = _; rw [if_neg g2]; exact a2 q s g1
      · rw [e7]; exact a1
      · rw [e7]; simp [sI]; exact a3 j hj
      · rw [e7]; simp [sI]; rfl
    | succ d ih =>
      intro m σ2 hm a1 a2 a3
      unfold wp_X4_begin_L2
      rw [a2 0 4 (by omega), h6.1.1, nle (by omega) (by omega), ncl (by omega), a2 _ 2 (by omega), (h6.1.2 m (by omega)).2.1, nI_1]
      refine ⟨fun z => absurd z (by omega), fun _ => ⟨nvi (by omega) (by omega), fun σ4 e4 => ?_⟩⟩
      refine ih (m + 1) _ (by omega) (by rw [e4]; exact a1) (fun q s g => ?_) (fun j hj => ?_)
      · rw [e4]; show (if q = 4 + 2 * m ∧ s = 6 then _ else σ2.1 q s) = _; rw [if_neg (by omega)]; exact a2 q s g
      · rw [e4]; show (if 4 + 2 * j = 4 + 2 * m ∧ 6 = 6 then _ else σ2.1 (4 + 2 * j) 6) = _
        by_cases z : j = m
        · subst z; rw [if_pos ⟨rfl, rfl⟩]
        · rw [if_neg (by omega)]; exact a3 j (by omega)
  exact key c.1 0 σ (by omega) rfl (fun _ _ _ => rfl) (fun j hj => absurd hj (Nat.not_lt_zero j))
/-! run -/
theorem isActX {c : Cf} {x : Int32} (hc : Ck c) : (x = 9 ∨ (0 ≤ x ∧ x ≤ nI (3 * c.1) - 1)) ↔ ∃ a, isA c a ∧ x = nI a := by
  have c3 := hc.1
  rw [thingIx (by omega)]
  constructor
  · rintro (h | ⟨a, a1, a2⟩)
    · exact ⟨9, Or.inr rfl, h⟩
    · exact ⟨a, Or.inl a1, a2⟩
  · rintro ⟨a, a1 | a1, a2⟩
    · exact Or.inr ⟨a, a1, a2⟩
    · subst a1; exact Or.inl a2
theorem s_X5_isActX {c : Cf} {x : Int32} {τ : ST} {Q : Int32 → ST → Prop} (hc : Ck c) (hR : RM c τ) (h1 : ∀ a, isA c a → x = nI a → Q 1 τ) (h0 : (∀ a, isA c a → x ≠ nI a) → Q 0 τ) : wp_X5_isAct x τ Q := by
  have c3 := hc.1
  have hx := isActX (x := x) hc
  unfold wp_X5_isAct
  rw [hR.1, l3, pk_mul]
  refine ⟨fun z => h1 9 (Or.inr rfl) z, fun z => s_X5_isIn (fun y => ⟨fun w => absurd w (by decide), fun _ => ?_⟩) (fun y => ⟨fun _ => h0 (fun a a1 a2 => ?_), fun w => absurd rfl w⟩)⟩
  · obtain ⟨a, a1, a2⟩ := hx.mp (Or.inr y)
    exact h1 a a1 a2
  · rcases hx.mpr ⟨a, a1, a2⟩ with q | q
    · exact z q
    · exact y q
theorem s_X4_isAct {c : Cf} {x : Int32} {σ : ST} {Q : Int32 → ST → Prop} (hc : Ck c) (hR : RC c σ) (h1 : ∀ a, isA c a → x = nI a → Q 1 σ) (h0 : (∀ a, isA c a → x ≠ nI a) → Q 0 σ) : wp_X4_isAct x σ Q := by
  have c3 := hc.1
  unfold wp_X4_isAct
  rw [hR.1, l3, pk_mul]
  refine ⟨fun z => h1 9 (Or.inr rfl) z, fun z => ?_⟩
  rcases pk_ix x (n := 3 * c.1) (by omega) with y | y | ⟨a, a1, a2⟩
  · refine ⟨fun _ => h0 (fun a a1 a2 => ?_), fun w => absurd y w⟩
    have := isA_lt hc a1
    rw [a2, l0, nlt (by omega) (by omega)] at y
    exact absurd y (Nat.not_lt_zero a)
  · have hn : ∀ a, isA c a → x ≠ nI a := fun a a1 a2 => by
      have := isA_lt hc a1
      rw [a2, nle (by omega) (by omega)] at y
      rcases a1 with w | w
      · omega
      · subst w; exact z a2
    exact ⟨fun _ => h0 hn, fun _ => ⟨fun _ => h0 hn, fun w => absurd y w⟩⟩
  · subst a2
    refine ⟨fun w => absurd w ?_, fun _ => ⟨fun w => absurd w ?_, fun _ => h1 a (Or.inl a1) rfl⟩⟩
    · rw [l0, nlt (by omega) (by omega)]; omega
    · rw [nle (by omega) (by omega)]; omega
theorem prt_wth : ∀ k, k < 3 → ∀ k', k' < 3 → ∀ s, s < 4 → ∀ v, v < 64 → prt (wth v k s) k' = if k' = k then s else prt v k' := by decide +kernel
theorem prt_cln {c : Cf} (hc : Ck c) {t v : Nat} (hv : v < 64) {k : Nat} (hk : k < c.1) : ∀ m, m ≤ c.1 → prt (clnN c t m v) k = if k < m ∧ clB c k t = true then c.2.1 k 1 else prt v k := by
  have c3 := hc.1
  intro m
  induction m with
  | zero => intro _; rw [if_neg (by omega)]; rfl
  | succ m ih =>
    intro hm
    have hl := clnN_lt hc (t := t) hv m (by omega)
    have hb := (hc.2 m (by omega)).2.1
    have e1 : clnN c t (m + 1) v = if clB c m t then wth (clnN c t m v) m (c.2.1 m 1) else clnN c t m v := rfl
    rw [e1]
    cases e : clB c m t with
    | true =>
      rw [if_pos rfl, prt_wth m (by omega) k (by omega) _ (by omega) _ hl, ih (by omega)]
      by_cases z : k = m
      · subst z; rw [if_pos rfl, if_pos ⟨by omega, e⟩]
      · rw [if_neg z]
        by_cases y : k < m ∧ clB c k t = true
        · rw [if_pos y, if_pos ⟨by omega, y.2⟩]
        · rw [if_neg y, if_neg (fun w => y ⟨by omega, w.2⟩)]
    | false =>
      rw [if_neg (by decide), ih (by omega)]
      by_cases y : k < m ∧ clB c k t = true
      · rw [if_pos y, if_pos ⟨by omega, y.2⟩]
      · rw [if_neg y, if_neg (fun w => ?_)]
        by_cases z : k = m
        · subst z; rw [e] at w; exact absurd w.2 (by decide)
        · exact y ⟨by omega, w.2⟩
def now1 (c : Cf) (now : Nat → Nat) (a t k : Nat) : Nat := clS c k (sendS c k (now k) (if a / 3 = k then a % 3 else 3)) t
def now2 (c : Cf) (now : Nat → Nat) (a h t k : Nat) : Nat := if h / 3 = k then hearS c k (now1 c now a t k) (h % 3) else now1 c now a t k
theorem clS_B (c : Cf) (k s t : Nat) : clS c k s t = if clB c k t = true then c.2.1 k 1 else s := by
  unfold clS clB
  by_cases h : c.2.1 k 2 = 1 ∧ (t + 1) % c.2.1 k 3 = 0
  · rw [if_pos h, if_pos (decide_eq_true h)]
  · rw [if_neg h, if_neg (by simp [h])]
theorem prt_sent {c : Cf} (hc : Ck c) {now : Nat → Nat} {v a t k : Nat} (hv : v < 64) (ha : isA c a) (hk : k < c.1) (hn : ∀ j, j < c.1 → prt v j = now j) : prt (sentA c v a t) k = now1 c now a t k := by
  have c3 := hc.1
  unfold sentA now1
  rw [clS_B]
  have s3 : sendS c k (now k) 3 = now k := if_pos (Or.inl rfl)
  by_cases h9 : a = 9
  · subst h9
    rw [if_pos rfl, prt_cln hc hv hk c.1 (Nat.le_refl _), if_neg (show ¬ 9 / 3 = k by omega), s3, hn k hk]
    by_cases y : clB c k t = true
    · rw [if_pos ⟨hk, y⟩, if_pos y]
    · rw [if_neg (fun w => y w.2), if_neg y]
  · obtain ⟨h1, h2, h3', -⟩ := act3 hc ha h9
    have hs := sendS_lt hc h1 (prt_lt v (a / 3)) (show a % 3 < 4 by omega)
    rw [if_neg h9, prt_cln hc (wthK _ h2 _ hs _ hv).1 hk c.1 (Nat.le_refl _), prt_wth _ h2 k (by omega) _ hs v hv]
    by_cases z : k = a / 3
    · subst z
      rw [if_pos rfl, if_pos rfl, hn _ hk]
      by_cases y : clB c (a / 3) t = true
      · rw [if_pos ⟨hk, y⟩, if_pos y]
      · rw [if_neg (fun w => y w.2), if_neg y]
    · rw [if_neg z, if_neg (show ¬ a / 3 = k from fun w => z w.symm), s3, hn k hk]
      by_cases y : clB c k t = true
      · rw [if_pos ⟨hk, y⟩, if_pos y]
      · rw [if_neg (fun w => y w.2), if_neg y]
def pkN (now : Nat → Nat) : Nat → Nat
  | 0 => 0
  | m + 1 => pkN now m + now m * 4 ^ m
theorem pkN_lt {now : Nat → Nat} {n : Nat} (hn : ∀ k, k < n → now k < 4) : ∀ m, m ≤ n → pkN now m < 4 ^ m := by
  intro m
  induction m with
  | zero => intro _; exact Nat.zero_lt_one
  | succ m ih =>
    intro hm
    have h1 := ih (by omega)
    have h2 := hn m (by omega)
    show pkN now m + now m * 4 ^ m < 4 ^ (m + 1)
    have h3 : now m * 4 ^ m ≤ 3 * 4 ^ m := Nat.mul_le_mul_right _ (by omega)
    rw [Nat.pow_succ]
    omega
theorem pkN_prt {now : Nat → Nat} {n : Nat} (hn : ∀ k, k < n → now k < 4) {k : Nat} : ∀ m, m ≤ n → k < m → prt (pkN now m) k = now k := by
  intro m
  induction m with
  | zero => intro _ h; omega
  | succ m ih =>
    intro hm hk
    have h1 := pkN_lt hn m (by omega)
    have h2 := hn m (by omega)
    show (pkN now m + now m * 4 ^ m) / 4 ^ k % 4 = now k
    by_cases e : k = m
    · subst e
      rw [Nat.add_mul_div_right _ _ (Nat.pow_pos (by decide)), Nat.div_eq_of_lt h1, Nat.zero_add]
      exact Nat.mod_eq_of_lt h2
    · have h3 := ih (by omega) (by omega)
      have e1 : (4 : Nat) ^ m = 4 ^ k * (4 * 4 ^ (m - k - 1)) := by
        rw [← Nat.mul_assoc, ← Nat.pow_succ, ← Nat.pow_add]
        congr 1; omega
      have e2 : now m * 4 ^ m = 4 ^ k * (4 * (now m * 4 ^ (m - k - 1))) := by
        rw [e1, Nat.mul_left_comm, Nat.mul_left_comm (now m)]
      rw [e2, Nat.add_mul_div_left _ _ (Nat.pow_pos (by decide)), Nat.add_mul_mod_self_left]
      exact h3
