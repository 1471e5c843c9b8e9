/-! ===== PURE: sums, look, give ===== -/
def sumN (pr : Nat → Nat → Int32) (W : Nat) : Nat → Int32
  | 0 => 0
  | m + 1 => sumN pr W m + pr m (W / 4 ^ m % 4)
theorem shW {W k : Nat} (hW : W < 64) (hk : k < 3) : ((nI W >>> (((2 * nI k) : Int32) &&& 31)) &&& 3) = nI (W / 4 ^ k % 4) := (wthK k hk 0 (by omega) W hW).2.2.2.2
theorem c_sum {c : Cf} {now : Nat → Nat} {pr : Nat → Nat → Int32} {ch t W : Nat} {σ : ST} {Q : Int32 → ST → Prop} (hc : Ck c) (hS : CS c now pr ch t σ) (hW : W < 64) (h : Q (sumN pr W c.1) σ) : wp_X4_sumOf (nI W) σ Q := by
  have c3 := hc.1
  have key : ∀ (d m : Nat), m + d = c.1 → wp_X4_sumOf_L4 (nI W) Q (d + 1) (sumN pr W m) (nI m) σ := by
    intro d
    induction d with
    | zero =>
      intro m hm
      have : m = c.1 := by omega
      subst this
      unfold wp_X4_sumOf_L4
      rw [hS.1.1]
      exact ⟨fun _ => h, fun z => absurd (Int32.le_refl _) z⟩
    | succ d ih =>
      intro m hm
      have hd : W / 4 ^ m % 4 < 4 := Nat.mod_lt _ (by omega)
      unfold wp_X4_sumOf_L4
      rw [hS.1.1, nle (by omega) (by omega), ncl (by omega), nI_1]
      refine ⟨fun z => absurd z (by omega), fun _ => ⟨nvi (by omega) (by omega), s_X4_wallIn hW (by omega) ⟨nvi (by omega) (by omega), fun w6 e6 => ?_⟩⟩⟩
      rw [ncl (by omega), hS.2.2.1 m (by omega) _ hd] at e6
      rw [e6]
      exact ih (m + 1) (by omega)
  exact ⟨c.1 + 1, key c.1 0 (by omega)⟩
def MX (c : Cf) (now : Nat → Nat) (pr : Nat → Nat → Int32) (t : Nat) (τ : ST) : Prop := (τ.1 0 0 = nI c.1 ∧ ∀ k, k < c.1 → τ.2.2.1 1 k = nI (c.2.1 k 0) ∧ τ.2.2.1 2 k = nI (c.2.1 k 1) ∧ τ.2.2.1 4 k = nI (c.2.1 k 3) ∧ τ.2.2.1 5 k = nI (c.2.1 k 4) ∧ (c.2.1 k 0 = 4 → τ.2.2.2 8 k = c.2.2.1 k ∧ τ.2.2.2 9 k = c.2.2.2 k)) ∧ (∀ k, k < c.1 → τ.2.2.1 7 k = nI (now k)) ∧ (∀ k, k < c.1 → ∀ w, w < 4 → τ.2.2.1 6 (4 * k + w) = pr k w) ∧ τ.1 0 10 = nI t
theorem MS.X {c : Cf} {now : Nat → Nat} {pr : Nat → Nat → Int32} {q t : Nat} {τ : ST} (h : MS c now pr q t τ) : MX c now pr t τ := ⟨⟨h.1.1, fun k hk => ⟨(h.1.2 k hk).1, (h.1.2 k hk).2.1, (h.1.2 k hk).2.2.2.1, (h.1.2 k hk).2.2.2.2.1, (h.1.2 k hk).2.2.2.2.2⟩⟩, h.2.1, h.2.2.1, h.2.2.2.1⟩
theorem MX.S {c : Cf} {now : Nat → Nat} {pr : Nat → Nat → Int32} {q t : Nat} {τ : ST} (h : MX c now pr t τ) (h2 : RM c τ) (h3 : KI q τ) : MS c now pr q t τ := ⟨h2, h.2.1, h.2.2.1, h.2.2.2, h3⟩
theorem m_sum {c : Cf} {now : Nat → Nat} {pr : Nat → Nat → Int32} {t W : Nat} {τ : ST} {Q : Int32 → ST → Prop} (hc : Ck c) (hS : MX c now pr t τ) (hW : W < 64) (h : Q (sumN pr W c.1) τ) : wp_X5_costs (nI W) τ Q := by
  have c3 := hc.1
  have key : ∀ (d m : Nat), m + d = c.1 → wp_X5_costs_L4 (nI W) Q (d + 1) (sumN pr W m) (nI m) τ := by
    intro d
    induction d with
    | zero =>
      intro m hm
      have : m = c.1 := by omega
      subst this
      unfold wp_X5_costs_L4
      rw [hS.1.1]
      exact ⟨fun _ => h, fun z => absurd (Int32.le_refl _) z⟩
    | succ d ih =>
      intro m hm
      have hd : W / 4 ^ m % 4 < 4 := Nat.mod_lt _ (by omega)
      unfold wp_X5_costs_L4
      rw [hS.1.1, nle (by omega) (by omega), shW hW (by omega), l4, pk_mul, nI_add, ncl (by omega), hS.2.2.1 m (by omega) _ hd, nI_1]
      exact ⟨fun z => absurd z (by omega), fun _ => ⟨nvi (by omega) (by omega), fun w6 e6 => by rw [e6]; exact ih (m + 1) (by omega)⟩⟩
  exact ⟨c.1 + 1, key c.1 0 (by omega)⟩
theorem m_wallsNow {c : Cf} {τ : ST} {Q : Int32 → ST → Prop} (hc : Ck c) (hR : RM c τ) (h : Q (nI (wv c)) τ) : wp_X5_wallsNow τ Q := by
  have hk3 := hc.1
  have key : ∀ (d m : Nat), m + d = c.1 → wp_X5_wallsNow_L4 Q (d + 1) (nI (wvN c m)) (nI m) τ := by
    intro d
    induction d with
    | zero =>
      intro m hm
      have : m = c.1 := by omega
      subst this
      unfold wp_X5_wallsNow_L4
      rw [hR.1]
      exact ⟨fun _ => h, fun q => absurd (Int32.le_refl _) q⟩
    | succ d ih =>
      intro m hm
      have hw := (hc.2 m (by omega)).2.2.1
      have hx := wvN_lt hc m (by omega)
      have hp : (4 : Nat) ^ m ≤ 4 ^ 2 := Nat.pow_le_pow_right (by decide) (by omega)
      unfold wp_X5_wallsNow_L4
      rw [hR.1, nle (by omega) (by omega), ncl (by omega), (hR.2 m (by omega)).2.2.1, orK m (by omega) _ (by omega) _ (by omega) hx, nI_1]
      exact ⟨fun q => absurd q (by omega), fun _ => ⟨nvi (by omega) (by omega), fun w3 e3 => by rw [e3]; exact ih (m + 1) (by omega)⟩⟩
  exact ⟨c.1 + 1, key c.1 0 (by omega)⟩
def siN (c : Cf) : Nat → Nat
  | 0 => 0
  | m + 1 => siN c m + if pLen c m = 0 then 1 else 0
theorem r_look {B : Nat} {x : Int32} {σ τ : ST} {P : Int32 → Int32 → ST → ST → Prop} (h : Rel B σ τ) (k : ∀ r σ' τ', Rel (B + 1) σ' τ' → P r r σ' τ') : wp_X4_look x σ (fun r σ' => wp_X5_look x τ (fun r' τ' => P r r' σ' τ')) := by
  have hu := h.up
  obtain ⟨c, now, pr, ch, q, t, h1, h2, h3, h4, h5, h6, h7⟩ := h
  have c3 := h1.1
  have wl := wv_lt h1
  refine ⟨fun z => ⟨fun _ => ?_, fun y => absurd z y⟩, fun z => ⟨fun z1 => ?_, fun z1 => ⟨fun z2 => ?_, fun z2 => ⟨fun z3 => ?_, fun z3 => ?_⟩⟩⟩⟩
  · rw [h6.1.1, h7.1.1]; exact k _ _ _ hu
  · have M : ∀ {R : Int32 → ST → Prop}, (∀ τ', MS c now pr q t τ' → R (nI (siN c c.1)) τ') → wp_X5_look x τ R := by
      intro R g
      refine ⟨fun y => absurd y z, fun _ => ⟨fun _ => ⟨c.1 + 1, ?_⟩, fun y => absurd z1 y⟩⟩
      have key : ∀ (d m : Nat) (τ1 : ST), m + d = c.1 → MS c now pr q t τ1 → wp_X5_look_L39 R (d + 1) (nI (siN c m)) (nI m) τ1 := by
        intro d
        induction d with
        | zero =>
          intro m τ1 hm m1
          have : m = c.1 := by omega
          subst this
          unfold wp_X5_look_L39
          rw [m1.1.1]
          exact ⟨fun _ => g τ1 m1, fun y => absurd (Int32.le_refl _) y⟩
        | succ d ih =>
          intro m τ1 hm m1
          unfold wp_X5_look_L39
          rw [m1.1.1, nle (by omega) (by omega), nI_1]
          refine ⟨fun y => absurd y (by omega), fun _ => m_silent h1 m1 (by omega) (fun τ2 m2 => ?_)⟩
          have i1 := ih (m + 1) τ2 (by omega) m2
          have es : siN c (m + 1) = siN c m + if pLen c m = 0 then 1 else 0 := rfl
          rw [es] at i1
          by_cases y : pLen c m = 0
          · rw [if_pos y] at i1 ⊢
            rw [nI_1]; exact i1
          · rw [if_neg y] at i1 ⊢
            rw [l0, nI_add]; exact i1
      exact key c.1 0 τ (by omega) h7
    refine ⟨c.1 + 1, ?_⟩
    have key : ∀ (d m : Nat) (σ1 : ST), m + d = c.1 → CS c now pr ch t σ1 → wp_X4_countSilent_L4 (fun r2 σ1 => wp_X5_look x τ (fun r' τ' => P r2 r' σ1 τ')) (d + 1) (nI (siN c m)) (nI m) σ1 := by
      intro d
      induction d with
      | zero =>
        intro m σ1 hm s1
        have : m = c.1 := by omega
        subst this
        unfold wp_X4_countSilent_L4
        rw [s1.1.1]
        exact ⟨fun _ => M (fun τ' m' => k _ _ _ ⟨c, now, pr, ch, q, t, h1, h2, by omega, by omega, by omega, s1, m'⟩), fun y => absurd (Int32.le_refl _) y⟩
      | succ d ih =>
        intro m σ1 hm s1
        have hl := pLen_le c m
        unfold wp_X4_countSilent_L4
        rw [s1.1.1, nle (by omega) (by omega), nI_1 m]
        refine ⟨fun y => absurd y (by omega), fun _ => cp h1 s1 (by omega) (fun σ2 s2 p2 => ⟨m, by omega, rfl, ?_⟩)⟩
        have i1 := ih (m + 1) σ2 (by omega) s2
        have es : siN c (m + 1) = siN c m + if pLen c m = 0 then 1 else 0 := rfl
        rw [es] at i1
        rw [p2.1, l0, neq (by omega) (by omega)]
        refine ⟨fun y => ?_, fun y => ?_⟩
        · rw [if_neg y] at i1; rw [nI_add]; exact i1
        · rw [if_pos y] at i1; rw [nI_1]; exact i1
    exact key c.1 0 σ (by omega) h6
  · refine s_X4_wallsNow h1 h6.1 (c_sum h1 h6 wl ?_)
    refine ⟨fun y => absurd y z, fun _ => ⟨fun y => absurd y z1, fun _ => ⟨fun _ => m_wallsNow h1 h7.1 (m_sum h1 h7.X wl (k _ _ _ hu)), fun y => absurd z2 y⟩⟩⟩
  · refine s_X4_wallsNow h1 h6.1 ?_
    exact ⟨fun y => absurd y z, fun _ => ⟨fun y => absurd y z1, fun _ => ⟨fun y => absurd y z2, fun _ => ⟨fun _ => m_wallsNow h1 h7.1 (k _ _ _ hu), fun y => absurd z3 y⟩⟩⟩⟩
  · exact ⟨fun y => absurd y z, fun _ => ⟨fun y => absurd y z1, fun _ => ⟨fun y => absurd y z2, fun _ => ⟨fun y => absurd y z3, fun _ => k _ _ _ hu⟩⟩⟩⟩
/-! give -/
theorem m_gives {c : Cf} {now : Nat → Nat} {pr : Nat → Nat → Int32} {q t W : Nat} {τ : ST} {Q : ST → Prop} (hc : Ck c) (hS : MX c now pr t τ) (hK : KI q τ) (hW : W < 64) (h : ∀ τ', MX c now pr t τ' → RM (setW c W) τ' → KI q τ' → Q τ') : wp_X5_gives (nI W) τ Q := by
  have c3 := hc.1
  have key : ∀ (d m : Nat) (τ1 : ST), m + d = c.1 → τ1.1 = τ.1 → τ1.2.2.2 = τ.2.2.2 → (∀ p, p ≠ 3 → τ1.2.2.1 p = τ.2.2.1 p) → (∀ j, j < m → τ1.2.2.1 3 j = nI (W / 4 ^ j % 4)) → wp_X5_gives_L2 (nI W) Q (d + 1) (nI m) τ1 := by
    intro d
    induction d with
    | zero =>
      intro m τ1 hm b1 b2 b3 b4
      have : m = c.1 := by omega
      subst this
      unfold wp_X5_gives_L2
      rw [b1, hS.1.1]
      refine ⟨fun _ => h τ1 ⟨⟨by rw [b1]; exact hS.1.1, fun k hk => ?_⟩, fun k hk => ?_, fun k hk => ?_, ?_⟩ ⟨by rw [b1]; exact hS.1.1, fun k hk => ?_⟩ ⟨by rw [b1]; exact hK.1, ?_⟩, fun z => absurd (Int32.le_refl _) z⟩
      · rw [b3 1 (by omega), b3 2 (by omega), b3 4 (by omega), b3 5 (by omega), b2]; exact hS.1.2 k hk
      · rw [b3 7 (by omega)]; exact hS.2.1 k hk
      · rw [b3 6 (by omega)]; exact hS.2.2.1 k hk
      · rw [b1]; exact hS.2.2.2
      · rw [b3 1 (by omega), b3 2 (by omega), b3 4 (by omega), b3 5 (by omega), b2]
        have g := hS.1.2 k hk
        exact ⟨g.1, g.2.1, b4 k hk, g.2.2.1, g.2.2.2.1, g.2.2.2.2⟩
      · rw [b3 13 (by omega)]; exact hK.2
    | succ d ih =>
      intro m τ1 hm b1 b2 b3 b4
      unfold wp_X5_gives_L2
      rw [b1, hS.1.1, nle (by omega) (by omega), shW hW (by omega), ncl (by omega), nI_1]
      refine ⟨fun z => absurd z (by omega), fun _ => ⟨nvi (by omega) (by omega), fun τ2 e2 => ?_⟩⟩
      refine ih (m + 1) τ2 (by omega) (by rw [e2]; exact b1) (by rw [e2]; exact b2) (fun p hp => by rw [e2, rP _ _ _ _ hp]; exact b3 p hp) (fun j hj => ?_)
      by_cases e : j = m
      · subst e; rw [e2, rS]
      · rw [e2, rI _ _ _ _ _ e]; exact b4 j (by omega)
  exact ⟨c.1 + 1, key c.1 0 τ (by omega) rfl rfl (fun _ _ => rfl) (fun j hj => absurd hj (Nat.not_lt_zero j))⟩
theorem MX.W {c : Cf} {now : Nat → Nat} {pr : Nat → Nat → Int32} {t W : Nat} {τ : ST} (h : MX c now pr t τ) : MX (setW c W) now pr t τ := h
theorem r_give {B : Nat} {x : Int32} {σ τ : ST} {P : Int32 → Int32 → ST → ST → Prop} (hB : B < 1000) (h : Rel B σ τ) (k : ∀ r σ' τ', Rel (B + 1) σ' τ' → P r r σ' τ') : wp_X4_give x σ (fun r σ' => wp_X5_give x τ (fun r' τ' => P r r' σ' τ')) := by
  have hu := h.up
  obtain ⟨c, now, pr, ch, q, t, h1, h2, h3, h4, h5, h6, h7⟩ := h
  have c3 := h1.1
  have N : ¬ (0 ≤ x ∧ x ≤ 63) → wp_X5_give x τ (fun r' τ' => P 0 r' σ τ') := fun n => s_X5_isIn (fun y => absurd y n) (fun _ => ⟨fun y => absurd rfl y, fun _ => k _ _ _ hu⟩)
  refine ⟨fun z => N (fun y => absurd (Int32.lt_of_lt_of_le z y.1) (Int32.lt_irrefl)), fun z => ⟨fun z2 => ?_, fun z2 => N (fun y => z2 (Int32.lt_of_le_of_lt y.2 (by decide)))⟩⟩
  obtain ⟨W, hW, eW⟩ : ∃ W, W < 64 ∧ x = nI W := by
    rcases pk_ix x (n := 64) (by omega) with q1 | q1 | q1
    · exact absurd q1 z
    · exact absurd (Int32.lt_of_le_of_lt q1 z2) (Int32.lt_irrefl)
    · exact q1
  subst eW
  refine ⟨c.1 + 1, ?_⟩
  have key : ∀ (d m : Nat) (σ1 : ST), m + d = c.1 → σ1.2 = σ.2 → (∀ q s, ¬ (4 ≤ q ∧ q < 10 ∧ s = 3) → σ1.1 q s = σ.1 q s) → (∀ j, j < m → σ1.1 (4 + 2 * j) 3 = nI (W / 4 ^ j % 4)) → wp_X4_give_L14 (nI W) (fun σ7 => (∀ σ8, σ8 = sI σ7 0 6 ((σ7.1 0 6) + 1) → wp_X5_give (nI W) τ (fun r' τ' => P 1 r' σ8 τ'))) (fun r σ' => wp_X5_give (nI W) τ (fun r' τ' => P r r' σ' τ')) (d + 1) (nI m) σ1 := by
    intro d
    induction d with
    | zero =>
      intro m σ1 hm b1 b2 b3
      have : m = c.1 := by omega
      subst this
      unfold wp_X4_give_L14
      rw [b2 0 4 (by omega), h6.1.1]
      refine ⟨fun _ σ8 e8 => s_X5_isIn (fun _ => ⟨fun _ => m_gives h1 h7.X h7.2.2.2.2 hW (fun τ' mx rm ki => k _ _ _ ⟨setW c W, now, pr, ch + 1, q, t, setW_ok h1 W, h2, by omega, by omega, by omega, ⟨⟨?_, fun j hj => ?_⟩, fun j hj => ?_, fun j hj w hw => ?_, ?_, ?_, fun j hj => (h6.2.2.2.2.2.1 j hj).bump (by omega) ?_, fun n hn => (h6.2.2.2.2.2.2 n hn).bump (by omega) ?_⟩, mx.W.S rm ki⟩), fun y => absurd y (by decide)⟩) (fun y => absurd ((le_nI (n := 63) (by omega)).mpr ⟨W, by omega, rfl⟩) y), fun y => absurd (Int32.le_refl _) y⟩
      · rw [e8]; simp [sI]; rw [b2 0 4 (by omega)]; exact h6.1.1
      · have hj : j < c.1 := hj
        have g := h6.1.2 j hj
        have o : ∀ s, s ≠ 3 → σ8.1 (4 + 2 * j) s = σ.1 (4 + 2 * j) s := fun s hs => by
          rw [e8]; show (if 4 + 2 * j = 0 ∧ s = 6 then _ else σ1.1 (4 + 2 * j) s) = _
          rw [if_neg (by omega)]; exact b2 _ _ (by omega)
        have o2 : σ8.2 = σ.2 := by rw [e8]; exact b1
        rw [o 1 (by omega), o 2 (by omega), o 4 (by omega), o 5 (by omega), o2]
        refine ⟨g.1, g.2.1, ?_, g.2.2.2.1, g.2.2.2.2.1, g.2.2.2.2.2⟩
        rw [e8]; show (if 4 + 2 * j = 0 ∧ 3 = 6 then _ else σ1.1 (4 + 2 * j) 3) = nI (W / 4 ^ j % 4)
        rw [if_neg (by omega)]; exact b3 j hj
      · have hj : j < c.1 := hj
        rw [e8]; show (if 4 + 2 * j = 0 ∧ 6 = 6 then _ else σ1.1 (4 + 2 * j) 6) = _
        rw [if_neg (by omega), b2 _ _ (by omega)]; exact h6.2.1 j hj
      · rw [e8]; show σ1.2.2.1 (5 + 2 * j) w = _
        rw [b1]; exact h6.2.2.1 j hj w hw
      · rw [e8]; simp [sI]; rw [b2 0 5 (by omega)]; exact h6.2.2.2.1
      · rw [e8]; simp [sI]; rw [b2 0 6 (by omega), h6.2.2.2.2.1, nI_1]
      · funext s; rw [e8]; show (if 16 + 6 * j = 0 ∧ s = 6 then _ else σ1.1 (16 + 6 * j) s) = _
        rw [if_neg (by omega)]; exact b2 _ _ (by omega)
      · funext s; rw [e8]; show (if 34 + 4 * n = 0 ∧ s = 6 then _ else σ1.1 (34 + 4 * n) s) = _
        rw [if_neg (by omega)]; exact b2 _ _ (by omega)
    | succ d ih =>
      intro m σ1 hm b1 b2 b3
      unfold wp_X4_give_L14
      rw [b2 0 4 (by omega), h6.1.1, nle (by omega) (by omega), ncl (by omega), nI_1 m]
      refine ⟨fun y => absurd y (by omega), fun _ => ⟨nvi (by omega) (by omega), s_X4_wallIn hW (by omega) (fun σ5 e5 => ?_)⟩⟩
      refine ih (m + 1) σ5 (by omega) (by rw [e5]; exact b1) (fun q s g => ?_) (fun j hj => ?_)
      · rw [e5]; show (if q = 4 + 2 * m ∧ s = 3 then _ else σ1.1 q s) = _
        rw [if_neg (by omega)]; exact b2 q s g
      · rw [e5]; show (if 4 + 2 * j = 4 + 2 * m ∧ 3 = 3 then _ else σ1.1 (4 + 2 * j) 3) = _
        by_cases e : j = m
        · subst e; rw [if_pos ⟨rfl, rfl⟩]
        · rw [if_neg (by omega)]; exact b3 j (by omega)
  exact key c.1 0 σ (by omega) rfl (fun _ _ _ => rfl) (fun j hj => absurd hj (Nat.not_lt_zero j))
