/-! ===== PURE: the dearest and the cheapest walls ===== -/
noncomputable def bo (c : Cf) (pr : Nat → Nat → Int32) (x1 : Int32) (n2 : Nat) : Nat → Option Nat
  | 0 => none
  | W + 1 => match bo c pr x1 n2 W with
    | none => if x1 < nI (lets (setW c W) n2) then none else some W
    | some b => if sumN pr b c.1 ≤ sumN pr W c.1 then some b else if x1 < nI (lets (setW c W) n2) then some b else some W
def toI : Option Nat → Int32
  | none => -1
  | some b => nI b
theorem bo_lt (c : Cf) (pr : Nat → Nat → Int32) (x1 : Int32) (n2 : Nat) : ∀ W b, bo c pr x1 n2 W = some b → b < W := by
  intro W
  induction W with
  | zero => intro b h; exact absurd h (by simp [bo])
  | succ W ih =>
    intro b h
    unfold bo at h
    cases e : bo c pr x1 n2 W with
    | none =>
      rw [e] at h
      dsimp only at h
      split at h
      · exact absurd h (by simp)
      · have := Option.some.inj h; omega
    | some b' =>
      rw [e] at h
      dsimp only at h
      have hb := ih b' e
      split at h
      · have := Option.some.inj h; omega
      · split at h
        · have := Option.some.inj h; omega
        · have := Option.some.inj h; omega
theorem one4 : ∀ n, n ≤ 3 → ((1 : Int32) <<< (((2 * nI n) : Int32) &&& 31)) = nI (4 ^ n) ∧ 4 ^ n ≤ 64 := by decide +kernel
theorem c_behind {c : Cf} {now : Nat → Nat} {pr : Nat → Nat → Int32} {ch t W n2 : Nat} {σ : ST} {Q : Int32 → ST → Prop} (hc : Ck c) (hS : CS c now pr ch t σ) (hW : W < 64) (hn : n2 ≤ 3) (h : ∀ σ', CS c now pr ch t σ' → Q (nI (lets (setW c W) n2)) σ') : wp_X4_lettersBehind (nI W) (nI n2) σ Q := by
  unfold wp_X4_lettersBehind
  rw [hS.1.1]
  refine s_X1_build hc hS.1.T hW (fun σ1 f ro => ?_)
  rw [RO_X0 ro]
  exact s_X4_most (setW_ok hc W) ro hn n2 4 0 (by omega) (by omega) _ _ (X0_ne (setW_ok hc W)) (h σ1 (hS.frR hc f))
theorem c_walls {c : Cf} {now : Nat → Nat} {pr : Nat → Nat → Int32} {ch t n2 : Nat} {x1 x3 : Int32} {K : Int32 → ST → Prop} {Q : Int32 → ST → Prop} (hc : Ck c) (hn : n2 ≤ 3) (h : ∀ σ', CS c now pr ch t σ' → K (toI (bo c pr x1 n2 (4 ^ c.1))) σ') : ∀ (d W : Nat) (σ1 : ST), W + d = 4 ^ c.1 → CS c now pr ch t σ1 → wp_X4_walls_L38 x1 (nI n2) x3 K Q (d + 1) (toI (bo c pr x1 n2 W)) (nI W) σ1 := by
  obtain ⟨f1, f2⟩ := one4 c.1 hc.1
  intro d
  induction d with
  | zero =>
    intro W σ1 hW s1
    have : W = 4 ^ c.1 := by omega
    subst this
    unfold wp_X4_walls_L38
    rw [s1.1.1, f1]
    exact ⟨fun _ => h σ1 s1, fun z => absurd (Int32.le_refl _) z⟩
  | succ d ih =>
    intro W σ1 hW s1
    have i1 := fun σ2 s2 => ih (W + 1) σ2 (by omega) s2
    have eb : bo c pr x1 n2 (W + 1) = match bo c pr x1 n2 W with
      | none => if x1 < nI (lets (setW c W) n2) then none else some W
      | some b => if sumN pr b c.1 ≤ sumN pr W c.1 then some b else if x1 < nI (lets (setW c W) n2) then some b else some W := rfl
    rw [eb] at i1
    unfold wp_X4_walls_L38
    rw [s1.1.1, f1, nle (by omega) (by omega), nI_1 W]
    refine ⟨fun z => absurd z (by omega), fun _ => ?_⟩
    cases e : bo c pr x1 n2 W with
    | none =>
      rw [e] at i1
      dsimp only at i1
      refine ⟨fun _ => c_behind hc s1 (by omega) hn (fun σ2 s2 => ⟨fun y => ?_, fun y => ?_⟩), fun z => absurd rfl z⟩
      · have := i1 σ2 s2; rw [if_pos y] at this; exact this
      · have := i1 σ2 s2; rw [if_neg y] at this; exact this
    | some b =>
      rw [e] at i1
      dsimp only at i1
      have hb := bo_lt c pr x1 n2 W b e
      refine ⟨fun z => absurd z (mneg1 (by omega)), fun _ => c_sum hc s1 (by omega) (c_sum hc s1 (by omega) ⟨fun y => ?_, fun y => c_behind hc s1 (by omega) hn (fun σ2 s2 => ⟨fun y2 => ?_, fun y2 => ?_⟩)⟩)⟩
      · have := i1 σ1 s1; rw [if_pos y] at this; exact this
      · have := i1 σ2 s2; rw [if_neg y, if_pos y2] at this; exact this
      · have := i1 σ2 s2; rw [if_neg y, if_neg y2] at this; exact this
theorem m_walls {c : Cf} {now : Nat → Nat} {pr : Nat → Nat → Int32} {q t n2 : Nat} {x1 x3 x4 : Int32} {K : Int32 → ST → Prop} {Q : Int32 → ST → Prop} (hc : Ck c) (hn : n2 ≤ 3) (hq : q < 1000000) (h : ∀ q' τ', q' ≤ q + 64 → MX c now pr t τ' → KI q' τ' → K (toI (bo c pr x1 n2 (4 ^ c.1))) τ') : ∀ (d W q1 : Nat) (τ1 : ST), W + d = 4 ^ c.1 → q1 ≤ q + W → MX c now pr t τ1 → KI q1 τ1 → wp_X5_walls_L43 x1 (nI n2) x3 x4 K Q (d + 1) (toI (bo c pr x1 n2 W)) (nI W) τ1 := by
  obtain ⟨f1, f2⟩ := one4 c.1 hc.1
  intro d
  induction d with
  | zero =>
    intro W q1 τ1 hW hq1 s1 k1
    have : W = 4 ^ c.1 := by omega
    subst this
    unfold wp_X5_walls_L43
    rw [s1.1.1, f1]
    exact ⟨fun _ => h q1 τ1 (by omega) s1 k1, fun z => absurd (Int32.le_refl _) z⟩
  | succ d ih =>
    intro W q1 τ1 hW hq1 s1 k1
    have i1 := fun q2 τ2 hq2 s2 k2 => ih (W + 1) q2 τ2 (by omega) hq2 s2 k2
    have eb : bo c pr x1 n2 (W + 1) = match bo c pr x1 n2 W with
      | none => if x1 < nI (lets (setW c W) n2) then none else some W
      | some b => if sumN pr b c.1 ≤ sumN pr W c.1 then some b else if x1 < nI (lets (setW c W) n2) then some b else some W := rfl
    rw [eb] at i1
    have ask : ∀ {R : Int32 → ST → Prop}, (∀ q2 τ2, q2 ≤ q + (W + 1) → MX c now pr t τ2 → KI q2 τ2 → R (nI (lets (setW c W) n2)) τ2) → wp_X5_gives (nI W) τ1 (fun σ9 => (wp_X5_letters (nI n2) σ9 (fun r11 σ10 => R r11 σ10))) := by
      intro R g
      refine m_gives hc s1 k1 (by omega) (fun τ2 s2 r2 k2 => m_letters (setW_ok hc W) hn (by omega) r2 k2 (fun τ3 k3 o1 o2 o3 => g (q1 + 1) τ3 (by omega) (s2.fr o1 o2 o3) k3))
    unfold wp_X5_walls_L43
    rw [s1.1.1, f1, nle (by omega) (by omega), nI_1 W]
    refine ⟨fun z => absurd z (by omega), fun _ => ?_⟩
    cases e : bo c pr x1 n2 W with
    | none =>
      rw [e] at i1
      dsimp only at i1
      refine ⟨fun _ => ask (fun q2 τ2 hq2 s2 k2 => ⟨fun y => ?_, fun y => ?_⟩), fun z => absurd rfl z⟩
      · have := i1 q2 τ2 hq2 s2 k2; rw [if_pos y] at this; exact this
      · have := i1 q2 τ2 hq2 s2 k2; rw [if_neg y] at this; exact this
    | some b =>
      rw [e] at i1
      dsimp only at i1
      have hb := bo_lt c pr x1 n2 W b e
      refine ⟨fun z => absurd z (mneg1 (by omega)), fun _ => m_sum hc s1 (by omega) (m_sum hc s1 (by omega) ⟨fun y => ask (fun q2 τ2 hq2 s2 k2 => ⟨fun y2 => ?_, fun y2 => ?_⟩), fun y => ?_⟩)⟩
      · have := i1 q2 τ2 hq2 s2 k2; rw [if_neg (Int32.not_le.mpr y), if_pos y2] at this; exact this
      · have := i1 q2 τ2 hq2 s2 k2; rw [if_neg (Int32.not_le.mpr y), if_neg y2] at this; exact this
      · have := i1 q1 τ1 (by omega) s1 k1; rw [if_pos (Int32.not_lt.mp y)] at this; exact this
theorem RM_own {c : Cf} (hc : Ck c) {τ : ST} (h : RM (setW c (wv c)) τ) : RM c τ := by
  refine ⟨h.1, fun k hk => ?_⟩
  have g := h.2 k hk
  rw [setW_row hc hk] at g
  exact g
def resW (o : Option Nat) (x3 : Int32) (pr : Nat → Nat → Int32) (n : Nat) : Int32 := match o with
  | none => -1
  | some b => if x3 = 0 then sumN pr b n else nI b
theorem r_walls {B : Nat} {x y z : Int32} {σ τ : ST} {P : Int32 → Int32 → ST → ST → Prop} (hB : B < 1000) (h : Rel B σ τ) (k : ∀ r σ' τ', Rel (B + 1) σ' τ' → P r r σ' τ') : wp_X4_walls x y z σ (fun r σ' => wp_X5_walls x y z τ (fun r' τ' => P r r' σ' τ')) := by
  have hu := h.up
  obtain ⟨c, now, pr, ch, q, t, h1, h2, h3, h4, h5, h6, h7⟩ := h
  have c3 := h1.1
  have f2 := (one4 c.1 c3).2
  have N : ¬ ((1 ≤ x ∧ x ≤ 4096) ∧ (0 ≤ y ∧ y ≤ 2) ∧ (0 ≤ z ∧ z ≤ 1)) → wp_X5_walls x y z τ (fun r' τ' => P (-1) r' σ τ') := by
    intro n
    refine s_X5_isIn (fun a => ⟨fun e => absurd e (by decide), fun _ => s_X5_isIn (fun b => ⟨fun e => absurd e (by decide), fun _ => s_X5_isIn (fun d => absurd ⟨a, b, d⟩ n) (fun _ => ⟨fun e => absurd rfl e, fun _ => k _ _ _ hu⟩)⟩) (fun _ => ⟨fun _ => k _ _ _ hu, fun e => absurd rfl e⟩)⟩) (fun _ => ⟨fun _ => k _ _ _ hu, fun e => absurd rfl e⟩)
  have lt {a b : Int32} (p : a < b) (q : b ≤ a) : False := absurd (Int32.lt_of_lt_of_le p q) (Int32.lt_irrefl)
  refine ⟨fun e => N (fun v => lt e v.1.1), fun e1 => ⟨fun e => N (fun v => lt e v.1.2), fun e2 => ⟨fun e => N (fun v => lt e v.2.1.1), fun e3 => ⟨fun e => N (fun v => lt e v.2.1.2), fun e4 => ⟨fun e => N (fun v => lt e v.2.2.1), fun e5 => ⟨fun e6 => ?_, fun e => N (fun v => e v.2.2.2)⟩⟩⟩⟩⟩⟩
  obtain ⟨n2, n21, n22⟩ := (le_nI (n := 2) (by omega)).mp ⟨Int32.not_lt.mp e3, Int32.not_lt.mp e4⟩
  subst n22
  have hw := wv_lt h1
  have M : ∀ {R : Int32 → ST → Prop}, (∀ q' τ', q' ≤ q + 64 → MS c now pr q' t τ' → R (resW (bo c pr x n2 (4 ^ c.1)) z pr c.1) τ') → wp_X5_walls x (nI n2) z τ R := by
    intro R g
    refine s_X5_isIn (fun _ => ⟨fun e => absurd e (by decide), fun _ => ?_⟩) (fun a => absurd ⟨Int32.not_lt.mp e1, Int32.not_lt.mp e2⟩ a)
    refine s_X5_isIn (fun _ => ⟨fun e => absurd e (by decide), fun _ => ?_⟩) (fun a => absurd ⟨Int32.not_lt.mp e3, Int32.not_lt.mp e4⟩ a)
    refine s_X5_isIn (fun _ => ⟨fun _ => ?_, fun e => absurd e (by decide)⟩) (fun a => absurd ⟨Int32.not_lt.mp e5, e6⟩ a)
    refine m_wallsNow h1 h7.1 ⟨4 ^ c.1 + 1, m_walls h1 (by omega) (q := q) (by omega) (fun q' τ' hq' mx ki => m_gives h1 mx ki hw (fun τ2 mx2 rm2 ki2 => ?_)) (4 ^ c.1) 0 q τ (by omega) (by omega) h7.X h7.2.2.2.2⟩
    have fin := g q' τ2 hq' (mx2.S (RM_own h1 rm2) ki2)
    cases e : bo c pr x n2 (4 ^ c.1) with
    | none =>
      rw [e] at fin
      exact ⟨fun w => absurd rfl w, fun _ => fin⟩
    | some b =>
      rw [e] at fin
      have hb := bo_lt c pr x n2 _ b e
      have fin : R (if z = 0 then sumN pr b c.1 else nI b) τ2 := fin
      refine ⟨fun _ => ⟨fun w => ?_, fun w => m_sum h1 mx2 (by omega) ?_⟩, fun w => absurd w (mneg1 (by omega))⟩
      · rw [if_neg w] at fin; exact fin
      · rw [if_pos w] at fin; exact fin
  refine ⟨4 ^ c.1 + 1, c_walls h1 (by omega) (fun σ' s' => ?_) (4 ^ c.1) 0 σ (by omega) h6⟩
  have kk : ∀ r, r = resW (bo c pr x n2 (4 ^ c.1)) z pr c.1 → wp_X5_walls x (nI n2) z τ (fun r' τ' => P r r' σ' τ') := by
    intro r er
    subst er
    exact M (fun q' τ' hq' m' => k _ _ _ ⟨c, now, pr, ch, q', t, h1, h2, by omega, by omega, by omega, s', m'⟩)
  cases e : bo c pr x n2 (4 ^ c.1) with
  | none =>
    rw [e] at kk
    exact ⟨fun _ => kk _ rfl, fun _ => ⟨fun _ => kk _ rfl, fun w => absurd rfl w⟩⟩
  | some b =>
    rw [e] at kk
    have hb := bo_lt c pr x n2 _ b e
    refine ⟨fun w => kk _ ?_, fun w => ⟨fun w2 => absurd w2 (mneg1 (by omega)), fun _ => c_sum h1 s' (by omega) (kk _ ?_)⟩⟩
    · show nI b = if z = 0 then sumN pr b c.1 else nI b
      rw [if_neg w]
    · show sumN pr b c.1 = if z = 0 then sumN pr b c.1 else nI b
      rw [if_pos w]
