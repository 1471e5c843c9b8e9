/-! ===== PURE: letters ===== -/
theorem nneg {x : Int32} (h : ¬ x < 0) : ∃ i, i < 2147483648 ∧ x = nI i := by
  rcases pk_ix x (n := 2147483647) (by omega) with y | y | ⟨j, j1, j2⟩
  · exact absurd y h
  · refine ⟨2147483647, by omega, ?_⟩
    apply Int32.toInt_inj.mp
    have h1 := Int32.le_iff_toInt_le.mp y
    rw [nI_toInt (by omega)] at h1 ⊢
    have h2 := Int32.toInt_lt x
    omega
  · exact ⟨j, by omega, j2⟩
theorem MX.fr {c : Cf} {now : Nat → Nat} {pr : Nat → Nat → Int32} {t : Nat} {τ τ' : ST} (h : MX c now pr t τ) (f1 : ∀ p s, ¬ (p = 0 ∧ s = 16) → τ'.1 p s = τ.1 p s) (f2 : ∀ p, p < 12 → τ'.2.2.1 p = τ.2.2.1 p) (f3 : ∀ p, p ≠ 11 → τ'.2.2.2 p = τ.2.2.2 p) : MX c now pr t τ' := by
  refine ⟨⟨by rw [f1 0 0 (by omega)]; exact h.1.1, fun k hk => ?_⟩, fun k hk => ?_, fun k hk => ?_, by rw [f1 0 10 (by omega)]; exact h.2.2.2⟩
  · rw [f2 1 (by omega), f2 2 (by omega), f2 4 (by omega), f2 5 (by omega), f3 8 (by omega), f3 9 (by omega)]; exact h.1.2 k hk
  · rw [f2 7 (by omega)]; exact h.2.1 k hk
  · rw [f2 6 (by omega)]; exact h.2.2.1 k hk
theorem RM.fr2 {c : Cf} {τ τ' : ST} (h : RM c τ) (f1 : ∀ p s, ¬ (p = 0 ∧ s = 16) → τ'.1 p s = τ.1 p s) (f2 : ∀ p, p < 12 → τ'.2.2.1 p = τ.2.2.1 p) (f3 : ∀ p, p ≠ 11 → τ'.2.2.2 p = τ.2.2.2 p) : RM c τ' := by
  refine ⟨by rw [f1 0 0 (by omega)]; exact h.1, fun k hk => ?_⟩
  rw [f2 1 (by omega), f2 2 (by omega), f2 3 (by omega), f2 4 (by omega), f2 5 (by omega), f3 8 (by omega), f3 9 (by omega)]
  exact h.2 k hk
theorem KI.next {c : Cf} {n q : Nat} {τ : ST} (h : KI q τ) (hq : q + 1 < 2147483648) : MM c n (q + 1) (sI τ 0 16 (τ.1 0 16 + 1)) := by
  refine ⟨by simp [sI]; rw [h.1, nI_1], fun j hj => ?_⟩
  obtain ⟨p, p1, p2⟩ := h.2 j hj
  refine ⟨⟨p, by omega, p2⟩, fun z => ?_⟩
  have z : τ.2.2.1 13 j = nI (q + 1) := z
  rw [p2, neq (by omega) (by omega)] at z
  omega
theorem MM.K {c : Cf} {n q : Nat} {τ : ST} (h : MM c n q τ) : KI q τ := ⟨h.1, fun j hj => (h.2 j hj).1⟩
theorem m_letters {c : Cf} {n q : Nat} {τ : ST} {Q : Int32 → ST → Prop} (hc : Ck c) (hn : n ≤ 3) (hq : q + 1 < 2147483648) (hR : RM c τ) (hK : KI q τ) (h : ∀ τ', KI (q + 1) τ' → (∀ p s, ¬ (p = 0 ∧ s = 16) → τ'.1 p s = τ.1 p s) → (∀ p, p < 12 → τ'.2.2.1 p = τ.2.2.1 p) → (∀ p, p ≠ 11 → τ'.2.2.2 p = τ.2.2.2 p) → Q (nI (lets c n)) τ') : wp_X5_letters (nI n) τ Q := by
  intro σ1 e1
  have m1 : MM c n (q + 1) σ1 := by rw [e1]; exact hK.next hq
  have o1 : ∀ p s, ¬ (p = 0 ∧ s = 16) → σ1.1 p s = τ.1 p s := fun p s g => by rw [e1]; exact if_neg g
  have o2 : σ1.2.2 = τ.2.2 := by rw [e1]; rfl
  have r1 : RM c σ1 := hR.fr2 o1 (fun p _ => by rw [o2]) (fun p _ => by rw [o2])
  refine s_X5_isIn (fun _ => ⟨fun z => absurd z (by decide), fun _ => s_X5_startOf hc r1 ?_⟩) (fun z => absurd ((le_nI (n := 3) (by omega)).mpr ⟨n, hn, rfl⟩) z)
  rw [X0_start hc]
  refine s_X5_most hc hn hq n 4 0 (by omega) (by omega) _ _ _ m1 r1 (fun τ' m f => h τ' m.K (fun p s g => by rw [f.1]; exact o1 p s g) (fun p hp => by rw [f.2.2.1 p (Or.inl hp), o2]) (fun p hp => by rw [f.2.2.2 p hp, o2]))
theorem cw {c : Cf} {now : Nat → Nat} {pr : Nat → Nat → Int32} {ch t n : Nat} {σ : ST} {Q : Nat → ST → Prop} (hc : Ck c) (hS : CS c now pr ch t σ) (hn : n ≤ 3) (h : ∀ σ', CS c now pr ch t σ' → WO c n σ' → Q (34 + 4 * n) σ') : wp_X4_whisperOf (nI n) σ Q := by
  have w := hS.2.2.2.2.2.2 n (by omega)
  exact s_X4_whisperOf hc hS.1 hS.2.2.2.2.1 hn w.1 w.2.2 (fun σ' f p a => h σ' (hS.frW hc (by omega) f p a) p)
theorem m_lettersNo {q : Nat} {x : Int32} {τ : ST} {Q : Int32 → ST → Prop} (hx : ¬ (0 ≤ x ∧ x ≤ 3)) (h : Q (-1) (sI τ 0 16 (τ.1 0 16 + 1))) : wp_X5_letters x τ Q := by
  intro σ1 e1
  rw [e1]
  exact s_X5_isIn (fun z => absurd z hx) (fun _ => ⟨fun _ => h, fun z => absurd rfl z⟩)
theorem r_letters {B : Nat} {x : Int32} {σ τ : ST} {P : Int32 → Int32 → ST → ST → Prop} (hB : B < 1000) (h : Rel B σ τ) (k : ∀ r σ' τ', Rel (B + 1) σ' τ' → P r r σ' τ') : wp_X4_letters x σ (fun r σ' => wp_X5_letters x τ (fun r' τ' => P r r' σ' τ')) := by
  obtain ⟨c, now, pr, ch, q, t, h1, h2, h3, h4, h5, h6, h7⟩ := h
  have N : ¬ (0 ≤ x ∧ x ≤ 3) → wp_X5_letters x τ (fun r' τ' => P (-1) r' σ τ') := fun n => m_lettersNo (q := q) n (k _ _ _ ⟨c, now, pr, ch, q + 1, t, h1, h2, by omega, by omega, by omega, h6, (h7.X.fr (τ' := sI τ 0 16 (τ.1 0 16 + 1)) (fun p s g => if_neg g) (fun _ _ => rfl) (fun _ _ => rfl)).S (h7.1.fr2 (fun p s g => if_neg g) (fun _ _ => rfl) (fun _ _ => rfl)) (h7.2.2.2.2.next (c := c) (n := 0) (by omega)).K⟩)
  refine ⟨fun z => N (fun y => absurd (Int32.lt_of_lt_of_le z y.1) (Int32.lt_irrefl)), fun z => ⟨fun z2 => ?_, fun z2 => N (fun y => z2 y.2)⟩⟩
  obtain ⟨n, n1, n2⟩ := (le_nI (n := 3) (by omega)).mp ⟨Int32.not_lt.mp z, z2⟩
  subst n2
  refine cw h1 h6 n1 (fun σ' s' w' => ⟨n, by omega, rfl, ?_⟩)
  rw [w'.1]
  exact m_letters h1 n1 (by omega) h7.1 h7.2.2.2.2 (fun τ' ki f1 f2 f3 => k _ _ _ ⟨c, now, pr, ch, q + 1, t, h1, h2, by omega, by omega, by omega, s', (h7.X.fr f1 f2 f3).S (h7.1.fr2 f1 f2 f3) ki⟩)
noncomputable def vL (c : Cf) (n i u l : Nat) : Nat := if l = 0 then (lpt c n i u).1 else if l = 1 then (lpt c n i u).2 else lwi c n i u
theorem r_letter {B : Nat} {x y z w : Int32} {σ τ : ST} {P : Int32 → Int32 → ST → ST → Prop} (hB : B < 1000) (h : Rel B σ τ) (k : ∀ r σ' τ', Rel (B + 1) σ' τ' → P r r σ' τ') : wp_X4_letter x y z w σ (fun r σ' => wp_X5_letter x y z w τ (fun r' τ' => P r r' σ' τ')) := by
  obtain ⟨c, now, pr, ch, q, t, h1, h2, h3, h4, h5, h6, h7⟩ := h
  have M : ∀ {R : Int32 → ST → Prop}, (∀ n i u l, n ≤ 3 → i < lets c n → u < n → l < 3 → x = nI n → y = nI i → z = nI u → w = nI l → ∀ q' τ', q' ≤ q + 1 → MS c now pr q' t τ' → R (nI (vL c n i u l)) τ') → ((∀ n i u l, n ≤ 3 → i < lets c n → u < n → l < 3 → x = nI n → y = nI i → z = nI u → ¬ w = nI l) → ∀ q' τ', q' ≤ q + 1 → MS c now pr q' t τ' → R (-1) τ') → wp_X5_letter x y z w τ R := by
    intro R g1 g0
    refine s_X5_isIn (fun xx => ⟨fun e => absurd e (by decide), fun _ => ⟨fun yn => g0 (fun n i u l a1 a2 a3 a4 a5 a6 => ?_) q τ (by omega) h7, fun yn => ?_⟩⟩) (fun xx => ⟨fun _ => g0 (fun n i u l a1 a2 a3 a4 a5 => absurd ((le_nI (n := 3) (by omega)).mpr ⟨n, a1, a5⟩) xx) q τ (by omega) h7, fun e => absurd rfl e⟩)
    · have := lets_le (c := c) a1
      rw [a6, l0, nlt (by omega) (by omega)] at yn; omega
    obtain ⟨n, n1, n2⟩ := (le_nI (n := 3) (by omega)).mp xx
    obtain ⟨i, i1, i2⟩ := nneg yn
    subst n2 i2
    refine s_X5_isIn (fun zz => ⟨fun e => absurd e (by decide), fun _ => ?_⟩) (fun zz => ⟨fun _ => g0 (fun n' i' u l a1 a2 a3 a4 a5 a6 a7 => ?_) q τ (by omega) h7, fun e => absurd rfl e⟩)
    · obtain ⟨u, u1, u2⟩ := (thingIx (n := n) (by omega)).mp zz
      subst u2
      refine s_X5_isIn (fun ww => ⟨fun e => absurd e (by decide), fun _ => ?_⟩) (fun ww => ⟨fun _ => g0 (fun n' i' u' l a1 a2 a3 a4 a5 a6 a7 a8 => ww ((le_nI (n := 2) (by omega)).mpr ⟨l, by omega, a8⟩)) q τ (by omega) h7, fun e => absurd rfl e⟩)
      obtain ⟨l, l1', l2'⟩ := (le_nI (n := 2) (by omega)).mp ww
      subst l2'
      intro σ1 e1
      have m1 : MM c n (q + 1) σ1 := by rw [e1]; exact h7.2.2.2.2.next (by omega)
      have o1 : ∀ p s, ¬ (p = 0 ∧ s = 16) → σ1.1 p s = τ.1 p s := fun p s g => by rw [e1]; exact if_neg g
      have o2 : σ1.2.2 = τ.2.2 := by rw [e1]; rfl
      have r1 : RM c σ1 := h7.1.fr2 o1 (fun p _ => by rw [o2]) (fun p _ => by rw [o2])
      have x1 : MX c now pr t σ1 := h7.X.fr o1 (fun p _ => by rw [o2]) (fun p _ => by rw [o2])
      refine s_X5_startOf h1 r1 ⟨n + 1, ?_⟩
      rw [X0_start h1]
      refine s_X5_finds_L23 h1 n1 (by omega) n 0 i (X0 c) σ1 (by omega) i1 (X0_ne h1) m1 r1 (fun hlt τ2 m2 f2 _ v2 => ⟨fun e => absurd e (by decide), fun _ => ?_⟩) (fun hge τ2 m2 f2 => ⟨fun _ => g0 (fun n' i' u' l' a1 a2 a3 a4 a5 a6 => ?_) (q + 1) τ2 (Nat.le_refl _) ?_, fun e => absurd rfl e⟩)
      · have r2 := r1.frF f2
        have x2 : MX c now pr t τ2 := x1.fr (fun p s _ => by rw [f2.1]) f2.2.2.1 f2.2.2.2
        have hlt : i < lets c n := hlt
        have pt : PT n (lpt c n i) τ2 := fun u' hu' => v2 u' (Nat.zero_le _) hu'
        refine s_X5_startOf h1 r2 (s_X5_leads h1 n1 (lpt_ok h1 hlt) n 4 0 (stv c) τ2 _ (by omega) (by omega) (stv_lt h1) r2 pt (fun _ τ3 f3 w3 => ⟨fun _ => ?_, fun e => absurd e (by decide)⟩) (fun no => absurd (lpt_LD h1 hlt) no))
        have r3 := r2.frL f3
        have x3 : MX c now pr t τ3 := x2.fr (fun p s _ => by rw [f3.1]) (fun p hp => f3.2.2.1 p (by omega)) (fun p _ => by rw [f3.2.2.2])
        have k3 : KI (q + 1) τ3 := ⟨by rw [f3.1]; exact m2.1, by rw [f3.2.2.1 13 (by omega)]; exact m2.K.2⟩
        have pt3 := (pt.frL f3) u u1
        have wu := w3 u (Nat.zero_le _) u1
        have fin := g1 n i u l n1 hlt u1 (by omega) rfl rfl rfl rfl (q + 1) τ3 (Nat.le_refl _) (x3.S r3 k3)
        unfold vL at fin
        rw [l0, neq (by omega) (by omega), l1, neq (by omega) (by omega), ncl (by omega)]
        have hv : vp_in (nI u) 3 := nvi (by omega) (by omega)
        refine ⟨fun a => ⟨fun b => ⟨hv, ?_⟩, fun b => ⟨hv, ?_⟩⟩, fun a => ⟨hv, ?_⟩⟩
        · rw [if_neg a, if_neg b] at fin
          rw [wu]; exact fin
        · rw [if_neg a, if_pos b] at fin
          rw [pt3.2]; exact fin
        · rw [if_pos a] at fin
          rw [pt3.1]; exact fin
      · have := lets_le (c := c) a1
        rw [neq (by omega) (by omega)] at a5
        subst a5
        rw [neq (by omega) (by omega)] at a6
        subst a6
        exact absurd a2 hge
      · exact (x1.fr (fun p s _ => by rw [f2.1]) f2.2.2.1 f2.2.2.2).S (r1.frF f2) m2.K
    · intro _
      rw [neq (by omega) (by omega)] at a5
      subst a5
      exact zz ((thingIx (n := n) (by omega)).mpr ⟨u, a3, a7⟩)
  have C : ∀ {R : Int32 → ST → Prop}, (∀ n i u l, n ≤ 3 → i < lets c n → u < n → l < 3 → x = nI n → y = nI i → z = nI u → w = nI l → ∀ σ', CS c now pr ch t σ' → R (nI (vL c n i u l)) σ') → ((∀ n i u l, n ≤ 3 → i < lets c n → u < n → l < 3 → x = nI n → y = nI i → z = nI u → ¬ w = nI l) → ∀ σ', CS c now pr ch t σ' → R (-1) σ') → wp_X4_letter x y z w σ R := by
    intro R g1 g0
    have xno : ¬ (0 ≤ x ∧ x ≤ 3) → R (-1) σ := fun xx => g0 (fun n i u l a1 a2 a3 a4 a5 => absurd ((le_nI (n := 3) (by omega)).mpr ⟨n, a1, a5⟩) xx) σ h6
    refine ⟨fun e => xno (fun v => absurd (Int32.lt_of_lt_of_le e v.1) (Int32.lt_irrefl)), fun e1 => ⟨fun e => xno (fun v => absurd (Int32.lt_of_lt_of_le e v.2) (Int32.lt_irrefl)), fun e2 => ?_⟩⟩
    obtain ⟨n, n1, n2⟩ := (le_nI (n := 3) (by omega)).mp ⟨Int32.not_lt.mp e1, Int32.not_lt.mp e2⟩
    subst n2
    have hle := lets_le (c := c) n1
    refine ⟨fun e => g0 (fun n i u l a1 a2 a3 a4 a5 a6 => ?_) σ h6, fun yn => cw h1 h6 n1 (fun σ' s' w' => ⟨n, by omega, rfl, ?_⟩)⟩
    · have := lets_le (c := c) a1
      rw [a6, l0, nlt (by omega) (by omega)] at e; omega
    obtain ⟨i, i1, i2⟩ := nneg yn
    subst i2
    rw [w'.1, nlt (by omega) (by omega)]
    refine ⟨fun hlt => ⟨fun e => g0 (fun n i u l a1 a2 a3 a4 a5 a6 a7 => ?_) σ' s', fun zn => ⟨fun e => g0 (fun n' i u l a1 a2 a3 a4 a5 a6 a7 => ?_) σ' s', fun zn2 => ⟨fun e => g0 (fun n i u l a1 a2 a3 a4 a5 a6 a7 a8 => ?_) σ' s', fun wn => ⟨fun e => ?_, fun e => g0 (fun n i u l a1 a2 a3 a4 a5 a6 a7 a8 => ?_) σ' s'⟩⟩⟩⟩, fun hge => g0 (fun n' i' u l a1 a2 a3 a4 a5 a6 => ?_) σ' s'⟩
    · rw [a7, l0, nlt (by omega) (by omega)] at e; omega
    · rw [neq (by omega) (by omega)] at a5
      subst a5
      rw [a7, nle (by omega) (by omega)] at e; omega
    · rw [a8, l0, nlt (by omega) (by omega)] at e; omega
    · obtain ⟨u, u1, u2⟩ : ∃ u, u < n ∧ z = nI u := by
        rcases pk_ix z (n := n) (by omega) with q1 | q1 | q1
        · exact absurd q1 zn
        · exact absurd q1 zn2
        · exact q1
      obtain ⟨l, l1', l2'⟩ : ∃ l, l < 3 ∧ w = nI l := by
        rcases pk_ix w (n := 3) (by omega) with q1 | q1 | q1
        · exact absurd q1 wn
        · exact absurd (Int32.lt_of_le_of_lt q1 e) (Int32.lt_irrefl)
        · exact q1
      subst u2 l2'
      refine cw h1 s' n1 (fun σ2 s2 w2 => ⟨n, by omega, rfl, s_place ?_⟩)
      rw [nI_add, ncl (by omega)]
      refine ⟨nvi (by omega) (by omega), ?_⟩
      obtain ⟨v1, v2, v3⟩ := w2.2 i hlt u u1
      have fin := g1 n i u l n1 hlt u1 l1' rfl rfl rfl rfl σ2 s2
      unfold vL at fin
      rcases (by omega : l = 0 ∨ l = 1 ∨ l = 2) with q1 | q1 | q1 <;> subst q1
      · rw [if_pos rfl] at fin; rw [Nat.add_zero, v1]; exact fin
      · rw [if_neg (by omega), if_pos rfl] at fin; rw [v2]; exact fin
      · rw [if_neg (by omega), if_neg (by omega)] at fin; rw [v3]; exact fin
    · exact e (by rw [a8, l3, nlt (by omega) (by omega)]; exact a4)
    · have := lets_le (c := c) a1
      rw [neq (by omega) (by omega)] at a5
      subst a5
      rw [neq (by omega) (by omega)] at a6
      subst a6
      exact absurd a2 hge
  refine C (fun n i u l a1 a2 a3 a4 a5 a6 a7 a8 σ' s' => M (fun n' i' u' l' b1 b2 b3 b4 b5 b6 b7 b8 q' τ' hq' m' => ?_) (fun hno q' τ' hq' m' => absurd a8 (hno n i u l a1 a2 a3 a4 a5 a6 a7))) (fun hno σ' s' => M (fun n' i' u' l' b1 b2 b3 b4 b5 b6 b7 b8 q' τ' hq' m' => absurd b8 (hno n' i' u' l' b1 b2 b3 b4 b5 b6 b7)) (fun _ q' τ' hq' m' => k _ _ _ ⟨c, now, pr, ch, q', t, h1, h2, by omega, by omega, by omega, s', m'⟩))
  have e1 := lets_le (c := c) a1
  have e2 := lets_le (c := c) b1
  rw [a5, neq (by omega) (by omega)] at b5
  rw [a6, neq (by omega) (by omega)] at b6
  rw [a7, neq (by omega) (by omega)] at b7
  rw [a8, neq (by omega) (by omega)] at b8
  subst b5 b6 b7 b8
  exact k _ _ _ ⟨c, now, pr, ch, q', t, h1, h2, by omega, by omega, by omega, s', m'⟩
