theorem RO.same {c : Cf} {σ σ' : ST} (h : RO c σ) (h1 : σ'.1 10 5 = σ.1 10 5) (h2 : σ'.2 = σ.2) : RO c σ' := by
  refine ⟨by rw [h1]; exact h.1, by rw [h2]; exact h.2.1, ?_⟩
  rw [h2]; exact h.2.2
theorem now1_lt {c : Cf} (hc : Ck c) {now : Nat → Nat} {a t k : Nat} (hk : k < c.1) (hn : now k < 4) : now1 c now a t k < 4 := by
  unfold now1
  rw [clS_B]
  have hb := (hc.2 k hk).2.1
  split
  · omega
  · exact sendS_lt hc hk hn (by split <;> omega)
theorem now2_lt {c : Cf} (hc : Ck c) {now : Nat → Nat} {a h t k : Nat} (hk : k < c.1) (hn : now k < 4) : now2 c now a h t k < 4 := by
  unfold now2
  have h1 := now1_lt hc (a := a) (t := t) hk hn
  split
  · exact hearS_lt hc hk h1 (by omega)
  · exact h1
theorem c_run {c : Cf} {now : Nat → Nat} {pr : Nat → Nat → Int32} {ch t a h : Nat} {σ : ST} {Q : Int32 → ST → Prop} (hc : Ck c) (hn : ∀ k, k < c.1 → now k < 4) (ht : t < 1000) (hS : CS c now pr ch t σ) (ha : isA c a) (hh : isA c h) (hQ : ∀ σ', CS c (now2 c now a h t) pr ch (t + 1) σ' → Q (nI (if h = 9 then 0 else answ c (h / 3) (now1 c now a t (h / 3)) (h % 3))) σ') : wp_X4_run (nI a) (nI h) σ Q := by
  have c3 := hc.1
  have a10 := isA_lt hc ha
  have h10 := isA_lt hc hh
  obtain ⟨i1, i2⟩ := actI a a10
  obtain ⟨j1, j2⟩ := actI h h10
  unfold wp_X4_run
  refine s_X4_isAct hc hS.1 (fun _ _ _ => ⟨fun z => absurd z (by decide), fun _ => ?_⟩) (fun hno => absurd rfl (hno a ha))
  refine s_X4_isAct hc hS.1 (fun _ _ _ => ⟨fun _ => ?_, fun z => absurd z (by decide)⟩) (fun hno => absurd rfl (hno h hh))
  refine s_X4_wallsNow hc hS.1 ?_
  rw [hS.1.1]
  refine s_X1_build hc hS.1.T (wv_lt hc) (fun σ7 f7 ro7 => ⟨c.1 + 1, ?_⟩)
  have ro := RO_own hc ro7
  have hS7 := hS.frR hc f7
  rw [j2, j1, ncl (by omega)]
  have key : ∀ (d m : Nat) (σ2 : ST), m + d = c.1 → σ2.2 = σ7.2 → (∀ q s, ¬ (4 ≤ q ∧ q < 10 ∧ s = 6) → σ2.1 q s = σ7.1 q s) → (∀ j, j < c.1 → σ2.1 (4 + 2 * j) 6 = nI (if j < m then now1 c now a t j else now j)) → wp_X4_run_L39 (nI a) (nI h) (fun σ21 => (∀ σ22, σ22 = sI σ21 0 5 ((σ21.1 0 5) + 1) → ((¬ nI h = 9 → (vp_in (nI (h / 3)) 3 ∧ (wp_X1_answer (nI (h / 3)) (σ22.1 (4 + 2 * (h / 3)) 6) (nI (h % 3)) σ22 (fun r26 σ25 => (wp_X1_left (nI (h / 3)) (σ25.1 (4 + 2 * (h / 3)) 6) (nI (h % 3)) σ25 (fun r28 σ27 => (∀ σ29, σ29 = sI σ27 (4 + 2 * (h / 3)) 6 r28 → Q r26 σ29))))))) ∧ (nI h = 9 → Q 0 σ22)))) Q (d + 1) (nI m) σ2 := by
    intro d
    induction d with
    | zero =>
      intro m σ2 hm b1 b2 b3
      have : m = c.1 := by omega
      subst this
      unfold wp_X4_run_L39
      rw [b2 0 4 (by omega), hS7.1.1]
      refine ⟨fun _ σ22 e22 => ?_, fun z => absurd (Int32.le_refl _) z⟩
      have ro22 : RO c σ22 := ro.same (by rw [e22]; simp [sI]; exact b2 10 5 (by omega)) (by rw [e22]; exact b1)
      have v6 : ∀ j, j < c.1 → σ22.1 (4 + 2 * j) 6 = nI (now1 c now a t j) := fun j hj => by
        rw [e22]; simp [sI]
        rw [b3 j hj, if_pos hj]
      have t5 : σ22.1 0 5 = nI (t + 1) := by
        rw [e22]; simp [sI]
        rw [b2 0 5 (by omega), hS7.2.2.2.1, nI_1]
      have o22 : ∀ q s, ¬ (4 ≤ q ∧ q < 10 ∧ s = 6) → ¬ (q = 0 ∧ s = 5) → σ22.1 q s = σ7.1 q s := fun q s g1 g2 => by
        rw [e22]; show (if q = 0 ∧ s = 5 then _ else σ2.1 q s) = _
        rw [if_neg g2]; exact b2 q s g1
      have s22 : σ22.2 = σ7.2 := by rw [e22]; exact b1
      rw [l9, neq (by omega) (by omega)]
      refine ⟨fun z => ?_, fun z => ?_⟩
      · obtain ⟨y1, y2, y3, -⟩ := act3 hc hh z
        have n1 := now1_lt hc (a := a) (t := t) y1 (hn _ y1)
        rw [v6 _ y1]
        refine ⟨nvi (by omega) (by omega), s_X1_answer hc ro22 y1 n1 (by omega) ?_⟩
        rw [v6 _ y1]
        refine s_X1_left hc ro22 y1 n1 (by omega) (fun σ29 e29 => ?_)
        have hq := hQ σ29 (hS7.now hc (fun q s g1 g2 => ?_) ?_ (fun j hj => ?_) ?_)
        · rw [if_neg z] at hq; exact hq
        · rw [e29]; show (if q = 4 + 2 * (h / 3) ∧ s = 6 then _ else σ22.1 q s) = _
          rw [if_neg (by omega)]; exact o22 q s g1 g2
        · rw [e29]; exact s22
        · rw [e29]; show (if 4 + 2 * j = 4 + 2 * (h / 3) ∧ 6 = 6 then _ else σ22.1 (4 + 2 * j) 6) = _
          unfold now2
          by_cases e : h / 3 = j
          · rw [if_pos (by omega), if_pos e, e]
          · rw [if_neg (by omega), if_neg e]; exact v6 j hj
        · rw [e29]; simp [sI]; exact t5
      · have hq := hQ σ22 (hS7.now hc o22 s22 (fun j hj => ?_) t5)
        · rw [if_pos z] at hq; exact hq
        · rw [v6 j hj]; unfold now2; rw [if_neg (by omega)]
    | succ d ih =>
      intro m σ2 hm b1 b2 b3
      have hm1 : m < c.1 := by omega
      have ro2 : RO c σ2 := ro.same (b2 10 5 (by omega)) b1
      unfold wp_X4_run_L39
      rw [b2 0 4 (by omega), hS7.1.1, nle (by omega) (by omega), i2, i1, neq (by omega) (by omega), ncl (by omega), b3 m hm1, if_neg (Nat.lt_irrefl m), b2 0 5 (by omega), hS7.2.2.2.1, nI_1 m]
      have nx : ∀ σ13, σ13 = sI σ2 (4 + 2 * m) 6 (nI (now1 c now a t m)) → wp_X4_run_L39 (nI a) (nI h) (fun σ21 => (∀ σ22, σ22 = sI σ21 0 5 ((σ21.1 0 5) + 1) → ((¬ nI h = 9 → (vp_in (nI (h / 3)) 3 ∧ (wp_X1_answer (nI (h / 3)) (σ22.1 (4 + 2 * (h / 3)) 6) (nI (h % 3)) σ22 (fun r26 σ25 => (wp_X1_left (nI (h / 3)) (σ25.1 (4 + 2 * (h / 3)) 6) (nI (h % 3)) σ25 (fun r28 σ27 => (∀ σ29, σ29 = sI σ27 (4 + 2 * (h / 3)) 6 r28 → Q r26 σ29))))))) ∧ (nI h = 9 → Q 0 σ22)))) Q (d + 1) (nI (m + 1)) σ13 := by
        intro σ13 e13
        refine ih (m + 1) σ13 (by omega) (by rw [e13]; exact b1) (fun q s g => ?_) (fun j hj => ?_)
        · rw [e13]; show (if q = 4 + 2 * m ∧ s = 6 then _ else σ2.1 q s) = _
          rw [if_neg (by omega)]; exact b2 q s g
        · rw [e13]; show (if 4 + 2 * j = 4 + 2 * m ∧ 6 = 6 then _ else σ2.1 (4 + 2 * j) 6) = _
          by_cases e : j = m
          · subst e; rw [if_pos ⟨rfl, rfl⟩, if_pos (by omega)]
          · rw [if_neg (by omega), b3 j hj]
            by_cases y : j < m
            · rw [if_pos y, if_pos (by omega)]
            · rw [if_neg y, if_neg (by omega)]
      have hnm := hn m hm1
      refine ⟨fun z => absurd z (by omega), fun _ => ⟨fun z => ⟨nvi (by omega) (by omega), s_X1_met (a := 3) hc ro2 hm1 hnm (by omega) (by omega) (fun σ13 e13 => nx σ13 ?_)⟩, fun z => ⟨nvi (by omega) (by omega), s_X1_met hc ro2 hm1 hnm (by omega) (by omega) (fun σ13 e13 => nx σ13 ?_)⟩⟩⟩
      · rw [e13]; unfold now1; rw [if_neg z]
      · rw [e13]; unfold now1; rw [if_pos z]
  exact key c.1 0 σ7 (by omega) rfl (fun _ _ _ => rfl) (fun j hj => by rw [if_neg (Nat.not_lt_zero j)]; exact hS7.2.1 j hj)
theorem m_run {c : Cf} {now : Nat → Nat} {pr : Nat → Nat → Int32} {q t a h : Nat} {τ : ST} {Q : Int32 → ST → Prop} (hc : Ck c) (hn : ∀ k, k < c.1 → now k < 4) (ht : t < 1000) (hS : MS c now pr q t τ) (ha : isA c a) (hh : isA c h) (hQ : ∀ τ', MS c (now2 c now a h t) pr q (t + 1) τ' → Q (nI (if h = 9 then 0 else answ c (h / 3) (now1 c now a t (h / 3)) (h % 3))) τ') : wp_X5_run (nI a) (nI h) τ Q := by
  have c3 := hc.1
  unfold wp_X5_run
  refine s_X5_isActX hc hS.1 (fun _ _ _ => ⟨fun z => absurd z (by decide), fun _ => ?_⟩) (fun hno => absurd rfl (hno a ha))
  refine s_X5_isActX hc hS.1 (fun _ _ _ => ⟨fun _ => ⟨c.1 + 1, ?_⟩, fun z => absurd z (by decide)⟩) (fun hno => absurd rfl (hno h hh))
  have hp4 : pkN now c.1 < 64 := by
    have e := pkN_lt hn c.1 (Nat.le_refl _)
    have e2 : (4 : Nat) ^ c.1 ≤ 4 ^ 3 := Nat.pow_le_pow_right (by decide) c3
    omega
  have hpr : ∀ j, j < c.1 → prt (pkN now c.1) j = now j := fun j hj => pkN_prt hn c.1 (Nat.le_refl _) hj
  have hs64 := sentA_lt hc (t := t) hp4 ha
  have hh64 := heardA_lt hc hs64 hh
  have hsp : ∀ j, j < c.1 → prt (sentA c (pkN now c.1) a t) j = now1 c now a t j := fun j hj => prt_sent hc hp4 ha hj hpr
  have key : ∀ (d m : Nat), m + d = c.1 → wp_X5_run_L23 (nI a) (nI h) (fun y3_8 σ9 => (wp_X5_sent y3_8 (nI a) (σ9.1 0 10) σ9 (fun r11 σ10 => (wp_X5_told r11 (nI h) σ10 (fun r13 σ12 => (wp_X5_heard r11 (nI h) σ12 (fun r15 σ14 => (∃ m82, wp_X5_run_L82 r15 r13 (fun σ21 => (∀ σ22, σ22 = sI σ21 0 10 ((σ21.1 0 10) + 1) → Q r13 σ22)) Q m82 0 σ14)))))))) Q (d + 1) (nI (pkN now m)) (nI m) τ := by
    intro d
    induction d with
    | zero =>
      intro m hm
      have : m = c.1 := by omega
      subst this
      unfold wp_X5_run_L23
      rw [hS.1.1]
      refine ⟨fun _ => ?_, fun z => absurd (Int32.le_refl _) z⟩
      rw [hS.2.2.2.1]
      refine s_X5_sent hc hS.1 hp4 ha (by omega) (s_X5_told hc hS.1 hs64 hh (s_X5_heard hc hS.1 hs64 hh ⟨c.1 + 1, ?_⟩))
      have key2 : ∀ (d m : Nat) (τ2 : ST), m + d = c.1 → τ2.1 = τ.1 → τ2.2.2.2 = τ.2.2.2 → (∀ p, p ≠ 7 → τ2.2.2.1 p = τ.2.2.1 p) → (∀ j, j < m → τ2.2.2.1 7 j = nI (now2 c now a h t j)) → wp_X5_run_L82 (nI (heardA c (sentA c (pkN now c.1) a t) h)) (nI (toldA c (sentA c (pkN now c.1) a t) h)) (fun σ21 => (∀ σ22, σ22 = sI σ21 0 10 ((σ21.1 0 10) + 1) → Q (nI (toldA c (sentA c (pkN now c.1) a t) h)) σ22)) Q (d + 1) (nI m) τ2 := by
        intro d
        induction d with
        | zero =>
          intro m τ2 hm b1 b2 b3 b4
          have : m = c.1 := by omega
          subst this
          unfold wp_X5_run_L82
          rw [b1, hS.1.1]
          refine ⟨fun _ σ22 e22 => ?_, fun z => absurd (Int32.le_refl _) z⟩
          have hq := hQ σ22 (hS.now (fun p s g => ?_) ?_ (fun p hp => ?_) (fun j hj => ?_) ?_)
          · unfold toldA
            by_cases z : h = 9
            · rw [if_pos z] at hq; rw [if_pos z]; exact hq
            · obtain ⟨y1, y2, y3, -⟩ := act3 hc hh z
              rw [if_neg z] at hq; rw [if_neg z, hsp _ y1]; exact hq
          · rw [e22]; show (if p = 0 ∧ s = 10 then _ else τ2.1 p s) = _
            rw [if_neg g, b1]
          · rw [e22]; exact b2
          · rw [e22]; exact b3 p hp
          · rw [e22]; exact b4 j hj
          · rw [e22]; simp [sI]
            rw [hS.2.2.2.1, nI_1]
        | succ d ih =>
          intro m τ2 hm b1 b2 b3 b4
          unfold wp_X5_run_L82
          rw [b1, hS.1.1, nle (by omega) (by omega), ncl (by omega), nI_1]
          refine ⟨fun z => absurd z (by omega), fun _ => s_X5_part hh64 (by omega) ⟨nvi (by omega) (by omega), fun σ19 e19 => ?_⟩⟩
          refine ih (m + 1) σ19 (by omega) (by rw [e19]; exact b1) (by rw [e19]; exact b2) (fun p hp => by rw [e19, rP _ _ _ _ hp]; exact b3 p hp) (fun j hj => ?_)
          by_cases e : j = m
          · subst e
            rw [e19, rS]
            unfold heardA now2
            by_cases z : h = 9
            · rw [if_pos z, if_neg (by omega), hsp j (by omega)]
            · obtain ⟨y1, y2, y3, -⟩ := act3 hc hh z
              rw [if_neg z, prt_wth _ y2 j (by omega) _ (hearS_lt hc y1 (prt_lt _ _) (by omega)) _ hs64]
              by_cases y : j = h / 3
              · subst y; rw [if_pos rfl, if_pos rfl, hsp _ y1]
              · rw [if_neg y, if_neg (show ¬ h / 3 = j from fun w => y w.symm), hsp j (by omega)]
          · rw [e19, rI _ _ _ _ _ e]; exact b4 j (by omega)
      exact key2 c.1 0 τ (by omega) rfl rfl (fun _ _ => rfl) (fun j hj => absurd hj (Nat.not_lt_zero j))
    | succ d ih =>
      intro m hm
      have hx := pkN_lt hn m (by omega)
      have hp : (4 : Nat) ^ m ≤ 4 ^ 2 := Nat.pow_le_pow_right (by decide) (by omega)
      unfold wp_X5_run_L23
      rw [hS.1.1, nle (by omega) (by omega), ncl (by omega), hS.2.1 m (by omega), orK m (by omega) _ (by omega) _ (hn m (by omega)) hx, nI_1]
      exact ⟨fun z => absurd z (by omega), fun _ => ⟨nvi (by omega) (by omega), fun w e => by rw [e]; exact ih (m + 1) (by omega)⟩⟩
  exact key c.1 0 (by omega)
theorem c_run_no {c : Cf} {x y : Int32} {σ : ST} {Q : Int32 → ST → Prop} (hc : Ck c) (hR : RC c σ) (h : (∀ a, isA c a → x ≠ nI a) ∨ (∀ a, isA c a → y ≠ nI a)) (hQ : Q (-1) σ) : wp_X4_run x y σ Q := by
  unfold wp_X4_run
  refine s_X4_isAct hc hR (fun a a1 a2 => ⟨fun z => absurd z (by decide), fun _ => s_X4_isAct hc hR (fun b b1 b2 => ?_) (fun _ => ⟨fun z => absurd rfl z, fun _ => hQ⟩)⟩) (fun _ => ⟨fun _ => hQ, fun z => absurd rfl z⟩)
  rcases h with g | g
  · exact absurd a2 (g a a1)
  · exact absurd b2 (g b b1)
theorem m_run_no {c : Cf} {x y : Int32} {τ : ST} {Q : Int32 → ST → Prop} (hc : Ck c) (hR : RM c τ) (h : (∀ a, isA c a → x ≠ nI a) ∨ (∀ a, isA c a → y ≠ nI a)) (hQ : Q (-1) τ) : wp_X5_run x y τ Q := by
  unfold wp_X5_run
  refine s_X5_isActX hc hR (fun a a1 a2 => ⟨fun z => absurd z (by decide), fun _ => s_X5_isActX hc hR (fun b b1 b2 => ?_) (fun _ => ⟨fun z => absurd rfl z, fun _ => hQ⟩)⟩) (fun _ => ⟨fun _ => hQ, fun z => absurd rfl z⟩)
  rcases h with g | g
  · exact absurd a2 (g a a1)
  · exact absurd b2 (g b b1)
theorem r_run {B : Nat} {x y : Int32} {σ τ : ST} {P : Int32 → Int32 → ST → ST → Prop} (hB : B < 1000) (h : Rel B σ τ) (k : ∀ r σ' τ', Rel (B + 1) σ' τ' → P r r σ' τ') : wp_X4_run x y σ (fun r σ' => wp_X5_run x y τ (fun r' τ' => P r r' σ' τ')) := by
  have hu := h.up
  obtain ⟨c, now, pr, ch, q, t, h1, h2, h3, h4, h5, h6, h7⟩ := h
  by_cases g : (∀ a, isA c a → x ≠ nI a) ∨ (∀ a, isA c a → y ≠ nI a)
  · exact c_run_no h1 h6.1 g (m_run_no h1 h7.1 g (k _ _ _ hu))
  · obtain ⟨a, a1, a2⟩ : ∃ a, isA c a ∧ x = nI a := Classical.byContradiction (fun n => g (Or.inl (fun a b e => n ⟨a, b, e⟩)))
    obtain ⟨b, b1, b2⟩ : ∃ a, isA c a ∧ y = nI a := Classical.byContradiction (fun n => g (Or.inr (fun a b e => n ⟨a, b, e⟩)))
    subst a2 b2
    refine c_run h1 h2 (by omega) h6 a1 b1 (fun σ' g1 => m_run h1 h2 (by omega) h7 a1 b1 (fun τ' g2 => k _ _ _ ⟨c, now2 c now a b t, pr, ch, q, t + 1, h1, fun j hj => now2_lt h1 hj (h2 j hj), by omega, by omega, by omega, g1, g2⟩))
