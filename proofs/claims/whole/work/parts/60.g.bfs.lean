/-! ===== PURE: the queue ===== -/
section BF
variable (T : Nat → Nat → Bool) (S : Nat → Nat → Nat) (E : Nat → Nat → Nat) (s : Nat)
def BI (m : Nat) (Q dd par ed : Nat → Nat) (h e : Nat) : Prop :=
  (1 ≤ m ∧ Q 0 = s ∧ (∀ i, i < m → Q i < 64) ∧ (∀ i j, i < m → j < m → Q i = Q j → i = j)) ∧
  (∀ j, j < m → dd (Q j) ≤ j) ∧
  ((∀ i j, i ≤ j → j < m → dd (Q i) ≤ dd (Q j)) ∧ (h < m → ∀ j, j < m → dd (Q j) ≤ dd (Q h) + 1)) ∧
  (∀ j, j < m → dst T S s ≤ dd (Q j) + dst T S (Q j)) ∧
  (∀ i e', i < m → e' < 64 → (i < h ∨ (i = h ∧ e' < e)) → T (Q i) e' = false ∧ ∃ j, j < m ∧ Q j = S (Q i) e') ∧
  (dst T S s ≤ 64 → ∀ d j, d < dst T S s → j < m → dd (Q j) = d → dst T S (Q j) = dst T S s - d → ∃ i, i ≤ j ∧ Q i = gp T S s d) ∧
  (dst T S s ≤ 64 → ∀ d i, d < dst T S s → i < m → Q i = gp T S s d → dd (Q i) = d ∧ (1 ≤ d → par (Q i) = gp T S s (d - 1) ∧ ed (Q i) = E (gp T S s (d - 1)) (ge T S (gp T S s (d - 1)))))
variable (hS : ∀ v, v < 64 → ∀ e, e < 64 → S v e < 64) (hs : s < 64)
theorem gp_inj (hS : ∀ v, v < 64 → ∀ e, e < 64 → S v e < 64) (hs : s < 64) (hL : dst T S s ≤ 64) {i j : Nat} (hi : i < dst T S s) (hj : j < dst T S s) (h : gp T S s i = gp T S s j) : i = j := by
  have h1 := (gp_spec T S hS hs hL i hi).2
  have h2 := (gp_spec T S hS hs hL j hj).2
  rw [h] at h1
  omega
theorem BI_start (hS : ∀ v, v < 64 → ∀ e, e < 64 → S v e < 64) (hs : s < 64) (dd par ed : Nat → Nat) (h0 : dd s = 0) : BI T S E s 1 (fun _ => s) dd par ed 0 0 := by
  refine ⟨⟨by omega, rfl, fun _ _ => hs, fun i j hi hj _ => by omega⟩, fun j hj => by dsimp only; omega, ⟨fun _ _ _ _ => Nat.le_refl _, fun _ _ _ => by dsimp only; omega⟩, fun j hj => by dsimp only; omega, fun i e' hi he hor => by omega, fun _ d j hd hj h1 h2 => ?_, fun hL d i hd hi h1 => ?_⟩
  · dsimp only at h1
    have : d = 0 := by omega
    subst this
    exact ⟨0, by omega, rfl⟩
  · have : d = 0 := gp_inj T S s hS hs hL hd (by have := dst_pos T S s; omega) h1.symm
    subst this
    exact ⟨h0, fun q => absurd q (by omega)⟩
/-- the path's nodes are in the queue as far as the head's depth -/
theorem BI_path (hS : ∀ v, v < 64 → ∀ e, e < 64 → S v e < 64) (hs : s < 64) {m : Nat} {Q dd par ed : Nat → Nat} {h e : Nat} (B : BI T S E s m Q dd par ed h e) (hL : dst T S s ≤ 64) (hm : h < m) : ∀ t, t < dst T S s → t ≤ dd (Q h) → ∃ i, i < m ∧ Q i = gp T S s t := by
  obtain ⟨⟨b1, b2, b3, b4⟩, -, ⟨b6, -⟩, -, b8, -, b10⟩ := B
  intro t
  induction t with
  | zero => intro _ _; exact ⟨0, by omega, b2⟩
  | succ t ih =>
    intro ht hd
    obtain ⟨i, hi, e1⟩ := ih (by omega) (by omega)
    have e2 := (b10 hL t i (by omega) hi e1).1
    have hih : i < h := by
      rcases Nat.lt_or_ge i h with q | q
      · exact q
      · have := b6 h i q hi; omega
    obtain ⟨g1, g2, g3⟩ := gp_edge T S hS hs hL (show t < dst T S s by omega)
    obtain ⟨-, j, hj, e3⟩ := b8 i (ge T S (gp T S s t)) hi g1 (Or.inl hih)
    exact ⟨j, hj, by rw [e3, e1]; rfl⟩
theorem BI_old (hS : ∀ v, v < 64 → ∀ e, e < 64 → S v e < 64) {m : Nat} {Q dd par ed : Nat → Nat} {h e : Nat} (B : BI T S E s m Q dd par ed h e) (hT : T (Q h) e = false) (hin : ∃ j, j < m ∧ Q j = S (Q h) e) : BI T S E s m Q dd par ed h (e + 1) := by
  obtain ⟨b1, b5, b6, b7, b8, b9, b10⟩ := B
  refine ⟨b1, b5, b6, b7, fun i e' hi he hor => ?_, b9, b10⟩
  by_cases q : i = h ∧ e' = e
  · obtain ⟨rfl, rfl⟩ := q
    exact ⟨hT, hin⟩
  · exact b8 i e' hi he (by omega)
theorem BI_head {m : Nat} {Q dd par ed : Nat → Nat} {h : Nat} (B : BI T S E s m Q dd par ed h 64) (hm : h < m) : BI T S E s m Q dd par ed (h + 1) 0 := by
  obtain ⟨b1, b5, ⟨b6, b6'⟩, b7, b8, b9, b10⟩ := B
  refine ⟨b1, b5, ⟨b6, fun hm2 j hj => ?_⟩, b7, fun i e' hi he hor => b8 i e' hi he (by omega), b9, b10⟩
  have h1 := b6' hm j hj
  have h2 := b6 h (h + 1) (by omega) hm2
  omega
theorem BI_new (hS : ∀ v, v < 64 → ∀ e, e < 64 → S v e < 64) (hs : s < 64) {m : Nat} {Q dd par ed : Nat → Nat} {h e : Nat} (B : BI T S E s m Q dd par ed h e) (hm : h < m) (he : e < 64) (hT : T (Q h) e = false) (hnew : ∀ j, j < m → Q j ≠ S (Q h) e) :
    BI T S E s (m + 1) (fun j => if j = m then S (Q h) e else Q j) (fun v => if v = S (Q h) e then dd (Q h) + 1 else dd v) (fun v => if v = S (Q h) e then Q h else par v) (fun v => if v = S (Q h) e then E (Q h) e else ed v) h (e + 1) := by
  have B0 := B
  obtain ⟨⟨b1, b2, b3, b4⟩, b5, ⟨b6, b6'⟩, b7, b8, b9, b10⟩ := B
  have hx := b3 h hm
  have hy := hS _ hx e he
  obtain ⟨y, ey⟩ : ∃ y, y = S (Q h) e := ⟨_, rfl⟩
  rw [← ey] at hnew hy ⊢
  have hdS := dst_S T S hS hx he
  rw [← ey] at hdS
  have key : dst T S s ≤ 64 → dd (Q h) + 1 < dst T S s → dst T S y = dst T S s - (dd (Q h) + 1) → (∃ j, j < m ∧ Q j = gp T S s (dd (Q h) + 1)) ∨ (Q h = gp T S s (dd (Q h)) ∧ e = ge T S (gp T S s (dd (Q h)))) := by
    intro hL hd h2
    have h3 := b7 h hm
    have h4 : dst T S (Q h) = dst T S s - dd (Q h) := by omega
    obtain ⟨i, hi, e1⟩ := b9 hL (dd (Q h)) h (by omega) hm rfl h4
    obtain ⟨g1, g2, g3⟩ := gp_edge T S hS hs hL (show dd (Q h) < dst T S s by omega)
    obtain ⟨p1, p2⟩ := gp_spec T S hS hs hL (dd (Q h)) (by omega)
    obtain ⟨q1, q2, q3⟩ := ge_spec T S hS p1 (by omega)
    have next : gp T S s (dd (Q h) + 1) = S (gp T S s (dd (Q h))) (ge T S (gp T S s (dd (Q h)))) := rfl
    by_cases z : i = h
    · rw [z] at e1
      have haft : aft T S (gp T S s (dd (Q h))) e = dst T S (gp T S s (dd (Q h))) := by
        rw [p2, ← e1]
        unfold aft
        rw [hT, if_neg (by decide), ← ey]
        omega
      rcases Nat.lt_trichotomy e (ge T S (gp T S s (dd (Q h)))) with w | w | w
      · exact absurd haft (q3 e w)
      · exact Or.inr ⟨e1, w⟩
      · obtain ⟨-, j, hj, e3⟩ := b8 h (ge T S (gp T S s (dd (Q h)))) hm g1 (Or.inr ⟨rfl, w⟩)
        exact Or.inl ⟨j, hj, by rw [e3, next, ← e1]⟩
    · obtain ⟨-, j, hj, e3⟩ := b8 i (ge T S (gp T S s (dd (Q h)))) (by omega) g1 (Or.inl (by omega))
      exact Or.inl ⟨j, hj, by rw [e3, next, e1]⟩
  have hQ : ∀ j, j < m → (if j = m then y else Q j) = Q j := fun j hj => if_neg (by omega)
  have hQm : (if m = m then y else Q m) = y := if_pos rfl
  have hne : ∀ j, j < m → ¬ Q j = y := fun j hj => hnew j hj
  have hlt : ∀ j, j < m + 1 → j < m ∨ j = m := fun j hj => by omega
  refine ⟨⟨by omega, ?_, fun i hi => ?_, fun i j hi hj hij => ?_⟩, fun j hj => ?_, ⟨fun i j hij hj => ?_, fun _ j hj => ?_⟩, fun j hj => ?_, fun i e' hi he' hor => ?_, fun hL d j hd hj h1 h2 => ?_, fun hL d i hd hi h1 => ?_⟩
  · dsimp only; rw [hQ 0 (by omega)]; exact b2
  · dsimp only
    rcases hlt i hi with q | rfl
    · rw [hQ i q]; exact b3 i q
    · rw [hQm]; exact hy
  · dsimp only at hij
    rcases hlt i hi with q | rfl <;> rcases hlt j hj with w | rfl
    · rw [hQ i q, hQ j w] at hij; exact b4 i j q w hij
    · rw [hQ i q, hQm] at hij; exact absurd hij (hne i q)
    · rw [hQ j w, hQm] at hij; exact absurd hij.symm (hne j w)
    · rfl
  · dsimp only
    rcases hlt j hj with q | rfl
    · rw [hQ j q, if_neg (hne j q)]; exact b5 j q
    · rw [hQm, if_pos rfl]; have := b5 h hm; omega
  · dsimp only
    rcases hlt j hj with q | rfl
    · rw [hQ i (by omega), hQ j q, if_neg (hne i (by omega)), if_neg (hne j q)]; exact b6 i j hij q
    · rcases hlt i (by omega) with w | rfl
      · rw [hQ i w, hQm, if_neg (hne i w), if_pos rfl]; exact b6' hm i w
      · exact Nat.le_refl _
  · dsimp only
    rw [hQ h hm, if_neg (hne h hm)]
    rcases hlt j hj with q | rfl
    · rw [hQ j q, if_neg (hne j q)]; exact b6' hm j q
    · rw [hQm, if_pos rfl]; exact Nat.le_refl _
  · dsimp only
    rcases hlt j hj with q | rfl
    · rw [hQ j q, if_neg (hne j q)]; exact b7 j q
    · rw [hQm, if_pos rfl]; have := b7 h hm; omega
  · dsimp only
    have hi' : i < m := by omega
    rw [hQ i hi']
    by_cases z : i = h ∧ e' = e
    · obtain ⟨rfl, rfl⟩ := z
      exact ⟨hT, m, by omega, by rw [hQm]; exact ey⟩
    · obtain ⟨g1, j, hj, g2⟩ := b8 i e' hi' he' (by omega)
      exact ⟨g1, j, by omega, by rw [hQ j hj]; exact g2⟩
  · dsimp only at h1 h2 ⊢
    rcases hlt j hj with q | rfl
    · rw [hQ j q, if_neg (hne j q)] at h1
      rw [hQ j q] at h2
      obtain ⟨i, g1, g2⟩ := b9 hL d j hd q h1 h2
      exact ⟨i, g1, by rw [hQ i (by omega)]; exact g2⟩
    · rw [hQm, if_pos rfl] at h1
      rw [hQm] at h2
      subst h1
      rcases key hL hd h2 with ⟨i, g1, g2⟩ | ⟨g1, g2⟩
      · exact ⟨i, by omega, by rw [hQ i g1]; exact g2⟩
      · refine ⟨j, Nat.le_refl _, ?_⟩
        rw [hQm, ey]
        show S (Q h) e = S (gp T S s (dd (Q h))) (ge T S (gp T S s (dd (Q h))))
        rw [← g2, ← g1]
  · dsimp only at h1 ⊢
    rcases hlt i hi with q | rfl
    · rw [hQ i q] at h1 ⊢
      rw [if_neg (hne i q), if_neg (hne i q), if_neg (hne i q)]
      exact b10 hL d i hd q h1
    · rw [hQm] at h1 ⊢
      rw [if_pos rfl, if_pos rfl, if_pos rfl]
      have hdy : dst T S y = dst T S s - d := by rw [h1]; exact (gp_spec T S hS hs hL d hd).2
      have h7 := b7 h hm
      have hge : ¬ d ≤ dd (Q h) := fun z => by
        obtain ⟨j, g1, g2⟩ := BI_path T S E s hS hs B0 hL hm d hd z
        exact hne j g1 (g2.trans h1.symm)
      have hd' : d = dd (Q h) + 1 := by omega
      subst hd'
      rcases key hL hd hdy with ⟨j, g1, g2⟩ | ⟨g1, g2⟩
      · exact absurd (g2.trans h1.symm) (hne j g1)
      · refine ⟨rfl, fun _ => ⟨g1, ?_⟩⟩
        show E (Q h) e = E (gp T S s (dd (Q h))) (ge T S (gp T S s (dd (Q h))))
        rw [← g2, ← g1]
theorem BI_found (hS : ∀ v, v < 64 → ∀ e, e < 64 → S v e < 64) (hs : s < 64) {m : Nat} {Q dd par ed : Nat → Nat} {h e : Nat} (B : BI T S E s m Q dd par ed h e) (hm : h < m) (hm64 : m ≤ 64) (he : e < 64) (hT : T (Q h) e = true) : dst T S s ≤ 64 ∧ dd (Q h) + 1 = dst T S s ∧ Q h = gp T S s (dst T S s - 1) ∧ e = ge T S (Q h) := by
  have B0 := B
  obtain ⟨⟨b1, b2, b3, b4⟩, b5, ⟨b6, b6'⟩, b7, b8, b9, b10⟩ := B
  have hx := b3 h hm
  have h1 := dst_T T S hS hx he hT
  have h7 := b7 h hm
  have h5 := b5 h hm
  have hL : dst T S s ≤ 64 := by
    rcases dst_cases T S s with ⟨q, -⟩ | ⟨q, -⟩ <;> omega
  have hpos := dst_pos T S s
  obtain ⟨g1, g2, g3⟩ := gp_edge T S hS hs hL (show dst T S s - 1 < dst T S s by omega)
  have g3 := g3 (by omega)
  have hno : ∀ i, i < m → Q i = gp T S s (dst T S s - 1) → i < h → False := fun i hi e1 hih => by
    have := (b8 i (ge T S (gp T S s (dst T S s - 1))) hi g1 (Or.inl hih)).1
    rw [e1, g3] at this
    cases this
  have hd : dd (Q h) + 1 = dst T S s := by
    rcases Nat.lt_or_ge (dd (Q h) + 1) (dst T S s + 1) with z | z
    · omega
    · exfalso
      obtain ⟨i, hi, e1⟩ := BI_path T S E s hS hs B0 hL hm (dst T S s - 1) (by omega) (by omega)
      have e2 := (b10 hL _ i (by omega) hi e1).1
      refine hno i hi e1 ?_
      rcases Nat.lt_or_ge i h with w | w
      · exact w
      · have := b6 h i w hi; omega
  obtain ⟨i, hi, e1⟩ := b9 hL (dst T S s - 1) h (by omega) hm (by omega) (by omega)
  have hih : i = h := by
    rcases Nat.lt_or_ge i h with w | w
    · exact absurd w (fun w => hno i (by omega) e1 w)
    · omega
  subst hih
  refine ⟨hL, hd, e1, ?_⟩
  obtain ⟨q1, q2, q3⟩ := ge_spec T S hS hx (by omega)
  have haft : aft T S (Q i) e = dst T S (Q i) := by
    unfold aft
    rw [hT, if_pos rfl, h1]
  rcases Nat.lt_trichotomy e (ge T S (Q i)) with w | w | w
  · exact absurd haft (q3 e w)
  · exact w
  · exfalso
    have := (b8 i (ge T S (Q i)) hm q1 (Or.inr ⟨rfl, w⟩)).1
    rw [e1, g3] at this
    cases this
theorem BI_end (hS : ∀ v, v < 64 → ∀ e, e < 64 → S v e < 64) (hs : s < 64) {m : Nat} {Q dd par ed : Nat → Nat} (B : BI T S E s m Q dd par ed m 0) : dst T S s = 1000 := by
  obtain ⟨⟨b1, b2, b3, b4⟩, b5, ⟨b6, b6'⟩, b7, b8, b9, b10⟩ := B
  rcases dst_cases T S s with ⟨hL, -⟩ | ⟨q, -⟩
  · exfalso
    have hpos := dst_pos T S s
    have hall : ∀ t, t < dst T S s → ∃ i, i < m ∧ Q i = gp T S s t := by
      intro t
      induction t with
      | zero => intro _; exact ⟨0, by omega, b2⟩
      | succ t ih =>
        intro ht
        obtain ⟨i, hi, e1⟩ := ih (by omega)
        obtain ⟨g1, g2, g3⟩ := gp_edge T S hS hs hL (show t < dst T S s by omega)
        obtain ⟨-, j, hj, e3⟩ := b8 i (ge T S (gp T S s t)) hi g1 (Or.inl hi)
        exact ⟨j, hj, by rw [e3, e1]; rfl⟩
    obtain ⟨i, hi, e1⟩ := hall (dst T S s - 1) (by omega)
    obtain ⟨g1, g2, g3⟩ := gp_edge T S hS hs hL (show dst T S s - 1 < dst T S s by omega)
    have := (b8 i (ge T S (gp T S s (dst T S s - 1))) hi g1 (Or.inl hi)).1
    rw [e1, g3 (by omega)] at this
    cases this
  · exact q
/-- a node that isn't queued leaves room in the queue -/
theorem BI_room {m : Nat} {Q dd par ed : Nat → Nat} {h e : Nat} (B : BI T S E s m Q dd par ed h e) : m ≤ 64 := pig 64 m Q B.1.2.2.1 B.1.2.2.2
theorem BI_room1 {m : Nat} {Q dd par ed : Nat → Nat} {h e y : Nat} (B : BI T S E s m Q dd par ed h e) (hy : y < 64) (hnew : ∀ j, j < m → Q j ≠ y) : m < 64 := by
  have := pig 64 (m + 1) (fun j => if j = m then y else Q j) (fun i hi => by
    by_cases q : i = m
    · rw [if_pos q]; exact hy
    · rw [if_neg q]; exact B.1.2.2.1 i (by omega)) (fun i j hi hj hij => by
    by_cases q : i = m <;> by_cases w : j = m
    · omega
    · rw [if_pos q, if_neg w] at hij; exact absurd hij.symm (hnew j (by omega))
    · rw [if_neg q, if_pos w] at hij; exact absurd hij (hnew i (by omega))
    · rw [if_neg q, if_neg w] at hij; exact B.1.2.2.2 i j (by omega) (by omega) hij)
  omega
end BF
