/-! ===== PURE: walls, prices ===== -/
def rowC (c : Cf) (k0 : Nat) (f : Nat → Nat) : Cf := (c.1, fun k j => if k = k0 then f j else c.2.1 k j, c.2.2.1, c.2.2.2)
def okB (w : Nat) (x : Int32) (b : Nat) : Prop := (w = 1 → x = nI b ∧ 1 ≤ b ∧ b ≤ 4) ∧ (w = 3 → x = nI b ∧ b ≤ 3)
theorem s_X4_canHave {x0 x1 : Int32} {σ : ST} {Q : Int32 → ST → Prop} (h1 : ∀ w b, w ≤ 3 → x0 = nI w → okB w x1 b → Q 1 σ) (h0 : (∀ w b, w ≤ 3 → x0 = nI w → ¬ okB w x1 b) → Q 0 σ) : wp_X4_canHave x0 x1 σ Q := by
  unfold wp_X4_canHave
  refine ⟨fun z => h1 0 0 (by omega) z ⟨fun y => absurd y (by decide), fun y => absurd y (by decide)⟩, fun z => ⟨fun z1 => ?_, fun z1 => ⟨fun z2 => h1 2 0 (by omega) z2 ⟨fun y => absurd y (by decide), fun y => absurd y (by decide)⟩, fun z2 => ⟨fun z3 => ?_, fun z3 => h0 (fun w b hw e => ?_)⟩⟩⟩⟩
  · have only : ∀ w b, w ≤ 3 → x0 = nI w → okB w x1 b → x1 = nI b ∧ 1 ≤ b ∧ b ≤ 4 := fun w b hw e g => by
      rw [z1, l1, neq (by omega) (by omega)] at e
      exact g.1 e.symm
    rcases pk_ix x1 (n := 5) (by omega) with y | y | ⟨b, b1, b2⟩
    · have hn : ∀ w b, w ≤ 3 → x0 = nI w → ¬ okB w x1 b := fun w b hw e g => by
        obtain ⟨g1, g2, g3⟩ := only w b hw e g
        rw [g1, l0, nlt (by omega) (by omega)] at y; omega
      refine ⟨fun _ => h0 hn, fun _ => ⟨fun _ => h0 hn, fun q => ?_⟩⟩
      exfalso
      rename_i q1
      exact q1 (Int32.lt_of_lt_of_le y (by decide))
    · have hn : ∀ w b, w ≤ 3 → x0 = nI w → ¬ okB w x1 b := fun w b hw e g => by
        obtain ⟨g1, g2, g3⟩ := only w b hw e g
        rw [g1, nle (by omega) (by omega)] at y; omega
      refine ⟨fun _ => h0 hn, fun _ => ⟨fun _ => h0 hn, fun q => ?_⟩⟩
      exact absurd (Int32.lt_of_lt_of_le (by decide) y) q
    · subst b2
      rw [l1, nlt (by omega) (by omega), l4, nlt (by omega) (by omega)]
      have hn : (b < 1 ∨ 4 < b) → ∀ w b', w ≤ 3 → x0 = nI w → ¬ okB w (nI b) b' := fun hb w b' hw e g => by
        obtain ⟨g1, g2, g3⟩ := only w b' hw e g
        rw [neq (by omega) (by omega)] at g1; omega
      exact ⟨fun q => h0 (hn (Or.inl q)), fun q => ⟨fun q2 => h0 (hn (Or.inr q2)), fun q2 => h1 1 b (by omega) z1 ⟨fun _ => ⟨rfl, by omega, by omega⟩, fun y => absurd y (by decide)⟩⟩⟩
  · have only : ∀ w b, w ≤ 3 → x0 = nI w → okB w x1 b → x1 = nI b ∧ b ≤ 3 := fun w b hw e g => by
      rw [z3, l3, neq (by omega) (by omega)] at e
      exact g.2 e.symm
    rcases pk_ix x1 (n := 4) (by omega) with y | y | ⟨b, b1, b2⟩
    · refine ⟨fun _ => h0 (fun w b hw e g => ?_), fun q => absurd y q⟩
      obtain ⟨g1, g2⟩ := only w b hw e g
      rw [g1, l0, nlt (by omega) (by omega)] at y; omega
    · have hn : ∀ w b, w ≤ 3 → x0 = nI w → ¬ okB w x1 b := fun w b hw e g => by
        obtain ⟨g1, g2⟩ := only w b hw e g
        rw [g1, nle (by omega) (by omega)] at y; omega
      refine ⟨fun _ => h0 hn, fun _ => ⟨fun _ => h0 hn, fun q => ?_⟩⟩
      exact absurd (Int32.lt_of_lt_of_le (by decide) y) q
    · subst b2
      rw [l0, nlt (by omega) (by omega), l3, nlt (by omega) (by omega)]
      exact ⟨fun q => absurd q (Nat.not_lt_zero b), fun q => ⟨fun q2 => absurd q2 (by omega), fun q2 => h1 3 b (by omega) z3 ⟨fun y => absurd y (by decide), fun _ => ⟨rfl, by omega⟩⟩⟩⟩
  · rcases (by omega : w = 0 ∨ w = 1 ∨ w = 2 ∨ w = 3) with q | q | q | q <;> subst q
    · exact absurd e z
    · exact absurd e z1
    · exact absurd e z2
    · exact absurd e z3
theorem s_X5_isBy {w : Nat} {x : Int32} {τ : ST} {Q : Int32 → ST → Prop} (hw : w = 1 ∨ w = 3) (h1 : ∀ b, okB w x b → Q 1 τ) (h0 : (∀ b, ¬ okB w x b) → Q 0 τ) : wp_X5_isBy (nI w) x τ Q := by
  unfold wp_X5_isBy
  rw [l1, neq (by omega) (by omega)]
  refine ⟨fun z => s_X5_isIn (fun y => ⟨Or.inr rfl, ?_⟩) (fun y => ⟨Or.inl rfl, h0 (fun b g => ?_)⟩), fun z => s_X5_isIn (fun y => ⟨Or.inr rfl, ?_⟩) (fun y => ⟨Or.inl rfl, h0 (fun b g => ?_)⟩)⟩
  · obtain ⟨b, b1, b2⟩ := (le_nI (n := 3) (by omega)).mp y
    exact h1 b ⟨fun q => absurd q z, fun _ => ⟨b2, b1⟩⟩
  · obtain ⟨g1, g2⟩ := g.2 (by omega)
    exact y ((le_nI (n := 3) (by omega)).mpr ⟨b, g2, g1⟩)
  · have y1 : (0 : Int32) ≤ x := Int32.le_trans (by decide) y.1
    obtain ⟨b, b1, b2⟩ := (le_nI (n := 4) (by omega)).mp ⟨y1, y.2⟩
    have y2 := y.1
    rw [b2, nle (by omega) (by omega)] at y2
    exact h1 b ⟨fun _ => ⟨b2, y2, b1⟩, fun q => absurd q (by omega)⟩
  · obtain ⟨g1, g2, g3⟩ := g.1 z
    apply y
    rw [g1, nle (by omega) (by omega)]
    exact ⟨g2, (nle (b := 4) (by omega) (by omega)).mpr g3⟩
def fW (c : Cf) (k0 w b j : Nat) : Nat := if j = 2 then w else if j = 3 ∧ w = 1 then b else if j = 4 ∧ w = 3 then b else c.2.1 k0 j
def fS (c : Cf) (k0 w b j : Nat) : Nat := if j = 3 ∧ w = 1 then b else if j = 4 ∧ w = 3 then b else c.2.1 k0 j
theorem fW_ok {c : Cf} {k0 w b : Nat} {x : Int32} (hc : Ck c) (hk : k0 < c.1) (hw : w ≤ 3) (h : okB w x b) : Ck (rowC c k0 (fW c k0 w b)) := by
  refine ⟨hc.1, fun k hk2 => ?_⟩
  have := hc.2 k hk2
  by_cases z : k = k0
  · subst z
    simp only [rowC, if_true]
    have h1 := h.1
    have h2 := h.2
    refine ⟨this.1, this.2.1, hw, ?_, ?_, ?_⟩
    · show 1 ≤ (if 3 = 2 then w else if 3 = 3 ∧ w = 1 then b else if 3 = 4 ∧ w = 3 then b else c.2.1 k 3)
      rw [if_neg (by omega)]
      by_cases y : w = 1
      · rw [if_pos ⟨rfl, y⟩]; exact (h1 y).2.1
      · rw [if_neg (by omega), if_neg (by omega)]; exact this.2.2.2.1
    · show (if 3 = 2 then w else if 3 = 3 ∧ w = 1 then b else if 3 = 4 ∧ w = 3 then b else c.2.1 k 3) ≤ 4
      rw [if_neg (by omega)]
      by_cases y : w = 1
      · rw [if_pos ⟨rfl, y⟩]; exact (h1 y).2.2
      · rw [if_neg (by omega), if_neg (by omega)]; exact this.2.2.2.2.1
    · show (if 4 = 2 then w else if 4 = 3 ∧ w = 1 then b else if 4 = 4 ∧ w = 3 then b else c.2.1 k 4) ≤ 3
      rw [if_neg (by omega), if_neg (by omega)]
      by_cases y : w = 3
      · rw [if_pos ⟨rfl, y⟩]; exact (h2 y).2
      · rw [if_neg (by omega)]; exact this.2.2.2.2.2
  · simp only [rowC, if_neg z]; exact this
theorem fS_ok {c : Cf} {k0 w b : Nat} {x : Int32} (hc : Ck c) (hk : k0 < c.1) (h : okB w x b) : Ck (rowC c k0 (fS c k0 w b)) := by
  refine ⟨hc.1, fun k hk2 => ?_⟩
  have := hc.2 k hk2
  by_cases z : k = k0
  · subst z
    simp only [rowC, if_true]
    have h1 := h.1
    have h2 := h.2
    refine ⟨this.1, this.2.1, this.2.2.1, ?_, ?_, ?_⟩
    · show 1 ≤ (if 3 = 3 ∧ w = 1 then b else if 3 = 4 ∧ w = 3 then b else c.2.1 k 3)
      by_cases y : w = 1
      · rw [if_pos ⟨rfl, y⟩]; exact (h1 y).2.1
      · rw [if_neg (by omega), if_neg (by omega)]; exact this.2.2.2.1
    · show (if 3 = 3 ∧ w = 1 then b else if 3 = 4 ∧ w = 3 then b else c.2.1 k 3) ≤ 4
      by_cases y : w = 1
      · rw [if_pos ⟨rfl, y⟩]; exact (h1 y).2.2
      · rw [if_neg (by omega), if_neg (by omega)]; exact this.2.2.2.2.1
    · show (if 4 = 3 ∧ w = 1 then b else if 4 = 4 ∧ w = 3 then b else c.2.1 k 4) ≤ 3
      rw [if_neg (by omega)]
      by_cases y : w = 3
      · rw [if_pos ⟨rfl, y⟩]; exact (h2 y).2
      · rw [if_neg (by omega)]; exact this.2.2.2.2.2
  · simp only [rowC, if_neg z]; exact this
def UpdC (k0 : Nat) (f : Nat → Nat) (σ σ' : ST) : Prop := (∀ q s, (q ≠ 4 + 2 * k0 ∨ (s ≠ 3 ∧ s ≠ 4 ∧ s ≠ 5)) → (q ≠ 0 ∨ s ≠ 6) → σ'.1 q s = σ.1 q s) ∧ σ'.2 = σ.2 ∧ σ'.1 (4 + 2 * k0) 3 = nI (f 2) ∧ σ'.1 (4 + 2 * k0) 4 = nI (f 3) ∧ σ'.1 (4 + 2 * k0) 5 = nI (f 4) ∧ σ'.1 0 6 = σ.1 0 6 + 1
def UpdM (k0 : Nat) (f : Nat → Nat) (τ τ' : ST) : Prop := τ'.1 = τ.1 ∧ τ'.2.2.2 = τ.2.2.2 ∧ (∀ p, p ≠ 3 → p ≠ 4 → p ≠ 5 → τ'.2.2.1 p = τ.2.2.1 p) ∧ (∀ p j, j ≠ k0 → τ'.2.2.1 p j = τ.2.2.1 p j) ∧ τ'.2.2.1 3 k0 = nI (f 2) ∧ τ'.2.2.1 4 k0 = nI (f 3) ∧ τ'.2.2.1 5 k0 = nI (f 4)
theorem rel_row {B : Nat} {c : Cf} {now : Nat → Nat} {pr : Nat → Nat → Int32} {ch q t k0 : Nat} {f : Nat → Nat} {σ τ σ' τ' : ST} (hB : B < 1000) (h1 : Ck c) (hk0 : k0 < c.1) (hf : Ck (rowC c k0 f)) (f0 : f 0 = c.2.1 k0 0) (f1 : f 1 = c.2.1 k0 1) (h2 : ∀ k, k < c.1 → now k < 4) (h3 : ch ≤ B) (h4 : t ≤ B) (h5 : q ≤ 65 * B) (h6 : CS c now pr ch t σ) (h7 : MS c now pr q t τ) (a : UpdC k0 f σ σ') (b : UpdM k0 f τ τ') : Rel (B + 1) σ' τ' := by
  obtain ⟨a1, a2, a3, a4, a5, a6⟩ := a
  obtain ⟨b1, b2, b3, b4, b5, b6, b7⟩ := b
  have c3 := h1.1
  refine ⟨rowC c k0 f, now, pr, ch + 1, q, t, hf, h2, by omega, by omega, by omega, ⟨⟨?_, fun k hk => ?_⟩, fun k hk => ?_, fun k hk w hw => ?_, ?_, ?_, fun k hk => (h6.2.2.2.2.2.1 k hk).bump (by omega) ?_, fun n hn => (h6.2.2.2.2.2.2 n hn).bump (by omega) ?_⟩, ⟨⟨?_, fun k hk => ?_⟩, fun k hk => ?_, fun k hk w hw => ?_, ?_, ?_, ?_⟩⟩
  · rw [a1 0 4 (by omega) (by omega)]; exact h6.1.1
  · have g := h6.1.2 k hk
    by_cases z : k = k0
    · subst z
      rw [a1 _ 1 (by omega) (by omega), a1 _ 2 (by omega) (by omega), a2]
      simp only [rowC, if_true]
      rw [f0, f1]
      exact ⟨g.1, g.2.1, a3, a4, a5, g.2.2.2.2.2⟩
    · rw [a1 _ 1 (by omega) (by omega), a1 _ 2 (by omega) (by omega), a1 _ 3 (by omega) (by omega), a1 _ 4 (by omega) (by omega), a1 _ 5 (by omega) (by omega), a2]
      simp only [rowC, if_neg z]
      exact g
  · rw [a1 _ 6 (by omega) (by omega)]; exact h6.2.1 k hk
  · rw [a2]; exact h6.2.2.1 k hk w hw
  · rw [a1 0 5 (by omega) (by omega)]; exact h6.2.2.2.1
  · rw [a6, h6.2.2.2.2.1, nI_1]
  · funext s; exact a1 _ _ (by omega) (by omega)
  · funext s; exact a1 _ _ (by omega) (by omega)
  · rw [b1]; exact h7.1.1
  · have g := h7.1.2 k hk
    rw [b3 1 (by omega) (by omega) (by omega), b3 2 (by omega) (by omega) (by omega), b2]
    by_cases z : k = k0
    · subst z
      simp only [rowC, if_true]
      rw [f0, f1]
      exact ⟨g.1, g.2.1, b5, b6, b7, g.2.2.2.2.2⟩
    · rw [b4 _ _ z, b4 _ _ z, b4 _ _ z]
      simp only [rowC, if_neg z]
      exact g
  · rw [b3 7 (by omega) (by omega) (by omega)]; exact h7.2.1 k hk
  · rw [b3 6 (by omega) (by omega) (by omega)]; exact h7.2.2.1 k hk w hw
  · rw [b1]; exact h7.2.2.2.1
  · rw [b1]; exact h7.2.2.2.2.1
  · rw [b3 13 (by omega) (by omega) (by omega)]; exact h7.2.2.2.2.2
theorem s_X2_keep {c : Cf} {k0 w b : Nat} {x : Int32} {σ σ0 : ST} {Q : ST → Prop} {f : Nat → Nat} (hk : k0 < 3) (hb : okB w x b) (hw : w ≤ 3) (r3 : f 3 = if w = 1 then b else c.2.1 k0 3) (r4 : f 4 = if w = 3 then b else c.2.1 k0 4) (e : σ.2 = σ0.2) (e1 : ∀ q s, (q ≠ 4 + 2 * k0 ∨ s ≠ 3) → σ.1 q s = σ0.1 q s) (e2 : σ.1 (4 + 2 * k0) 3 = nI (f 2)) (o3 : σ0.1 (4 + 2 * k0) 4 = nI (c.2.1 k0 3)) (o4 : σ0.1 (4 + 2 * k0) 5 = nI (c.2.1 k0 4)) (h : ∀ σ', UpdC k0 f σ0 σ' → Q σ') : wp_X2_keep k0 (nI w) x σ (fun σ9 => (∀ σ10, σ10 = sI σ9 0 6 ((σ9.1 0 6) + 1) → Q σ10)) := by
  unfold wp_X2_keep
  rw [l1, neq (by omega) (by omega), l3, neq (by omega) (by omega)]
  refine ⟨fun z => ⟨fun z2 σ10 e10 => ?_, fun z2 σ1 ea σ10 e10 => ?_⟩, fun z σ1 ea σ10 e10 => ?_⟩
  · subst e10
    rw [if_neg z] at r3; rw [if_neg z2] at r4
    refine h _ ⟨fun q s g1 g2 => ?_, e, ?_, ?_, ?_, ?_⟩
    · show (if q = 0 ∧ s = 6 then _ else σ.1 q s) = _
      rw [if_neg (by omega)]; exact e1 q s (by omega)
    · simp [sI]; exact e2
    · simp [sI]; rw [e1 _ 4 (by omega), r3]; exact o3
    · simp [sI]; rw [e1 _ 5 (by omega), r4]; exact o4
    · simp [sI]; rw [e1 0 6 (by omega)]; rfl
  · subst e10 ea
    rw [if_neg z] at r3; rw [if_pos z2] at r4
    refine h _ ⟨fun q s g1 g2 => ?_, e, ?_, ?_, ?_, ?_⟩
    · show (if q = 0 ∧ s = 6 then _ else (if q = 4 + 2 * k0 ∧ s = 5 then _ else σ.1 q s)) = _
      rw [if_neg (by omega), if_neg (by omega)]; exact e1 q s (by omega)
    · simp [sI]; exact e2
    · simp [sI]; rw [e1 _ 4 (by omega), r3]; exact o3
    · simp [sI]; rw [r4]; exact (hb.2 z2).1
    · simp [sI]; rw [e1 0 6 (by omega)]; rfl
  · subst e10 ea
    rw [if_pos z] at r3; rw [if_neg (by omega)] at r4
    refine h _ ⟨fun q s g1 g2 => ?_, e, ?_, ?_, ?_, ?_⟩
    · show (if q = 0 ∧ s = 6 then _ else (if q = 4 + 2 * k0 ∧ s = 4 then _ else σ.1 q s)) = _
      rw [if_neg (by omega), if_neg (by omega)]; exact e1 q s (by omega)
    · simp [sI]; exact e2
    · simp [sI]; rw [r3]; exact (hb.1 z).1
    · simp [sI]; rw [e1 _ 5 (by omega), r4]; exact o4
    · simp [sI]; rw [e1 0 6 (by omega)]; rfl
theorem s_X4_wall {c : Cf} {x y z : Int32} {σ : ST} {Q : Int32 → ST → Prop} (hc : Ck c) (hR : RC c σ) (h1 : ∀ k0 w b, k0 < c.1 → w ≤ 3 → x = nI k0 → y = nI w → okB w z b → ∀ σ', UpdC k0 (fW c k0 w b) σ σ' → Q 1 σ') (h0 : (∀ k0 w b, k0 < c.1 → w ≤ 3 → x = nI k0 → y = nI w → ¬ okB w z b) → Q 0 σ) : wp_X4_wall x y z σ Q := by
  have h3 := hc.1
  refine s_X4_isThing hc.1 hR.1 (fun k0 hk e => ⟨fun q => absurd q (by decide), fun _ => ?_⟩) (fun hno => ⟨fun _ => h0 (fun k0 w b a1 a2 a3 => absurd a3 (hno k0 a1)), fun q => absurd rfl q⟩)
  subst e
  refine s_X4_canHave (fun w b hw e hb => ⟨fun _ => ?_, fun q => absurd q (by decide)⟩) (fun hno => ⟨fun q => absurd rfl q, fun _ => h0 (fun k0 w b a1 a2 a3 a4 => hno w b a2 a4)⟩)
  rw [ncl (by omega)]
  subst e
  obtain ⟨g1, g2, g3, g4, g5, -⟩ := hR.2 k0 hk
  refine ⟨nvi (by omega) (by omega), fun σ7 e7 => ?_⟩
  subst e7
  refine s_X2_keep (c := c) (k0 := k0) (σ0 := σ) (Q := fun σ10 => Q 1 σ10) (f := fW c k0 w b) (by omega) hb hw ?_ ?_ rfl ?_ ?_ g4 g5 (fun σ' g => h1 k0 w b hk hw rfl rfl hb σ' g)
  · show (if 3 = 2 then w else if 3 = 3 ∧ w = 1 then b else if 3 = 4 ∧ w = 3 then b else c.2.1 k0 3) = _
    by_cases q : w = 1
    · rw [if_neg (by omega), if_pos ⟨rfl, q⟩, if_pos q]
    · rw [if_neg (by omega), if_neg (by omega), if_neg (by omega), if_neg q]
  · show (if 4 = 2 then w else if 4 = 3 ∧ w = 1 then b else if 4 = 4 ∧ w = 3 then b else c.2.1 k0 4) = _
    by_cases q : w = 3
    · rw [if_neg (by omega), if_neg (by omega), if_pos ⟨rfl, q⟩, if_pos q]
    · rw [if_neg (by omega), if_neg (by omega), if_neg (by omega), if_neg q]
  · intro q s g
    show (if q = 4 + 2 * k0 ∧ s = 3 then _ else σ.1 q s) = _
    rw [if_neg (by omega)]
  · show (if 4 + 2 * k0 = 4 + 2 * k0 ∧ 3 = 3 then _ else _) = _
    rw [if_pos ⟨rfl, rfl⟩]; rfl
theorem s_X4_set {c : Cf} {x y z : Int32} {σ : ST} {Q : Int32 → ST → Prop} (hc : Ck c) (hR : RC c σ) (h1 : ∀ k0 w b, k0 < c.1 → (w = 1 ∨ w = 3) → x = nI k0 → y = nI w → okB w z b → ∀ σ', UpdC k0 (fS c k0 w b) σ σ' → Q 1 σ') (h0 : (∀ k0 w b, k0 < c.1 → (w = 1 ∨ w = 3) → x = nI k0 → y = nI w → ¬ okB w z b) → Q 0 σ) : wp_X4_set x y z σ Q := by
  have h3 := hc.1
  refine s_X4_isThing hc.1 hR.1 (fun k0 hk e => ⟨fun q => absurd q (by decide), fun _ => ?_⟩) (fun hno => ⟨fun _ => h0 (fun k0 w b a1 a2 a3 => absurd a3 (hno k0 a1)), fun q => absurd rfl q⟩)
  subst e
  obtain ⟨g1, g2, g3, g4, g5, -⟩ := hR.2 k0 hk
  have part : ∀ w, (w = 1 ∨ w = 3) → y = nI w → wp_X4_canHave y z σ (fun r4 σ3 => ((¬ r4 = 0 → (vp_in (nI k0) 3 ∧ (wp_X2_keep (Int32.toNatClampNeg (nI k0)) y z σ3 (fun σ7 => (∀ σ8, σ8 = sI σ7 0 6 ((σ7.1 0 6) + 1) → Q 1 σ8))))) ∧ (r4 = 0 → Q 0 σ3))) := by
    intro w hw13 ew
    refine s_X4_canHave (fun w' b hw e hb => ⟨fun _ => ?_, fun q => absurd q (by decide)⟩) (fun hno => ⟨fun q => absurd rfl q, fun _ => h0 (fun k0 w b a1 a2 a3 a4 => hno w b (by omega) a4)⟩)
    rw [ncl (by omega)]
    rw [ew, neq (by omega) (by omega)] at e
    subst e
    subst ew
    refine ⟨nvi (by omega) (by omega), s_X2_keep (c := c) (k0 := k0) (σ0 := σ) (Q := fun σ10 => Q 1 σ10) (f := fS c k0 w b) (by omega) hb hw ?_ ?_ rfl (fun _ _ _ => rfl) ?_ g4 g5 (fun σ' g => h1 k0 w b hk hw13 rfl rfl hb σ' g)⟩
    · show (if 3 = 3 ∧ w = 1 then b else if 3 = 4 ∧ w = 3 then b else c.2.1 k0 3) = _
      by_cases q : w = 1
      · rw [if_pos ⟨rfl, q⟩, if_pos q]
      · rw [if_neg (by omega), if_neg (by omega), if_neg q]
    · show (if 4 = 3 ∧ w = 1 then b else if 4 = 4 ∧ w = 3 then b else c.2.1 k0 4) = _
      by_cases q : w = 3
      · rw [if_neg (by omega), if_pos ⟨rfl, q⟩, if_pos q]
      · rw [if_neg (by omega), if_neg (by omega), if_neg q]
    · exact g3
  refine ⟨fun e => part 1 (Or.inl rfl) e, fun e1 => ⟨fun e3 => h0 (fun k0 w b a1 a2 a3 a4 => ?_), fun e3 => part 3 (Or.inr rfl) e3⟩⟩
  exfalso
  rcases a2 with q | q <;> subst q
  · exact e1 a4
  · exact e3 a4
theorem s_X5_wall {c : Cf} {x y z : Int32} {τ : ST} {Q : Int32 → ST → Prop} (hc : Ck c) (hR : RM c τ) (h1 : ∀ k0 w b, k0 < c.1 → w ≤ 3 → x = nI k0 → y = nI w → okB w z b → ∀ τ', UpdM k0 (fW c k0 w b) τ τ' → Q 1 τ') (h0 : (∀ k0 w b, k0 < c.1 → w ≤ 3 → x = nI k0 → y = nI w → ¬ okB w z b) → Q 0 τ) : wp_X5_wall x y z τ Q := by
  have h3 := hc.1
  unfold wp_X5_wall
  refine s_X5_isThing hc.1 hR.1 (fun k0 hk e => ⟨fun q => absurd q (by decide), fun _ => ?_⟩) (fun hno => ⟨fun _ => h0 (fun k0 w b a1 a2 a3 => absurd a3 (hno k0 a1)), fun q => absurd rfl q⟩)
  subst e
  obtain ⟨g1, g2, g3, g4, g5, -⟩ := hR.2 k0 hk
  rw [ncl (by omega)]
  refine s_X5_isIn (fun yy => ⟨fun q => absurd q (by decide), fun _ => ?_⟩) (fun yy => ⟨fun _ => h0 (fun k0 w b a1 a2 a3 a4 => absurd ((le_nI (n := 3) (by omega)).mpr ⟨w, a2, a4⟩) yy), fun q => absurd rfl q⟩)
  obtain ⟨w, hw, ew⟩ := (le_nI (n := 3) (by omega)).mp yy
  subst ew
  have main : ∀ b, okB w z b → (vp_in (nI k0) 3 ∧ (∀ σ8, σ8 = sR τ 3 k0 (nI w) → ((¬ nI w = 1 → ((¬ nI w = 3 → Q 1 σ8) ∧ (nI w = 3 → (∀ σ9, σ9 = sR σ8 5 k0 z → Q 1 σ9)))) ∧ (nI w = 1 → (∀ σ10, σ10 = sR σ8 4 k0 z → ((¬ nI w = 3 → Q 1 σ10) ∧ (nI w = 3 → (∀ σ11, σ11 = sR σ10 5 k0 z → Q 1 σ11)))))))) := by
    intro b hb
    refine ⟨nvi (by omega) (by omega), fun σ8 e8 => ?_⟩
    subst e8
    rw [l1, neq (by omega) (by omega), l3, neq (by omega) (by omega)]
    have k := h1 k0 w b hk hw rfl rfl hb
    refine ⟨fun z1 => ⟨fun z3 => k _ ⟨rfl, rfl, fun p a1 a2 a3 => rP _ _ _ _ a1, fun p j hj => rI _ _ _ _ _ hj, rS _ _ _ _, ?_, ?_⟩, fun z3 σ9 e9 => ?_⟩, fun z1 σ10 e10 => ⟨fun z3 => ?_, fun z3 => absurd z3 (by omega)⟩⟩
    · rw [rP _ _ _ _ (by omega), g4]; unfold fW; rw [if_neg (by omega), if_neg (by omega), if_neg (by omega)]
    · rw [rP _ _ _ _ (by omega), g5]; unfold fW; rw [if_neg (by omega), if_neg (by omega), if_neg (by omega)]
    · subst e9
      refine k _ ⟨rfl, rfl, fun p a1 a2 a3 => by rw [rP _ _ _ _ a3, rP _ _ _ _ a1], fun p j hj => by rw [rI _ _ _ _ _ hj, rI _ _ _ _ _ hj], ?_, ?_, ?_⟩
      · rw [rP _ _ _ _ (by omega), rS]; rfl
      · rw [rP _ _ _ _ (by omega), rP _ _ _ _ (by omega), g4]; unfold fW; rw [if_neg (by omega), if_neg (by omega), if_neg (by omega)]
      · rw [rS, (hb.2 z3).1]; unfold fW; rw [if_neg (by omega), if_neg (by omega), if_pos ⟨rfl, z3⟩]
    · subst e10
      refine k _ ⟨rfl, rfl, fun p a1 a2 a3 => by rw [rP _ _ _ _ a2, rP _ _ _ _ a1], fun p j hj => by rw [rI _ _ _ _ _ hj, rI _ _ _ _ _ hj], ?_, ?_, ?_⟩
      · rw [rP _ _ _ _ (by omega), rS]; rfl
      · rw [rS, (hb.1 z1).1]; unfold fW; rw [if_neg (by omega), if_pos ⟨rfl, z1⟩]
      · rw [rP _ _ _ _ (by omega), rP _ _ _ _ (by omega), g5]; unfold fW; rw [if_neg (by omega), if_neg (by omega), if_neg (by omega)]
  have hno : (∀ b, ¬ okB w z b) → Q 0 τ := fun g => h0 (fun k0' w' b a1 a2 a3 a4 => by
    rw [neq (by omega) (by omega)] at a4
    subst a4
    exact g b)
  refine ⟨fun z1 => s_X5_isBy (Or.inl ((neq (by omega) (by omega)).mp z1)) (fun b hb => ⟨fun _ => main b hb, fun q => absurd q (by decide)⟩) (fun g => ⟨fun q => absurd rfl q, fun _ => hno g⟩), fun z1 => ⟨fun z3 => main 0 ⟨fun q => absurd (by rw [q]; rfl) z1, fun q => absurd (by rw [q]; rfl) z3⟩, fun z3 => s_X5_isBy (Or.inr ((neq (by omega) (by omega)).mp z3)) (fun b hb => ⟨fun _ => main b hb, fun q => absurd q (by decide)⟩) (fun g => ⟨fun q => absurd rfl q, fun _ => hno g⟩)⟩⟩
theorem s_X5_set {c : Cf} {x y z : Int32} {τ : ST} {Q : Int32 → ST → Prop} (hc : Ck c) (hR : RM c τ) (h1 : ∀ k0 w b, k0 < c.1 → (w = 1 ∨ w = 3) → x = nI k0 → y = nI w → okB w z b → ∀ τ', UpdM k0 (fS c k0 w b) τ τ' → Q 1 τ') (h0 : (∀ k0 w b, k0 < c.1 → (w = 1 ∨ w = 3) → x = nI k0 → y = nI w → ¬ okB w z b) → Q 0 τ) : wp_X5_set x y z τ Q := by
  have h3 := hc.1
  unfold wp_X5_set
  refine s_X5_isThing hc.1 hR.1 (fun k0 hk e => ⟨fun q => absurd q (by decide), fun _ => ?_⟩) (fun hno => ⟨fun _ => h0 (fun k0 w b a1 a2 a3 => absurd a3 (hno k0 a1)), fun q => absurd rfl q⟩)
  subst e
  obtain ⟨g1, g2, g3, g4, g5, -⟩ := hR.2 k0 hk
  rw [ncl (by omega)]
  have part : ∀ w, (w = 1 ∨ w = 3) → y = nI w → wp_X5_isBy y z τ (fun r4 σ3 => ((¬ r4 = 0 → ((¬ y = 1 → (vp_in (nI k0) 3 ∧ (∀ σ6, σ6 = sR σ3 5 k0 z → Q 1 σ6))) ∧ (y = 1 → (vp_in (nI k0) 3 ∧ (∀ σ8, σ8 = sR σ3 4 k0 z → Q 1 σ8))))) ∧ (r4 = 0 → Q 0 σ3))) := by
    intro w hw ew
    subst ew
    refine s_X5_isBy hw (fun b hb => ⟨fun _ => ?_, fun q => absurd q (by decide)⟩) (fun g => ⟨fun q => absurd rfl q, fun _ => h0 (fun k0' w' b a1 a2 a3 a4 => ?_)⟩)
    · have k := h1 k0 w b hk hw rfl rfl hb
      rw [l1, neq (by omega) (by omega)]
      refine ⟨fun z1 => ⟨nvi (by omega) (by omega), fun σ6 e6 => ?_⟩, fun z1 => ⟨nvi (by omega) (by omega), fun σ6 e6 => ?_⟩⟩
      · subst e6
        have z3 : w = 3 := by omega
        refine k _ ⟨rfl, rfl, fun p a1 a2 a3 => rP _ _ _ _ a3, fun p j hj => rI _ _ _ _ _ hj, ?_, ?_, ?_⟩
        · rw [rP _ _ _ _ (by omega), g3]; unfold fS; rw [if_neg (by omega), if_neg (by omega)]
        · rw [rP _ _ _ _ (by omega), g4]; unfold fS; rw [if_neg (by omega), if_neg (by omega)]
        · rw [rS, (hb.2 z3).1]; unfold fS; rw [if_neg (by omega), if_pos ⟨rfl, z3⟩]
      · subst e6
        refine k _ ⟨rfl, rfl, fun p a1 a2 a3 => rP _ _ _ _ a2, fun p j hj => rI _ _ _ _ _ hj, ?_, ?_, ?_⟩
        · rw [rP _ _ _ _ (by omega), g3]; unfold fS; rw [if_neg (by omega), if_neg (by omega)]
        · rw [rS, (hb.1 z1).1]; unfold fS; rw [if_pos ⟨rfl, z1⟩]
        · rw [rP _ _ _ _ (by omega), g5]; unfold fS; rw [if_neg (by omega), if_neg (by omega)]
    · rw [neq (by omega) (by omega)] at a4
      subst a4
      exact g b
  refine ⟨fun e => part 1 (Or.inl rfl) e, fun e1 => ⟨fun e3 => h0 (fun k0 w b a1 a2 a3 a4 => ?_), fun e3 => part 3 (Or.inr rfl) e3⟩⟩
  exfalso
  rcases a2 with q | q <;> subst q
  · exact e1 a4
  · exact e3 a4
theorem okB_eq {w b b' : Nat} {z : Int32} (h : okB w z b) (h' : okB w z b') (k0 : Nat) (c : Cf) : fW c k0 w b = fW c k0 w b' ∧ fS c k0 w b = fS c k0 w b' := by
  have e1 : w = 1 → b = b' := fun q => by
    obtain ⟨a1, a2, a3⟩ := h.1 q
    obtain ⟨b1, b2, b3⟩ := h'.1 q
    rw [a1, neq (by omega) (by omega)] at b1
    exact b1
  have e3 : w = 3 → b = b' := fun q => by
    obtain ⟨a1, a2⟩ := h.2 q
    obtain ⟨b1, b2⟩ := h'.2 q
    rw [a1, neq (by omega) (by omega)] at b1
    exact b1
  by_cases q1 : w = 1
  · rw [e1 q1]; exact ⟨rfl, rfl⟩
  · by_cases q3 : w = 3
    · rw [e3 q3]; exact ⟨rfl, rfl⟩
    · constructor
      · funext j; unfold fW; simp [q1, q3]
      · funext j; unfold fS; simp [q1, q3]
theorem r_wall {B : Nat} {x y z : Int32} {σ τ : ST} {P : Int32 → Int32 → ST → ST → Prop} (hB : B < 1000) (h : Rel B σ τ) (k : ∀ r σ' τ', Rel (B + 1) σ' τ' → P r r σ' τ') : wp_X4_wall x y z σ (fun r σ' => wp_X5_wall x y z τ (fun r' τ' => P r r' σ' τ')) := by
  have hu := h.up
  obtain ⟨c, now, pr, ch, q, t, h1, h2, h3, h4, h5, h6, h7⟩ := h
  have c3 := h1.1
  refine s_X4_wall h1 h6.1 (fun k0 w b a1 a2 a3 a4 a5 σ' g => s_X5_wall h1 h7.1 (fun k0' w' b' b1 b2 b3 b4 b5 τ' g2 => ?_) (fun hno => absurd a5 (hno k0 w b a1 a2 a3 a4))) (fun hno => s_X5_wall h1 h7.1 (fun k0' w' b' b1 b2 b3 b4 b5 τ' g2 => absurd b5 (hno k0' w' b' b1 b2 b3 b4)) (fun _ => k _ _ _ hu))
  rw [a3, neq (by omega) (by omega)] at b3
  rw [a4, neq (by omega) (by omega)] at b4
  subst b3 b4
  rw [(okB_eq b5 a5 k0 c).1] at g2
  exact k _ _ _ (rel_row hB h1 a1 (fW_ok h1 a1 a2 a5) rfl rfl h2 h3 h4 h5 h6 h7 g g2)
theorem r_set {B : Nat} {x y z : Int32} {σ τ : ST} {P : Int32 → Int32 → ST → ST → Prop} (hB : B < 1000) (h : Rel B σ τ) (k : ∀ r σ' τ', Rel (B + 1) σ' τ' → P r r σ' τ') : wp_X4_set x y z σ (fun r σ' => wp_X5_set x y z τ (fun r' τ' => P r r' σ' τ')) := by
  have hu := h.up
  obtain ⟨c, now, pr, ch, q, t, h1, h2, h3, h4, h5, h6, h7⟩ := h
  have c3 := h1.1
  refine s_X4_set h1 h6.1 (fun k0 w b a1 a2 a3 a4 a5 σ' g => s_X5_set h1 h7.1 (fun k0' w' b' b1 b2 b3 b4 b5 τ' g2 => ?_) (fun hno => absurd a5 (hno k0 w b a1 a2 a3 a4))) (fun hno => s_X5_set h1 h7.1 (fun k0' w' b' b1 b2 b3 b4 b5 τ' g2 => absurd b5 (hno k0' w' b' b1 b2 b3 b4)) (fun _ => k _ _ _ hu))
  rw [a3, neq (by omega) (by omega)] at b3
  rw [a4, neq (by omega) (by omega)] at b4
  subst b3 b4
  rw [(okB_eq b5 a5 k0 c).2] at g2
  exact k _ _ _ (rel_row hB h1 a1 (fS_ok h1 a1 a5) rfl rfl h2 h3 h4 h5 h6 h7 g g2)
