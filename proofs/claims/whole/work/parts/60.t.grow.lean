/-! ===== PURE: all rows ===== -/
theorem s_X3_grow_L37 {c : Cf} {n k d t : Nat} {X : Int64} {rec : Nat → Int64 → Int32 → ST → (ST → Prop) → Prop} {σ : ST} {K : Int32 → ST → Prop} {Q : ST → Prop} (hc : Ck c) (hR : RO c σ) (hn : n ≤ 3) (hw : σ.1 (34 + 4 * k) 3 = nI n) (htd : t + (d + 1) = n) (hX : X ≠ 0) (h : K (nI (bI c d t (sprF c X t))) σ) : wp_X3_grow_L37 k rec (nI t) (sprF c X t) K Q (3 * c.1 + 2) 0 0 0 σ := by
  have h3 := hc.1
  have hb : ∀ m, mxJ (fun j => byF c d t (sprF c X t) (aOf c j)) m ≤ 64 := mxJ_le (fun a => Nat.le_trans (byF_le c d t _ _) (pow43 (by omega)))
  have key : ∀ (e j : Nat), j + e = 3 * c.1 + 1 → wp_X3_grow_L37 k rec (nI t) (sprF c X t) K Q (e + 1) (nI (bJ (fun j => byF c d t (sprF c X t) (aOf c j)) j)) (nI (mxJ (fun j => byF c d t (sprF c X t) (aOf c j)) j)) (nI j) σ := by
    intro e
    induction e with
    | zero =>
      intro j hj
      have : j = 3 * c.1 + 1 := by omega
      subst this
      unfold wp_X3_grow_L37
      rw [hR.1, nlt (by omega) (by omega)]
      exact ⟨fun _ => h, fun z => absurd (by omega) z⟩
    | succ e ihe =>
      intro j hj
      unfold wp_X3_grow_L37
      rw [hR.1, nlt (by omega) (by omega), hw]
      refine ⟨fun z => absurd z (by omega), fun _ => s_X4_mostBy hc hR (by omega) hn (by omega) (sprF_ne hc hX) (fun _ => s_X4_most hc hR hn d 4 (t + 1) (by omega) (by omega)) ?_⟩
      have h1 := ihe (j + 1) (by omega)
      have hb1 := hb j
      have hb2 : byF c d t (sprF c X t) (aOf c j) ≤ 64 := Nat.le_trans (byF_le c d t _ _) (pow43 (by omega))
      have eb : bJ (fun j => byF c d t (sprF c X t) (aOf c j)) (j + 1) = if mxJ (fun j => byF c d t (sprF c X t) (aOf c j)) j < byF c d t (sprF c X t) (aOf c j) then j else bJ (fun j => byF c d t (sprF c X t) (aOf c j)) j := rfl
      have em : mxJ (fun j => byF c d t (sprF c X t) (aOf c j)) (j + 1) = if mxJ (fun j => byF c d t (sprF c X t) (aOf c j)) j < byF c d t (sprF c X t) (aOf c j) then byF c d t (sprF c X t) (aOf c j) else mxJ (fun j => byF c d t (sprF c X t) (aOf c j)) j := rfl
      rw [eb, em] at h1
      rw [nle (by omega) (by omega), nI_1]
      refine ⟨fun z => ?_, fun z => ?_⟩
      · rw [if_neg (by omega), if_neg (by omega)] at h1; exact h1
      · rw [if_pos (by omega), if_pos (by omega)] at h1; exact h1
  exact key (3 * c.1 + 1) 0 (by omega)
theorem s_X3_grow {c : Cf} {n k : Nat} (hc : Ck c) (hn : n ≤ 3) : ∀ (d f t m : Nat) (X : Int64) (A : Nat → Nat × Nat) (σ : ST) (Q : ST → Prop), d < f → t + d = n → X ≠ 0 → m + mostF c d t X ≤ 64 → GPre c n k t m A σ → (∀ σ', GPost n k t m (mostF c d t X) (fun i u => if u < t then A u else pth c d t X i u) σ σ' → Q σ') → wp_X3_grow f k X (nI t) σ Q := by
  have h3 := hc.1
  intro d
  induction d with
  | zero =>
    intro f t m X A σ Q hf htd hX hm hP h
    obtain ⟨f, rfl⟩ : ∃ g, f = g + 1 := ⟨f - 1, by omega⟩
    have : t = n := by omega
    subst this
    have e1 : mostF c 0 t X = 1 := by unfold mostF; exact if_neg hX
    rw [e1] at h hm
    show wp_X3_growo (wp_X3_grow f) k X (nI t) σ Q
    unfold wp_X3_growo
    rw [hP.2.1, nlt (by omega) (by omega)]
    refine ⟨fun z => absurd z (by omega), fun _ => s_X3_addLetter hn (by omega) hP (fun σ' g => h σ' ⟨g.1, g.2.1, g.2.2.1, g.2.2.2.1, fun i hi u hu => ?_⟩)⟩
    dsimp only
    rw [if_pos hu]
    exact g.2.2.2.2 i hi u hu
  | succ d ih =>
    intro f t m X A σ Q hf htd hX hm hP h
    obtain ⟨f, rfl⟩ : ∃ g, f = g + 1 := ⟨f - 1, by omega⟩
    obtain ⟨b1, b2, -⟩ := best (d := d) (t := t) hc hX
    have hS := sprF_ne (t := t) hc hX
    have p4 := pSum4 c d t (sprF c X t)
    rw [b2] at p4
    show wp_X3_growo (wp_X3_grow f) k X (nI t) σ Q
    unfold wp_X3_growo
    rw [hP.2.1, nlt (by omega) (by omega), hP.1.1]
    refine ⟨fun _ => s_X1_sentAll hc hP.1 (by omega) ⟨3 * c.1 + 2, s_X3_grow_L37 hc hP.1 hn hP.2.1 htd hX (s_X1_answers hc hP.1 (by omega) hS (fun w hw hx => ⟨5, ?_⟩))⟩, fun z => absurd (by omega) z⟩
    have key : ∀ (e r : Nat) (σ1 : ST), r + e = 4 → GPost n k t m (pSum c d t (sprF c X t) r) (fun i u => if u < t then A u else pth c (d + 1) t X i u) σ σ1 → wp_X3_grow_L96 k (wp_X3_grow f) (nI t) (sprF c X t) (nI (bI c d t (sprF c X t))) (nI w) Q (e + 1) (nI r) σ1 := by
      intro e
      induction e with
      | zero =>
        intro r σ1 hr g
        have : r = 4 := by omega
        subst this
        rw [p4] at g
        unfold wp_X3_grow_L96
        exact ⟨fun _ => h σ1 g, fun z => absurd (by decide) z⟩
      | succ e ihe =>
        intro r σ1 hr g
        have hRO := hP.1.frW g.1
        have es : pSum c d t (sprF c X t) (r + 1) = pSum c d t (sprF c X t) r + mostF c d (t + 1) (parF c (sprF c X t) (bA c d t (sprF c X t)) r) := rfl
        have ple : pSum c d t (sprF c X t) (r + 1) ≤ mostF c (d + 1) t X := by
          rw [← p4]
          have a1 : pSum c d t (sprF c X t) 1 ≤ pSum c d t (sprF c X t) 2 := Nat.le_add_right _ _
          have a2 : pSum c d t (sprF c X t) 2 ≤ pSum c d t (sprF c X t) 3 := Nat.le_add_right _ _
          have a3 : pSum c d t (sprF c X t) 3 ≤ pSum c d t (sprF c X t) 4 := Nat.le_add_right _ _
          rcases (by omega : r = 0 ∨ r = 1 ∨ r = 2 ∨ r = 3) with q | q | q | q <;> subst q
          · show pSum c d t (sprF c X t) 1 ≤ _; omega
          · show pSum c d t (sprF c X t) 2 ≤ _; omega
          · show pSum c d t (sprF c X t) 3 ≤ _; omega
          · exact Nat.le_refl _
        unfold wp_X3_grow_L96
        rw [l4, nle (by omega) (by omega), mbit w hw r (by omega), nI_1, hRO.1, nle (by omega) (by omega)]
        have main : ∀ (a : Int32), a = nI (bA c d t (sprF c X t)) → w.testBit r = true → (vp_in (nI t) 3 ∧ (∀ σ11, σ11 = sR σ1 (36 + 4 * k) (Int32.toNatClampNeg (nI t)) a → (∀ σ12, σ12 = sR σ11 (37 + 4 * k) (Int32.toNatClampNeg (nI t)) (nI r) → (wp_X1_heard (sprF c X t) (nI (bI c d t (sprF c X t))) (nI r) σ12 (fun r14 σ13 => (wp_X3_grow f k r14 (nI t + 1) σ13 (fun σ15 => wp_X3_grow_L96 k (wp_X3_grow f) (nI t) (sprF c X t) (nI (bI c d t (sprF c X t))) (nI w) Q (e + 1) (nI (r + 1)) σ15))))))) := by
          intro a ea hbit
          have hp := (hx r (by omega)).mp hbit
          refine ⟨nvi (by omega) (by omega), fun σ11 e11 σ12 e12 => ?_⟩
          rw [ncl (by omega)] at e11 e12
          have f12 : FrW k σ1 σ12 := by
            rw [e12, e11]
            exact (FrW.arr σ1 _ _ (Or.inr (Or.inl rfl))).tr (FrW.arr _ _ _ (Or.inr (Or.inr rfl)))
          refine s_X1_heard hc (hRO.frW f12) (by omega) (by omega) ?_
          rw [nI_1]
          have ag : ∀ u, u < t + 1 → σ12.2.2.1 (36 + 4 * k) u = nI ((fun u => if u = t then (bA c d t (sprF c X t), r) else A u) u).1 ∧ σ12.2.2.1 (37 + 4 * k) u = nI ((fun u => if u = t then (bA c d t (sprF c X t), r) else A u) u).2 := by
            intro u hu
            dsimp only
            by_cases z : u = t
            · subst z
              rw [if_pos rfl, e12, e11]
              refine ⟨?_, rS _ _ _ _⟩
              rw [rP _ _ _ _ (by omega), rS]; exact ea
            · rw [if_neg z, e12, e11, rI _ _ _ _ _ z, rI _ _ _ _ _ z, rI _ _ _ _ _ z, rI _ _ _ _ _ z]
              have g3 := g.2.2.1 u (by omega)
              have g4 := hP.2.2.2 u (by omega)
              exact ⟨g3.1.trans g4.1, g3.2.trans g4.2⟩
          refine ih f (t + 1) (m + pSum c d t (sprF c X t) r) _ _ σ12 _ (by omega) (by omega) hp ?_ ⟨hRO.frW f12, ?_, ?_, ag⟩ (fun σ15 g15 => ihe (r + 1) σ15 (by omega) ⟨(g.1.tr f12).tr g15.1, ?_, fun u hu => ?_, fun p hq => ?_, fun i hi u hu => ?_⟩)
          · show m + pSum c d t (sprF c X t) r + mostF c d (t + 1) (parF c (sprF c X t) (bA c d t (sprF c X t)) r) ≤ 64
            omega
          · rw [f12.1 _ 3 (Or.inr (by omega)), g.1.1 _ 3 (Or.inr (by omega))]; exact hP.2.1
          · rw [e12, e11]; exact g.2.1
          · have g2 := g15.2.1
            rw [es, ← Nat.add_assoc]; exact g2
          · have g3 := g15.2.2.1 u (by omega)
            have g4 := g.2.2.1 u hu
            have z : u ≠ t := by omega
            rw [g3.1, g3.2, e12, e11, rI _ _ _ _ _ z, rI _ _ _ _ _ z, rI _ _ _ _ _ z, rI _ _ _ _ _ z]
            exact g4
          · rw [g15.2.2.2.1 p (by omega), e12, e11, rP _ _ _ _ (by omega), rP _ _ _ _ (by omega)]
            exact g.2.2.2.1 p hq
          · by_cases z : i < pSum c d t (sprF c X t) r
            · rw [g15.2.2.2.1 _ (by omega), g15.2.2.2.1 _ (by omega), e12, e11, rP _ _ _ _ (by omega), rP _ _ _ _ (by omega)]
              exact g.2.2.2.2 i z u hu
            · have g5 := g15.2.2.2.2 (i - pSum c d t (sprF c X t) r) (by show _ < mostF c d (t + 1) (parF c (sprF c X t) (bA c d t (sprF c X t)) r); omega) u hu
              rw [show m + pSum c d t (sprF c X t) r + (i - pSum c d t (sprF c X t) r) = m + i by omega] at g5
              have ePR := pR_is (c := c) (d := d) (t := t) (S := sprF c X t) (i := i) (r := r) (by omega) (by omega) hi
              have ev : (if u < t + 1 then (if u = t then (bA c d t (sprF c X t), r) else A u) else pth c d (t + 1) (parF c (sprF c X t) (bA c d t (sprF c X t)) r) (i - pSum c d t (sprF c X t) r) u) = (if u < t then A u else pth c (d + 1) t X i u) := by
                by_cases z1 : u = t
                · subst z1
                  rw [if_pos (by omega), if_pos rfl, if_neg (by omega), pth_at, ePR]
                · by_cases z2 : u < t
                  · rw [if_pos (by omega), if_neg z1, if_pos z2]
                  · rw [if_neg (by omega), if_neg z2, pth_ne z1, ePR]
              dsimp only
              rw [← ev]
              exact g5
        refine ⟨fun z => absurd z (by omega), fun _ => ⟨fun q => ?_, fun q => ?_⟩⟩
        · have ez : parF c (sprF c X t) (bA c d t (sprF c X t)) r = 0 := by
            apply Classical.byContradiction
            intro v
            rw [if_pos ((hx r (by omega)).mpr v)] at q
            exact absurd q (by decide)
          rw [ez, mostF_zero] at es
          refine ihe (r + 1) σ1 (by omega) ?_
          rw [es]
          exact g
        · have hbit : w.testBit r = true := by
            cases v : w.testBit r with
            | true => rfl
            | false => rw [v] at q; exact absurd rfl q
          refine ⟨fun z => main 9 ?_ hbit, fun z => main _ ?_ hbit⟩
          · unfold bA; rw [show aOf c (bI c d t (sprF c X t)) = 9 from if_neg (by omega)]; rfl
          · unfold bA; rw [show aOf c (bI c d t (sprF c X t)) = bI c d t (sprF c X t) from if_pos (by omega)]
    exact key 4 0 σ (by omega) ⟨FrW.rf k σ, hP.2.2.1, fun _ _ => ⟨rfl, rfl⟩, fun _ _ => rfl, fun i hi => absurd hi (Nat.not_lt_zero i)⟩
