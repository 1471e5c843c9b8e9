/-! ===== PURE: whispers of the judge ===== -/
def FrI (k i : Nat) (σ σ' : ST) : Prop := FrW k σ σ' ∧ σ'.1 = σ.1 ∧ ∀ p, (p < 9 * i ∨ 9 * (i + 1) ≤ p) → σ'.2.2.1 (35 + 4 * k) p = σ.2.2.1 (35 + 4 * k) p
theorem s_X3_addSenders_L18 {c : Cf} {n k i : Nat} {P : Nat → Nat × Nat} {K Q : ST → Prop} {W : Nat → Nat} {σ0 : ST} (hc : Ck c) (hn : n ≤ 3) (hi : i < 64) (hP : PK c n P) (h : ∀ σ', FrI k i σ0 σ' → RWS n k i P σ' → (∀ u, u < n → σ'.2.2.1 (35 + 4 * k) (9 * i + 3 * u + 2) = nI (W u)) → K σ') : ∀ (d u v : Nat) (X : Int64) (σ : ST), u + d = n → FrI k i σ0 σ → RO c σ → σ.1 (34 + 4 * k) 3 = nI n → RWS n k i P σ → v < 64 → (∀ w, w < 64 → (bt X w = true ↔ w = v)) → LD c P d u v → (∀ w, w < u → σ.2.2.1 (35 + 4 * k) (9 * i + 3 * w + 2) = nI (W w)) → (∀ w, u ≤ w → w < n → W w = wsh c P d u v w) → wp_X3_addSenders_L18 k (nI i) K Q (d + 1) X (nI u) σ := by
  have h3 := hc.1
  intro d
  induction d with
  | zero =>
    intro u v X σ hu hF hR hw hr hv hX hL g1 g2
    have : u = n := by omega
    subst this
    unfold wp_X3_addSenders_L18
    rw [hw]
    exact ⟨fun _ => h σ hF hr g1, fun z => absurd (Int32.le_refl _) z⟩
  | succ d ih =>
    intro u v X σ hu hF hR hw hr hv hX hL g1 g2
    obtain ⟨w1, w2, w3⟩ := wI_spec hL
    unfold wp_X3_addSenders_L18
    rw [hw, nle (by omega) (by omega)]
    refine ⟨fun z => absurd z (by omega), fun _ => ⟨_, s_X3_addSenders_L30 hc hR hn hi hw hP hr hu hv hX hL ?_ (wI c P d u v) 0 (by omega)⟩⟩
    refine s_place ?_
    rw [hR.1, nle (by omega) (by omega), show (2 : Int32) = nI 2 from rfl, nI_add, ncl (by omega)]
    have main : ∀ a, a = nI (aOf c (wI c P d u v)) → (vp_in (nI (9 * i + 3 * u + 2)) 576 ∧ (∀ σ11, σ11 = sR σ (35 + 4 * k) (9 * i + 3 * u + 2) a → (wp_X3_step k X (nI (wI c P d u v)) (nI i) (nI u) σ11 (fun r13 σ12 => wp_X3_addSenders_L18 k (nI i) K Q (d + 1) r13 (nI u + 1) σ12)))) := by
      intro a ea
      refine ⟨nvi (by omega) (by omega), fun σ11 e11 => ?_⟩
      subst e11
      have f1 : FrW k σ (sR σ (35 + 4 * k) (9 * i + 3 * u + 2) a) := FrW.arr σ _ _ (Or.inl rfl)
      have r1 : RWS n k i P (sR σ (35 + 4 * k) (9 * i + 3 * u + 2) a) := by
        intro w hw
        rw [rI _ _ _ _ _ (by omega), rI _ _ _ _ _ (by omega)]
        exact hr w hw
      refine s_X3_step hc (hR.frW f1) hn hi hP r1 (by omega) w1 hv hX (fun y hy => ?_)
      rw [nI_1]
      have b1 := sentA_lt hc (t := u) hv (aOf_is c (wI c P d u v))
      have b2 := heardA_lt hc b1 (hP u (by omega)).1
      refine ih (u + 1) (heardA c (sentA c v (aOf c (wI c P d u v)) u) (P u).1) y _ (by omega) ⟨hF.1.tr f1, hF.2.1, fun p hp => ?_⟩ (hR.frW f1) hw r1 b2 (fun w hw => ?_) w2.2 (fun w hw => ?_) (fun w z1 z2 => ?_)
      · rw [rI _ _ _ _ _ (by omega)]; exact hF.2.2 p hp
      · rw [hy w hw]
        exact ⟨fun z => z.2.symm, fun z => ⟨w2.1, z.symm⟩⟩
      · by_cases z : w = u
        · subst z
          rw [rS, ea, g2 w (Nat.le_refl _) (by omega)]
          exact congrArg nI (if_pos rfl).symm
        · rw [rI _ _ _ _ _ (by omega)]; exact g1 w (by omega)
      · rw [g2 w (by omega) z2]
        exact if_neg (by omega)
    refine ⟨fun z => main 9 ?_, fun z => main _ ?_⟩
    · rw [show aOf c (wI c P d u v) = 9 from if_neg (by omega)]; rfl
    · rw [show aOf c (wI c P d u v) = wI c P d u v from if_pos (by omega)]
noncomputable def X0 (c : Cf) : Int64 := ofP (fun u => u = stv c)
theorem bt_X0 (c : Cf) {w : Nat} (hw : w < 64) : bt (X0 c) w = true ↔ w = stv c := bt_ofP _ hw
theorem X0_ne {c : Cf} (hc : Ck c) : X0 c ≠ 0 := ne0_iff.mpr ⟨_, stv_lt hc, (bt_X0 c (stv_lt hc)).mpr rfl⟩
theorem X0_start {c : Cf} (hc : Ck c) : (1 : Int64) <<< (Int32.toInt64 (nI (stv c)) &&& 63) = X0 c := by
  refine bt_eqP (fun u hu => ?_)
  rw [bt_one (stv_lt hc) hu]
  exact decide_eq_true_iff
theorem RO_X0 {c : Cf} {σ : ST} (h : RO c σ) : σ.2.1 10 6 = X0 c := by
  refine bt_eqP (fun u hu => ?_)
  rw [h.2.1 u hu]
  exact decide_eq_true_iff
theorem pth_ok {c : Cf} (hc : Ck c) : ∀ d t X i, X ≠ 0 → i < mostF c d t X → ∀ u, t ≤ u → u < t + d → isA c (pth c d t X i u).1 ∧ (pth c d t X i u).2 < 4 := by
  intro d
  induction d with
  | zero => intro t X i _ _ u h1 h2; omega
  | succ d ih =>
    intro t X i hX hi u h1 h2
    obtain ⟨r1, r2, r3⟩ := pR_spec hc hX hi
    by_cases e : u = t
    · subst e
      rw [pth_at]
      exact ⟨aOf_is _ _, r1⟩
    · rw [pth_ne e]
      have es : pSum c d t (sprF c X t) (pR c d t (sprF c X t) i + 1) = pSum c d t (sprF c X t) (pR c d t (sprF c X t) i) + mostF c d (t + 1) (parF c (sprF c X t) (bA c d t (sprF c X t)) (pR c d t (sprF c X t) i)) := rfl
      have hlt : i - pSum c d t (sprF c X t) (pR c d t (sprF c X t) i) < mostF c d (t + 1) (parF c (sprF c X t) (bA c d t (sprF c X t)) (pR c d t (sprF c X t) i)) := by omega
      refine ih (t + 1) _ _ (fun z => ?_) hlt u (by omega) (by omega)
      rw [z, mostF_zero] at hlt
      exact absurd hlt (Nat.not_lt_zero _)
noncomputable def lets (c : Cf) (n : Nat) : Nat := mostF c n 0 (X0 c)
noncomputable def lpt (c : Cf) (n i u : Nat) : Nat × Nat := pth c n 0 (X0 c) i u
noncomputable def lwi (c : Cf) (n i u : Nat) : Nat := wsh c (lpt c n i) n 0 (stv c) u
theorem lets_le {c : Cf} {n : Nat} (hn : n ≤ 3) : lets c n ≤ 64 := Nat.le_trans (mostF_le c n 0 _) (pow43 hn)
theorem lpt_ok {c : Cf} (hc : Ck c) {n i : Nat} (hi : i < lets c n) : PK c n (lpt c n i) := fun u hu => pth_ok hc n 0 _ i (X0_ne hc) hi u (Nat.zero_le _) (by omega)
theorem lpt_LD {c : Cf} (hc : Ck c) {n i : Nat} (hi : i < lets c n) : LD c (lpt c n i) n 0 (stv c) := by
  obtain ⟨v, v1, v2, v3⟩ := pth_LD hc n 0 (X0 c) i hi
  rw [(bt_X0 c v1).mp v2] at v3
  exact v3
def WO (c : Cf) (n : Nat) (σ : ST) : Prop := σ.1 (34 + 4 * n) 4 = nI (lets c n) ∧ ∀ i, i < lets c n → ∀ u, u < n → σ.2.2.1 (35 + 4 * n) (9 * i + 3 * u) = nI (lpt c n i u).1 ∧ σ.2.2.1 (35 + 4 * n) (9 * i + 3 * u + 1) = nI (lpt c n i u).2 ∧ σ.2.2.1 (35 + 4 * n) (9 * i + 3 * u + 2) = nI (lwi c n i u)
theorem s_X3_addSenders {c : Cf} {n : Nat} {σ : ST} {Q : ST → Prop} (hc : Ck c) (hR : RO c σ) (hn : n ≤ 3) (hw : σ.1 (34 + 4 * n) 3 = nI n) (hm : σ.1 (34 + 4 * n) 4 = nI (lets c n)) (hr : ∀ i, i < lets c n → RWS n n i (lpt c n i) σ) (h : ∀ σ', FrW n σ σ' → WO c n σ' → Q σ') : wp_X3_addSenders n σ Q := by
  have hle := lets_le (c := c) hn
  have key : ∀ (e i : Nat) (σ1 : ST), i + e = lets c n → FrW n σ σ1 → σ1.1 = σ.1 → (∀ j, j < lets c n → RWS n n j (lpt c n j) σ1) → (∀ j, j < i → ∀ u, u < n → σ1.2.2.1 (35 + 4 * n) (9 * j + 3 * u + 2) = nI (lwi c n j u)) → wp_X3_addSenders_L2 n Q (e + 1) (nI i) σ1 := by
    intro e
    induction e with
    | zero =>
      intro i σ1 hi hF h1 h2 h3
      have : i = lets c n := by omega
      subst this
      unfold wp_X3_addSenders_L2
      rw [h1, hm]
      exact ⟨fun _ => h σ1 hF ⟨by rw [h1]; exact hm, fun j hj u hu => ⟨(h2 j hj u hu).1, (h2 j hj u hu).2, h3 j hj u hu⟩⟩, fun z => absurd (Int32.le_refl _) z⟩
    | succ e ih =>
      intro i σ1 hi hF h1 h2 h3
      unfold wp_X3_addSenders_L2
      have hRO := hR.frW hF
      rw [h1, hm, nle (by omega) (by omega), RO_X0 hRO]
      refine ⟨fun z => absurd z (by omega), fun _ => ⟨n + 1, ?_⟩⟩
      refine s_X3_addSenders_L18 (W := lwi c n i) (σ0 := σ1) hc hn (by omega) (lpt_ok hc (by omega)) (fun σ2 f2 r2 w2 => ?_) n 0 (stv c) (X0 c) σ1 (by omega) ⟨FrW.rf n σ1, rfl, fun _ _ => rfl⟩ hRO (by rw [h1]; exact hw) (h2 i (by omega)) (stv_lt hc) (fun w hw => bt_X0 c hw) (lpt_LD hc (by omega)) (fun w hw => absurd hw (Nat.not_lt_zero w)) (fun w _ _ => rfl)
      rw [nI_1]
      refine ih (i + 1) σ2 (by omega) (hF.tr f2.1) (f2.2.1.trans h1) (fun j hj => ?_) (fun j hj u hu => ?_)
      · by_cases z : j = i
        · subst z; exact r2
        · intro u hu
          rw [f2.2.2 _ (by omega), f2.2.2 _ (by omega)]
          exact h2 j hj u hu
      · by_cases z : j = i
        · subst z; exact w2 u hu
        · rw [f2.2.2 _ (by omega)]
          exact h3 j (by omega) u hu
  exact ⟨_, key (lets c n) 0 σ (by omega) (FrW.rf n σ) rfl hr (fun j hj => absurd hj (Nat.not_lt_zero j))⟩
def FrWR (n : Nat) (σ σ' : ST) : Prop := (∀ q s, q ≠ 10 → (q ≠ 34 + 4 * n ∨ (s ≠ 4 ∧ s ≠ 5)) → σ'.1 q s = σ.1 q s) ∧ (∀ q, q ≠ 10 → σ'.2.1 q = σ.2.1 q) ∧ σ'.2.2.2 = σ.2.2.2 ∧ ∀ q, (q < 11 ∨ 15 < q) → q ≠ 35 + 4 * n → q ≠ 36 + 4 * n → q ≠ 37 + 4 * n → σ'.2.2.1 q = σ.2.2.1 q
theorem FrWR.rf (n : Nat) (σ : ST) : FrWR n σ σ := ⟨fun _ _ _ _ => rfl, fun _ _ => rfl, rfl, fun _ _ _ _ _ => rfl⟩
theorem FrWR.tr {n : Nat} {σ σ1 σ2 : ST} (h : FrWR n σ σ1) (g : FrWR n σ1 σ2) : FrWR n σ σ2 := ⟨fun q s z y => (g.1 q s z y).trans (h.1 q s z y), fun q z => (g.2.1 q z).trans (h.2.1 q z), g.2.2.1.trans h.2.2.1, fun q a b d e => (g.2.2.2 q a b d e).trans (h.2.2.2 q a b d e)⟩
theorem FrWR.ofR {n : Nat} {σ σ' : ST} (h : FrR σ σ') : FrWR n σ σ' := ⟨fun q s z _ => congrFun (h.1 q z).1 s, fun q z => (h.1 q z).2, h.2.1, fun q a _ _ _ => h.2.2 q a⟩
theorem FrWR.ofW {n : Nat} {σ σ' : ST} (h : FrW n σ σ') : FrWR n σ σ' := ⟨fun q s _ z => h.1 q s (by omega), fun q _ => congrFun h.2.1 q, h.2.2.1, fun q _ a b d => h.2.2.2 q a b d⟩
theorem FrWR.fld {n : Nat} (σ : ST) (s : Nat) (v : Int32) (hs : s = 4 ∨ s = 5) : FrWR n σ (sI σ (34 + 4 * n) s v) := ⟨fun q s' _ z => if_neg (by omega), fun _ _ => rfl, rfl, fun _ _ _ _ _ => rfl⟩
theorem s_X4_whisperOf {c : Cf} {n ch : Nat} {σ : ST} {Q : Nat → ST → Prop} (hc : Ck c) (hR : RC c σ) (hch : σ.1 0 6 = nI ch) (hn : n ≤ 3) (hw : σ.1 (34 + 4 * n) 3 = nI n) (hP : σ.1 (34 + 4 * n) 5 = nI ch → WO c n σ) (h : ∀ σ', FrWR n σ σ' → WO c n σ' → σ'.1 (34 + 4 * n) 5 = nI ch → Q (34 + 4 * n) σ') : wp_X4_whisperOf (nI n) σ Q := by
  unfold wp_X4_whisperOf
  rw [ncl (by omega), hch]
  refine ⟨nvi (by omega) (by omega), fun z => h σ (FrWR.rf n σ) (hP z) z, fun _ => s_X4_wallsNow hc hR ?_⟩
  rw [hR.1]
  refine s_X1_build hc hR.T (wv_lt hc) (fun σ5 f5 ro5 => ?_)
  have ro := RO_own hc ro5
  intro σ6 e6
  have f6 : FrWR n σ σ6 := by rw [e6]; exact (FrWR.ofR f5).tr (FrWR.fld σ5 4 0 (Or.inl rfl))
  have ro6 : RO c σ6 := by rw [e6]; exact ro.frW (k := n) ⟨fun q s z => if_neg (by omega), rfl, rfl, fun _ _ _ _ => rfl⟩
  have w6 : σ6.1 (34 + 4 * n) 3 = nI n := by rw [f6.1 _ _ (by omega) (Or.inr (by omega))]; exact hw
  have m6 : σ6.1 (34 + 4 * n) 4 = nI 0 := by rw [e6]; exact if_pos ⟨rfl, rfl⟩
  rw [RO_X0 ro6]
  have hle : 0 + mostF c n 0 (X0 c) ≤ 64 := by rw [Nat.zero_add]; exact lets_le hn
  refine s_X3_grow hc hn n 4 0 0 (X0 c) (fun _ => (0, 0)) σ6 _ (by omega) (by omega) (X0_ne hc) hle ⟨ro6, w6, m6, fun u hu => absurd hu (Nat.not_lt_zero u)⟩ (fun σ7 g => ?_)
  have f7 := f6.tr (FrWR.ofW g.1)
  have m7 := g.2.1
  rw [Nat.zero_add] at m7
  refine s_X3_addSenders hc (ro6.frW g.1) hn (by rw [g.1.1 _ _ (Or.inr (by omega))]; exact w6) m7 (fun i hi u hu => ?_) (fun σ8 f8 w8 σ9 e9 => ?_)
  · have g5 := g.2.2.2.2 i hi u hu
    rw [Nat.zero_add] at g5
    simp only [if_neg (Nat.not_lt_zero u)] at g5
    exact g5
  · have f9 : FrWR n σ8 σ9 := by rw [e9]; exact FrWR.fld σ8 5 _ (Or.inr rfl)
    have f89 := (f7.tr (FrWR.ofW f8))
    refine h σ9 (f89.tr f9) ⟨?_, ?_⟩ ?_
    · rw [e9]
      show (if 34 + 4 * n = 34 + 4 * n ∧ 4 = 5 then _ else σ8.1 (34 + 4 * n) 4) = _
      rw [if_neg (by omega)]; exact w8.1
    · rw [e9]; exact w8.2
    · rw [e9]
      show (if 34 + 4 * n = 34 + 4 * n ∧ 5 = 5 then σ8.1 0 6 else _) = _
      rw [if_pos ⟨rfl, rfl⟩, f89.1 0 6 (by omega) (Or.inl (by omega))]
      exact hch
