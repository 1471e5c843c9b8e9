/-! ===== PURE: the judge's pair ===== -/
def FL (q nl : Nat) (v : Int32) (σ σ' : ST) : Prop := σ'.1 = σ.1 ∧ σ'.2.1 = σ.2.1 ∧ σ'.2.2.2 = σ.2.2.2 ∧ (∀ q', q' ≠ q → σ'.2.2.1 q' = σ.2.2.1 q') ∧ ∀ j, σ'.2.2.1 q j = if j < nl then v else σ.2.2.1 q j
theorem s_fill_L5 {q nl : Nat} {v : Int32} {σ : ST} {Q : ST → Prop} (hn : nl < 2147483648) (h : ∀ σ', FL q nl v σ σ' → Q σ') : ∀ (d m : Nat) (σ1 : ST), m + d = nl → FL q m v σ σ1 → wp_J7_fill_53178_L5 q nl v (nI nl) Q (d + 1) (nI m) σ1 := by
  intro d
  induction d with
  | zero =>
    intro m σ1 hm hF
    have : m = nl := by omega
    subst this
    unfold wp_J7_fill_53178_L5
    exact ⟨fun _ => h _ hF, fun q => absurd (Int32.le_refl _) q⟩
  | succ d ih =>
    intro m σ1 hm hF
    unfold wp_J7_fill_53178_L5
    rw [nle (by omega) (by omega)]
    refine ⟨fun z => absurd z (by omega), fun _ => ⟨nvi (by omega) hn, fun σ2 e2 => ?_⟩⟩
    rw [ncl (by omega)] at e2
    rw [nI_1]
    refine ih (m + 1) σ2 (by omega) ?_
    obtain ⟨h1, h2, h3, h4, h5⟩ := hF
    subst e2
    refine ⟨h1, h2, h3, fun q' hq' => ?_, fun j => ?_⟩
    · simp [sR, hq', h4 q' hq']
    · by_cases z : j = m
      · subst z; simp [sR, upd]
      · have z2 : (j < m + 1) = (j < m) := propext (by omega)
        simp [sR, upd, z, h5 j, z2]
theorem s_fill {q nl : Nat} {v : Int32} {σ : ST} {Q : ST → Prop} (hn : nl < 2147483648) (h : ∀ σ', FL q nl v σ σ' → Q σ') : wp_J7_fill_53178 q nl v σ Q :=
  ⟨nl + 1, s_fill_L5 hn h nl 0 σ (by omega) ⟨rfl, rfl, rfl, fun _ _ => rfl, fun j => by simp⟩⟩
def pA (c : Cf) (k v e : Nat) : Nat := clS c k (sendS c k (v / 16) (e / 16)) (v % 4)
def pB (c : Cf) (k v e : Nat) : Nat := clS c k (sendS c k (v / 4 % 4) (e / 4 % 4)) (v % 4)
def gT (c : Cf) (k v e : Nat) : Bool := decide (answ c k (pA c k v e) (e % 4) ≠ answ c k (pB c k v e) (e % 4))
def gS (c : Cf) (k v e : Nat) : Nat := 16 * hearS c k (pA c k v e) (e % 4) + 4 * hearS c k (pB c k v e) (e % 4) + (v % 4 + 1) % prd c k
def gE (c : Cf) (k v e : Nat) : Nat := e + 64 * answ c k (pA c k v e) (e % 4) + 256 * answ c k (pB c k v e) (e % 4)
theorem pA_lt {c : Cf} (hc : Ck c) {k v e : Nat} (hk : k < c.1) (hv : v < 64) (he : e < 64) : pA c k v e < 4 := clS_lt hc hk (sendS_lt hc hk (by omega) (by omega))
theorem pB_lt {c : Cf} (hc : Ck c) {k v e : Nat} (hk : k < c.1) (hv : v < 64) (he : e < 64) : pB c k v e < 4 := clS_lt hc hk (sendS_lt hc hk (by omega) (by omega))
theorem gS_lt {c : Cf} (hc : Ck c) {k : Nat} (hk : k < c.1) : ∀ v, v < 64 → ∀ e, e < 64 → gS c k v e < 64 := by
  intro v hv e he
  have h1 := hearS_lt hc hk (pA_lt hc hk hv he) (show e % 4 < 4 by omega)
  have h2 := hearS_lt hc hk (pB_lt hc hk hv he) (show e % 4 < 4 by omega)
  have h3 := prd_le hc hk
  have h4 : (v % 4 + 1) % prd c k < prd c k := Nat.mod_lt _ (by omega)
  unfold gS
  omega
theorem gE_lt {c : Cf} (hc : Ck c) {k v e : Nat} (hk : k < c.1) (hv : v < 64) (he : e < 64) : gE c k v e < 1024 := by
  have h1 := answ_lt hc hk (pA_lt hc hk hv he) (show e % 4 < 4 by omega)
  have h2 := answ_lt hc hk (pB_lt hc hk hv he) (show e % 4 < 4 by omega)
  unfold gE
  omega
def stP (c : Cf) (k : Nat) : Nat := 20 * c.2.1 k 1
theorem stP_lt {c : Cf} (hc : Ck c) {k : Nat} (hk : k < c.1) : stP c k < 64 := by
  have := (hc.2 k hk).2.1
  unfold stP
  omega
def nmd (k a : Nat) : Nat := if a = 3 then 9 else 3 * k + a
/-- the rows of the pair: at tick t -/
def pRow (c : Cf) (k t j : Nat) : Nat :=
  let v := gp (gT c k) (gS c k) (stP c k) t
  let e := ge (gT c k) (gS c k) v
  if j = 0 then nmd k (e / 16) else if j = 1 then nmd k (e / 4 % 4) else if j = 2 then nmd k (e % 4) else if j = 3 then answ c k (pA c k v e) (e % 4) else answ c k (pB c k v e) (e % 4)
def pLen (c : Cf) (k : Nat) : Nat := if dst (gT c k) (gS c k) (stP c k) ≤ 64 then dst (gT c k) (gS c k) (stP c k) else 0
def FrP (k : Nat) (σ σ' : ST) : Prop := (∀ q, (q < 16 + 6 * k ∨ 21 + 6 * k < q) → σ'.1 q = σ.1 q ∧ σ'.2.1 q = σ.2.1 q ∧ σ'.2.2.1 q = σ.2.2.1 q) ∧ σ'.2.2.2 = σ.2.2.2
theorem FrP.rf (k : Nat) (σ : ST) : FrP k σ σ := ⟨fun _ _ => ⟨rfl, rfl, rfl⟩, rfl⟩
theorem FrP.tr {k : Nat} {σ σ1 σ2 : ST} (h : FrP k σ σ1) (g : FrP k σ1 σ2) : FrP k σ σ2 := ⟨fun q hq => ⟨(g.1 q hq).1.trans (h.1 q hq).1, (g.1 q hq).2.1.trans (h.1 q hq).2.1, (g.1 q hq).2.2.trans (h.1 q hq).2.2⟩, g.2.trans h.2⟩
theorem FrP.putR {k q i : Nat} {v : Int32} {σ : ST} (h1 : 16 + 6 * k ≤ q) (h2 : q ≤ 21 + 6 * k) : FrP k σ (sR σ q i v) := by
  refine ⟨fun q' hq => ⟨rfl, rfl, ?_⟩, rfl⟩
  have : ¬ q' = q := by omega
  simp [sR, this]
theorem FrP.putI {k q i : Nat} {v : Int32} {σ : ST} (h1 : 16 + 6 * k ≤ q) (h2 : q ≤ 21 + 6 * k) : FrP k σ (sI σ q i v) := by
  refine ⟨fun q' hq => ⟨?_, rfl, rfl⟩, rfl⟩
  have : ¬ q' = q := by omega
  funext z
  simp [sI, this]
theorem FrP.room {c : Cf} {k : Nat} {σ σ' : ST} (h : FrP k σ σ') (hR : RO c σ) : RO c σ' := by
  obtain ⟨h1, h2, h3⟩ := hR
  have e10 := h.1 10 (by omega)
  refine ⟨by rw [e10.1]; exact h1, by rw [e10.2.1]; exact h2, ?_⟩
  rw [(h.1 11 (by omega)).2.2, (h.1 12 (by omega)).2.2, (h.1 13 (by omega)).2.2, (h.1 14 (by omega)).2.2, (h.1 15 (by omega)).2.2]
  exact h3
def QI (k m : Nat) (Q dd par ed : Nat → Nat) (σ : ST) : Prop := σ.1 (16 + 6 * k) 5 = nI m ∧ (∀ j, j < m → σ.2.2.1 (18 + 6 * k) j = nI (Q j)) ∧ (∀ v, v < 64 → (∃ j, j < m ∧ Q j = v) → σ.2.2.1 (21 + 6 * k) v = nI (dd v)) ∧ (∀ v, v < 64 → (∀ j, j < m → Q j ≠ v) → σ.2.2.1 (21 + 6 * k) v = -1) ∧ (∀ j, 1 ≤ j → j < m → σ.2.2.1 (19 + 6 * k) (Q j) = nI (par (Q j)) ∧ σ.2.2.1 (20 + 6 * k) (Q j) = nI (ed (Q j))) ∧ σ.2.2.1 (19 + 6 * k) (Q 0) = -1
theorem nodeK : ∀ a, a < 4 → ∀ b, b < 4 → ∀ t, t < 4 → ((((nI a <<< ((4 : Int32) &&& 31)) ||| (nI b <<< ((2 : Int32) &&& 31))) ||| nI t) &&& 63) = nI (16 * a + 4 * b + t) := by decide +kernel
theorem s_X0_node {a b t : Nat} {σ : ST} {Q : Int32 → ST → Prop} (ha : a < 4) (hb : b < 4) (ht : t < 4) (h : Q (nI (16 * a + 4 * b + t)) σ) : wp_X0_node (nI a) (nI b) (nI t) σ Q := by
  unfold wp_X0_node
  rw [nodeK a ha b hb t ht]
  exact h
theorem nm1' {a : Nat} (h : a < 2147483648) : ¬ nI a = -1 := (nm1 a).resolve_right (by omega)
theorem s_X0_reach_old {k m y : Nat} {Q dd par ed : Nat → Nat} {σ : ST} {x z : Int32} {P : ST → Prop} (hQ : QI k m Q dd par ed σ) (hy : y < 64) (hin : ∃ j, j < m ∧ Q j = y) (hdd : dd y < 2147483648) (h : P σ) : wp_X0_reach k (nI y) x z σ P := by
  unfold wp_X0_reach
  rw [ncl (by omega), hQ.2.2.1 y hy hin]
  exact ⟨nvi (by omega) (by omega), fun _ => h, fun w => absurd w (nm1' hdd)⟩
theorem QI.push {k m y x w dx : Nat} {Q dd par ed : Nat → Nat} {σ : ST} (hQ : QI k m Q dd par ed σ) (h1 : 1 ≤ m) (hm : m < 64) (hQl : ∀ j, j < m → Q j < 64) (hy : y < 64) (hnew : ∀ j, j < m → Q j ≠ y) :
    QI k (m + 1) (fun j => if j = m then y else Q j) (fun v => if v = y then dx else dd v) (fun v => if v = y then x else par v) (fun v => if v = y then w else ed v) (sI (sR (sR (sR (sR σ (21 + 6 * k) y (nI dx)) (19 + 6 * k) y (nI x)) (20 + 6 * k) y (nI w)) (18 + 6 * k) m (nI y)) (16 + 6 * k) 5 (nI (m + 1))) := by
  obtain ⟨q1, q2, q3, q4, q5, q6⟩ := hQ
  have n1 : ¬ (18 + 6 * k = 20 + 6 * k) := by omega
  have n2 : ¬ (18 + 6 * k = 19 + 6 * k) := by omega
  have n3 : ¬ (18 + 6 * k = 21 + 6 * k) := by omega
  have n4 : ¬ (21 + 6 * k = 18 + 6 * k) := by omega
  have n5 : ¬ (21 + 6 * k = 19 + 6 * k) := by omega
  have n6 : ¬ (21 + 6 * k = 20 + 6 * k) := by omega
  have n7 : ¬ (19 + 6 * k = 18 + 6 * k) := by omega
  have n8 : ¬ (19 + 6 * k = 20 + 6 * k) := by omega
  have n9 : ¬ (19 + 6 * k = 21 + 6 * k) := by omega
  have n10 : ¬ (20 + 6 * k = 18 + 6 * k) := by omega
  have n11 : ¬ (20 + 6 * k = 19 + 6 * k) := by omega
  have n12 : ¬ (20 + 6 * k = 21 + 6 * k) := by omega
  refine ⟨by simp [sI], fun j hj => ?_, fun v hv hin => ?_, fun v hv hout => ?_, fun j hj1 hj => ?_, ?_⟩
  · by_cases z : j = m
    · subst z; simp [sI, sR, upd]
    · simp [sI, sR, upd, z, n1, n2, n3, q2 j (by omega)]
  · by_cases z : v = y
    · subst z; simp [sI, sR, upd, n4, n5, n6]
    · obtain ⟨j, hj, ej⟩ := hin
      have hjm : ¬ j = m := fun z2 => z (by rw [← ej, z2]; simp)
      dsimp only at ej
      rw [if_neg hjm] at ej
      simp [sI, sR, upd, n4, n5, n6, z, q3 v hv ⟨j, by omega, ej⟩]
  · have hvy : ¬ v = y := fun z => hout m (by omega) (by rw [z]; simp)
    have hv2 : ∀ j, j < m → Q j ≠ v := fun j hj => by
      have := hout j (by omega)
      dsimp only at this
      rw [if_neg (by omega)] at this
      exact this
    simp [sI, sR, upd, n4, n5, n6, hvy, q4 v hv hv2]
  · by_cases z : j = m
    · subst z; simp [sI, sR, upd, n7, n8, n9, n10, n11, n12]
    · have hne := hnew j (by omega)
      simp [sI, sR, upd, n7, n8, n9, n10, n11, n12, z, hne, q5 j hj1 (by omega)]
  · have hne := hnew 0 (by omega)
    have h0 : ¬ (0 = m) := by omega
    simp [sI, sR, upd, n7, n8, n9, h0, hne, q6]
theorem s_X0_reach_new {k m y x w : Nat} {Q dd par ed : Nat → Nat} {σ : ST} {P : ST → Prop} (hQ : QI k m Q dd par ed σ) (h1 : 1 ≤ m) (hm : m < 64) (hQl : ∀ j, j < m → Q j < 64) (hy : y < 64) (hnew : ∀ j, j < m → Q j ≠ y) (hx : x < 64) (hxin : ∃ j, j < m ∧ Q j = x) (hw : w < 2147483648) (hdd : dd x < 2147483000)
    (h : ∀ σ', FrP k σ σ' → σ'.1 (16 + 6 * k) 6 = σ.1 (16 + 6 * k) 6 → QI k (m + 1) (fun j => if j = m then y else Q j) (fun v => if v = y then dd x + 1 else dd v) (fun v => if v = y then x else par v) (fun v => if v = y then w else ed v) σ' → P σ') : wp_X0_reach k (nI y) (nI x) (nI w) σ P := by
  unfold wp_X0_reach
  rw [ncl (by omega), hQ.2.2.2.1 y hy hnew, hQ.1]
  refine ⟨nvi (by omega) (by omega), fun z => absurd rfl z, fun _ => ⟨fun _ => ⟨fun _ => ⟨nvi (by omega) (by omega), ?_⟩, fun z => absurd z (nm1' (by omega))⟩, fun z => absurd ((nlt (b := 64) (by omega) (by omega)).mpr hm) z⟩⟩
  rw [ncl (by omega), hQ.2.2.1 x hx hxin, nI_1]
  intro σ3 e3 σ4 e4 σ5 e5
  have em : σ5.1 (16 + 6 * k) 5 = nI m := by rw [e5, e4, e3]; exact hQ.1
  rw [em, ncl (by omega)]
  refine ⟨nvi (by omega) (by omega), fun σ7 e7 σ8 e8 => ?_⟩
  have em2 : σ7.1 (16 + 6 * k) 5 = nI m := by rw [e7]; exact em
  rw [em2, nI_1] at e8
  have hfin := hQ.push (x := x) (w := w) (dx := dd x + 1) h1 hm hQl hy hnew
  rw [← e3, ← e4, ← e5, ← e7, ← e8] at hfin
  refine h σ8 ?_ ?_ hfin
  · rw [e8, e7, e5, e4, e3]
    exact (((((FrP.putR (by omega) (by omega)).tr (FrP.putR (by omega) (by omega))).tr (FrP.putR (by omega) (by omega))).tr (FrP.putR (by omega) (by omega))).tr (FrP.putI (by omega) (by omega)))
  · rw [e8, e7, e5, e4, e3]
    simp [sI, sR]
