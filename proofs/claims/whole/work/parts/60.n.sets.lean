/-! ===== PURE: sets of states ===== -/
def ofB (f : Nat → Bool) : Nat → Int64
  | 0 => 0
  | n + 1 => ofB f n ||| (if f n then (1 : Int64) <<< (Int32.toInt64 (nI n) &&& 63) else 0)
theorem bt_ofB (f : Nat → Bool) : ∀ n, n ≤ 64 → ∀ u, u < 64 → bt (ofB f n) u = (decide (u < n) && f u) := by
  intro n
  induction n with
  | zero => intro _ u _; show bt 0 u = _; rw [bt_zero]; simp
  | succ n ih =>
    intro hn u hu
    show bt (ofB f n ||| (if f n then (1 : Int64) <<< (Int32.toInt64 (nI n) &&& 63) else 0)) u = _
    rw [bt_or, ih (by omega) u hu]
    cases e : f n with
    | true =>
      rw [if_pos rfl, bt_one (by omega) hu]
      by_cases q : u = n
      · subst q; simp [e]
      · have : (u < n + 1) = (u < n) := propext (by omega)
        simp [q, this]
    | false =>
      rw [if_neg (by decide), bt_zero]
      by_cases q : u = n
      · subst q; simp [e]
      · have : (u < n + 1) = (u < n) := propext (by omega)
        simp [this]
noncomputable def ofP (P : Nat → Prop) : Int64 := ofB (fun u => @decide (P u) (Classical.propDecidable _)) 64
theorem bt_ofP (P : Nat → Prop) {u : Nat} (hu : u < 64) : bt (ofP P) u = true ↔ P u := by
  unfold ofP
  rw [bt_ofB _ 64 (Nat.le_refl _) u hu]
  simp [hu]
theorem bt_eqP {x : Int64} {P : Nat → Prop} (h : ∀ u, u < 64 → (bt x u = true ↔ P u)) : x = ofP P := by
  apply bt_ext
  intro v hv
  have h1 := h v hv
  have h2 := bt_ofP P hv
  cases e1 : bt x v <;> cases e2 : bt (ofP P) v
  · rfl
  · rw [e2] at h2; rw [e1] at h1; exact absurd (h1.mpr (h2.mp rfl)) (by decide)
  · rw [e2] at h2; rw [e1] at h1; exact absurd (h2.mpr (h1.mp rfl)) (by decide)
  · rfl
theorem ofP_congr {P P' : Nat → Prop} (h : ∀ u, u < 64 → (P u ↔ P' u)) : ofP P = ofP P' := bt_eqP (fun u hu => (bt_ofP P hu).trans (h u hu))
theorem ne0_iff {x : Int64} : x ≠ 0 ↔ ∃ u, u < 64 ∧ bt x u = true := by
  constructor
  · intro h
    apply Classical.byContradiction
    intro h2
    apply h
    apply bt_ext
    intro v hv
    rw [bt_zero]
    cases e : bt x v with
    | false => rfl
    | true => exact absurd ⟨v, hv, e⟩ h2
  · rintro ⟨u, hu, e⟩ h
    rw [h, bt_zero] at e
    cases e
def prt (v k : Nat) : Nat := v / 4 ^ k % 4
def wth (v k s : Nat) : Nat := v - prt v k * 4 ^ k + s * 4 ^ k
theorem wthK : ∀ k, k < 3 → ∀ s, s < 4 → ∀ v, v < 64 → wth v k s < 64 ∧ prt (wth v k s) k = s ∧ wth (wth v k s) k (prt v k) = v ∧ ((nI v &&& (((3 : Int32) <<< (((2 * nI k) : Int32) &&& 31)) ^^^ (-1))) ||| (nI s <<< (((2 * nI k) : Int32) &&& 31))) = nI (wth v k s) ∧ ((nI v >>> (((2 * nI k) : Int32) &&& 31)) &&& 3) = nI (prt v k) := by decide +kernel
theorem prt_lt (v k : Nat) : prt v k < 4 := Nat.mod_lt _ (by decide)
def clnN (c : Cf) (t : Nat) : Nat → Nat → Nat
  | 0, v => v
  | m + 1, v => if clB c m t then wth (clnN c t m v) m (c.2.1 m 1) else clnN c t m v
def sentA (c : Cf) (v a t : Nat) : Nat := clnN c t c.1 (if a = 9 then v else wth v (a / 3) (sendS c (a / 3) (prt v (a / 3)) (a % 3)))
def toldA (c : Cf) (v h : Nat) : Nat := if h = 9 then 0 else answ c (h / 3) (prt v (h / 3)) (h % 3)
def heardA (c : Cf) (v h : Nat) : Nat := if h = 9 then v else wth v (h / 3) (hearS c (h / 3) (prt v (h / 3)) (h % 3))
def isA (c : Cf) (a : Nat) : Prop := a < 3 * c.1 ∨ a = 9
theorem clnN_lt {c : Cf} (hc : Ck c) {t v : Nat} (hv : v < 64) : ∀ m, m ≤ c.1 → clnN c t m v < 64 := by
  have h3 := hc.1
  intro m
  induction m with
  | zero => intro _; exact hv
  | succ m ih =>
    intro hm
    unfold clnN
    have h1 := ih (by omega)
    have h2 := (hc.2 m (by omega)).2.1
    split
    · exact (wthK m (by omega) _ (by omega) _ h1).1
    · exact h1
theorem act3 {c : Cf} {a : Nat} (hc : Ck c) (h : isA c a) (h9 : a ≠ 9) : a / 3 < c.1 ∧ a / 3 < 3 ∧ a % 3 < 3 ∧ a < 9 := by
  have := hc.1
  rcases h with h | h
  · omega
  · exact absurd h h9
theorem sentA_lt {c : Cf} (hc : Ck c) {v a t : Nat} (hv : v < 64) (ha : isA c a) : sentA c v a t < 64 := by
  unfold sentA
  refine clnN_lt hc ?_ c.1 (Nat.le_refl _)
  split
  · exact hv
  · rename_i h9
    obtain ⟨h1, h2, h3, -⟩ := act3 hc ha h9
    exact (wthK _ h2 _ (sendS_lt hc h1 (prt_lt _ _) (by omega)) _ hv).1
theorem heardA_lt {c : Cf} (hc : Ck c) {v a : Nat} (hv : v < 64) (ha : isA c a) : heardA c v a < 64 := by
  unfold heardA
  split
  · exact hv
  · rename_i h9
    obtain ⟨h1, h2, h3, -⟩ := act3 hc ha h9
    exact (wthK _ h2 _ (hearS_lt hc h1 (prt_lt _ _) (by omega)) _ hv).1
theorem toldA_lt {c : Cf} (hc : Ck c) {v a : Nat} (ha : isA c a) : toldA c v a < 4 := by
  unfold toldA
  split
  · omega
  · rename_i h9
    obtain ⟨h1, h2, h3, -⟩ := act3 hc ha h9
    exact answ_lt hc h1 (prt_lt _ _) (by omega)
def sprP (c : Cf) (X : Int64) (t u : Nat) : Prop := ∃ s, s < 64 ∧ bt X s = true ∧ ∃ a, isA c a ∧ sentA c s a t = u
def parP (c : Cf) (X : Int64) (h r u : Nat) : Prop := ∃ s, s < 64 ∧ bt X s = true ∧ toldA c s h = r ∧ heardA c s h = u
noncomputable def sprF (c : Cf) (X : Int64) (t : Nat) : Int64 := ofP (sprP c X t)
noncomputable def parF (c : Cf) (X : Int64) (h r : Nat) : Int64 := ofP (parP c X h r)
/-! the reference's -/
theorem s_X5_part {v k : Nat} {τ : ST} {Q : Int32 → ST → Prop} (hv : v < 64) (hk : k < 3) (h : Q (nI (prt v k)) τ) : wp_X5_part (nI v) (nI k) τ Q := by
  unfold wp_X5_part
  rw [(wthK k hk 0 (by omega) v hv).2.2.2.2]
  exact h
theorem s_X5_with {v k s : Nat} {τ : ST} {Q : Int32 → ST → Prop} (hv : v < 64) (hk : k < 3) (hs : s < 4) (h : Q (nI (wth v k s)) τ) : wp_X5_with (nI v) (nI k) (nI s) τ Q := by
  unfold wp_X5_with
  rw [(wthK k hk s hs v hv).2.2.2.1]
  exact h
theorem actI : ∀ a, a < 10 → nI a / 3 = nI (a / 3) ∧ nI a - nI a / 3 * 3 = nI (a % 3) := by decide +kernel
theorem isA_lt {c : Cf} {a : Nat} (hc : Ck c) (h : isA c a) : a < 10 := by
  have := hc.1
  rcases h with h | h <;> omega
theorem s_X5_told {c : Cf} {v a : Nat} {τ : ST} {Q : Int32 → ST → Prop} (hc : Ck c) (hR : RM c τ) (hv : v < 64) (ha : isA c a) (h : Q (nI (toldA c v a)) τ) : wp_X5_told (nI v) (nI a) τ Q := by
  unfold wp_X5_told
  unfold toldA at h
  have h10 := isA_lt hc ha
  obtain ⟨i1, i2⟩ := actI a h10
  rw [i2, i1, l9, neq (by omega) (by omega)]
  refine ⟨fun q => ?_, fun q => by rw [if_pos q] at h; exact h⟩
  rw [if_neg q] at h
  obtain ⟨h1, h2, h3, -⟩ := act3 hc ha q
  exact s_X5_part hv h2 (s_X5_answers hc hR h1 (prt_lt _ _) (by omega) h)
theorem s_X5_heard {c : Cf} {v a : Nat} {τ : ST} {Q : Int32 → ST → Prop} (hc : Ck c) (hR : RM c τ) (hv : v < 64) (ha : isA c a) (h : Q (nI (heardA c v a)) τ) : wp_X5_heard (nI v) (nI a) τ Q := by
  unfold wp_X5_heard
  unfold heardA at h
  have h10 := isA_lt hc ha
  obtain ⟨i1, i2⟩ := actI a h10
  rw [i2, i1, l9, neq (by omega) (by omega)]
  refine ⟨fun q => ?_, fun q => by rw [if_pos q] at h; exact h⟩
  rw [if_neg q] at h
  obtain ⟨h1, h2, h3, -⟩ := act3 hc ha q
  exact s_X5_part hv h2 (s_X5_hears hc hR h1 (prt_lt _ _) (by omega) (s_X5_with hv h2 (hearS_lt hc h1 (prt_lt _ _) (by omega)) h))
theorem s_X5_sent_L40 {c : Cf} {v t : Nat} {τ : ST} {Q : Int32 → ST → Prop} (hc : Ck c) (hR : RM c τ) (hv : v < 64) (ht : t < 100000) (h : Q (nI (clnN c t c.1 v)) τ) : ∀ (d m : Nat), m + d = c.1 → wp_X5_sent_L40 (nI t) Q (d + 1) (nI (clnN c t m v)) (nI m) τ := by
  have hk3 := hc.1
  intro d
  induction d with
  | zero =>
    intro m hm
    have : m = c.1 := by omega
    subst this
    unfold wp_X5_sent_L40
    rw [hR.1]
    exact ⟨fun _ => h, fun q => absurd (Int32.le_refl _) q⟩
  | succ d ih =>
    intro m hm
    have hmc : m < c.1 := by omega
    obtain ⟨-, e2, e3, e4, -, -⟩ := hR.2 m hmc
    have b1 := hc.2 m hmc
    have hx := clnN_lt hc (t := t) hv m (by omega)
    have hn := ih (m + 1) (by omega)
    unfold clnN at hn
    unfold clB at hn
    unfold wp_X5_sent_L40
    rw [hR.1, nle (by omega) (by omega), ncl (by omega), e2, e3, e4, nI_1, nI_1, pk_rem (by omega) (by omega) (by omega), l1, l0, neq (by omega) (by omega), neq (by omega) (by omega)]
    have hm4 : (t + 1) % c.2.1 m 3 < 4 := Nat.lt_of_lt_of_le (Nat.mod_lt _ (by omega)) (by omega)
    rw [neq (by omega) (by omega)]
    refine ⟨fun q => absurd q (by omega), fun _ => ⟨nvi (by omega) (by omega), fun q => ?_, fun q => ⟨by omega, fun q2 => ?_, fun q2 => ?_⟩⟩⟩
    · rw [if_neg (by simp [q])] at hn; exact hn
    · rw [if_neg (by simp [q2])] at hn; exact hn
    · rw [if_pos (by simp [q, q2])] at hn
      exact s_X5_with hx (by omega) (by omega) hn
theorem s_X5_sent {c : Cf} {v a t : Nat} {τ : ST} {Q : Int32 → ST → Prop} (hc : Ck c) (hR : RM c τ) (hv : v < 64) (ha : isA c a) (ht : t < 100000) (h : Q (nI (sentA c v a t)) τ) : wp_X5_sent (nI v) (nI a) (nI t) τ Q := by
  unfold wp_X5_sent
  unfold sentA at h
  have h10 := isA_lt hc ha
  obtain ⟨i1, i2⟩ := actI a h10
  rw [i2, i1, l9, neq (by omega) (by omega)]
  refine ⟨fun q => ?_, fun q => ?_⟩
  · rw [if_pos q] at h
    exact ⟨c.1 + 1, s_X5_sent_L40 hc hR hv ht h c.1 0 (by omega)⟩
  · rw [if_neg q] at h
    obtain ⟨h1, h2, h3, -⟩ := act3 hc ha q
    have hs := sendS_lt hc h1 (prt_lt v (a / 3)) (show a % 3 < 4 by omega)
    refine s_X5_part hv h2 (s_X5_sends hc hR h1 (prt_lt _ _) (by omega) (s_X5_with hv h2 hs ?_))
    exact ⟨c.1 + 1, s_X5_sent_L40 hc hR (wthK _ h2 _ hs _ hv).1 ht h c.1 0 (by omega)⟩
theorem s_X5_isAct {c : Cf} {a : Nat} {τ : ST} {Q : Int32 → ST → Prop} (hc : Ck c) (hR : RM c τ) (ha : a < 10) (h1 : isA c a → Q 1 τ) (h0 : ¬ isA c a → Q 0 τ) : wp_X5_isAct (nI a) τ Q := by
  have hk3 := hc.1
  unfold wp_X5_isAct
  rw [hR.1, l9, neq (by omega) (by omega), l3, pk_mul]
  refine ⟨fun q => h1 (Or.inr q), fun q => s_X5_isIn (fun z => ⟨fun w => absurd w (by decide), fun _ => ?_⟩) (fun z => ⟨fun _ => ?_, fun w => absurd rfl w⟩)⟩
  · obtain ⟨k, hk, e⟩ := (thingIx (by omega)).mp z
    rw [neq (by omega) (by omega)] at e
    exact h1 (Or.inl (by omega))
  · refine h0 (fun w => ?_)
    rcases w with w | w
    · exact z ((thingIx (by omega)).mpr ⟨a, w, rfl⟩)
    · exact q w
