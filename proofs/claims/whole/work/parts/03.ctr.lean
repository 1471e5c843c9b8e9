/-! ===== contracts over a world: ends, entries, calls, a contract beside other cells ===== -/
def RetI {τ : Type} (l : Launch) (D : va_G) (tys : List (ClassId × FieldType)) (wf : τ → va_W) (R : Room) (nL : Nat) (E : XE) (cc : ByteArray) (Q : Int32 → τ → Prop) : Prop :=
  ∀ (pc : Nat) (lv : List (Nat × Value)) (r : Int32) (σ : τ), decode cc pc = .ok (.ireturn, 1) → Q r σ → V l D tys wf R nL E pc lv [.int r] σ
def RetZ {τ : Type} (l : Launch) (D : va_G) (tys : List (ClassId × FieldType)) (wf : τ → va_W) (R : Room) (nL : Nat) (E : XE) (cc : ByteArray) (Q : Int32 → τ → Prop) : Prop :=
  ∀ (pc : Nat) (lv : List (Nat × Value)) (r : Int32) (σ : τ), decode cc pc = .ok (.ireturn, 1) → (r = 0 ∨ r = 1) → Q r σ → V l D tys wf R nL E pc lv [.int r] σ
def RetL {τ : Type} (l : Launch) (D : va_G) (tys : List (ClassId × FieldType)) (wf : τ → va_W) (R : Room) (nL : Nat) (E : XE) (cc : ByteArray) (Q : Int64 → τ → Prop) : Prop :=
  ∀ (pc : Nat) (lv : List (Nat × Value)) (r : Int64) (σ : τ), decode cc pc = .ok (.lreturn, 1) → Q r σ → V l D tys wf R nL E pc lv [.long r] σ
def RetV {τ : Type} (l : Launch) (D : va_G) (tys : List (ClassId × FieldType)) (wf : τ → va_W) (R : Room) (nL : Nat) (E : XE) (cc : ByteArray) (Q : τ → Prop) : Prop :=
  ∀ (pc : Nat) (lv : List (Nat × Value)) (σ : τ), decode cc pc = .ok (.return_, 1) → Q σ → V l D tys wf R nL E pc lv [] σ
def RetA {τ : Type} (l : Launch) (D : va_G) (tys : List (ClassId × FieldType)) (wf : τ → va_W) (ad : Nat → Nat) (R : Room) (nL : Nat) (E : XE) (cc : ByteArray) (Q : Nat → τ → Prop) : Prop :=
  ∀ (pc : Nat) (lv : List (Nat × Value)) (q : Nat) (σ : τ), decode cc pc = .ok (.areturn, 1) → Q q σ → V l D tys wf R nL E pc lv [.ref (ad q)] σ
section XC
variable {τ : Type} {l : Launch} {D : va_G} {tys : List (ClassId × FieldType)} {wf : τ → va_W}
theorem PcX.blind {as : List Value} {σ : τ} {sz : Nat} : FrameBlind (PcX D tys wf as σ sz) := fun a U g mk q => by
  obtain ⟨q0, q1, qP, qK, qD, qN⟩ := q
  exact ⟨q0, q1, qP, va_K.moved (u := U) (U := U.calling g mk a) (Vm.Alike.refl U.vm) qK, qD, NW.same (u := U) (U := U.calling g mk a) rfl qN⟩
theorem x_entry (hA : wAdr wf) {y : MethodName} {ws ws' : List Cond} {rm : Room} {cc : ByteArray} {maxL : Nat} {ret : Option FieldType} {as : List Value} {σ : τ} {lv : List (Nat × Value)} {Qc : Array Value → State → Outcome → State → Prop} {sz : Nat}
    (hy : plainName y.cls = true) (hw : ws = Cond.code y cc maxL ret :: ws') (hlen : (lg_sl as).length ≤ maxL) (hlv : lv_args 0 as = lv) (hrc : rm.cells = 0) (hrs : rm.slots = 0)
    (body : ∀ E : XE, XFix D tys wf rm maxL E cc y.cls ws → (xme E).sig.returnType = ret → (xme E).locks = false → xcs E = 0 → xsl E = 0 → xA E = va_A (wf σ) (xs E).heap.size → (xs E).heap.size = sz → xQ E = MQ (xb E) Qc (xa E) (xs E) 0 0 (va_A (wf σ) sz) → V l D tys wf rm maxL E 0 lv [] σ) :
    Met l y ws rm (PcX D tys wf as σ sz) Qc 0 0 (va_A (wf σ) sz) := by
  refine Met.ofW (cc := cc) (maxL := maxL) (ret := ret) hy hw ?_
  intro p e s m args below meth c s₁ B hml hv
  obtain ⟨rfl, hsz, hP, hK, hD0, hN⟩ := hv
  have hts := atoms_spec (ws := ws) B.pre
  have hown : s.vm.findClass y.cls = some m.cls := findClass_of_methodNamed B.named
  have hl := lv_entry as (n := maxL) hlen
  rw [lg_entry_eq]
  have hb := body ((p, e, s, m), (as.toArray, below, meth, c), va_A (wf σ) s.heap.size, MQ below Qc as.toArray s 0 0 (va_A (wf σ) sz), (0, 0))
    ⟨⟨B.exec, B.bytes, hml, hown, hts⟩, hK, fun σ' => hA.D (hD0.self (sz := s.heap.size)) σ', fun q h => Or.inr h, by rw [hrc]; exact Nat.le_refl 0, by rw [hrs]; exact Nat.le_refl 0, hN⟩ B.returns B.notSynchronized rfl rfl rfl hsz rfl
  exact hb s.heap [] _ hP va_S.rf (hlv ▸ hl)
theorem BX.at {E : XE} {cc : ByteArray} {own : String} {Ts : List Cond} {R : Room} {nL : Nat} (C : XFix D tys wf R nL E cc own Ts) {H : Heap} {σ : τ} (hP : va_P D vwCl (wf σ) H) {t : State} (ht : t.heap = H) (hW : (xs E).WarmedH t.vm) : BX D tys wf σ t := ⟨by rw [ht]; exact hP, va_K.moved hW.alike C.2.1⟩
theorem CtI.of (hA : wAdr wf) {y : MethodName} {ws ws' : List Cond} {rm : Room} {cc : ByteArray} {maxL : Nat} {as : List Value} {σ : τ} {Q : Int32 → τ → Prop} (lv : List (Nat × Value)) (own : String)
    (hy : plainName y.cls = true) (ho : y.cls = own) (hw : ws = Cond.code y cc maxL (some .int) :: ws') (hlen : (lg_sl as).length ≤ maxL) (hlv : lv_args 0 as = lv) (hrc : rm.cells = 0) (hrs : rm.slots = 0)
    (body : ∀ E : XE, XFix D tys wf rm maxL E cc own ws → RetI l D tys wf rm maxL E cc Q → V l D tys wf rm maxL E 0 lv [] σ) : CtI l D tys wf y ws rm as σ Q := by
  intro sz
  subst ho
  refine x_entry hA hy hw hlen hlv hrc hrs (fun E C hr hlk hc hsl hAe hsz hQ => body E C ?_)
  intro pc lv r σ' hd hq H locs ls hP hS hl
  rw [hQ, hc, hsl]
  refine W.iret C.1.1 C.1.2.1 hr (fun t ht hW => ⟨⟨r, σ', rfl, hq, BX.at C hP ht hW⟩, ?_⟩) ?_ hd hlk
  · rw [← hsz, ← hAe]; exact hS.2.2
  · rw [← hsz, ← hAe]; exact hS.F ht
theorem CtI.ofZ (hA : wAdr wf) {y : MethodName} {ws ws' : List Cond} {rm : Room} {cc : ByteArray} {maxL : Nat} {as : List Value} {σ : τ} {Q : Int32 → τ → Prop} (lv : List (Nat × Value)) (own : String)
    (hy : plainName y.cls = true) (ho : y.cls = own) (hw : ws = Cond.code y cc maxL (some .boolean) :: ws') (hlen : (lg_sl as).length ≤ maxL) (hlv : lv_args 0 as = lv) (hrc : rm.cells = 0) (hrs : rm.slots = 0)
    (body : ∀ E : XE, XFix D tys wf rm maxL E cc own ws → RetZ l D tys wf rm maxL E cc Q → V l D tys wf rm maxL E 0 lv [] σ) : CtI l D tys wf y ws rm as σ Q := by
  intro sz
  subst ho
  refine x_entry hA hy hw hlen hlv hrc hrs (fun E C hr hlk hc hsl hAe hsz hQ => body E C ?_)
  intro pc lv r σ' hd h01 hq H locs ls hP hS hl
  rw [hQ, hc, hsl]
  refine W.zret C.1.1 C.1.2.1 hr (by rcases h01 with h | h <;> subst h <;> rfl) (fun t ht hW => ⟨⟨r, σ', rfl, hq, BX.at C hP ht hW⟩, ?_⟩) ?_ hd hlk
  · rw [← hsz, ← hAe]; exact hS.2.2
  · rw [← hsz, ← hAe]; exact hS.F ht
theorem CtL.of (hA : wAdr wf) {y : MethodName} {ws ws' : List Cond} {rm : Room} {cc : ByteArray} {maxL : Nat} {as : List Value} {σ : τ} {Q : Int64 → τ → Prop} (lv : List (Nat × Value)) (own : String)
    (hy : plainName y.cls = true) (ho : y.cls = own) (hw : ws = Cond.code y cc maxL (some .long) :: ws') (hlen : (lg_sl as).length ≤ maxL) (hlv : lv_args 0 as = lv) (hrc : rm.cells = 0) (hrs : rm.slots = 0)
    (body : ∀ E : XE, XFix D tys wf rm maxL E cc own ws → RetL l D tys wf rm maxL E cc Q → V l D tys wf rm maxL E 0 lv [] σ) : CtL l D tys wf y ws rm as σ Q := by
  intro sz
  subst ho
  refine x_entry hA hy hw hlen hlv hrc hrs (fun E C hr hlk hc hsl hAe hsz hQ => body E C ?_)
  intro pc lv r σ' hd hq H locs ls hP hS hl
  rw [hQ, hc, hsl]
  refine W.lret C.1.1 C.1.2.1 hr (fun t ht hW => ⟨⟨r, σ', rfl, hq, BX.at C hP ht hW⟩, ?_⟩) ?_ hd hlk
  · rw [← hsz, ← hAe]; exact hS.2.2
  · rw [← hsz, ← hAe]; exact hS.F ht
theorem CtV.of (hA : wAdr wf) {y : MethodName} {ws ws' : List Cond} {rm : Room} {cc : ByteArray} {maxL : Nat} {as : List Value} {σ : τ} {Q : τ → Prop} (lv : List (Nat × Value)) (own : String)
    (hy : plainName y.cls = true) (ho : y.cls = own) (hw : ws = Cond.code y cc maxL none :: ws') (hlen : (lg_sl as).length ≤ maxL) (hlv : lv_args 0 as = lv) (hrc : rm.cells = 0) (hrs : rm.slots = 0)
    (body : ∀ E : XE, XFix D tys wf rm maxL E cc own ws → RetV l D tys wf rm maxL E cc Q → V l D tys wf rm maxL E 0 lv [] σ) : CtV l D tys wf y ws rm as σ Q := by
  intro sz
  subst ho
  refine x_entry hA hy hw hlen hlv hrc hrs (fun E C hr hlk hc hsl hAe hsz hQ => body E C ?_)
  intro pc lv σ' hd hq H locs ls hP hS hl
  rw [hQ, hc, hsl]
  refine W.vret C.1.1 C.1.2.1 hr (fun t ht hW => ⟨⟨σ', rfl, hq, BX.at C hP ht hW⟩, ?_⟩) ?_ hd hlk
  · rw [← hsz, ← hAe]; exact hS.2.2
  · rw [← hsz, ← hAe]; exact hS.F ht
theorem CtA.of (hA : wAdr wf) {ad : Nat → Nat} {y : MethodName} {ws ws' : List Cond} {rm : Room} {cc : ByteArray} {maxL : Nat} {as : List Value} {σ : τ} {Q : Nat → τ → Prop} {rn : String} (lv : List (Nat × Value)) (own : String)
    (hy : plainName y.cls = true) (ho : y.cls = own) (hw : ws = Cond.code y cc maxL (some (.object rn)) :: ws') (hlen : (lg_sl as).length ≤ maxL) (hlv : lv_args 0 as = lv) (hrc : rm.cells = 0) (hrs : rm.slots = 0)
    (body : ∀ E : XE, XFix D tys wf rm maxL E cc own ws → RetA l D tys wf ad rm maxL E cc Q → V l D tys wf rm maxL E 0 lv [] σ) : CtA l D tys wf ad y ws rm as σ Q := by
  intro sz
  subst ho
  refine x_entry hA hy hw hlen hlv hrc hrs (fun E C hr hlk hc hsl hAe hsz hQ => body E C ?_)
  intro pc lv q σ' hd hq H locs ls hP hS hl
  rw [hQ, hc, hsl]
  refine W.aret (v := .ref (ad q)) C.1.1 C.1.2.1 hr (Or.inl ⟨rn, rfl⟩) (Or.inr ⟨_, rfl⟩) (fun t ht hW => ⟨⟨(σ', q), ad q, rfl, hq, rfl, BX.at C hP ht hW⟩, ?_⟩) ?_ hd hlk
  · rw [← hsz, ← hAe]; exact hS.2.2
  · rw [← hsz, ← hAe]; exact hS.F ht
section CALLS
variable {R : Room} {nL : Nat} {E : XE} {cc : ByteArray} {own : String} {Ts : List Cond} {a b : Nat} {lv : List (Nat × Value)} {rest st : List Value} {σ : τ}
theorem x_inA (C : XFix D tys wf R nL E cc own Ts) {H : Heap} {locs : List Loc} (hS : va_S (xA E) (xs E).heap H locs) {q : Nat} (h : va_A (wf σ) H.size q) : xA E q := by
  rcases h with ⟨k, e, hk⟩ | h
  · exact (C.2.2.1 σ).2 k _ hk
  · exact C.2.2.2.1 q (Nat.le_trans hS.1 h)
theorem x_pre (C : XFix D tys wf R nL E cc own Ts) {H : Heap} (hP : va_P D vwCl (wf σ) H) {as : List Value} (U : State) (hU : U.heap = H) (hW : (xs E).WarmedH U.vm) : PcX D tys wf as σ H.size as.toArray U :=
  ⟨rfl, by rw [hU], by rw [hU]; exact hP, va_K.moved hW.alike C.2.1, (C.2.2.1 σ).weaken (fun _ _ _ _ => trivial), NW.warm hW C.2.2.2.2.2.2⟩
theorem x_room (C : XFix D tys wf R nL E cc own Ts) : xcs E + 0 ≤ R.cells ∧ xsl E + 0 ≤ R.slots := ⟨C.2.2.2.2.1, C.2.2.2.2.2.1⟩
/-- a receiver: a cell of the world -/
def Rcv (ws : va_W) (p : Nat) (Cn : String) : Prop := ∃ (q0 ci : Nat) (fs : List Value) (T : u_T) (N : Nat), ws[q0]? = some (p, .inr (ci, fs)) ∧ vwCl[ci]? = some (Cn, T, N)
theorem Rcv.use (C : XFix D tys wf R nL E cc own Ts) {H : Heap} (hP : va_P D vwCl (wf σ) H) {p : Nat} {Cn : String} (h : Rcv (wf σ) p Cn) : ∃ cell : Cell, H[p]? = some cell ∧ cell.vm.isStatics = false ∧ (xs E).vm.findClass Cn = some cell.cls := by
  obtain ⟨q0, ci, fs, T, N, h1, h2⟩ := h
  exact va_recv C.2.1 hP h2 h1
variable {y : MethodName} {ws ws' : List Cond} {rm : Room} {bytes : ByteArray} {maxL index n p : Nat} {As : List Value} {Cn : String} {ret : Option FieldType}
theorem x_cVI (C : XFix D tys wf R nL E cc own Ts) (b : Nat) (hb : a + 3 = b) {Q : Int32 → τ → Prop} (hc : CtI l D tys wf y ws rm (.ref p :: As) σ Q) (cw : CallW R (xs E) (xa E) own Cn index y bytes maxL ret ws rm 0 0 n) (hrv : Rcv (wf σ) p Cn) (hn : As.length = n) (hst : st = As.reverse ++ .ref p :: rest) (hro : (rest.map fun v => v.category).sum ≤ 8) (hd : decode cc a = .ok (.invokevirtual index, 3))
    (kk : ∀ r σ', Q r σ' → V l D tys wf R nL E b lv (.int r :: rest) σ') : V l D tys wf R nL E a lv st σ := by
  subst hb; intro H locs ls hP hS hl
  exact va_calli (va_runV C.1 (hc H.size) cw ⟨PcX.blind, hrv.use C hP, x_pre C hP⟩ rfl hn hl.1 hst (lv_room hro) hd (x_room C)) hS (fun q _ h => x_inA C hS h) (fun q h => x_inA C hS h) (fun r u t H1 locs1 ht hvm hq hB hz hk hS1 => kk r u hq H1 locs1 ls (by rw [← ht]; exact hB.1) hS1 hl)
theorem x_cVL (C : XFix D tys wf R nL E cc own Ts) (b : Nat) (hb : a + 3 = b) {Q : Int64 → τ → Prop} (hc : CtL l D tys wf y ws rm (.ref p :: As) σ Q) (cw : CallW R (xs E) (xa E) own Cn index y bytes maxL ret ws rm 0 0 n) (hrv : Rcv (wf σ) p Cn) (hn : As.length = n) (hst : st = As.reverse ++ .ref p :: rest) (hro : (rest.map fun v => v.category).sum ≤ 8) (hd : decode cc a = .ok (.invokevirtual index, 3))
    (kk : ∀ r σ', Q r σ' → V l D tys wf R nL E b lv (.long r :: rest) σ') : V l D tys wf R nL E a lv st σ := by
  subst hb; intro H locs ls hP hS hl
  exact va_calll (va_runV C.1 (hc H.size) cw ⟨PcX.blind, hrv.use C hP, x_pre C hP⟩ rfl hn hl.1 hst (lv_room hro) hd (x_room C)) hS (fun q _ h => x_inA C hS h) (fun q h => x_inA C hS h) (fun r u t H1 locs1 ht hvm hq hB hz hk hS1 => kk r u hq H1 locs1 ls (by rw [← ht]; exact hB.1) hS1 hl)
theorem x_cVV (C : XFix D tys wf R nL E cc own Ts) (b : Nat) (hb : a + 3 = b) {Q : τ → Prop} (hc : CtV l D tys wf y ws rm (.ref p :: As) σ Q) (cw : CallW R (xs E) (xa E) own Cn index y bytes maxL ret ws rm 0 0 n) (hrv : Rcv (wf σ) p Cn) (hn : As.length = n) (hst : st = As.reverse ++ .ref p :: rest) (hro : (rest.map fun v => v.category).sum ≤ 8) (hd : decode cc a = .ok (.invokevirtual index, 3))
    (kk : ∀ σ', Q σ' → V l D tys wf R nL E b lv rest σ') : V l D tys wf R nL E a lv st σ := by
  subst hb; intro H locs ls hP hS hl
  exact va_callv (va_runV C.1 (hc H.size) cw ⟨PcX.blind, hrv.use C hP, x_pre C hP⟩ rfl hn hl.1 hst (lv_room hro) hd (x_room C)) hS (fun q _ h => x_inA C hS h) (fun q h => x_inA C hS h) (fun u t H1 locs1 ht hvm hq hB hz hk hS1 => kk u hq H1 locs1 ls (by rw [← ht]; exact hB.1) hS1 hl)
theorem x_cVA (C : XFix D tys wf R nL E cc own Ts) (b : Nat) (hb : a + 3 = b) {ad : Nat → Nat} {Q : Nat → τ → Prop} (hc : CtA l D tys wf ad y ws rm (.ref p :: As) σ Q) (cw : CallW R (xs E) (xa E) own Cn index y bytes maxL ret ws rm 0 0 n) (hrv : Rcv (wf σ) p Cn) (hn : As.length = n) (hst : st = As.reverse ++ .ref p :: rest) (hro : (rest.map fun v => v.category).sum ≤ 8) (hd : decode cc a = .ok (.invokevirtual index, 3))
    (kk : ∀ q σ', Q q σ' → V l D tys wf R nL E b lv (.ref (ad q) :: rest) σ') : V l D tys wf R nL E a lv st σ := by
  subst hb; intro H locs ls hP hS hl
  exact va_callr (va_runV C.1 (hc H.size) cw ⟨PcX.blind, hrv.use C hP, x_pre C hP⟩ rfl hn hl.1 hst (lv_room hro) hd (x_room C)) hS (fun q _ h => x_inA C hS h) (fun q h => x_inA C hS h) (fun u q t H1 locs1 ht hvm hq hB hz hk hS1 => by
    obtain ⟨rfl, hB⟩ := hB
    exact kk u.2 u.1 hq H1 locs1 ls (by rw [← ht]; exact hB.1) hS1 hl)
theorem x_cSI (C : XFix D tys wf R nL E cc own Ts) (b : Nat) (hb : a + 3 = b) {Q : Int32 → τ → Prop} (hc : CtI l D tys wf y ws rm As σ Q) (cw : CallB R (xs E) (xa E) own index y bytes maxL ret ws rm 0 0 n ∧ (Cond.static y).before (xa E) (xs E) = true) (hn : As.length = n) (hst : st = As.reverse ++ rest) (hro : (rest.map fun v => v.category).sum ≤ 8) (hd : decode cc a = .ok (.invokestatic index, 3))
    (kk : ∀ r σ', Q r σ' → V l D tys wf R nL E b lv (.int r :: rest) σ') : V l D tys wf R nL E a lv st σ := by
  subst hb; intro H locs ls hP hS hl
  exact va_calli (va_runS C.1 (hc H.size) cw ⟨PcX.blind, x_pre C hP⟩ rfl hn hl.1 hst (lv_room hro) hd (x_room C)) hS (fun q _ h => x_inA C hS h) (fun q h => x_inA C hS h) (fun r u t H1 locs1 ht hvm hq hB hz hk hS1 => kk r u hq H1 locs1 ls (by rw [← ht]; exact hB.1) hS1 hl)
theorem x_cSL (C : XFix D tys wf R nL E cc own Ts) (b : Nat) (hb : a + 3 = b) {Q : Int64 → τ → Prop} (hc : CtL l D tys wf y ws rm As σ Q) (cw : CallB R (xs E) (xa E) own index y bytes maxL ret ws rm 0 0 n ∧ (Cond.static y).before (xa E) (xs E) = true) (hn : As.length = n) (hst : st = As.reverse ++ rest) (hro : (rest.map fun v => v.category).sum ≤ 8) (hd : decode cc a = .ok (.invokestatic index, 3))
    (kk : ∀ r σ', Q r σ' → V l D tys wf R nL E b lv (.long r :: rest) σ') : V l D tys wf R nL E a lv st σ := by
  subst hb; intro H locs ls hP hS hl
  exact va_calll (va_runS C.1 (hc H.size) cw ⟨PcX.blind, x_pre C hP⟩ rfl hn hl.1 hst (lv_room hro) hd (x_room C)) hS (fun q _ h => x_inA C hS h) (fun q h => x_inA C hS h) (fun r u t H1 locs1 ht hvm hq hB hz hk hS1 => kk r u hq H1 locs1 ls (by rw [← ht]; exact hB.1) hS1 hl)
theorem x_cSV (C : XFix D tys wf R nL E cc own Ts) (b : Nat) (hb : a + 3 = b) {Q : τ → Prop} (hc : CtV l D tys wf y ws rm As σ Q) (cw : CallB R (xs E) (xa E) own index y bytes maxL ret ws rm 0 0 n ∧ (Cond.static y).before (xa E) (xs E) = true) (hn : As.length = n) (hst : st = As.reverse ++ rest) (hro : (rest.map fun v => v.category).sum ≤ 8) (hd : decode cc a = .ok (.invokestatic index, 3))
    (kk : ∀ σ', Q σ' → V l D tys wf R nL E b lv rest σ') : V l D tys wf R nL E a lv st σ := by
  subst hb; intro H locs ls hP hS hl
  exact va_callv (va_runS C.1 (hc H.size) cw ⟨PcX.blind, x_pre C hP⟩ rfl hn hl.1 hst (lv_room hro) hd (x_room C)) hS (fun q _ h => x_inA C hS h) (fun q h => x_inA C hS h) (fun u t H1 locs1 ht hvm hq hB hz hk hS1 => kk u hq H1 locs1 ls (by rw [← ht]; exact hB.1) hS1 hl)
/-- nest mates' static methods -/
theorem x_cNI (C : XFix D tys wf R nL E cc own Ts) (b : Nat) (hb : a + 3 = b) {host : String} {Q : Int32 → τ → Prop} (hc : CtI l D tys wf y ws rm As σ Q) (cw : va_CN R (xs E) (xa E) own index y host bytes maxL ret ws rm 0 0 n) (hstt : (Cond.static y).before (xa E) (xs E) = true) (hn : As.length = n) (hst : st = As.reverse ++ rest) (hro : (rest.map fun v => v.category).sum ≤ 8) (hd : decode cc a = .ok (.invokestatic index, 3))
    (kk : ∀ r σ', Q r σ' → V l D tys wf R nL E b lv (.int r :: rest) σ') : V l D tys wf R nL E a lv st σ := by
  subst hb; intro H locs ls hP hS hl
  exact va_calli (va_runSN C.1 (hc H.size) ⟨cw, hstt, trivial⟩ ⟨PcX.blind, x_pre C hP⟩ rfl hn hl.1 hst (lv_room hro) hd (x_room C)) hS (fun q _ h => x_inA C hS h) (fun q h => x_inA C hS h) (fun r u t H1 locs1 ht hvm hq hB hz hk hS1 => kk r u hq H1 locs1 ls (by rw [← ht]; exact hB.1) hS1 hl)
theorem x_cNV (C : XFix D tys wf R nL E cc own Ts) (b : Nat) (hb : a + 3 = b) {host : String} {Q : τ → Prop} (hc : CtV l D tys wf y ws rm As σ Q) (cw : va_CN R (xs E) (xa E) own index y host bytes maxL ret ws rm 0 0 n) (hstt : (Cond.static y).before (xa E) (xs E) = true) (hn : As.length = n) (hst : st = As.reverse ++ rest) (hro : (rest.map fun v => v.category).sum ≤ 8) (hd : decode cc a = .ok (.invokestatic index, 3))
    (kk : ∀ σ', Q σ' → V l D tys wf R nL E b lv rest σ') : V l D tys wf R nL E a lv st σ := by
  subst hb; intro H locs ls hP hS hl
  exact va_callv (va_runSN C.1 (hc H.size) ⟨cw, hstt, trivial⟩ ⟨PcX.blind, x_pre C hP⟩ rfl hn hl.1 hst (lv_room hro) hd (x_room C)) hS (fun q _ h => x_inA C hS h) (fun q h => x_inA C hS h) (fun u t H1 locs1 ht hvm hq hB hz hk hS1 => kk u hq H1 locs1 ls (by rw [← ht]; exact hB.1) hS1 hl)
end CALLS
end XC
