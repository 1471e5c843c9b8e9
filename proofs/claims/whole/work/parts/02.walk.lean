/-! ===== THE WALK OVER A WORLD THAT IS A FUNCTION OF A STATE: V, its rows, contracts ===== -/
/-- int fields by (place, slot), long fields, int arrays by place, long arrays by place -/
abbrev ST : Type := (Nat → Nat → Int32) × (Nat → Nat → Int64) × (Nat → Nat → Int32) × (Nat → Nat → Int64)
def sI (σ : ST) (q k : Nat) (v : Int32) : ST := (fun a b => if a = q ∧ b = k then v else σ.1 a b, σ.2.1, σ.2.2.1, σ.2.2.2)
def sL (σ : ST) (q k : Nat) (v : Int64) : ST := (σ.1, fun a b => if a = q ∧ b = k then v else σ.2.1 a b, σ.2.2.1, σ.2.2.2)
def sR (σ : ST) (q i : Nat) (v : Int32) : ST := (σ.1, σ.2.1, fun a => if a = q then upd (σ.2.2.1 a) i v else σ.2.2.1 a, σ.2.2.2)
def sJ (σ : ST) (q i : Nat) (v : Int64) : ST := (σ.1, σ.2.1, σ.2.2.1, fun a => if a = q then vp_updL (σ.2.2.2 a) i v else σ.2.2.2 a)
abbrev XE : Type := (Program × Env × State × MethodId) × (Array Value × List Frame × Method × Code) × (Nat → Prop) × (State → Prop) × (Nat × Nat)
abbrev xp (E : XE) : Program := E.1.1
abbrev xe (E : XE) : Env := E.1.2.1
abbrev xs (E : XE) : State := E.1.2.2.1
abbrev xm (E : XE) : MethodId := E.1.2.2.2
abbrev xa (E : XE) : Array Value := E.2.1.1
abbrev xb (E : XE) : List Frame := E.2.1.2.1
abbrev xme (E : XE) : Method := E.2.1.2.2.1
abbrev xc (E : XE) : Code := E.2.1.2.2.2
abbrev xA (E : XE) : Nat → Prop := E.2.2.1
abbrev xQ (E : XE) : State → Prop := E.2.2.2.1
abbrev xcs (E : XE) : Nat := E.2.2.2.2.1
abbrev xsl (E : XE) : Nat := E.2.2.2.2.2
/-- calls between nest mates' own members -/
def NW (U : State) : Prop := va_Nw (.methodLinkNest RX1 40 yX4_wallIn RX4) U ∧ va_Nw (.methodLinkNest RX4 166 yX3_grow RX4) U ∧ va_Nw (.methodLinkNest RX3 39 yX4_mostBy RX4) U ∧ va_Nw (.methodLinkNest RX4 29 yX1_init RX4) U ∧ va_Nw (.methodLinkNest RX4 34 yX2_init RX4) U ∧ va_Nw (.methodLinkNest RX4 35 yX0_init RX4) U ∧ va_Nw (.fieldLinkNest RX0 43 RX1 (TX1 4).2.1 (TX1 4).2.2.1 RX4) U
theorem NW.warm {s U : State} (hW : s.WarmedH U.vm) (h : NW s) : NW U := ⟨h.1.warmM hW, h.2.1.warmM hW, h.2.2.1.warmM hW, h.2.2.2.1.warmM hW, h.2.2.2.2.1.warmM hW, h.2.2.2.2.2.1.warmM hW, h.2.2.2.2.2.2.warmF hW⟩
theorem NW.same {u U : State} (hv : u.vm = U.vm) (h : NW u) : NW U := ⟨h.1.same rfl hv, h.2.1.same rfl hv, h.2.2.1.same rfl hv, h.2.2.2.1.same rfl hv, h.2.2.2.2.1.same rfl hv, h.2.2.2.2.2.1.same rfl hv, h.2.2.2.2.2.2.same rfl hv⟩
def V {τ : Type} (l : Launch) (D : va_G) (tys : List (ClassId × FieldType)) (wf : τ → va_W) (R : Room) (nL : Nat) (E : XE) (pc : Nat) (lv : List (Nat × Value)) (st : List Value) (σ : τ) : Prop :=
  ∀ (H : Heap) (locs : List Loc) (ls : Array Slot), va_P D vwCl (wf σ) H → va_S (xA E) (xs E).heap H locs → lv_has ls nL lv → W (xp E) l (xe E) R (xs E) (xm E) (xa E) (xb E) (xme E) (xc E) H locs (xcs E) (xsl E) (xQ E) (F0 (xm E) pc ls st)
def XFix {τ : Type} (D : va_G) (tys : List (ClassId × FieldType)) (wf : τ → va_W) (R : Room) (nL : Nat) (E : XE) (cc : ByteArray) (own : String) (Ts : List Cond) : Prop :=
  CallFix (xp E) (xm E) (xc E) cc nL (xs E) (xa E) Ts own ∧ va_K D vwCl tys (xs E) ∧ (∀ σ, va_D (xA E) (wf σ)) ∧ (∀ q, (xs E).heap.size ≤ q → xA E q) ∧ xcs E ≤ R.cells ∧ xsl E ≤ R.slots ∧ NW (xs E)
def wAdr {τ : Type} (wf : τ → va_W) : Prop := ∀ σ σ' : τ, (wf σ).map (fun q => q.1) = (wf σ').map (fun q => q.1)
theorem wAdr.at {τ : Type} {wf : τ → va_W} (h : wAdr wf) (σ σ' : τ) {k : Nat} {q : Nat × va_E} (hk : (wf σ)[k]? = some q) : ∃ e, (wf σ')[k]? = some (q.1, e) := by
  have h1 : ((wf σ).map (fun q => q.1))[k]? = some q.1 := by rw [List.getElem?_map, hk]; rfl
  rw [h σ σ', List.getElem?_map] at h1
  cases h2 : (wf σ')[k]? with
  | none => rw [h2] at h1; cases h1
  | some r =>
    rw [h2] at h1
    have h3 : r.1 = q.1 := Option.some.inj h1
    exact ⟨r.2, by rw [← h3]⟩
theorem wAdr.D {τ : Type} {wf : τ → va_W} (h : wAdr wf) {A : Nat → Prop} {σ : τ} (hD : va_D A (wf σ)) (σ' : τ) : va_D A (wf σ') := by
  refine ⟨fun i j p q hp hq e => ?_, fun k q hq => ?_⟩
  · obtain ⟨e1, h1⟩ := h.at σ' σ hp
    obtain ⟨e2, h2⟩ := h.at σ' σ hq
    exact hD.1 i j _ _ h1 h2 e
  · obtain ⟨e1, h1⟩ := h.at σ' σ hq
    exact hD.2 k (q.1, e1) h1
theorem wAdr.A {τ : Type} {wf : τ → va_W} (h : wAdr wf) {σ : τ} (σ' : τ) {sz q : Nat} (hq : va_A (wf σ) sz q) : va_A (wf σ') sz q := by
  rcases hq with ⟨k, e, hk⟩ | hq
  · obtain ⟨e1, h1⟩ := h.at σ σ' hk
    exact Or.inl ⟨k, e1, h1⟩
  · exact Or.inr hq
/-- a contract's start over a world -/
def PcX {τ : Type} (D : va_G) (tys : List (ClassId × FieldType)) (wf : τ → va_W) (as : List Value) (σ : τ) (sz : Nat) : Array Value → State → Prop :=
  va_Pc as (fun U => U.heap.size = sz ∧ va_P D vwCl (wf σ) U.heap ∧ va_K D vwCl tys U ∧ va_D (fun _ => True) (wf σ) ∧ NW U)
abbrev BX {τ : Type} (D : va_G) (tys : List (ClassId × FieldType)) (wf : τ → va_W) : τ → State → Prop := fun σ t => va_P D vwCl (wf σ) t.heap ∧ va_K D vwCl tys t
def CtI {τ : Type} (l : Launch) (D : va_G) (tys : List (ClassId × FieldType)) (wf : τ → va_W) (y : MethodName) (ws : List Cond) (rm : Room) (as : List Value) (σ : τ) (Q : Int32 → τ → Prop) : Prop :=
  ∀ sz, Met l y ws rm (PcX D tys wf as σ sz) (va_Qi Q (BX D tys wf) (va_A (wf σ) sz)) 0 0 (va_A (wf σ) sz)
def CtL {τ : Type} (l : Launch) (D : va_G) (tys : List (ClassId × FieldType)) (wf : τ → va_W) (y : MethodName) (ws : List Cond) (rm : Room) (as : List Value) (σ : τ) (Q : Int64 → τ → Prop) : Prop :=
  ∀ sz, Met l y ws rm (PcX D tys wf as σ sz) (va_Ql Q (BX D tys wf) (va_A (wf σ) sz)) 0 0 (va_A (wf σ) sz)
def CtV {τ : Type} (l : Launch) (D : va_G) (tys : List (ClassId × FieldType)) (wf : τ → va_W) (y : MethodName) (ws : List Cond) (rm : Room) (as : List Value) (σ : τ) (Q : τ → Prop) : Prop :=
  ∀ sz, Met l y ws rm (PcX D tys wf as σ sz) (va_Qv Q (BX D tys wf) (va_A (wf σ) sz)) 0 0 (va_A (wf σ) sz)
/-- an answer that is a cell of the world: by its place -/
def CtA {τ : Type} (l : Launch) (D : va_G) (tys : List (ClassId × FieldType)) (wf : τ → va_W) (ad : Nat → Nat) (y : MethodName) (ws : List Cond) (rm : Room) (as : List Value) (σ : τ) (Q : Nat → τ → Prop) : Prop :=
  ∀ sz, Met l y ws rm (PcX D tys wf as σ sz) (va_Qr (S := τ × Nat) (fun u => Q u.2 u.1) (fun u a t => a = ad u.2 ∧ BX D tys wf u.1 t) (va_A (wf σ) sz)) 0 0 (va_A (wf σ) sz)
theorem tne {x c : Int32} (h : ¬ x = c) {k : Int} (hk : c.toInt = k) : x.toInt ≠ k := fun e => h (Int32.toInt_inj.mp (e.trans hk.symm))
section XV
variable {τ : Type} {l : Launch} {D : va_G} {tys : List (ClassId × FieldType)} {wf : τ → va_W} {R : Room} {nL : Nat} {E : XE} {cc : ByteArray} {own : String} {Ts : List Cond} {a b : Nat} {lv : List (Nat × Value)} {rest : List Value} {σ : τ}
theorem x_top {x y : Int32} (h : x = y) (k : V l D tys wf R nL E a lv (.int y :: rest) σ) : V l D tys wf R nL E a lv (.int x :: rest) σ := h ▸ k
theorem x_ni {x : Int32} (k : ∀ y : Int32, y = x → V l D tys wf R nL E a lv (.int y :: rest) σ) : V l D tys wf R nL E a lv (.int x :: rest) σ := k x rfl
theorem x_nl {x : Int64} (k : ∀ y : Int64, y = x → V l D tys wf R nL E a lv (.long y :: rest) σ) : V l D tys wf R nL E a lv (.long x :: rest) σ := k x rfl
theorem x_sub {lv' : List (Nat × Value)} (ks : List Nat) (h : lv_pick lv ks = lv') (k : V l D tys wf R nL E a lv' rest σ) : V l D tys wf R nL E a lv rest σ := fun H locs ls hP hS hl => k H locs ls hP hS (lv_sub hl ks h)
theorem x_iconst (C : XFix D tys wf R nL E cc own Ts) (b : Nat) (hb : a + 1 = b) {n : Int} (v : Int32) (hd : decode cc a = .ok (.iconst n, 1)) (hv : Int32.ofInt n = v) (k : V l D tys wf R nL E b lv (.int v :: rest) σ) : V l D tys wf R nL E a lv rest σ := by
  subst hb; exact fun H locs ls hP hS hl => lv_iconst C.1.1 C.1.2.1 hd hv (k H locs ls hP hS hl)
theorem x_bipush (C : XFix D tys wf R nL E cc own Ts) (b : Nat) (hb : a + 2 = b) {n : Int} (v : Int32) (hd : decode cc a = .ok (.bipush n, 2)) (hv : (Int8.ofInt n).toInt32 = v) (k : V l D tys wf R nL E b lv (.int v :: rest) σ) : V l D tys wf R nL E a lv rest σ := by
  subst hb; exact fun H locs ls hP hS hl => lv_bipush C.1.1 C.1.2.1 hd hv (k H locs ls hP hS hl)
theorem x_sipush (C : XFix D tys wf R nL E cc own Ts) (b : Nat) (hb : a + 3 = b) {n : Int} (v : Int32) (hd : decode cc a = .ok (.sipush n, 3)) (hv : (Int16.ofInt n).toInt32 = v) (k : V l D tys wf R nL E b lv (.int v :: rest) σ) : V l D tys wf R nL E a lv rest σ := by
  subst hb; exact fun H locs ls hP hS hl => lv_sipush C.1.1 C.1.2.1 hd hv (k H locs ls hP hS hl)
theorem x_lconst (C : XFix D tys wf R nL E cc own Ts) (b : Nat) (hb : a + 1 = b) {n : Fin 2} (v : Int64) (hd : decode cc a = .ok (.lconst n, 1)) (hv : Int64.ofNat (n : Nat) = v) (k : V l D tys wf R nL E b lv (.long v :: rest) σ) : V l D tys wf R nL E a lv rest σ := by
  subst hb; exact fun H locs ls hP hS hl => lv_lconst C.1.1 C.1.2.1 hd hv (k H locs ls hP hS hl)
theorem x_ldc2 (C : XFix D tys wf R nL E cc own Ts) (b : Nat) (hb : a + 3 = b) {index : Nat} (v : Int64) (hm : Cond.constantLong own index v ∈ Ts) (hd : decode cc a = .ok (.ldc2_w index, 3)) (k : V l D tys wf R nL E b lv (.long v :: rest) σ) : V l D tys wf R nL E a lv rest σ := by
  subst hb; exact fun H locs ls hP hS hl => lv_ldc2 C.1.1 C.1.2.1 C.1.2.2.2.1 (C.1.2.2.2.2 _ hm) hd (k H locs ls hP hS hl)
theorem x_ldcw (C : XFix D tys wf R nL E cc own Ts) (b : Nat) (hb : a + 3 = b) {index : Nat} (v : Int32) (hm : Cond.constant own index v ∈ Ts) (hd : decode cc a = .ok (.ldc_w index, 3)) (k : V l D tys wf R nL E b lv (.int v :: rest) σ) : V l D tys wf R nL E a lv rest σ := by
  subst hb; exact fun H locs ls hP hS hl => lv_ldcw C.1.1 C.1.2.1 C.1.2.2.2.1 (C.1.2.2.2.2 _ hm) hd (k H locs ls hP hS hl)
theorem x_iload_n (C : XFix D tys wf R nL E cc own Ts) (b : Nat) (hb : a + 1 = b) {k : Fin 4} {i : Nat} (j : Nat) {x : Int32} (hd : decode cc a = .ok (.iload_n k, 1)) (hi : (k : Nat) = i) (hk : lv[j]? = some (i, .int x)) (kk : V l D tys wf R nL E b lv (.int x :: rest) σ) : V l D tys wf R nL E a lv rest σ := by
  subst hb; exact fun H locs ls hP hS hl => lv_iload_n C.1.1 C.1.2.1 hd hi (lv_at hl j hk) (kk H locs ls hP hS hl)
theorem x_iload (C : XFix D tys wf R nL E cc own Ts) (b : Nat) (hb : a + 2 = b) {i : Nat} (j : Nat) {x : Int32} (hd : decode cc a = .ok (.iload i, 2)) (hk : lv[j]? = some (i, .int x)) (kk : V l D tys wf R nL E b lv (.int x :: rest) σ) : V l D tys wf R nL E a lv rest σ := by
  subst hb; exact fun H locs ls hP hS hl => lv_iload C.1.1 C.1.2.1 hd (lv_at hl j hk) (kk H locs ls hP hS hl)
theorem x_lload_n (C : XFix D tys wf R nL E cc own Ts) (b : Nat) (hb : a + 1 = b) {k : Fin 4} {i : Nat} (j : Nat) {x : Int64} (hd : decode cc a = .ok (.lload_n k, 1)) (hi : (k : Nat) = i) (hk : lv[j]? = some (i, .long x)) (kk : V l D tys wf R nL E b lv (.long x :: rest) σ) : V l D tys wf R nL E a lv rest σ := by
  subst hb; exact fun H locs ls hP hS hl => lv_lload_n C.1.1 C.1.2.1 hd hi (lv_at hl j hk) (kk H locs ls hP hS hl)
theorem x_lload (C : XFix D tys wf R nL E cc own Ts) (b : Nat) (hb : a + 2 = b) {i : Nat} (j : Nat) {x : Int64} (hd : decode cc a = .ok (.lload i, 2)) (hk : lv[j]? = some (i, .long x)) (kk : V l D tys wf R nL E b lv (.long x :: rest) σ) : V l D tys wf R nL E a lv rest σ := by
  subst hb; exact fun H locs ls hP hS hl => lv_lload C.1.1 C.1.2.1 hd (lv_at hl j hk) (kk H locs ls hP hS hl)
theorem x_aload_n (C : XFix D tys wf R nL E cc own Ts) (b : Nat) (hb : a + 1 = b) {k : Fin 4} {i : Nat} (j : Nat) {x : Nat} (hd : decode cc a = .ok (.aload_n k, 1)) (hi : (k : Nat) = i) (hk : lv[j]? = some (i, .ref x)) (kk : V l D tys wf R nL E b lv (.ref x :: rest) σ) : V l D tys wf R nL E a lv rest σ := by
  subst hb; exact fun H locs ls hP hS hl => lv_aload_n C.1.1 C.1.2.1 hd hi (lv_at hl j hk) (kk H locs ls hP hS hl)
theorem x_aload (C : XFix D tys wf R nL E cc own Ts) (b : Nat) (hb : a + 2 = b) {i : Nat} (j : Nat) {x : Nat} (hd : decode cc a = .ok (.aload i, 2)) (hk : lv[j]? = some (i, .ref x)) (kk : V l D tys wf R nL E b lv (.ref x :: rest) σ) : V l D tys wf R nL E a lv rest σ := by
  subst hb; exact fun H locs ls hP hS hl => lv_aload C.1.1 C.1.2.1 hd (lv_at hl j hk) (kk H locs ls hP hS hl)
theorem x_istore_n (C : XFix D tys wf R nL E cc own Ts) (b : Nat) (hb : a + 1 = b) {k : Fin 4} {i : Nat} {x : Int32} (lv' : List (Nat × Value)) (hd : decode cc a = .ok (.istore_n k, 1)) (hi : (k : Nat) = i) (hn : i < nL) (hl' : (i, Value.int x) :: lv.filter (fun q => !(q.1 == i) && !(q.1 + 1 == i && q.2.category == 2)) = lv') (kk : V l D tys wf R nL E b lv' rest σ) : V l D tys wf R nL E a lv (.int x :: rest) σ := by
  subst hb; exact fun H locs ls hP hS hl => lv_istore_n C.1.1 C.1.2.1 hd hi hl hn hl' (fun ls' h' => kk H locs ls' hP hS h')
theorem x_istore (C : XFix D tys wf R nL E cc own Ts) (b : Nat) (hb : a + 2 = b) {i : Nat} {x : Int32} (lv' : List (Nat × Value)) (hd : decode cc a = .ok (.istore i, 2)) (hn : i < nL) (hl' : (i, Value.int x) :: lv.filter (fun q => !(q.1 == i) && !(q.1 + 1 == i && q.2.category == 2)) = lv') (kk : V l D tys wf R nL E b lv' rest σ) : V l D tys wf R nL E a lv (.int x :: rest) σ := by
  subst hb; exact fun H locs ls hP hS hl => lv_istore C.1.1 C.1.2.1 hd hl hn hl' (fun ls' h' => kk H locs ls' hP hS h')
theorem x_lstore_n (C : XFix D tys wf R nL E cc own Ts) (b : Nat) (hb : a + 1 = b) {k : Fin 4} {i : Nat} {x : Int64} (lv' : List (Nat × Value)) (hd : decode cc a = .ok (.lstore_n k, 1)) (hi : (k : Nat) = i) (hn : i + 1 < nL) (hl' : (i, Value.long x) :: lv.filter (fun q => !(q.1 == i) && (!(q.1 == i + 1) && !(q.1 + 1 == i && q.2.category == 2))) = lv') (kk : V l D tys wf R nL E b lv' rest σ) : V l D tys wf R nL E a lv (.long x :: rest) σ := by
  subst hb; exact fun H locs ls hP hS hl => lv_lstore_n C.1.1 C.1.2.1 hd hi hl hn hl' (fun ls' h' => kk H locs ls' hP hS h')
theorem x_lstore (C : XFix D tys wf R nL E cc own Ts) (b : Nat) (hb : a + 2 = b) {i : Nat} {x : Int64} (lv' : List (Nat × Value)) (hd : decode cc a = .ok (.lstore i, 2)) (hn : i + 1 < nL) (hl' : (i, Value.long x) :: lv.filter (fun q => !(q.1 == i) && (!(q.1 == i + 1) && !(q.1 + 1 == i && q.2.category == 2))) = lv') (kk : V l D tys wf R nL E b lv' rest σ) : V l D tys wf R nL E a lv (.long x :: rest) σ := by
  subst hb; exact fun H locs ls hP hS hl => lv_lstore C.1.1 C.1.2.1 hd hl hn hl' (fun ls' h' => kk H locs ls' hP hS h')
theorem x_astore_n (C : XFix D tys wf R nL E cc own Ts) (b : Nat) (hb : a + 1 = b) {k : Fin 4} {i : Nat} {x : Nat} (lv' : List (Nat × Value)) (hd : decode cc a = .ok (.astore_n k, 1)) (hi : (k : Nat) = i) (hn : i < nL) (hl' : (i, Value.ref x) :: lv.filter (fun q => !(q.1 == i) && !(q.1 + 1 == i && q.2.category == 2)) = lv') (kk : V l D tys wf R nL E b lv' rest σ) : V l D tys wf R nL E a lv (.ref x :: rest) σ := by
  subst hb; exact fun H locs ls hP hS hl => lv_astore_n C.1.1 C.1.2.1 hd hi hl hn hl' (fun ls' h' => kk H locs ls' hP hS h')
theorem x_astore (C : XFix D tys wf R nL E cc own Ts) (b : Nat) (hb : a + 2 = b) {i : Nat} {x : Nat} (lv' : List (Nat × Value)) (hd : decode cc a = .ok (.astore i, 2)) (hn : i < nL) (hl' : (i, Value.ref x) :: lv.filter (fun q => !(q.1 == i) && !(q.1 + 1 == i && q.2.category == 2)) = lv') (kk : V l D tys wf R nL E b lv' rest σ) : V l D tys wf R nL E a lv (.ref x :: rest) σ := by
  subst hb; exact fun H locs ls hP hS hl => lv_astore C.1.1 C.1.2.1 hd hl hn hl' (fun ls' h' => kk H locs ls' hP hS h')
theorem x_iinc (C : XFix D tys wf R nL E cc own Ts) (b : Nat) (hb : a + 3 = b) {i : Nat} (j : Nat) {n : Int} {x : Int32} (v : Int32) (lv' : List (Nat × Value)) (hd : decode cc a = .ok (.iinc i n, 3)) (hk : lv[j]? = some (i, .int x)) (hv : x + Int32.ofInt n = v) (hn : i < nL) (hl' : (i, Value.int v) :: lv.filter (fun q => !(q.1 == i) && !(q.1 + 1 == i && q.2.category == 2)) = lv') (kk : V l D tys wf R nL E b lv' rest σ) : V l D tys wf R nL E a lv rest σ := by
  subst hb; exact fun H locs ls hP hS hl => lv_iinc C.1.1 C.1.2.1 hd hl hk hv hn hl' (fun ls' h' => kk H locs ls' hP hS h')
theorem x_iadd (C : XFix D tys wf R nL E cc own Ts) (b : Nat) (hb : a + 1 = b) {x y : Int32} (hd : decode cc a = .ok (.iadd, 1))  (k : V l D tys wf R nL E b lv (.int (x + y) :: rest) σ) : V l D tys wf R nL E a lv (.int y :: .int x :: rest) σ := by
  subst hb; exact fun H locs ls hP hS hl => lv_iadd C.1.1 C.1.2.1 hd  (k H locs ls hP hS hl)
theorem x_isub (C : XFix D tys wf R nL E cc own Ts) (b : Nat) (hb : a + 1 = b) {x y : Int32} (hd : decode cc a = .ok (.isub, 1))  (k : V l D tys wf R nL E b lv (.int (x - y) :: rest) σ) : V l D tys wf R nL E a lv (.int y :: .int x :: rest) σ := by
  subst hb; exact fun H locs ls hP hS hl => lv_isub C.1.1 C.1.2.1 hd  (k H locs ls hP hS hl)
theorem x_imul (C : XFix D tys wf R nL E cc own Ts) (b : Nat) (hb : a + 1 = b) {x y : Int32} (hd : decode cc a = .ok (.imul, 1))  (k : V l D tys wf R nL E b lv (.int (x * y) :: rest) σ) : V l D tys wf R nL E a lv (.int y :: .int x :: rest) σ := by
  subst hb; exact fun H locs ls hP hS hl => lv_imul C.1.1 C.1.2.1 hd  (k H locs ls hP hS hl)
theorem x_iand (C : XFix D tys wf R nL E cc own Ts) (b : Nat) (hb : a + 1 = b) {x y : Int32} (hd : decode cc a = .ok (.iand, 1))  (k : V l D tys wf R nL E b lv (.int (x &&& y) :: rest) σ) : V l D tys wf R nL E a lv (.int y :: .int x :: rest) σ := by
  subst hb; exact fun H locs ls hP hS hl => lv_iand C.1.1 C.1.2.1 hd  (k H locs ls hP hS hl)
theorem x_ior (C : XFix D tys wf R nL E cc own Ts) (b : Nat) (hb : a + 1 = b) {x y : Int32} (hd : decode cc a = .ok (.ior, 1))  (k : V l D tys wf R nL E b lv (.int (x ||| y) :: rest) σ) : V l D tys wf R nL E a lv (.int y :: .int x :: rest) σ := by
  subst hb; exact fun H locs ls hP hS hl => lv_ior C.1.1 C.1.2.1 hd  (k H locs ls hP hS hl)
theorem x_ixor (C : XFix D tys wf R nL E cc own Ts) (b : Nat) (hb : a + 1 = b) {x y : Int32} (hd : decode cc a = .ok (.ixor, 1))  (k : V l D tys wf R nL E b lv (.int (x ^^^ y) :: rest) σ) : V l D tys wf R nL E a lv (.int y :: .int x :: rest) σ := by
  subst hb; exact fun H locs ls hP hS hl => lv_ixor C.1.1 C.1.2.1 hd  (k H locs ls hP hS hl)
theorem x_idiv (C : XFix D tys wf R nL E cc own Ts) (b : Nat) (hb : a + 1 = b) {x y : Int32} (hd : decode cc a = .ok (.idiv, 1)) (hne : ¬ y = 0) (k : V l D tys wf R nL E b lv (.int (x / y) :: rest) σ) : V l D tys wf R nL E a lv (.int y :: .int x :: rest) σ := by
  subst hb; exact fun H locs ls hP hS hl => lv_idiv C.1.1 C.1.2.1 hd hne (k H locs ls hP hS hl)
theorem x_irem (C : XFix D tys wf R nL E cc own Ts) (b : Nat) (hb : a + 1 = b) {x y : Int32} (hd : decode cc a = .ok (.irem, 1)) (hne : ¬ y = 0) (k : V l D tys wf R nL E b lv (.int (x - x / y * y) :: rest) σ) : V l D tys wf R nL E a lv (.int y :: .int x :: rest) σ := by
  subst hb; exact fun H locs ls hP hS hl => lv_irem C.1.1 C.1.2.1 hd hne (k H locs ls hP hS hl)
theorem x_ishl (C : XFix D tys wf R nL E cc own Ts) (b : Nat) (hb : a + 1 = b) {x y : Int32} (hd : decode cc a = .ok (.ishl, 1))  (k : V l D tys wf R nL E b lv (.int (x <<< (y &&& 31)) :: rest) σ) : V l D tys wf R nL E a lv (.int y :: .int x :: rest) σ := by
  subst hb; exact fun H locs ls hP hS hl => lv_ishl C.1.1 C.1.2.1 hd  (k H locs ls hP hS hl)
theorem x_ishr (C : XFix D tys wf R nL E cc own Ts) (b : Nat) (hb : a + 1 = b) {x y : Int32} (hd : decode cc a = .ok (.ishr, 1))  (k : V l D tys wf R nL E b lv (.int (x >>> (y &&& 31)) :: rest) σ) : V l D tys wf R nL E a lv (.int y :: .int x :: rest) σ := by
  subst hb; exact fun H locs ls hP hS hl => lv_ishr C.1.1 C.1.2.1 hd  (k H locs ls hP hS hl)
theorem x_iushr (C : XFix D tys wf R nL E cc own Ts) (b : Nat) (hb : a + 1 = b) {x y : Int32} (hd : decode cc a = .ok (.iushr, 1))  (k : V l D tys wf R nL E b lv (.int (x.toUInt32 >>> (y.toUInt32 &&& Int32.toUInt32 31)).toInt32 :: rest) σ) : V l D tys wf R nL E a lv (.int y :: .int x :: rest) σ := by
  subst hb; exact fun H locs ls hP hS hl => lv_iushr C.1.1 C.1.2.1 hd rfl (k H locs ls hP hS hl)
theorem x_ladd (C : XFix D tys wf R nL E cc own Ts) (b : Nat) (hb : a + 1 = b) {x y : Int64} (hd : decode cc a = .ok (.ladd, 1))  (k : V l D tys wf R nL E b lv (.long (x + y) :: rest) σ) : V l D tys wf R nL E a lv (.long y :: .long x :: rest) σ := by
  subst hb; exact fun H locs ls hP hS hl => lv_ladd C.1.1 C.1.2.1 hd  (k H locs ls hP hS hl)
theorem x_land (C : XFix D tys wf R nL E cc own Ts) (b : Nat) (hb : a + 1 = b) {x y : Int64} (hd : decode cc a = .ok (.land, 1))  (k : V l D tys wf R nL E b lv (.long (x &&& y) :: rest) σ) : V l D tys wf R nL E a lv (.long y :: .long x :: rest) σ := by
  subst hb; exact fun H locs ls hP hS hl => lv_land C.1.1 C.1.2.1 hd  (k H locs ls hP hS hl)
theorem x_lor (C : XFix D tys wf R nL E cc own Ts) (b : Nat) (hb : a + 1 = b) {x y : Int64} (hd : decode cc a = .ok (.lor, 1))  (k : V l D tys wf R nL E b lv (.long (x ||| y) :: rest) σ) : V l D tys wf R nL E a lv (.long y :: .long x :: rest) σ := by
  subst hb; exact fun H locs ls hP hS hl => lv_lor C.1.1 C.1.2.1 hd  (k H locs ls hP hS hl)
theorem x_lxor (C : XFix D tys wf R nL E cc own Ts) (b : Nat) (hb : a + 1 = b) {x y : Int64} (hd : decode cc a = .ok (.lxor, 1))  (k : V l D tys wf R nL E b lv (.long (x ^^^ y) :: rest) σ) : V l D tys wf R nL E a lv (.long y :: .long x :: rest) σ := by
  subst hb; exact fun H locs ls hP hS hl => lv_lxor C.1.1 C.1.2.1 hd  (k H locs ls hP hS hl)
theorem x_lmul (C : XFix D tys wf R nL E cc own Ts) (b : Nat) (hb : a + 1 = b) {x y : Int64} (hd : decode cc a = .ok (.lmul, 1))  (k : V l D tys wf R nL E b lv (.long (x * y) :: rest) σ) : V l D tys wf R nL E a lv (.long y :: .long x :: rest) σ := by
  subst hb; exact fun H locs ls hP hS hl => lv_lmul C.1.1 C.1.2.1 hd  (k H locs ls hP hS hl)
theorem x_lshl (C : XFix D tys wf R nL E cc own Ts) (b : Nat) (hb : a + 1 = b) {x : Int64} {y : Int32} (hd : decode cc a = .ok (.lshl, 1))  (k : V l D tys wf R nL E b lv (.long (x <<< (y.toInt64 &&& 63)) :: rest) σ) : V l D tys wf R nL E a lv (.int y :: .long x :: rest) σ := by
  subst hb; exact fun H locs ls hP hS hl => lv_lshl C.1.1 C.1.2.1 hd rfl (k H locs ls hP hS hl)
theorem x_lshr (C : XFix D tys wf R nL E cc own Ts) (b : Nat) (hb : a + 1 = b) {x : Int64} {y : Int32} (hd : decode cc a = .ok (.lshr, 1))  (k : V l D tys wf R nL E b lv (.long (x >>> (y.toInt64 &&& 63)) :: rest) σ) : V l D tys wf R nL E a lv (.int y :: .long x :: rest) σ := by
  subst hb; exact fun H locs ls hP hS hl => lv_lshr C.1.1 C.1.2.1 hd rfl (k H locs ls hP hS hl)
theorem x_lushr (C : XFix D tys wf R nL E cc own Ts) (b : Nat) (hb : a + 1 = b) {x : Int64} {y : Int32} (hd : decode cc a = .ok (.lushr, 1))  (k : V l D tys wf R nL E b lv (.long (x.toUInt64 >>> (y.toInt64.toUInt64 &&& Int64.toUInt64 63)).toInt64 :: rest) σ) : V l D tys wf R nL E a lv (.int y :: .long x :: rest) σ := by
  subst hb; exact fun H locs ls hP hS hl => lv_lushr C.1.1 C.1.2.1 hd rfl (k H locs ls hP hS hl)
theorem x_i2l (C : XFix D tys wf R nL E cc own Ts) (b : Nat) (hb : a + 1 = b) {x : Int32} (hd : decode cc a = .ok (.i2l, 1))  (k : V l D tys wf R nL E b lv (.long x.toInt64 :: rest) σ) : V l D tys wf R nL E a lv (.int x :: rest) σ := by
  subst hb; exact fun H locs ls hP hS hl => lv_i2l C.1.1 C.1.2.1 hd rfl (k H locs ls hP hS hl)
theorem x_l2i (C : XFix D tys wf R nL E cc own Ts) (b : Nat) (hb : a + 1 = b) {x : Int64} (hd : decode cc a = .ok (.l2i, 1))  (k : V l D tys wf R nL E b lv (.int x.toInt32 :: rest) σ) : V l D tys wf R nL E a lv (.long x :: rest) σ := by
  subst hb; exact fun H locs ls hP hS hl => lv_l2i C.1.1 C.1.2.1 hd rfl (k H locs ls hP hS hl)
theorem x_lcmp (C : XFix D tys wf R nL E cc own Ts) (b : Nat) (hb : a + 1 = b) {x y : Int64} (hd : decode cc a = .ok (.lcmp, 1))  (k : V l D tys wf R nL E b lv (.int (lg_cmp x y) :: rest) σ) : V l D tys wf R nL E a lv (.long y :: .long x :: rest) σ := by
  subst hb; exact fun H locs ls hP hS hl => W.lcmp C.1.1 C.1.2.1 hd  (k H locs ls hP hS hl)
theorem x_dup (C : XFix D tys wf R nL E cc own Ts) (b : Nat) (hb : a + 1 = b) {va : Value} (hd : decode cc a = .ok (.dup, 1)) (hva : va.category = 1) (k : V l D tys wf R nL E b lv (va :: va :: rest) σ) : V l D tys wf R nL E a lv (va :: rest) σ := by
  subst hb; exact fun H locs ls hP hS hl => lv_dup C.1.1 C.1.2.1 hd hva (k H locs ls hP hS hl)
theorem x_if_eq (C : XFix D tys wf R nL E cc own Ts) (b c : Nat) {off : Int} {x : Int32} (hd : decode cc a = .ok (.ifCond .eq off, 3)) (ht : (a : Int) + off = (b : Int)) (hc : a + 3 = c) (kt : x = 0 → V l D tys wf R nL E b lv rest σ) (kf : ¬ x = 0 → V l D tys wf R nL E c lv rest σ) : V l D tys wf R nL E a lv (.int x :: rest) σ := by
  subst hc; exact fun H locs ls hP hS hl => lv_if_eq C.1.1 C.1.2.1 hd ht (fun h => kt h H locs ls hP hS hl) (fun h => kf h H locs ls hP hS hl)
theorem x_if_ne (C : XFix D tys wf R nL E cc own Ts) (b c : Nat) {off : Int} {x : Int32} (hd : decode cc a = .ok (.ifCond .ne off, 3)) (ht : (a : Int) + off = (b : Int)) (hc : a + 3 = c) (kt : ¬ x = 0 → V l D tys wf R nL E b lv rest σ) (kf : x = 0 → V l D tys wf R nL E c lv rest σ) : V l D tys wf R nL E a lv (.int x :: rest) σ := by
  subst hc; exact fun H locs ls hP hS hl => lv_if_ne C.1.1 C.1.2.1 hd ht (fun h => kt h H locs ls hP hS hl) (fun h => kf h H locs ls hP hS hl)
theorem x_if_lt (C : XFix D tys wf R nL E cc own Ts) (b c : Nat) {off : Int} {x : Int32} (hd : decode cc a = .ok (.ifCond .lt off, 3)) (ht : (a : Int) + off = (b : Int)) (hc : a + 3 = c) (kt : x < 0 → V l D tys wf R nL E b lv rest σ) (kf : ¬ x < 0 → V l D tys wf R nL E c lv rest σ) : V l D tys wf R nL E a lv (.int x :: rest) σ := by
  subst hc; exact fun H locs ls hP hS hl => lv_if_lt C.1.1 C.1.2.1 hd ht (fun h => kt h H locs ls hP hS hl) (fun h => kf h H locs ls hP hS hl)
theorem x_if_ge (C : XFix D tys wf R nL E cc own Ts) (b c : Nat) {off : Int} {x : Int32} (hd : decode cc a = .ok (.ifCond .ge off, 3)) (ht : (a : Int) + off = (b : Int)) (hc : a + 3 = c) (kt : 0 ≤ x → V l D tys wf R nL E b lv rest σ) (kf : ¬ 0 ≤ x → V l D tys wf R nL E c lv rest σ) : V l D tys wf R nL E a lv (.int x :: rest) σ := by
  subst hc; exact fun H locs ls hP hS hl => lv_if_ge C.1.1 C.1.2.1 hd ht (fun h => kt h H locs ls hP hS hl) (fun h => kf h H locs ls hP hS hl)
theorem x_if_gt (C : XFix D tys wf R nL E cc own Ts) (b c : Nat) {off : Int} {x : Int32} (hd : decode cc a = .ok (.ifCond .gt off, 3)) (ht : (a : Int) + off = (b : Int)) (hc : a + 3 = c) (kt : 0 < x → V l D tys wf R nL E b lv rest σ) (kf : ¬ 0 < x → V l D tys wf R nL E c lv rest σ) : V l D tys wf R nL E a lv (.int x :: rest) σ := by
  subst hc; exact fun H locs ls hP hS hl => lv_if_gt C.1.1 C.1.2.1 hd ht (fun h => kt h H locs ls hP hS hl) (fun h => kf h H locs ls hP hS hl)
theorem x_if_le (C : XFix D tys wf R nL E cc own Ts) (b c : Nat) {off : Int} {x : Int32} (hd : decode cc a = .ok (.ifCond .le off, 3)) (ht : (a : Int) + off = (b : Int)) (hc : a + 3 = c) (kt : x ≤ 0 → V l D tys wf R nL E b lv rest σ) (kf : ¬ x ≤ 0 → V l D tys wf R nL E c lv rest σ) : V l D tys wf R nL E a lv (.int x :: rest) σ := by
  subst hc; exact fun H locs ls hP hS hl => lv_if_le C.1.1 C.1.2.1 hd ht (fun h => kt h H locs ls hP hS hl) (fun h => kf h H locs ls hP hS hl)
theorem x_icmp_eq (C : XFix D tys wf R nL E cc own Ts) (b c : Nat) {off : Int} {x y : Int32} (hd : decode cc a = .ok (.if_icmp .eq off, 3)) (ht : (a : Int) + off = (b : Int)) (hc : a + 3 = c) (kt : x = y → V l D tys wf R nL E b lv rest σ) (kf : ¬ x = y → V l D tys wf R nL E c lv rest σ) : V l D tys wf R nL E a lv (.int y :: .int x :: rest) σ := by
  subst hc; exact fun H locs ls hP hS hl => lv_icmp_eq C.1.1 C.1.2.1 hd ht (fun h => kt h H locs ls hP hS hl) (fun h => kf h H locs ls hP hS hl)
theorem x_icmp_ne (C : XFix D tys wf R nL E cc own Ts) (b c : Nat) {off : Int} {x y : Int32} (hd : decode cc a = .ok (.if_icmp .ne off, 3)) (ht : (a : Int) + off = (b : Int)) (hc : a + 3 = c) (kt : ¬ x = y → V l D tys wf R nL E b lv rest σ) (kf : x = y → V l D tys wf R nL E c lv rest σ) : V l D tys wf R nL E a lv (.int y :: .int x :: rest) σ := by
  subst hc; exact fun H locs ls hP hS hl => lv_icmp_ne C.1.1 C.1.2.1 hd ht (fun h => kt h H locs ls hP hS hl) (fun h => kf h H locs ls hP hS hl)
theorem x_icmp_lt (C : XFix D tys wf R nL E cc own Ts) (b c : Nat) {off : Int} {x y : Int32} (hd : decode cc a = .ok (.if_icmp .lt off, 3)) (ht : (a : Int) + off = (b : Int)) (hc : a + 3 = c) (kt : x < y → V l D tys wf R nL E b lv rest σ) (kf : ¬ x < y → V l D tys wf R nL E c lv rest σ) : V l D tys wf R nL E a lv (.int y :: .int x :: rest) σ := by
  subst hc; exact fun H locs ls hP hS hl => lv_icmp_lt C.1.1 C.1.2.1 hd ht (fun h => kt h H locs ls hP hS hl) (fun h => kf h H locs ls hP hS hl)
theorem x_icmp_ge (C : XFix D tys wf R nL E cc own Ts) (b c : Nat) {off : Int} {x y : Int32} (hd : decode cc a = .ok (.if_icmp .ge off, 3)) (ht : (a : Int) + off = (b : Int)) (hc : a + 3 = c) (kt : y ≤ x → V l D tys wf R nL E b lv rest σ) (kf : ¬ y ≤ x → V l D tys wf R nL E c lv rest σ) : V l D tys wf R nL E a lv (.int y :: .int x :: rest) σ := by
  subst hc; exact fun H locs ls hP hS hl => lv_icmp_ge C.1.1 C.1.2.1 hd ht (fun h => kt h H locs ls hP hS hl) (fun h => kf h H locs ls hP hS hl)
theorem x_icmp_gt (C : XFix D tys wf R nL E cc own Ts) (b c : Nat) {off : Int} {x y : Int32} (hd : decode cc a = .ok (.if_icmp .gt off, 3)) (ht : (a : Int) + off = (b : Int)) (hc : a + 3 = c) (kt : y < x → V l D tys wf R nL E b lv rest σ) (kf : ¬ y < x → V l D tys wf R nL E c lv rest σ) : V l D tys wf R nL E a lv (.int y :: .int x :: rest) σ := by
  subst hc; exact fun H locs ls hP hS hl => lv_icmp_gt C.1.1 C.1.2.1 hd ht (fun h => kt h H locs ls hP hS hl) (fun h => kf h H locs ls hP hS hl)
theorem x_icmp_le (C : XFix D tys wf R nL E cc own Ts) (b c : Nat) {off : Int} {x y : Int32} (hd : decode cc a = .ok (.if_icmp .le off, 3)) (ht : (a : Int) + off = (b : Int)) (hc : a + 3 = c) (kt : x ≤ y → V l D tys wf R nL E b lv rest σ) (kf : ¬ x ≤ y → V l D tys wf R nL E c lv rest σ) : V l D tys wf R nL E a lv (.int y :: .int x :: rest) σ := by
  subst hc; exact fun H locs ls hP hS hl => lv_icmp_le C.1.1 C.1.2.1 hd ht (fun h => kt h H locs ls hP hS hl) (fun h => kf h H locs ls hP hS hl)
theorem x_goto (C : XFix D tys wf R nL E cc own Ts) (b : Nat) {off : Int} (hd : decode cc a = .ok (.goto off, 3)) (ht : (a : Int) + off = (b : Int)) (k : V l D tys wf R nL E b lv rest σ) : V l D tys wf R nL E a lv rest σ :=
  fun H locs ls hP hS hl => lv_goto C.1.1 C.1.2.1 hd ht (k H locs ls hP hS hl)
theorem x_tsIn (C : XFix D tys wf R nL E cc own Ts) (b : Nat) {dflt lo hi : Int} {offs : Array Int} {len : Nat} {x : Int32} (off : Int) (hd : decode cc a = .ok (.tableswitch dflt lo hi offs, len)) (h1 : ¬ x.toInt < lo) (h2 : ¬ hi < x.toInt) (ho : offs[(x.toInt - lo).toNat]? = some off) (ht : (a : Int) + off = (b : Int)) (k : V l D tys wf R nL E b lv rest σ) : V l D tys wf R nL E a lv (.int x :: rest) σ :=
  fun H locs ls hP hS hl => lv_tableIn C.1.1 C.1.2.1 hd h1 h2 ho ht (k H locs ls hP hS hl)
theorem x_tsOut (C : XFix D tys wf R nL E cc own Ts) (b : Nat) {dflt lo hi : Int} {offs : Array Int} {len : Nat} {x : Int32} (hd : decode cc a = .ok (.tableswitch dflt lo hi offs, len)) (h : x.toInt < lo ∨ hi < x.toInt) (ht : (a : Int) + dflt = (b : Int)) (k : V l D tys wf R nL E b lv rest σ) : V l D tys wf R nL E a lv (.int x :: rest) σ :=
  fun H locs ls hP hS hl => lv_tableOut C.1.1 C.1.2.1 hd h ht (k H locs ls hP hS hl)
theorem x_get (C : XFix D tys wf R nL E cc own Ts) (b : Nat) (hb : a + 3 = b) {ref Cn : String} {T : u_T} {N ci index p : Nat} {fs : List Value} {v : Value} (q0 k : Nat) (he : (wf σ)[q0]? = some (p, .inr (ci, fs))) (hc : vwCl[ci]? = some (Cn, T, N)) (hin : ∀ w ∈ u_ws Cn T N, w ∈ Ts) (hk : k < N) (hm : Cond.fieldLink own index ref (T k).2.1 (T k).2.2.1 ∈ Ts) (hr : ref = (T k).1) (hv : fs[k]? = some v) (hd : decode cc a = .ok (.getfield index, 3)) (kk : V l D tys wf R nL E b lv (v :: rest) σ) : V l D tys wf R nL E a lv (.ref p :: rest) σ := by
  subst hb; subst hr; exact fun H locs ls hP hS hl => va_get C.1.1 C.1.2.1 C.1.2.2.2.2 hin C.1.2.2.2.1 C.2.1 hP q0 he hc k hk (C.1.2.2.2.2 _ hm) (fun _ h => h) hv hd (kk H locs ls hP hS hl)
theorem x_getN (C : XFix D tys wf R nL E cc own Ts) (b : Nat) (hb : a + 3 = b) {ref Cn host : String} {T : u_T} {N ci index p : Nat} {fs : List Value} {v : Value} (q0 k : Nat) (he : (wf σ)[q0]? = some (p, .inr (ci, fs))) (hc : vwCl[ci]? = some (Cn, T, N)) (hin : ∀ w ∈ u_ws Cn T N, w ∈ Ts) (hk : k < N) (hm : va_Nw (.fieldLinkNest own index ref (T k).2.1 (T k).2.2.1 host) (xs E)) (hr : ref = (T k).1) (hv : fs[k]? = some v) (hd : decode cc a = .ok (.getfield index, 3)) (kk : V l D tys wf R nL E b lv (v :: rest) σ) : V l D tys wf R nL E a lv (.ref p :: rest) σ := by
  subst hb; subst hr; exact fun H locs ls hP hS hl => va_getN C.1.1 C.1.2.1 C.1.2.2.2.2 hin C.1.2.2.2.1 C.2.1 hP q0 he hc k hk (va_Nw.use rfl hm) (fun _ h => h) hv hd (kk H locs ls hP hS hl)
theorem x_put (C : XFix D tys wf R nL E cc own Ts) (b : Nat) (hb : a + 3 = b) {ref Cn : String} {T : u_T} {N ci index p : Nat} {fs : List Value} {v : Value} {ty : FieldType} {σ' : τ} (q0 k : Nat) (he : (wf σ)[q0]? = some (p, .inr (ci, fs))) (hc : vwCl[ci]? = some (Cn, T, N)) (hin : ∀ w ∈ u_ws Cn T N, w ∈ Ts) (ty0 : Nat → FieldType) (hty : ∀ k, k < N → parseFieldDescriptor (T k).2.2.1 = some (ty0 k)) (hnm : ∀ a, a < N → ∀ b, b < N → a ≠ b → (T a).2.1 ≠ (T b).2.1) (hk : k < N) (hm : Cond.fieldLink own index ref (T k).2.1 (T k).2.2.1 ∈ Ts) (hr : ref = (T k).1) (hfin : (T k).2.2.2 = false) (hds : parseFieldDescriptor (T k).2.2.1 = some ty) (hn : narrow ty v = v) (hfit : fits ty v = true) (hl0 : k < fs.length) (hw : (wf σ).set q0 (p, .inr (ci, fs.set k v)) = wf σ') (hd : decode cc a = .ok (.putfield index, 3)) (kk : V l D tys wf R nL E b lv rest σ') : V l D tys wf R nL E a lv (v :: .ref p :: rest) σ := by
  subst hb; subst hr; exact fun H locs ls hP hS hl => va_put C.1.1 C.1.2.1 C.1.2.2.2.2 hin ty0 hty hnm C.1.2.2.2.1 C.2.1 hP (C.2.2.1 σ) hS q0 he hc k hk (C.1.2.2.2.2 _ hm) (fun _ h => h) hfin hds hn hfit hl0 hd (fun H1 locs1 hP1 _ hS1 => kk H1 locs1 ls (hw ▸ hP1) hS1 hl)
theorem x_iald (C : XFix D tys wf R nL E cc own Ts) (b : Nat) (hb : a + 1 = b) {cA : ClassId} {n p : Nat} {f : Nat → Int32} {i : Int32} (q0 t0 : Nat) (ha : (wf σ)[q0]? = some (p, .inl (cA, n, .inl f))) (ht : tys[t0]? = some (cA, .int)) (hin : vp_in i n) (hd : decode cc a = .ok (.iaload, 1)) (kk : V l D tys wf R nL E b lv (.int (f i.toNatClampNeg) :: rest) σ) : V l D tys wf R nL E a lv (.int i :: .ref p :: rest) σ := by
  subst hb; exact fun H locs ls hP hS hl => va_iald C.1.1 C.1.2.1 C.2.1 hP q0 t0 ha ht hin hd (kk H locs ls hP hS hl)
theorem x_lald (C : XFix D tys wf R nL E cc own Ts) (b : Nat) (hb : a + 1 = b) {cA : ClassId} {n p : Nat} {f : Nat → Int64} {i : Int32} (q0 t0 : Nat) (ha : (wf σ)[q0]? = some (p, .inl (cA, n, .inr (.inl f)))) (ht : tys[t0]? = some (cA, .long)) (hin : vp_in i n) (hd : decode cc a = .ok (.laload, 1)) (kk : V l D tys wf R nL E b lv (.long (f i.toNatClampNeg) :: rest) σ) : V l D tys wf R nL E a lv (.int i :: .ref p :: rest) σ := by
  subst hb; exact fun H locs ls hP hS hl => va_lald C.1.1 C.1.2.1 C.2.1 hP q0 t0 ha ht hin hd (kk H locs ls hP hS hl)
theorem x_aald (C : XFix D tys wf R nL E cc own Ts) (b : Nat) (hb : a + 1 = b) {cA : ClassId} {Cn : String} {n p q : Nat} {f : Nat → Option Nat} {i : Int32} (q0 t0 : Nat) (ha : (wf σ)[q0]? = some (p, .inl (cA, n, .inr (.inr (.inr (.inr f)))))) (ht : tys[t0]? = some (cA, .object Cn)) (hin : vp_in i n) (hf : f i.toNatClampNeg = some q) (hd : decode cc a = .ok (.aaload, 1)) (kk : V l D tys wf R nL E b lv (.ref q :: rest) σ) : V l D tys wf R nL E a lv (.int i :: .ref p :: rest) σ := by
  subst hb; exact fun H locs ls hP hS hl => va_aldq C.1.1 C.1.2.1 C.2.1 hP q0 t0 ha ht hin hd (by rw [hf]; exact kk H locs ls hP hS hl)
theorem x_iast (C : XFix D tys wf R nL E cc own Ts) (b : Nat) (hb : a + 1 = b) {cA : ClassId} {n p : Nat} {f : Nat → Int32} {i x : Int32} {σ' : τ} (q0 t0 : Nat) (ha : (wf σ)[q0]? = some (p, .inl (cA, n, .inl f))) (ht : tys[t0]? = some (cA, .int)) (hin : vp_in i n) (hw : (wf σ).set q0 (p, .inl (cA, n, .inl (upd f i.toNatClampNeg x))) = wf σ') (hd : decode cc a = .ok (.iastore, 1)) (kk : V l D tys wf R nL E b lv rest σ') : V l D tys wf R nL E a lv (.int x :: .int i :: .ref p :: rest) σ := by
  subst hb; exact fun H locs ls hP hS hl => va_iast C.1.1 C.1.2.1 C.2.1 hP (C.2.2.1 σ) hS q0 t0 ha ht hin hd (fun H1 locs1 hP1 _ hS1 => kk H1 locs1 ls (hw ▸ hP1) hS1 hl)
theorem x_last (C : XFix D tys wf R nL E cc own Ts) (b : Nat) (hb : a + 1 = b) {cA : ClassId} {n p : Nat} {f : Nat → Int64} {i : Int32} {x : Int64} {σ' : τ} (q0 t0 : Nat) (ha : (wf σ)[q0]? = some (p, .inl (cA, n, .inr (.inl f)))) (ht : tys[t0]? = some (cA, .long)) (hin : vp_in i n) (hw : (wf σ).set q0 (p, .inl (cA, n, .inr (.inl (vp_updL f i.toNatClampNeg x)))) = wf σ') (hd : decode cc a = .ok (.lastore, 1)) (kk : V l D tys wf R nL E b lv rest σ') : V l D tys wf R nL E a lv (.long x :: .int i :: .ref p :: rest) σ := by
  subst hb; exact fun H locs ls hP hS hl => va_last C.1.1 C.1.2.1 C.2.1 hP (C.2.2.1 σ) hS q0 t0 ha ht hin hd (fun H1 locs1 hP1 _ hS1 => kk H1 locs1 ls (hw ▸ hP1) hS1 hl)
theorem x_alen (C : XFix D tys wf R nL E cc own Ts) (b : Nat) (hb : a + 1 = b) {cA : ClassId} {p : Nat} {x : vp_A} {ty : FieldType} {v : Int32} (q0 t0 : Nat) (ha : (wf σ)[q0]? = some (p, .inl (cA, x))) (ht : tys[t0]? = some (cA, ty)) (hv : Int32.ofNat x.1 = v) (hd : decode cc a = .ok (.arraylength, 1)) (kk : V l D tys wf R nL E b lv (.int v :: rest) σ) : V l D tys wf R nL E a lv (.ref p :: rest) σ := by
  subst hb; exact fun H locs ls hP hS hl => va_alen C.1.1 C.1.2.1 C.2.1 hP q0 t0 ha ht hv hd (kk H locs ls hP hS hl)
theorem x_max (C : XFix D tys wf R nL E cc own Ts) (b : Nat) (hb : a + 3 = b) {index : Nat} {x y : Int32} (hw : ∀ w ∈ ([.methodLink own index Lib.Math.max.name, .static Lib.Math.max.name, .initialized "java/lang/Math", .code Lib.Math.max.name Lib.Math.max.code 2 (some .int)] : List Cond), w ∈ Ts) (hf : 1 ≤ R.frames) (hlo : (rest.map fun v => v.category).sum + 13 ≤ R.locals) (hd : decode cc a = .ok (.invokestatic index, 3)) (kk : V l D tys wf R nL E b lv (.int (if x < y then y else x) :: rest) σ) : V l D tys wf R nL E a lv (.int y :: .int x :: rest) σ := by
  subst hb; exact fun H locs ls hP hS hl => va_mmax C.1.1 C.1.2.1 (C.1.2.2.1.trans hl.1.symm) C.1.2.2.2.1 (C.1.2.2.2.2 _ (hw _ (by simp))) (C.1.2.2.2.2 _ (hw _ (by simp))) (C.1.2.2.2.2 _ (hw _ (by simp))) (C.1.2.2.2.2 _ (hw _ (by simp))) hf hlo C.2.2.2.2.1 C.2.2.2.2.2.1 hd (kk H locs ls hP hS hl)
theorem x_min (C : XFix D tys wf R nL E cc own Ts) (b : Nat) (hb : a + 3 = b) {index : Nat} {x y : Int32} (hw : ∀ w ∈ ([.methodLink own index Lib.Math.min.name, .static Lib.Math.min.name, .initialized "java/lang/Math", .code Lib.Math.min.name Lib.Math.min.code 2 (some .int)] : List Cond), w ∈ Ts) (hf : 1 ≤ R.frames) (hlo : (rest.map fun v => v.category).sum + 13 ≤ R.locals) (hd : decode cc a = .ok (.invokestatic index, 3)) (kk : V l D tys wf R nL E b lv (.int (if y < x then y else x) :: rest) σ) : V l D tys wf R nL E a lv (.int y :: .int x :: rest) σ := by
  subst hb; exact fun H locs ls hP hS hl => va_mmin C.1.1 C.1.2.1 (C.1.2.2.1.trans hl.1.symm) C.1.2.2.2.1 (C.1.2.2.2.2 _ (hw _ (by simp))) (C.1.2.2.2.2 _ (hw _ (by simp))) (C.1.2.2.2.2 _ (hw _ (by simp))) (C.1.2.2.2.2 _ (hw _ (by simp))) hf hlo C.2.2.2.2.1 C.2.2.2.2.2.1 hd (kk H locs ls hP hS hl)
end XV
