/-! ===== a contract beside other cells; the law's script ===== -/
theorem Met.mono {l : Launch} {y : MethodName} {ws : List Cond} {rm : Room} {Pc Pc' : Array Value → State → Prop} {Qc Qc' : Array Value → State → Outcome → State → Prop} {mc ms : Nat} {free free' : Addr → Prop} (h : Met l y ws rm Pc Qc mc ms free) (hP : ∀ a s, Pc' a s → Pc a s) (hQ : ∀ a s o t, Pc' a s → Qc a s o t → Qc' a s o t) (hf : ∀ q, free q → free' q) : Met l y ws rm Pc' Qc' mc ms free' := by
  intro p e h1 h2 h3 s m args below hfr happ hp hk
  obtain ⟨n, o, g1, g2, g3, g4, L, g5, g6⟩ := h p e h1 h2 h3 s m args below hfr happ (hP _ _ hp) hk
  exact ⟨n, o, g1, g2, g3, hQ _ _ _ _ hp g4, L, g5, fun q hq => hf _ (g6 q hq)⟩
section LIFT
variable {α β : Type} {l : Launch} {D : va_G} {tys : List (ClassId × FieldType)} {w1 : α → va_W} {w2 : β → va_W}
abbrev wApp (w1 : α → va_W) (w2 : β → va_W) : α × β → va_W := fun u => w1 u.1 ++ w2 u.2
theorem wApp_adr (h1 : wAdr w1) (h2 : wAdr w2) : wAdr (wApp w1 w2) := fun u u' => by
  simp only [wApp, List.map_append]
  rw [h1 u.1 u'.1, h2 u.2 u'.2]
theorem app_l {A B : va_W} {k : Nat} {q : Nat × va_E} (h : A[k]? = some q) : (A ++ B)[k]? = some q := by
  rw [List.getElem?_append_left (List.getElem?_eq_some_iff.mp h).1]; exact h
theorem app_r {A B : va_W} {k : Nat} {q : Nat × va_E} (h : B[k]? = some q) : (A ++ B)[A.length + k]? = some q := by
  rw [List.getElem?_append_right (Nat.le_add_right _ _), Nat.add_sub_cancel_left]; exact h
theorem P_l {A B : va_W} {H : Heap} (h : va_P D vwCl (A ++ B) H) : va_P D vwCl A H := fun k q hk => h k q (app_l hk)
theorem P_r {A B : va_W} {H : Heap} (h : va_P D vwCl (A ++ B) H) : va_P D vwCl B H := fun k q hk => h _ q (app_r hk)
theorem D_l {X : Nat → Prop} {A B : va_W} (h : va_D X (A ++ B)) : va_D X A := ⟨fun i j p q hp hq e => h.1 i j p q (app_l hp) (app_l hq) e, fun k q hk => h.2 k q (app_l hk)⟩
theorem D_r {X : Nat → Prop} {A B : va_W} (h : va_D X (A ++ B)) : va_D X B := ⟨fun i j p q hp hq e => by have := h.1 _ _ p q (app_r hp) (app_r hq) e; omega, fun k q hk => h.2 _ q (app_r hk)⟩
theorem A_l {A B : va_W} {sz q : Nat} (h : va_A A sz q) : va_A (A ++ B) sz q := by
  rcases h with ⟨k, e, hk⟩ | h
  · exact Or.inl ⟨k, e, app_l hk⟩
  · exact Or.inr h
theorem A_r {A B : va_W} {sz q : Nat} (h : va_A B sz q) : va_A (A ++ B) sz q := by
  rcases h with ⟨k, e, hk⟩ | h
  · exact Or.inl ⟨_, e, app_r hk⟩
  · exact Or.inr h
theorem keep_r {A A' B : va_W} {st t : State} {sz : Nat} (hP : va_P D vwCl (A ++ B) st.heap) (hsz : st.heap.size = sz) (hD : va_D (fun _ => True) (A ++ B)) (hP1 : va_P D vwCl A' t.heap) (hF : va_F (va_A A sz) st t) : va_P D vwCl (A' ++ B) t.heap := by
  refine va_P.app hP1 (fun k q hk => ?_)
  have h1 := hP _ q (app_r hk)
  refine h1.kept (hF.2 q.1 h1.lt (fun h => ?_))
  rcases h with ⟨j, e, hj⟩ | h
  · have h2 := hD.1 _ _ _ q (app_l hj) (app_r hk) rfl
    have h3 := (List.getElem?_eq_some_iff.mp hj).1
    omega
  · have := h1.lt; omega
theorem keep_l {A B B' : va_W} {st t : State} {sz : Nat} (hP : va_P D vwCl (A ++ B) st.heap) (hsz : st.heap.size = sz) (hD : va_D (fun _ => True) (A ++ B)) (hP1 : va_P D vwCl B' t.heap) (hF : va_F (va_A B sz) st t) : va_P D vwCl (A ++ B') t.heap := by
  refine va_P.app (fun k q hk => ?_) hP1
  have h1 := hP _ q (app_l hk)
  refine h1.kept (hF.2 q.1 h1.lt (fun h => ?_))
  rcases h with ⟨j, e, hj⟩ | h
  · have h2 := hD.1 _ _ q _ (app_l hk) (app_r hj) rfl
    have h3 := (List.getElem?_eq_some_iff.mp hk).1
    omega
  · have := h1.lt; omega
theorem F_w {X Y : Nat → Prop} {st t : State} (h : va_F X st t) (hs : ∀ q, X q → Y q) : va_F Y st t := ⟨h.1, fun q h1 h2 => h.2 q h1 (fun h3 => h2 (hs q h3))⟩
variable {y : MethodName} {ws : List Cond} {rm : Room} {as : List Value}
theorem CtI.in1 (_ : wAdr w1) (_ : wAdr w2) {σ : α} {Q : Int32 → α → Prop} (h : CtI l D tys w1 y ws rm as σ Q) (τ : β) : CtI l D tys (wApp w1 w2) y ws rm as (σ, τ) (fun r u => Q r u.1 ∧ u.2 = τ) := fun sz =>
  (h sz).mono (fun a s hp => ⟨hp.1, hp.2.1, P_l hp.2.2.1, hp.2.2.2.1, D_l hp.2.2.2.2.1, hp.2.2.2.2.2⟩)
    (fun a s o t hp hq => by
      obtain ⟨⟨r, u, h1, h2, h3, h4⟩, hF⟩ := hq
      exact ⟨⟨r, (u, τ), h1, ⟨h2, rfl⟩, keep_r hp.2.2.1 hp.2.1 hp.2.2.2.2.1 h3 hF, h4⟩, F_w hF (fun q => A_l)⟩) (fun q => A_l)
theorem CtV.in1 (_ : wAdr w1) (_ : wAdr w2) {σ : α} {Q : α → Prop} (h : CtV l D tys w1 y ws rm as σ Q) (τ : β) : CtV l D tys (wApp w1 w2) y ws rm as (σ, τ) (fun u => Q u.1 ∧ u.2 = τ) := fun sz =>
  (h sz).mono (fun a s hp => ⟨hp.1, hp.2.1, P_l hp.2.2.1, hp.2.2.2.1, D_l hp.2.2.2.2.1, hp.2.2.2.2.2⟩)
    (fun a s o t hp hq => by
      obtain ⟨⟨u, h1, h2, h3, h4⟩, hF⟩ := hq
      exact ⟨⟨(u, τ), h1, ⟨h2, rfl⟩, keep_r hp.2.2.1 hp.2.1 hp.2.2.2.2.1 h3 hF, h4⟩, F_w hF (fun q => A_l)⟩) (fun q => A_l)
theorem CtI.in2 (_ : wAdr w1) (_ : wAdr w2) {τ : β} {Q : Int32 → β → Prop} (h : CtI l D tys w2 y ws rm as τ Q) (σ : α) : CtI l D tys (wApp w1 w2) y ws rm as (σ, τ) (fun r u => Q r u.2 ∧ u.1 = σ) := fun sz =>
  (h sz).mono (fun a s hp => ⟨hp.1, hp.2.1, P_r hp.2.2.1, hp.2.2.2.1, D_r hp.2.2.2.2.1, hp.2.2.2.2.2⟩)
    (fun a s o t hp hq => by
      obtain ⟨⟨r, u, h1, h2, h3, h4⟩, hF⟩ := hq
      exact ⟨⟨r, (σ, u), h1, ⟨h2, rfl⟩, keep_l hp.2.2.1 hp.2.1 hp.2.2.2.2.1 h3 hF, h4⟩, F_w hF (fun q => A_r)⟩) (fun q => A_r)
theorem CtV.in2 (_ : wAdr w1) (_ : wAdr w2) {τ : β} {Q : β → Prop} (h : CtV l D tys w2 y ws rm as τ Q) (σ : α) : CtV l D tys (wApp w1 w2) y ws rm as (σ, τ) (fun u => Q u.2 ∧ u.1 = σ) := fun sz =>
  (h sz).mono (fun a s hp => ⟨hp.1, hp.2.1, P_r hp.2.2.1, hp.2.2.2.1, D_r hp.2.2.2.2.1, hp.2.2.2.2.2⟩)
    (fun a s o t hp hq => by
      obtain ⟨⟨u, h1, h2, h3, h4⟩, hF⟩ := hq
      exact ⟨⟨(σ, u), h1, ⟨h2, rfl⟩, keep_l hp.2.2.1 hp.2.1 hp.2.2.2.2.1 h3 hF, h4⟩, F_w hF (fun q => A_r)⟩) (fun q => A_r)
end LIFT
abbrev wL (ad ad' : Nat → Nat) (ct : Nat → ClassId) : ST × ST → va_W := wApp (wC ad ct) (wM ad' ct)
section XS
variable {τ : Type} {l : Launch} {D : va_G} {tys : List (ClassId × FieldType)} {wf : τ → va_W} {R : Room} {nL : Nat} {E : XE} {cc : ByteArray} {own : String} {Ts : List Cond} {a b : Nat} {lv : List (Nat × Value)} {rest : List Value} {σ : τ}
theorem x_slen (C : XFix D tys wf R nL E cc own Ts) (b : Nat) (hb : a + 1 = b) {sb L : Nat} {ss : Nat → Int32} (hX : va_X sb L ss (xs E) (xs E).heap) (hbl : sb < (xs E).heap.size) (hbA : ¬ xA E sb) (hd : decode cc a = .ok (.arraylength, 1)) (kk : V l D tys wf R nL E b lv (.int (Int32.ofNat L) :: rest) σ) : V l D tys wf R nL E a lv (.ref sb :: rest) σ := by
  subst hb; exact fun H locs ls hP hS hl => va_slen C.1.1 C.1.2.1 hX hbl hbA hS hd (kk H locs ls hP hS hl)
theorem x_sld (C : XFix D tys wf R nL E cc own Ts) (b : Nat) (hb : a + 1 = b) {sb L : Nat} {ss : Nat → Int32} {i : Int32} (hX : va_X sb L ss (xs E) (xs E).heap) (hbl : sb < (xs E).heap.size) (hbA : ¬ xA E sb) (hin : vp_in i L) (hd : decode cc a = .ok (.iaload, 1)) (kk : V l D tys wf R nL E b lv (.int (ss i.toNatClampNeg) :: rest) σ) : V l D tys wf R nL E a lv (.int i :: .ref sb :: rest) σ := by
  subst hb; exact fun H locs ls hP hS hl => va_sld C.1.1 C.1.2.1 hX hbl hbA hS hin hd (kk H locs ls hP hS hl)
end XS
