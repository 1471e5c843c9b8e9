/-! THE CLAIM OUT OF ONE WALK OF THE LAW'S BODY. Your part is whole_start (and what it stands on); all else here is the same for every law, but numbers. -/
def R_law : String := "WhisperJudgeLaw"
def lw_P (b : Addr) (xs : List Int32) (args : Array Value) (s : State) : Prop := args = #[.ref b] ∧ s.IntsAt b xs ∧ xs.length ≤ 3072 ∧ (Jvm.Cond.and given_1 narrow_1).before args s = true
def lw_Q (_ : Array Value) (s : State) (o : Outcome) (t : State) : Prop := o = .returned (some (.int 1)) ∧ Framed s o t [] 600000 7302250
def lw_Z (below : List Frame) (a : Array Value) (s : State) : State → Prop := fun t => ∃ o, t.status = .running ∧ Ended t below o ∧ lw_Q a s o t
/-- the law's own end, with 1 on the stack, nothing written that was there before, its room as the claim has it -/
theorem lw_ret {p : Program} {l : Launch} {e : Env} {s : State} {m : MethodId} {below : List Frame} {meth : Method} {c : Code} {b : Nat} (hx : p.tables.exec = Jvm.exec) (hb : c.code = code) (hr : meth.sig.returnType = ret) (hlocks : meth.locks = false) {pc : Nat} {H : Heap} {ls : Array Slot} (hdg : decode code pc = .ok (.ireturn, 1)) : W p l e room_1 s m #[Value.ref b] below meth c H [] 600000 7302250 (lw_Z below #[Value.ref b] s) (F0 m pc ls [.int 1]) := by
  intro T hT X
  obtain ⟨fs, hret, hrun, hended, hW, hframe⟩ := X.leave (v := some (.int 1)) (hlocks := hlocks) (fun h => by rw [hr] at h; cases h)
  have hmeth' : T.vm.method? m = some meth := X.method'
  refine ⟨T.setFrames fs, ?_, .returned (some (.int 1)), hrun, hended, rfl, ⟨_, rfl⟩, hW, hframe⟩
  jvm_step X.here [X.here.top, hx, hb, hdg, hmeth', hr, ret, narrow_b1]
  (try refine ⟨rfl, ?_⟩); (try refine ⟨rfl, ?_⟩)
  first | (intro acts; rw [hret _ acts rfl rfl rfl]) | rw [hret _ _ rfl rfl rfl]
  exact Steps.refl _
/-- what holds at the law's entry: the machine, the code, the tables' words (any of lw_tbl by 'hts w (by decide +kernel)'), the script of L ints xs at the cell b, what the Statement gives of the start (any of its parts by flat_of_before) -/
def lw_At (p : Program) (s : State) (m : MethodId) (meth : Method) (c : Code) (b L : Nat) (xs : Nat → Int32) : Prop :=
  p.tables.exec = Jvm.exec ∧ c.code = code ∧ meth.sig.returnType = ret ∧ c.maxLocals = 4 ∧ s.vm.findClass R_law = some m.cls ∧ (∀ w ∈ lw_tbl, w.before #[Value.ref b] s = true) ∧ va_X b L xs s s.heap ∧ b < s.heap.size ∧ meth.locks = false ∧ (Jvm.Cond.and given_1 narrow_1).before #[Value.ref b] s = true
theorem pl_n0 : (Cond.methodLinkNest RX1 40 yX4_wallIn RX4) ∈ lw_tbl := List.mem_of_getElem? (i := 298) (by decide +kernel)
theorem pl_n1 : (Cond.methodLinkNest RX4 166 yX3_grow RX4) ∈ lw_tbl := List.mem_of_getElem? (i := 412) (by decide +kernel)
theorem pl_n2 : (Cond.methodLinkNest RX3 39 yX4_mostBy RX4) ∈ lw_tbl := List.mem_of_getElem? (i := 432) (by decide +kernel)
theorem pl_n3 : (Cond.methodLinkNest RX4 29 yX1_init RX4) ∈ lw_tbl := List.mem_of_getElem? (i := 72) (by decide +kernel)
theorem pl_n4 : (Cond.methodLinkNest RX4 34 yX2_init RX4) ∈ lw_tbl := List.mem_of_getElem? (i := 105) (by decide +kernel)
theorem pl_n5 : (Cond.methodLinkNest RX4 35 yX0_init RX4) ∈ lw_tbl := List.mem_of_getElem? (i := 148) (by decide +kernel)
theorem pl_n6 : (Cond.fieldLinkNest RX0 43 RX1 (TX1 4).2.1 (TX1 4).2.2.1 RX4) ∈ lw_tbl := List.mem_of_getElem? (i := 81) (by decide +kernel)
theorem pl_aThing : Cond.arrayOver (.object "WhisperJudge$Thing") ∈ lw_tbl := List.mem_of_getElem? (i := 65) (by decide +kernel)
theorem pl_aPair : Cond.arrayOver (.object "WhisperJudge$Pair") ∈ lw_tbl := List.mem_of_getElem? (i := 67) (by decide +kernel)
theorem pl_aWhisper : Cond.arrayOver (.object "WhisperJudge$Whisper") ∈ lw_tbl := List.mem_of_getElem? (i := 69) (by decide +kernel)
theorem pl_iX0 : Cond.instantiable RX0 8 ∈ lw_tbl := List.mem_of_getElem? (i := 147) (by decide +kernel)
theorem pl_iX1 : Cond.instantiable RX1 7 ∈ lw_tbl := List.mem_of_getElem? (i := 71) (by decide +kernel)
theorem pl_iX2 : Cond.instantiable RX2 9 ∈ lw_tbl := List.mem_of_getElem? (i := 104) (by decide +kernel)
theorem pl_iX3 : Cond.instantiable RX3 6 ∈ lw_tbl := List.mem_of_getElem? (i := 180) (by decide +kernel)
theorem pl_iX4 : Cond.instantiable RX4 7 ∈ lw_tbl := List.mem_of_getElem? (i := 57) (by decide +kernel)
theorem pl_iX5 : Cond.instantiable RX5 20 ∈ lw_tbl := List.mem_of_getElem? (i := 511) (by decide +kernel)
theorem pl_clX4 : (Cond.classLink RL 7 RX4) ∈ wsL_law := by decide +kernel
theorem pl_inX4 : (Cond.initialized RX4) ∈ wsL_law := by decide +kernel
theorem pl_mlX4 : (Cond.methodLink RL 9 yX4_init) ∈ wsL_law := by decide +kernel
theorem pl_imX4 : (Cond.instanceMethod yX4_init) ∈ wsL_law := by decide +kernel
theorem pl_itX4 : (Cond.instantiable RX4 7) ∈ wsL_law := by decide +kernel
theorem pl_clX5 : (Cond.classLink RL 10 RX5) ∈ wsL_law := by decide +kernel
theorem pl_inX5 : (Cond.initialized RX5) ∈ wsL_law := by decide +kernel
theorem pl_mlX5 : (Cond.methodLink RL 12 yX5_init) ∈ wsL_law := by decide +kernel
theorem pl_imX5 : (Cond.instanceMethod yX5_init) ∈ wsL_law := by decide +kernel
theorem pl_itX5 : (Cond.instantiable RX5 20) ∈ wsL_law := by decide +kernel
set_option maxHeartbeats 8000000 in
set_option maxRecDepth 100000 in
/-- from the entry, for every script, the law comes to its end with true -/
theorem whole_start_of (hpure : ∀ (L : Nat) (ss : Nat → Int32), L ≤ 3072 → ∃ n, wp_law_L18 L ss n 0 σ0C σ0M) {p : Program} {e : Env} {s : State} {m : MethodId} {below : List Frame} {meth : Method} {c : Code} (l : Launch) (hflags : l.flags = flags0) {b L : Nat} {xs : Nat → Int32} (hL : L ≤ 3072) (C0 : lw_At p s m meth c b L xs) : W p l e room_1 s m #[Value.ref b] below meth c s.heap [] 0 0 (lw_Z below #[Value.ref b] s) (entryFrame m ([Value.ref b] : List Value).toArray 4) := by
  obtain ⟨hx, hb, hr, hml, hown, hts0, hX, hbl, hlocks, hgv⟩ := id C0
  have hown : s.vm.findClass RL = some m.cls := hown
  have hts : ∀ w ∈ wsL_law, w.before #[Value.ref b] s = true := fun w h => hts0 w (wsL_law_in w h)
  have hNW : NW s := ⟨va_Nw.of rfl (hts0 _ pl_n0), va_Nw.of rfl (hts0 _ pl_n1), va_Nw.of rfl (hts0 _ pl_n2), va_Nw.of rfl (hts0 _ pl_n3), va_Nw.of rfl (hts0 _ pl_n4), va_Nw.of rfl (hts0 _ pl_n5), va_Nw.of rfl (hts0 _ pl_n6)⟩
  have hAOThing : va_AO "WhisperJudge$Thing" s := va_AO.of (hts0 _ pl_aThing)
  have hAOPair : va_AO "WhisperJudge$Pair" s := va_AO.of (hts0 _ pl_aPair)
  have hAOWhisper : va_AO "WhisperJudge$Whisper" s := va_AO.of (hts0 _ pl_aWhisper)
  have hA : ∀ q : Nat, s.heap.size ≤ q → (fun q : Nat => s.heap.size ≤ q) q := fun _ h => h
  have hbA : ¬ (fun q : Nat => s.heap.size ≤ q) b := Nat.not_le.mpr hbl
  obtain ⟨c0, iS0, hKn0⟩ := u_known (C := RX0) (T := TX0) (N := 8) (n := 8) hts0 inX0 (hts0 _ pl_iX0)
  obtain ⟨c1, iS1, hKn1⟩ := u_known (C := RX1) (T := TX1) (N := 7) (n := 7) hts0 inX1 (hts0 _ pl_iX1)
  obtain ⟨c2, iS2, hKn2⟩ := u_known (C := RX2) (T := TX2) (N := 9) (n := 9) hts0 inX2 (hts0 _ pl_iX2)
  obtain ⟨c3, iS3, hKn3⟩ := u_known (C := RX3) (T := TX3) (N := 6) (n := 6) hts0 inX3 (hts0 _ pl_iX3)
  obtain ⟨c4, iS4, hKn4⟩ := u_known (C := RX4) (T := TX4) (N := 7) (n := 7) hts0 inX4 (hts0 _ pl_iX4)
  obtain ⟨c5, iS5, hKn5⟩ := u_known (C := RX5) (T := TX5) (N := 20) (n := 20) hts0 inX5 (hts0 _ pl_iX5)
  obtain ⟨dC, dI, hKc⟩ : ∃ (dC : Nat → ClassId) (dI : Nat → Nat → Nat), ∀ (k : Nat) (q : vw_C), vwCl[k]? = some q → u_Kn s q.1 q.2.1 q.2.2 (dC k) (dI k) := by
    refine ⟨fun k => if k = 0 then c0 else if k = 1 then c1 else if k = 2 then c2 else if k = 3 then c3 else if k = 4 then c4 else c5, fun k => if k = 0 then iS0 else if k = 1 then iS1 else if k = 2 then iS2 else if k = 3 then iS3 else if k = 4 then iS4 else iS5, ?_⟩
    intro k q hq
    match k, hq with
    | 0, hq => cases hq; exact hKn0
    | 1, hq => cases hq; exact hKn1
    | 2, hq => cases hq; exact hKn2
    | 3, hq => cases hq; exact hKn3
    | 4, hq => cases hq; exact hKn4
    | 5, hq => cases hq; exact hKn5
    | k + 6, hq => simp [vwCl] at hq
  have hS : va_S (fun q : Nat => s.heap.size ≤ q) s.heap s.heap [] := va_S.rf
  have hK : va_K (dC, dI) vwCl [] s := ⟨hKc, fun k q h => by simp at h⟩
  have hP : va_P (dC, dI) vwCl [] s.heap := fun k q h => by simp at h
  have hD : va_D (fun q : Nat => s.heap.size ≤ q) [] := ⟨fun i j p q h => by simp at h, fun k q h => by simp at h⟩
  have hl := lv_entry ([.ref b]) (n := 4) (Nat.le_of_ble_eq_true rfl)
  rw [lg_entry_eq]
  generalize (lg_sl ([.ref b]) ++ List.replicate (4 - (lg_sl ([.ref b])).length) Slot.unset).toArray = ls at hl ⊢
  have hl : lv_has ls 4 [(0, .ref b)] := hl
  refine va_new (ci := 4) (fs := [.null, .null, .null, .null, .int 0, .int 0, .int 0]) (C := RX4) (T := TX4) (N := 7) hx hb hts0 inX4 tyX4 tyX4_ok hown (hts _ pl_clX4) (hts _ pl_itX4) (hts _ pl_inX4) hK hP hD hS hA rfl (fun j hj => by rcases (show j = 0 ∨ j = 1 ∨ j = 2 ∨ j = 3 ∨ j = 4 ∨ j = 5 ∨ j = 6 by omega) with rfl | rfl | rfl | rfl | rfl | rfl | rfl <;> rfl) (Nat.le_of_ble_eq_true rfl) (Nat.le_of_ble_eq_true rfl) dL_law_0 (fun q0v H hP hD hS => ?_)
  have hP : va_P (dC, dI) vwCl [(q0v, .inr (4, [.null, .null, .null, .null, .int 0, .int 0, .int 0]))] H := hP
  have hD : va_D (fun q : Nat => s.heap.size ≤ q) [(q0v, .inr (4, [.null, .null, .null, .null, .int 0, .int 0, .int 0]))] := hD
  refine W.widen (k := 1) (n := 7) (Nat.le_refl _) (Nat.le_refl _) ?_
  refine lv_dup hx hb dL_law_3 rfl ?_
  have hPc := hP.sub (ws' := [(q0v, .inr (4, [.null, .null, .null, .null, .int 0, .int 0, .int 0]))]) [0] rfl
  have hDc := hD.sub (ws' := [(q0v, .inr (4, [.null, .null, .null, .null, .int 0, .int 0, .int 0]))]) [0] (by decide) rfl
  have hKc := hK.sub (tys' := []) [] rfl
  have hFc := va_free (wc := [(q0v, .inr (4, [.null, .null, .null, .null, .int 0, .int 0, .int 0]))]) hD hS hA [0] rfl
  refine va_callv (va_runI (As := []) (rest := [.ref q0v]) ⟨hx, hb, hml, hown, hts⟩ (c_X4_init l dC dI q0v H.size) (cwI 0 hts gL_law_X4_init rfl rfl rfl (hts _ pl_inX4) (hts _ pl_mlX4) (hts _ pl_imX4) rfl (by decide +kernel) ⟨Nat.le_of_ble_eq_true rfl, Nat.le_of_ble_eq_true rfl⟩) ⟨fun a U g mk q => by obtain ⟨q0, q1, qP, qK, qD, qN, a1, a2, a3⟩ := q; exact ⟨q0, q1, qP, va_K.moved (u := U) (U := U.calling g mk a) (Vm.Alike.refl U.vm) qK, qD, NW.same (u := U) (U := U.calling g mk a) rfl qN, va_AO.moved (u := U) (U := U.calling g mk a) (Vm.Alike.refl U.vm) a1, va_AO.moved (u := U) (U := U.calling g mk a) (Vm.Alike.refl U.vm) a2, va_AO.moved (u := U) (U := U.calling g mk a) (Vm.Alike.refl U.vm) a3⟩, fun U hU hW => ⟨rfl, by rw [hU], by rw [hU]; exact hPc, va_K.moved hW.alike hKc, hDc.weaken (fun _ _ _ _ => trivial), NW.warm hW hNW, va_AO.moved hW.alike hAOThing, va_AO.moved hW.alike hAOPair, va_AO.moved hW.alike hAOWhisper⟩⟩ rfl rfl hl.1 rfl (lv_room (Nat.le_of_ble_eq_true rfl)) dL_law_4 ⟨Nat.le_of_ble_eq_true rfl, Nat.le_of_ble_eq_true rfl⟩) hS (fun q _ h => hFc q h) hFc (fun u t H1 locs ht hvm hw hB hz1 hk1 hS => ?_)
  obtain ⟨ad, cI, cr⟩ := u
  obtain ⟨hB0, hK1⟩ := hB
  obtain ⟨hP1, hD1⟩ := hB0 cI
  dsimp only at hw hP1 hD1 hK1
  rw [ht] at hP1
  have hK1 := va_K.moved hvm.symm hK1
  obtain ⟨hP, hD⟩ := va_join (wr := []) (w1 := wC ad (ctF cI cI cr) σ0C) hP hD [0] [] rfl rfl (by decide) (by decide) hk1 hFc hP1 hD1
  have hK := (hK.sub (tys' := []) [] rfl).app hK1
  generalize H1 = H at hP hS ⊢
  have hP : va_P (dC, dI) vwCl (wC ad (ctF cI cI cr) σ0C) H := hP
  have hD : va_D (fun q : Nat => s.heap.size ≤ q) (wC ad (ctF cI cI cr) σ0C) := hD
  have hK : va_K (dC, dI) vwCl [(cI, .int), (cr.1, .object "WhisperJudge$Thing"), (cr.2.1, .object "WhisperJudge$Pair"), (cr.2.2, .object "WhisperJudge$Whisper")] s := hK
  rw [← hw]
  refine W.widen (k := 50) (n := 4281) (Nat.le_refl _) (Nat.le_refl _) ?_
  refine lv_astore_n (lv' := [(1, .ref (ad 0)), (0, .ref b)]) hx hb dL_law_7 rfl hl (by decide) rfl (fun ls hl => ?_)
  refine va_new (ci := 5) (fs := [.int 0, .null, .null, .null, .null, .null, .null, .null, .null, .null, .int 0, .null, .null, .null, .null, .null, .int 0, .null, .null, .null]) (C := RX5) (T := TX5) (N := 20) hx hb hts0 inX5 tyX5 tyX5_ok hown (hts _ pl_clX5) (hts _ pl_itX5) (hts _ pl_inX5) hK hP hD hS hA rfl (fun j hj => by rcases (show j = 0 ∨ j = 1 ∨ j = 2 ∨ j = 3 ∨ j = 4 ∨ j = 5 ∨ j = 6 ∨ j = 7 ∨ j = 8 ∨ j = 9 ∨ j = 10 ∨ j = 11 ∨ j = 12 ∨ j = 13 ∨ j = 14 ∨ j = 15 ∨ j = 16 ∨ j = 17 ∨ j = 18 ∨ j = 19 by omega) with rfl | rfl | rfl | rfl | rfl | rfl | rfl | rfl | rfl | rfl | rfl | rfl | rfl | rfl | rfl | rfl | rfl | rfl | rfl | rfl <;> rfl) (Nat.le_of_ble_eq_true rfl) (Nat.le_of_ble_eq_true rfl) dL_law_8 (fun q1v H hP hD hS => ?_)
  have hP : va_P (dC, dI) vwCl (wC ad (ctF cI cI cr) σ0C ++ [(q1v, .inr (5, [.int 0, .null, .null, .null, .null, .null, .null, .null, .null, .null, .int 0, .null, .null, .null, .null, .null, .int 0, .null, .null, .null]))]) H := hP
  have hD : va_D (fun q : Nat => s.heap.size ≤ q) (wC ad (ctF cI cI cr) σ0C ++ [(q1v, .inr (5, [.int 0, .null, .null, .null, .null, .null, .null, .null, .null, .null, .int 0, .null, .null, .null, .null, .null, .int 0, .null, .null, .null]))]) := hD
  refine W.widen (k := 51) (n := 4301) (Nat.le_refl _) (Nat.le_refl _) ?_
  refine lv_dup hx hb dL_law_11 rfl ?_
  have hPc := hP.sub (ws' := [(q1v, .inr (5, [.int 0, .null, .null, .null, .null, .null, .null, .null, .null, .null, .int 0, .null, .null, .null, .null, .null, .int 0, .null, .null, .null]))]) [50] rfl
  have hDc := hD.sub (ws' := [(q1v, .inr (5, [.int 0, .null, .null, .null, .null, .null, .null, .null, .null, .null, .int 0, .null, .null, .null, .null, .null, .int 0, .null, .null, .null]))]) [50] (by decide) rfl
  have hKc := hK.sub (tys' := []) [] rfl
  have hFc := va_free (wc := [(q1v, .inr (5, [.int 0, .null, .null, .null, .null, .null, .null, .null, .null, .null, .int 0, .null, .null, .null, .null, .null, .int 0, .null, .null, .null]))]) hD hS hA [50] rfl
  refine va_callv (va_runI (As := []) (rest := [.ref q1v]) ⟨hx, hb, hml, hown, hts⟩ (c_X5_init l dC dI q1v H.size) (cwI 0 hts gL_law_X5_init rfl rfl rfl (hts _ pl_inX5) (hts _ pl_mlX5) (hts _ pl_imX5) rfl (by decide +kernel) ⟨Nat.le_of_ble_eq_true rfl, Nat.le_of_ble_eq_true rfl⟩) ⟨fun a U g mk q => by obtain ⟨q0, q1, qP, qK, qD⟩ := q; exact ⟨q0, q1, qP, va_K.moved (u := U) (U := U.calling g mk a) (Vm.Alike.refl U.vm) qK, qD⟩, fun U hU hW => ⟨rfl, by rw [hU], by rw [hU]; exact hPc, va_K.moved hW.alike hKc, hDc.weaken (fun _ _ _ _ => trivial)⟩⟩ rfl rfl hl.1 rfl (lv_room (Nat.le_of_ble_eq_true rfl)) dL_law_12 ⟨Nat.le_of_ble_eq_true rfl, Nat.le_of_ble_eq_true rfl⟩) hS (fun q _ h => hFc q h) hFc (fun u t H1 locs ht hvm hw hB hz1 hk1 hS => ?_)
  obtain ⟨ad', cI', cJ⟩ := u
  obtain ⟨hB0, hK1⟩ := hB
  obtain ⟨hP1, hD1⟩ := hB0 cr
  dsimp only at hw hP1 hD1 hK1
  rw [ht] at hP1
  have hK1 := va_K.moved hvm.symm hK1
  obtain ⟨hP, hD⟩ := va_join (wr := wC ad (ctF cI cI cr) σ0C) (w1 := wM ad' (ctF cI' cJ cr) σ0M) hP hD [50] [0, 1, 2, 3, 4, 5, 6, 7, 8, 9, 10, 11, 12, 13, 14, 15, 16, 17, 18, 19, 20, 21, 22, 23, 24, 25, 26, 27, 28, 29, 30, 31, 32, 33, 34, 35, 36, 37, 38, 39, 40, 41, 42, 43, 44, 45, 46, 47, 48, 49] rfl rfl (by decide) (by decide) hk1 hFc hP1 hD1
  have hK := (hK.sub (tys' := [(cI, .int), (cr.1, .object "WhisperJudge$Thing"), (cr.2.1, .object "WhisperJudge$Pair"), (cr.2.2, .object "WhisperJudge$Whisper")]) [0, 1, 2, 3] rfl).app hK1
  generalize H1 = H at hP hS ⊢
  have hK : va_K (dC, dI) vwCl [(cI, .int), (cr.1, .object "WhisperJudge$Thing"), (cr.2.1, .object "WhisperJudge$Pair"), (cr.2.2, .object "WhisperJudge$Whisper"), (cI', .int), (cJ, .long)] s := hK
  have e9 : cI' = cI := Option.some.inj ((hK.2 4 _ rfl).2.symm.trans (hK.2 0 _ rfl).2)
  subst e9
  have hP : va_P (dC, dI) vwCl (wL ad ad' (ctF cI' cJ cr) (σ0C, σ0M)) H := hP
  have hD : va_D (fun q : Nat => s.heap.size ≤ q) (wL ad ad' (ctF cI' cJ cr) (σ0C, σ0M)) := hD
  have hK : va_K (dC, dI) vwCl (tysF (ctF cI' cJ cr)) s := hK.sub (tys' := tysF (ctF cI' cJ cr)) [0, 5, 1, 2, 3] rfl
  rw [← hw]
  refine W.widen (k := 68) (n := 20794) (Nat.le_refl _) (Nat.le_refl _) ?_
  refine lv_astore_n (lv' := [(2, .ref (ad' 0)), (1, .ref (ad 0)), (0, .ref b)]) hx hb dL_law_15 rfl hl (by decide) rfl (fun ls hl => ?_)
  refine lv_iconst (v := 0) hx hb dL_law_16 (by decide) ?_
  refine lv_istore_n (lv' := [(3, .int 0), (2, .ref (ad' 0)), (1, .ref (ad 0)), (0, .ref b)]) hx hb dL_law_17 rfl hl (by decide) rfl (fun ls hl => ?_)
  have hadr : wAdr (wL ad ad' (ctF cI' cJ cr)) := wApp_adr (wC_adr ad _) (wM_adr ad' _)
  have CF : XFix (dC, dI) (tysF (ctF cI' cJ cr)) (wL ad ad' (ctF cI' cJ cr)) room_1 4 ((p, e, s, m), (#[Value.ref b], below, meth, c), (fun q : Nat => s.heap.size ≤ q), lw_Z below #[Value.ref b] s, (68, 20794)) code RL wsL_law :=
    ⟨⟨hx, hb, hml, hown, hts⟩, hK, fun u => hadr.D hD u, fun _ h => h, Nat.le_of_ble_eq_true rfl, Nat.le_of_ble_eq_true rfl, hNW⟩
  have hR : ∀ (pc : Nat) (lv : List (Nat × Value)) (u : ST × ST), decode code pc = .ok (.ireturn, 1) → V l (dC, dI) (tysF (ctF cI' cJ cr)) (wL ad ad' (ctF cI' cJ cr)) room_1 4 ((p, e, s, m), (#[Value.ref b], below, meth, c), (fun q : Nat => s.heap.size ≤ q), lw_Z below #[Value.ref b] s, (68, 20794)) pc lv [.int 1] u := by
    intro pc lv u hd H2 locs2 ls2 hP2 hS2 hl2
    refine va_forget (fun q hq => hS2.2.2 q hq) ?_
    refine W.widen (k := 600000) (n := 7302250) (Nat.le_of_ble_eq_true rfl) (Nat.le_of_ble_eq_true rfl) ?_
    exact lw_ret hx hb hr hlocks hd
  obtain ⟨n, hn⟩ := hpure L xs hL
  exact v_law_L18 CF hX hbl hbA hR n 0 σ0C σ0M hn H _ ls hP hS (lv_sub hl [3, 2, 1, 0] rfl)
