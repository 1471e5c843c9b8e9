/-! ===== the two worlds: the judge (50 cells), the reference (18 cells) ===== -/
abbrev tysF (ct : Nat → ClassId) : List (ClassId × FieldType) := [(ct 0, .int), (ct 1, .long), (ct 2, .object "WhisperJudge$Thing"), (ct 3, .object "WhisperJudge$Pair"), (ct 4, .object "WhisperJudge$Whisper")]
def fsC_J (ad : Nat → Nat) (σ : ST) : List Value := [.ref (ad 1), .ref (ad 2), .ref (ad 3), .ref (ad 10), .int (σ.1 0 4), .int (σ.1 0 5), .int (σ.1 0 6)]
def fsC_T (ad : Nat → Nat) (σ : ST) (k : Nat) : List Value := [.ref (ad (5 + 2 * k)), .int (σ.1 (4 + 2 * k) 1), .int (σ.1 (4 + 2 * k) 2), .int (σ.1 (4 + 2 * k) 3), .int (σ.1 (4 + 2 * k) 4), .int (σ.1 (4 + 2 * k) 5), .int (σ.1 (4 + 2 * k) 6), .long (σ.2.1 (4 + 2 * k) 7), .long (σ.2.1 (4 + 2 * k) 8)]
def fsC_R (ad : Nat → Nat) (σ : ST) : List Value := [.ref (ad 11), .ref (ad 12), .ref (ad 13), .ref (ad 14), .ref (ad 15), .int (σ.1 10 5), .long (σ.2.1 10 6)]
def fsC_P (ad : Nat → Nat) (σ : ST) (k : Nat) : List Value := [.ref (ad (17 + 6 * k)), .ref (ad (18 + 6 * k)), .ref (ad (19 + 6 * k)), .ref (ad (20 + 6 * k)), .ref (ad (21 + 6 * k)), .int (σ.1 (16 + 6 * k) 5), .int (σ.1 (16 + 6 * k) 6), .int (σ.1 (16 + 6 * k) 7)]
def fsC_H (ad : Nat → Nat) (σ : ST) (k : Nat) : List Value := [.ref (ad (35 + 4 * k)), .ref (ad (36 + 4 * k)), .ref (ad (37 + 4 * k)), .int (σ.1 (34 + 4 * k) 3), .int (σ.1 (34 + 4 * k) 4), .int (σ.1 (34 + 4 * k) 5)]
def wC (ad : Nat → Nat) (ct : Nat → ClassId) (σ : ST) : va_W := [(ad 0, .inr (4, fsC_J ad σ)),
  (ad 1, .inl (ct 2, 3, .inr (.inr (.inr (.inr (fun j => some (ad (4 + 2 * j)))))))),
  (ad 2, .inl (ct 3, 3, .inr (.inr (.inr (.inr (fun j => some (ad (16 + 6 * j)))))))),
  (ad 3, .inl (ct 4, 4, .inr (.inr (.inr (.inr (fun j => some (ad (34 + 4 * j)))))))),
  (ad 4, .inr (2, fsC_T ad σ 0)),
  (ad 5, .inl (ct 0, 4, .inl (σ.2.2.1 (5 + 2 * 0)))),
  (ad 6, .inr (2, fsC_T ad σ 1)),
  (ad 7, .inl (ct 0, 4, .inl (σ.2.2.1 (5 + 2 * 1)))),
  (ad 8, .inr (2, fsC_T ad σ 2)),
  (ad 9, .inl (ct 0, 4, .inl (σ.2.2.1 (5 + 2 * 2)))),
  (ad 10, .inr (1, fsC_R ad σ)),
  (ad 11, .inl (ct 0, 36, .inl (σ.2.2.1 11))),
  (ad 12, .inl (ct 0, 36, .inl (σ.2.2.1 12))),
  (ad 13, .inl (ct 0, 36, .inl (σ.2.2.1 13))),
  (ad 14, .inl (ct 0, 3, .inl (σ.2.2.1 14))),
  (ad 15, .inl (ct 0, 3, .inl (σ.2.2.1 15))),
  (ad 16, .inr (0, fsC_P ad σ 0)),
  (ad 17, .inl (ct 0, 320, .inl (σ.2.2.1 (17 + 6 * 0)))),
  (ad 18, .inl (ct 0, 64, .inl (σ.2.2.1 (18 + 6 * 0)))),
  (ad 19, .inl (ct 0, 64, .inl (σ.2.2.1 (19 + 6 * 0)))),
  (ad 20, .inl (ct 0, 64, .inl (σ.2.2.1 (20 + 6 * 0)))),
  (ad 21, .inl (ct 0, 64, .inl (σ.2.2.1 (21 + 6 * 0)))),
  (ad 22, .inr (0, fsC_P ad σ 1)),
  (ad 23, .inl (ct 0, 320, .inl (σ.2.2.1 (17 + 6 * 1)))),
  (ad 24, .inl (ct 0, 64, .inl (σ.2.2.1 (18 + 6 * 1)))),
  (ad 25, .inl (ct 0, 64, .inl (σ.2.2.1 (19 + 6 * 1)))),
  (ad 26, .inl (ct 0, 64, .inl (σ.2.2.1 (20 + 6 * 1)))),
  (ad 27, .inl (ct 0, 64, .inl (σ.2.2.1 (21 + 6 * 1)))),
  (ad 28, .inr (0, fsC_P ad σ 2)),
  (ad 29, .inl (ct 0, 320, .inl (σ.2.2.1 (17 + 6 * 2)))),
  (ad 30, .inl (ct 0, 64, .inl (σ.2.2.1 (18 + 6 * 2)))),
  (ad 31, .inl (ct 0, 64, .inl (σ.2.2.1 (19 + 6 * 2)))),
  (ad 32, .inl (ct 0, 64, .inl (σ.2.2.1 (20 + 6 * 2)))),
  (ad 33, .inl (ct 0, 64, .inl (σ.2.2.1 (21 + 6 * 2)))),
  (ad 34, .inr (3, fsC_H ad σ 0)),
  (ad 35, .inl (ct 0, 576, .inl (σ.2.2.1 (35 + 4 * 0)))),
  (ad 36, .inl (ct 0, 3, .inl (σ.2.2.1 (36 + 4 * 0)))),
  (ad 37, .inl (ct 0, 3, .inl (σ.2.2.1 (37 + 4 * 0)))),
  (ad 38, .inr (3, fsC_H ad σ 1)),
  (ad 39, .inl (ct 0, 576, .inl (σ.2.2.1 (35 + 4 * 1)))),
  (ad 40, .inl (ct 0, 3, .inl (σ.2.2.1 (36 + 4 * 1)))),
  (ad 41, .inl (ct 0, 3, .inl (σ.2.2.1 (37 + 4 * 1)))),
  (ad 42, .inr (3, fsC_H ad σ 2)),
  (ad 43, .inl (ct 0, 576, .inl (σ.2.2.1 (35 + 4 * 2)))),
  (ad 44, .inl (ct 0, 3, .inl (σ.2.2.1 (36 + 4 * 2)))),
  (ad 45, .inl (ct 0, 3, .inl (σ.2.2.1 (37 + 4 * 2)))),
  (ad 46, .inr (3, fsC_H ad σ 3)),
  (ad 47, .inl (ct 0, 576, .inl (σ.2.2.1 (35 + 4 * 3)))),
  (ad 48, .inl (ct 0, 3, .inl (σ.2.2.1 (36 + 4 * 3)))),
  (ad 49, .inl (ct 0, 3, .inl (σ.2.2.1 (37 + 4 * 3))))]
theorem wC_adr (ad : Nat → Nat) (ct : Nat → ClassId) : wAdr (wC ad ct) := fun _ _ => rfl
set_option maxRecDepth 100000 in
set_option maxHeartbeats 4000000 in
theorem gC_J (ad : Nat → Nat) (ct : Nat → ClassId) (σ : ST) : (wC ad ct σ)[0]? = some (ad 0, .inr (4, fsC_J ad σ)) := rfl
set_option maxRecDepth 100000 in
set_option maxHeartbeats 4000000 in
theorem sC_J_count (ad : Nat → Nat) (ct : Nat → ClassId) (σ : ST) {v : Int32} : (wC ad ct σ).set 0 (ad 0, .inr (4, (fsC_J ad σ).set 4 (.int v))) = wC ad ct (sI σ 0 4 v) := rfl
set_option maxRecDepth 100000 in
set_option maxHeartbeats 4000000 in
theorem sC_J_ticks (ad : Nat → Nat) (ct : Nat → ClassId) (σ : ST) {v : Int32} : (wC ad ct σ).set 0 (ad 0, .inr (4, (fsC_J ad σ).set 5 (.int v))) = wC ad ct (sI σ 0 5 v) := rfl
set_option maxRecDepth 100000 in
set_option maxHeartbeats 4000000 in
theorem sC_J_changes (ad : Nat → Nat) (ct : Nat → ClassId) (σ : ST) {v : Int32} : (wC ad ct σ).set 0 (ad 0, .inr (4, (fsC_J ad σ).set 6 (.int v))) = wC ad ct (sI σ 0 6 v) := rfl
set_option maxRecDepth 100000 in
set_option maxHeartbeats 4000000 in
theorem gC_J_things (ad : Nat → Nat) (ct : Nat → ClassId) (σ : ST) : (wC ad ct σ)[1]? = some (ad 1, .inl (ct 2, 3, .inr (.inr (.inr (.inr (fun j => some (ad (4 + 2 * j)))))))) := rfl
set_option maxRecDepth 100000 in
set_option maxHeartbeats 4000000 in
theorem gC_J_pairs (ad : Nat → Nat) (ct : Nat → ClassId) (σ : ST) : (wC ad ct σ)[2]? = some (ad 2, .inl (ct 3, 3, .inr (.inr (.inr (.inr (fun j => some (ad (16 + 6 * j)))))))) := rfl
set_option maxRecDepth 100000 in
set_option maxHeartbeats 4000000 in
theorem gC_J_whispers (ad : Nat → Nat) (ct : Nat → ClassId) (σ : ST) : (wC ad ct σ)[3]? = some (ad 3, .inl (ct 4, 4, .inr (.inr (.inr (.inr (fun j => some (ad (34 + 4 * j)))))))) := rfl
set_option maxRecDepth 100000 in
set_option maxHeartbeats 4000000 in
theorem gC_T (ad : Nat → Nat) (ct : Nat → ClassId) (σ : ST) {k : Nat} (hk : k < 3) : (wC ad ct σ)[(4 + 2 * k)]? = some (ad (4 + 2 * k), .inr (2, fsC_T ad σ k)) := match k, hk with
  | 0, _ => rfl
  | 1, _ => rfl
  | 2, _ => rfl
set_option maxRecDepth 100000 in
set_option maxHeartbeats 4000000 in
theorem sC_T_kind (ad : Nat → Nat) (ct : Nat → ClassId) (σ : ST) {k : Nat} (hk : k < 3) {v : Int32} : (wC ad ct σ).set (4 + 2 * k) (ad (4 + 2 * k), .inr (2, (fsC_T ad σ k).set 1 (.int v))) = wC ad ct (sI σ (4 + 2 * k) 1 v) := match k, hk with
  | 0, _ => rfl
  | 1, _ => rfl
  | 2, _ => rfl
set_option maxRecDepth 100000 in
set_option maxHeartbeats 4000000 in
theorem sC_T_first (ad : Nat → Nat) (ct : Nat → ClassId) (σ : ST) {k : Nat} (hk : k < 3) {v : Int32} : (wC ad ct σ).set (4 + 2 * k) (ad (4 + 2 * k), .inr (2, (fsC_T ad σ k).set 2 (.int v))) = wC ad ct (sI σ (4 + 2 * k) 2 v) := match k, hk with
  | 0, _ => rfl
  | 1, _ => rfl
  | 2, _ => rfl
set_option maxRecDepth 100000 in
set_option maxHeartbeats 4000000 in
theorem sC_T_wall (ad : Nat → Nat) (ct : Nat → ClassId) (σ : ST) {k : Nat} (hk : k < 3) {v : Int32} : (wC ad ct σ).set (4 + 2 * k) (ad (4 + 2 * k), .inr (2, (fsC_T ad σ k).set 3 (.int v))) = wC ad ct (sI σ (4 + 2 * k) 3 v) := match k, hk with
  | 0, _ => rfl
  | 1, _ => rfl
  | 2, _ => rfl
set_option maxRecDepth 100000 in
set_option maxHeartbeats 4000000 in
theorem sC_T_cleaned (ad : Nat → Nat) (ct : Nat → ClassId) (σ : ST) {k : Nat} (hk : k < 3) {v : Int32} : (wC ad ct σ).set (4 + 2 * k) (ad (4 + 2 * k), .inr (2, (fsC_T ad σ k).set 4 (.int v))) = wC ad ct (sI σ (4 + 2 * k) 4 v) := match k, hk with
  | 0, _ => rfl
  | 1, _ => rfl
  | 2, _ => rfl
set_option maxRecDepth 100000 in
set_option maxHeartbeats 4000000 in
theorem sC_T_padded (ad : Nat → Nat) (ct : Nat → ClassId) (σ : ST) {k : Nat} (hk : k < 3) {v : Int32} : (wC ad ct σ).set (4 + 2 * k) (ad (4 + 2 * k), .inr (2, (fsC_T ad σ k).set 5 (.int v))) = wC ad ct (sI σ (4 + 2 * k) 5 v) := match k, hk with
  | 0, _ => rfl
  | 1, _ => rfl
  | 2, _ => rfl
set_option maxRecDepth 100000 in
set_option maxHeartbeats 4000000 in
theorem sC_T_now (ad : Nat → Nat) (ct : Nat → ClassId) (σ : ST) {k : Nat} (hk : k < 3) {v : Int32} : (wC ad ct σ).set (4 + 2 * k) (ad (4 + 2 * k), .inr (2, (fsC_T ad σ k).set 6 (.int v))) = wC ad ct (sI σ (4 + 2 * k) 6 v) := match k, hk with
  | 0, _ => rfl
  | 1, _ => rfl
  | 2, _ => rfl
set_option maxRecDepth 100000 in
set_option maxHeartbeats 4000000 in
theorem sC_T_nexts (ad : Nat → Nat) (ct : Nat → ClassId) (σ : ST) {k : Nat} (hk : k < 3) {v : Int64} : (wC ad ct σ).set (4 + 2 * k) (ad (4 + 2 * k), .inr (2, (fsC_T ad σ k).set 7 (.long v))) = wC ad ct (sL σ (4 + 2 * k) 7 v) := match k, hk with
  | 0, _ => rfl
  | 1, _ => rfl
  | 2, _ => rfl
set_option maxRecDepth 100000 in
set_option maxHeartbeats 4000000 in
theorem sC_T_answers (ad : Nat → Nat) (ct : Nat → ClassId) (σ : ST) {k : Nat} (hk : k < 3) {v : Int64} : (wC ad ct σ).set (4 + 2 * k) (ad (4 + 2 * k), .inr (2, (fsC_T ad σ k).set 8 (.long v))) = wC ad ct (sL σ (4 + 2 * k) 8 v) := match k, hk with
  | 0, _ => rfl
  | 1, _ => rfl
  | 2, _ => rfl
set_option maxRecDepth 100000 in
set_option maxHeartbeats 4000000 in
theorem gC_T_prices (ad : Nat → Nat) (ct : Nat → ClassId) (σ : ST) {k : Nat} (hk : k < 3) : (wC ad ct σ)[(5 + 2 * k)]? = some (ad (5 + 2 * k), .inl (ct 0, 4, .inl (σ.2.2.1 (5 + 2 * k)))) := match k, hk with
  | 0, _ => rfl
  | 1, _ => rfl
  | 2, _ => rfl
set_option maxRecDepth 100000 in
set_option maxHeartbeats 4000000 in
theorem sC_T_prices (ad : Nat → Nat) (ct : Nat → ClassId) (σ : ST) {k : Nat} (hk : k < 3) {i : Nat} {x : Int32} : (wC ad ct σ).set (5 + 2 * k) (ad (5 + 2 * k), .inl (ct 0, 4, .inl (upd (σ.2.2.1 (5 + 2 * k)) i x))) = wC ad ct (sR σ (5 + 2 * k) i x) := match k, hk with
  | 0, _ => rfl
  | 1, _ => rfl
  | 2, _ => rfl
set_option maxRecDepth 100000 in
set_option maxHeartbeats 4000000 in
theorem gC_R (ad : Nat → Nat) (ct : Nat → ClassId) (σ : ST) : (wC ad ct σ)[10]? = some (ad 10, .inr (1, fsC_R ad σ)) := rfl
set_option maxRecDepth 100000 in
set_option maxHeartbeats 4000000 in
theorem sC_R_acts (ad : Nat → Nat) (ct : Nat → ClassId) (σ : ST) {v : Int32} : (wC ad ct σ).set 10 (ad 10, .inr (1, (fsC_R ad σ).set 5 (.int v))) = wC ad ct (sI σ 10 5 v) := rfl
set_option maxRecDepth 100000 in
set_option maxHeartbeats 4000000 in
theorem sC_R_start (ad : Nat → Nat) (ct : Nat → ClassId) (σ : ST) {v : Int64} : (wC ad ct σ).set 10 (ad 10, .inr (1, (fsC_R ad σ).set 6 (.long v))) = wC ad ct (sL σ 10 6 v) := rfl
set_option maxRecDepth 100000 in
set_option maxHeartbeats 4000000 in
theorem gC_R_sentTo (ad : Nat → Nat) (ct : Nat → ClassId) (σ : ST) : (wC ad ct σ)[11]? = some (ad 11, .inl (ct 0, 36, .inl (σ.2.2.1 11))) := rfl
set_option maxRecDepth 100000 in
set_option maxHeartbeats 4000000 in
theorem sC_R_sentTo (ad : Nat → Nat) (ct : Nat → ClassId) (σ : ST) {i : Nat} {x : Int32} : (wC ad ct σ).set 11 (ad 11, .inl (ct 0, 36, .inl (upd (σ.2.2.1 11) i x))) = wC ad ct (sR σ 11 i x) := rfl
set_option maxRecDepth 100000 in
set_option maxHeartbeats 4000000 in
theorem gC_R_heardTo (ad : Nat → Nat) (ct : Nat → ClassId) (σ : ST) : (wC ad ct σ)[12]? = some (ad 12, .inl (ct 0, 36, .inl (σ.2.2.1 12))) := rfl
set_option maxRecDepth 100000 in
set_option maxHeartbeats 4000000 in
theorem sC_R_heardTo (ad : Nat → Nat) (ct : Nat → ClassId) (σ : ST) {i : Nat} {x : Int32} : (wC ad ct σ).set 12 (ad 12, .inl (ct 0, 36, .inl (upd (σ.2.2.1 12) i x))) = wC ad ct (sR σ 12 i x) := rfl
set_option maxRecDepth 100000 in
set_option maxHeartbeats 4000000 in
theorem gC_R_heardAs (ad : Nat → Nat) (ct : Nat → ClassId) (σ : ST) : (wC ad ct σ)[13]? = some (ad 13, .inl (ct 0, 36, .inl (σ.2.2.1 13))) := rfl
set_option maxRecDepth 100000 in
set_option maxHeartbeats 4000000 in
theorem sC_R_heardAs (ad : Nat → Nat) (ct : Nat → ClassId) (σ : ST) {i : Nat} {x : Int32} : (wC ad ct σ).set 13 (ad 13, .inl (ct 0, 36, .inl (upd (σ.2.2.1 13) i x))) = wC ad ct (sR σ 13 i x) := rfl
set_option maxRecDepth 100000 in
set_option maxHeartbeats 4000000 in
theorem gC_R_cleanEach (ad : Nat → Nat) (ct : Nat → ClassId) (σ : ST) : (wC ad ct σ)[14]? = some (ad 14, .inl (ct 0, 3, .inl (σ.2.2.1 14))) := rfl
set_option maxRecDepth 100000 in
set_option maxHeartbeats 4000000 in
theorem sC_R_cleanEach (ad : Nat → Nat) (ct : Nat → ClassId) (σ : ST) {i : Nat} {x : Int32} : (wC ad ct σ).set 14 (ad 14, .inl (ct 0, 3, .inl (upd (σ.2.2.1 14) i x))) = wC ad ct (sR σ 14 i x) := rfl
set_option maxRecDepth 100000 in
set_option maxHeartbeats 4000000 in
theorem gC_R_firsts (ad : Nat → Nat) (ct : Nat → ClassId) (σ : ST) : (wC ad ct σ)[15]? = some (ad 15, .inl (ct 0, 3, .inl (σ.2.2.1 15))) := rfl
set_option maxRecDepth 100000 in
set_option maxHeartbeats 4000000 in
theorem sC_R_firsts (ad : Nat → Nat) (ct : Nat → ClassId) (σ : ST) {i : Nat} {x : Int32} : (wC ad ct σ).set 15 (ad 15, .inl (ct 0, 3, .inl (upd (σ.2.2.1 15) i x))) = wC ad ct (sR σ 15 i x) := rfl
set_option maxRecDepth 100000 in
set_option maxHeartbeats 4000000 in
theorem gC_P (ad : Nat → Nat) (ct : Nat → ClassId) (σ : ST) {k : Nat} (hk : k < 3) : (wC ad ct σ)[(16 + 6 * k)]? = some (ad (16 + 6 * k), .inr (0, fsC_P ad σ k)) := match k, hk with
  | 0, _ => rfl
  | 1, _ => rfl
  | 2, _ => rfl
set_option maxRecDepth 100000 in
set_option maxHeartbeats 4000000 in
theorem sC_P_queued (ad : Nat → Nat) (ct : Nat → ClassId) (σ : ST) {k : Nat} (hk : k < 3) {v : Int32} : (wC ad ct σ).set (16 + 6 * k) (ad (16 + 6 * k), .inr (0, (fsC_P ad σ k).set 5 (.int v))) = wC ad ct (sI σ (16 + 6 * k) 5 v) := match k, hk with
  | 0, _ => rfl
  | 1, _ => rfl
  | 2, _ => rfl
set_option maxRecDepth 100000 in
set_option maxHeartbeats 4000000 in
theorem sC_P_length (ad : Nat → Nat) (ct : Nat → ClassId) (σ : ST) {k : Nat} (hk : k < 3) {v : Int32} : (wC ad ct σ).set (16 + 6 * k) (ad (16 + 6 * k), .inr (0, (fsC_P ad σ k).set 6 (.int v))) = wC ad ct (sI σ (16 + 6 * k) 6 v) := match k, hk with
  | 0, _ => rfl
  | 1, _ => rfl
  | 2, _ => rfl
set_option maxRecDepth 100000 in
set_option maxHeartbeats 4000000 in
theorem sC_P_asOf (ad : Nat → Nat) (ct : Nat → ClassId) (σ : ST) {k : Nat} (hk : k < 3) {v : Int32} : (wC ad ct σ).set (16 + 6 * k) (ad (16 + 6 * k), .inr (0, (fsC_P ad σ k).set 7 (.int v))) = wC ad ct (sI σ (16 + 6 * k) 7 v) := match k, hk with
  | 0, _ => rfl
  | 1, _ => rfl
  | 2, _ => rfl
set_option maxRecDepth 100000 in
set_option maxHeartbeats 4000000 in
theorem gC_P_rows (ad : Nat → Nat) (ct : Nat → ClassId) (σ : ST) {k : Nat} (hk : k < 3) : (wC ad ct σ)[(17 + 6 * k)]? = some (ad (17 + 6 * k), .inl (ct 0, 320, .inl (σ.2.2.1 (17 + 6 * k)))) := match k, hk with
  | 0, _ => rfl
  | 1, _ => rfl
  | 2, _ => rfl
set_option maxRecDepth 100000 in
set_option maxHeartbeats 4000000 in
theorem sC_P_rows (ad : Nat → Nat) (ct : Nat → ClassId) (σ : ST) {k : Nat} (hk : k < 3) {i : Nat} {x : Int32} : (wC ad ct σ).set (17 + 6 * k) (ad (17 + 6 * k), .inl (ct 0, 320, .inl (upd (σ.2.2.1 (17 + 6 * k)) i x))) = wC ad ct (sR σ (17 + 6 * k) i x) := match k, hk with
  | 0, _ => rfl
  | 1, _ => rfl
  | 2, _ => rfl
set_option maxRecDepth 100000 in
set_option maxHeartbeats 4000000 in
theorem gC_P_queue (ad : Nat → Nat) (ct : Nat → ClassId) (σ : ST) {k : Nat} (hk : k < 3) : (wC ad ct σ)[(18 + 6 * k)]? = some (ad (18 + 6 * k), .inl (ct 0, 64, .inl (σ.2.2.1 (18 + 6 * k)))) := match k, hk with
  | 0, _ => rfl
  | 1, _ => rfl
  | 2, _ => rfl
set_option maxRecDepth 100000 in
set_option maxHeartbeats 4000000 in
theorem sC_P_queue (ad : Nat → Nat) (ct : Nat → ClassId) (σ : ST) {k : Nat} (hk : k < 3) {i : Nat} {x : Int32} : (wC ad ct σ).set (18 + 6 * k) (ad (18 + 6 * k), .inl (ct 0, 64, .inl (upd (σ.2.2.1 (18 + 6 * k)) i x))) = wC ad ct (sR σ (18 + 6 * k) i x) := match k, hk with
  | 0, _ => rfl
  | 1, _ => rfl
  | 2, _ => rfl
set_option maxRecDepth 100000 in
set_option maxHeartbeats 4000000 in
theorem gC_P_before (ad : Nat → Nat) (ct : Nat → ClassId) (σ : ST) {k : Nat} (hk : k < 3) : (wC ad ct σ)[(19 + 6 * k)]? = some (ad (19 + 6 * k), .inl (ct 0, 64, .inl (σ.2.2.1 (19 + 6 * k)))) := match k, hk with
  | 0, _ => rfl
  | 1, _ => rfl
  | 2, _ => rfl
set_option maxRecDepth 100000 in
set_option maxHeartbeats 4000000 in
theorem sC_P_before (ad : Nat → Nat) (ct : Nat → ClassId) (σ : ST) {k : Nat} (hk : k < 3) {i : Nat} {x : Int32} : (wC ad ct σ).set (19 + 6 * k) (ad (19 + 6 * k), .inl (ct 0, 64, .inl (upd (σ.2.2.1 (19 + 6 * k)) i x))) = wC ad ct (sR σ (19 + 6 * k) i x) := match k, hk with
  | 0, _ => rfl
  | 1, _ => rfl
  | 2, _ => rfl
set_option maxRecDepth 100000 in
set_option maxHeartbeats 4000000 in
theorem gC_P_edge (ad : Nat → Nat) (ct : Nat → ClassId) (σ : ST) {k : Nat} (hk : k < 3) : (wC ad ct σ)[(20 + 6 * k)]? = some (ad (20 + 6 * k), .inl (ct 0, 64, .inl (σ.2.2.1 (20 + 6 * k)))) := match k, hk with
  | 0, _ => rfl
  | 1, _ => rfl
  | 2, _ => rfl
set_option maxRecDepth 100000 in
set_option maxHeartbeats 4000000 in
theorem sC_P_edge (ad : Nat → Nat) (ct : Nat → ClassId) (σ : ST) {k : Nat} (hk : k < 3) {i : Nat} {x : Int32} : (wC ad ct σ).set (20 + 6 * k) (ad (20 + 6 * k), .inl (ct 0, 64, .inl (upd (σ.2.2.1 (20 + 6 * k)) i x))) = wC ad ct (sR σ (20 + 6 * k) i x) := match k, hk with
  | 0, _ => rfl
  | 1, _ => rfl
  | 2, _ => rfl
set_option maxRecDepth 100000 in
set_option maxHeartbeats 4000000 in
theorem gC_P_depth (ad : Nat → Nat) (ct : Nat → ClassId) (σ : ST) {k : Nat} (hk : k < 3) : (wC ad ct σ)[(21 + 6 * k)]? = some (ad (21 + 6 * k), .inl (ct 0, 64, .inl (σ.2.2.1 (21 + 6 * k)))) := match k, hk with
  | 0, _ => rfl
  | 1, _ => rfl
  | 2, _ => rfl
set_option maxRecDepth 100000 in
set_option maxHeartbeats 4000000 in
theorem sC_P_depth (ad : Nat → Nat) (ct : Nat → ClassId) (σ : ST) {k : Nat} (hk : k < 3) {i : Nat} {x : Int32} : (wC ad ct σ).set (21 + 6 * k) (ad (21 + 6 * k), .inl (ct 0, 64, .inl (upd (σ.2.2.1 (21 + 6 * k)) i x))) = wC ad ct (sR σ (21 + 6 * k) i x) := match k, hk with
  | 0, _ => rfl
  | 1, _ => rfl
  | 2, _ => rfl
set_option maxRecDepth 100000 in
set_option maxHeartbeats 4000000 in
theorem gC_H (ad : Nat → Nat) (ct : Nat → ClassId) (σ : ST) {k : Nat} (hk : k < 4) : (wC ad ct σ)[(34 + 4 * k)]? = some (ad (34 + 4 * k), .inr (3, fsC_H ad σ k)) := match k, hk with
  | 0, _ => rfl
  | 1, _ => rfl
  | 2, _ => rfl
  | 3, _ => rfl
set_option maxRecDepth 100000 in
set_option maxHeartbeats 4000000 in
theorem sC_H_many (ad : Nat → Nat) (ct : Nat → ClassId) (σ : ST) {k : Nat} (hk : k < 4) {v : Int32} : (wC ad ct σ).set (34 + 4 * k) (ad (34 + 4 * k), .inr (3, (fsC_H ad σ k).set 4 (.int v))) = wC ad ct (sI σ (34 + 4 * k) 4 v) := match k, hk with
  | 0, _ => rfl
  | 1, _ => rfl
  | 2, _ => rfl
  | 3, _ => rfl
set_option maxRecDepth 100000 in
set_option maxHeartbeats 4000000 in
theorem sC_H_asOf (ad : Nat → Nat) (ct : Nat → ClassId) (σ : ST) {k : Nat} (hk : k < 4) {v : Int32} : (wC ad ct σ).set (34 + 4 * k) (ad (34 + 4 * k), .inr (3, (fsC_H ad σ k).set 5 (.int v))) = wC ad ct (sI σ (34 + 4 * k) 5 v) := match k, hk with
  | 0, _ => rfl
  | 1, _ => rfl
  | 2, _ => rfl
  | 3, _ => rfl
set_option maxRecDepth 100000 in
set_option maxHeartbeats 4000000 in
theorem gC_H_rows (ad : Nat → Nat) (ct : Nat → ClassId) (σ : ST) {k : Nat} (hk : k < 4) : (wC ad ct σ)[(35 + 4 * k)]? = some (ad (35 + 4 * k), .inl (ct 0, 576, .inl (σ.2.2.1 (35 + 4 * k)))) := match k, hk with
  | 0, _ => rfl
  | 1, _ => rfl
  | 2, _ => rfl
  | 3, _ => rfl
set_option maxRecDepth 100000 in
set_option maxHeartbeats 4000000 in
theorem sC_H_rows (ad : Nat → Nat) (ct : Nat → ClassId) (σ : ST) {k : Nat} (hk : k < 4) {i : Nat} {x : Int32} : (wC ad ct σ).set (35 + 4 * k) (ad (35 + 4 * k), .inl (ct 0, 576, .inl (upd (σ.2.2.1 (35 + 4 * k)) i x))) = wC ad ct (sR σ (35 + 4 * k) i x) := match k, hk with
  | 0, _ => rfl
  | 1, _ => rfl
  | 2, _ => rfl
  | 3, _ => rfl
set_option maxRecDepth 100000 in
set_option maxHeartbeats 4000000 in
theorem gC_H_acts (ad : Nat → Nat) (ct : Nat → ClassId) (σ : ST) {k : Nat} (hk : k < 4) : (wC ad ct σ)[(36 + 4 * k)]? = some (ad (36 + 4 * k), .inl (ct 0, 3, .inl (σ.2.2.1 (36 + 4 * k)))) := match k, hk with
  | 0, _ => rfl
  | 1, _ => rfl
  | 2, _ => rfl
  | 3, _ => rfl
set_option maxRecDepth 100000 in
set_option maxHeartbeats 4000000 in
theorem sC_H_acts (ad : Nat → Nat) (ct : Nat → ClassId) (σ : ST) {k : Nat} (hk : k < 4) {i : Nat} {x : Int32} : (wC ad ct σ).set (36 + 4 * k) (ad (36 + 4 * k), .inl (ct 0, 3, .inl (upd (σ.2.2.1 (36 + 4 * k)) i x))) = wC ad ct (sR σ (36 + 4 * k) i x) := match k, hk with
  | 0, _ => rfl
  | 1, _ => rfl
  | 2, _ => rfl
  | 3, _ => rfl
set_option maxRecDepth 100000 in
set_option maxHeartbeats 4000000 in
theorem gC_H_answers (ad : Nat → Nat) (ct : Nat → ClassId) (σ : ST) {k : Nat} (hk : k < 4) : (wC ad ct σ)[(37 + 4 * k)]? = some (ad (37 + 4 * k), .inl (ct 0, 3, .inl (σ.2.2.1 (37 + 4 * k)))) := match k, hk with
  | 0, _ => rfl
  | 1, _ => rfl
  | 2, _ => rfl
  | 3, _ => rfl
set_option maxRecDepth 100000 in
set_option maxHeartbeats 4000000 in
theorem sC_H_answers (ad : Nat → Nat) (ct : Nat → ClassId) (σ : ST) {k : Nat} (hk : k < 4) {i : Nat} {x : Int32} : (wC ad ct σ).set (37 + 4 * k) (ad (37 + 4 * k), .inl (ct 0, 3, .inl (upd (σ.2.2.1 (37 + 4 * k)) i x))) = wC ad ct (sR σ (37 + 4 * k) i x) := match k, hk with
  | 0, _ => rfl
  | 1, _ => rfl
  | 2, _ => rfl
  | 3, _ => rfl
def fsM_M (ad : Nat → Nat) (σ : ST) : List Value := [.int (σ.1 0 0), .ref (ad 1), .ref (ad 2), .ref (ad 3), .ref (ad 4), .ref (ad 5), .ref (ad 6), .ref (ad 7), .ref (ad 8), .ref (ad 9), .int (σ.1 0 10), .ref (ad 10), .ref (ad 11), .ref (ad 12), .ref (ad 13), .ref (ad 14), .int (σ.1 0 16), .ref (ad 15), .ref (ad 16), .ref (ad 17)]
def wM (ad : Nat → Nat) (ct : Nat → ClassId) (σ : ST) : va_W := [(ad 0, .inr (5, fsM_M ad σ)),
  (ad 1, .inl (ct 0, 3, .inl (σ.2.2.1 1))),
  (ad 2, .inl (ct 0, 3, .inl (σ.2.2.1 2))),
  (ad 3, .inl (ct 0, 3, .inl (σ.2.2.1 3))),
  (ad 4, .inl (ct 0, 3, .inl (σ.2.2.1 4))),
  (ad 5, .inl (ct 0, 3, .inl (σ.2.2.1 5))),
  (ad 6, .inl (ct 0, 12, .inl (σ.2.2.1 6))),
  (ad 7, .inl (ct 0, 3, .inl (σ.2.2.1 7))),
  (ad 8, .inl (ct 1, 3, .inr (.inl (σ.2.2.2 8)))),
  (ad 9, .inl (ct 1, 3, .inr (.inl (σ.2.2.2 9)))),
  (ad 10, .inl (ct 0, 64, .inl (σ.2.2.1 10))),
  (ad 11, .inl (ct 1, 4096, .inr (.inl (σ.2.2.2 11)))),
  (ad 12, .inl (ct 0, 4096, .inl (σ.2.2.1 12))),
  (ad 13, .inl (ct 0, 4096, .inl (σ.2.2.1 13))),
  (ad 14, .inl (ct 0, 4096, .inl (σ.2.2.1 14))),
  (ad 15, .inl (ct 0, 3, .inl (σ.2.2.1 15))),
  (ad 16, .inl (ct 0, 3, .inl (σ.2.2.1 16))),
  (ad 17, .inl (ct 0, 3, .inl (σ.2.2.1 17)))]
theorem wM_adr (ad : Nat → Nat) (ct : Nat → ClassId) : wAdr (wM ad ct) := fun _ _ => rfl
set_option maxRecDepth 100000 in
set_option maxHeartbeats 4000000 in
theorem gM_M (ad : Nat → Nat) (ct : Nat → ClassId) (σ : ST) : (wM ad ct σ)[0]? = some (ad 0, .inr (5, fsM_M ad σ)) := rfl
set_option maxRecDepth 100000 in
set_option maxHeartbeats 4000000 in
theorem sM_M_many (ad : Nat → Nat) (ct : Nat → ClassId) (σ : ST) {v : Int32} : (wM ad ct σ).set 0 (ad 0, .inr (5, (fsM_M ad σ).set 0 (.int v))) = wM ad ct (sI σ 0 0 v) := rfl
set_option maxRecDepth 100000 in
set_option maxHeartbeats 4000000 in
theorem sM_M_ticks (ad : Nat → Nat) (ct : Nat → ClassId) (σ : ST) {v : Int32} : (wM ad ct σ).set 0 (ad 0, .inr (5, (fsM_M ad σ).set 10 (.int v))) = wM ad ct (sI σ 0 10 v) := rfl
set_option maxRecDepth 100000 in
set_option maxHeartbeats 4000000 in
theorem sM_M_question (ad : Nat → Nat) (ct : Nat → ClassId) (σ : ST) {v : Int32} : (wM ad ct σ).set 0 (ad 0, .inr (5, (fsM_M ad σ).set 16 (.int v))) = wM ad ct (sI σ 0 16 v) := rfl
set_option maxRecDepth 100000 in
set_option maxHeartbeats 4000000 in
theorem gM_M_kind (ad : Nat → Nat) (ct : Nat → ClassId) (σ : ST) : (wM ad ct σ)[1]? = some (ad 1, .inl (ct 0, 3, .inl (σ.2.2.1 1))) := rfl
set_option maxRecDepth 100000 in
set_option maxHeartbeats 4000000 in
theorem sM_M_kind (ad : Nat → Nat) (ct : Nat → ClassId) (σ : ST) {i : Nat} {x : Int32} : (wM ad ct σ).set 1 (ad 1, .inl (ct 0, 3, .inl (upd (σ.2.2.1 1) i x))) = wM ad ct (sR σ 1 i x) := rfl
set_option maxRecDepth 100000 in
set_option maxHeartbeats 4000000 in
theorem gM_M_first (ad : Nat → Nat) (ct : Nat → ClassId) (σ : ST) : (wM ad ct σ)[2]? = some (ad 2, .inl (ct 0, 3, .inl (σ.2.2.1 2))) := rfl
set_option maxRecDepth 100000 in
set_option maxHeartbeats 4000000 in
theorem sM_M_first (ad : Nat → Nat) (ct : Nat → ClassId) (σ : ST) {i : Nat} {x : Int32} : (wM ad ct σ).set 2 (ad 2, .inl (ct 0, 3, .inl (upd (σ.2.2.1 2) i x))) = wM ad ct (sR σ 2 i x) := rfl
set_option maxRecDepth 100000 in
set_option maxHeartbeats 4000000 in
theorem gM_M_wall (ad : Nat → Nat) (ct : Nat → ClassId) (σ : ST) : (wM ad ct σ)[3]? = some (ad 3, .inl (ct 0, 3, .inl (σ.2.2.1 3))) := rfl
set_option maxRecDepth 100000 in
set_option maxHeartbeats 4000000 in
theorem sM_M_wall (ad : Nat → Nat) (ct : Nat → ClassId) (σ : ST) {i : Nat} {x : Int32} : (wM ad ct σ).set 3 (ad 3, .inl (ct 0, 3, .inl (upd (σ.2.2.1 3) i x))) = wM ad ct (sR σ 3 i x) := rfl
set_option maxRecDepth 100000 in
set_option maxHeartbeats 4000000 in
theorem gM_M_clean (ad : Nat → Nat) (ct : Nat → ClassId) (σ : ST) : (wM ad ct σ)[4]? = some (ad 4, .inl (ct 0, 3, .inl (σ.2.2.1 4))) := rfl
set_option maxRecDepth 100000 in
set_option maxHeartbeats 4000000 in
theorem sM_M_clean (ad : Nat → Nat) (ct : Nat → ClassId) (σ : ST) {i : Nat} {x : Int32} : (wM ad ct σ).set 4 (ad 4, .inl (ct 0, 3, .inl (upd (σ.2.2.1 4) i x))) = wM ad ct (sR σ 4 i x) := rfl
set_option maxRecDepth 100000 in
set_option maxHeartbeats 4000000 in
theorem gM_M_pad (ad : Nat → Nat) (ct : Nat → ClassId) (σ : ST) : (wM ad ct σ)[5]? = some (ad 5, .inl (ct 0, 3, .inl (σ.2.2.1 5))) := rfl
set_option maxRecDepth 100000 in
set_option maxHeartbeats 4000000 in
theorem sM_M_pad (ad : Nat → Nat) (ct : Nat → ClassId) (σ : ST) {i : Nat} {x : Int32} : (wM ad ct σ).set 5 (ad 5, .inl (ct 0, 3, .inl (upd (σ.2.2.1 5) i x))) = wM ad ct (sR σ 5 i x) := rfl
set_option maxRecDepth 100000 in
set_option maxHeartbeats 4000000 in
theorem gM_M_price (ad : Nat → Nat) (ct : Nat → ClassId) (σ : ST) : (wM ad ct σ)[6]? = some (ad 6, .inl (ct 0, 12, .inl (σ.2.2.1 6))) := rfl
set_option maxRecDepth 100000 in
set_option maxHeartbeats 4000000 in
theorem sM_M_price (ad : Nat → Nat) (ct : Nat → ClassId) (σ : ST) {i : Nat} {x : Int32} : (wM ad ct σ).set 6 (ad 6, .inl (ct 0, 12, .inl (upd (σ.2.2.1 6) i x))) = wM ad ct (sR σ 6 i x) := rfl
set_option maxRecDepth 100000 in
set_option maxHeartbeats 4000000 in
theorem gM_M_state (ad : Nat → Nat) (ct : Nat → ClassId) (σ : ST) : (wM ad ct σ)[7]? = some (ad 7, .inl (ct 0, 3, .inl (σ.2.2.1 7))) := rfl
set_option maxRecDepth 100000 in
set_option maxHeartbeats 4000000 in
theorem sM_M_state (ad : Nat → Nat) (ct : Nat → ClassId) (σ : ST) {i : Nat} {x : Int32} : (wM ad ct σ).set 7 (ad 7, .inl (ct 0, 3, .inl (upd (σ.2.2.1 7) i x))) = wM ad ct (sR σ 7 i x) := rfl
set_option maxRecDepth 100000 in
set_option maxHeartbeats 4000000 in
theorem gM_M_nextOf (ad : Nat → Nat) (ct : Nat → ClassId) (σ : ST) : (wM ad ct σ)[8]? = some (ad 8, .inl (ct 1, 3, .inr (.inl (σ.2.2.2 8)))) := rfl
set_option maxRecDepth 100000 in
set_option maxHeartbeats 4000000 in
theorem sM_M_nextOf (ad : Nat → Nat) (ct : Nat → ClassId) (σ : ST) {i : Nat} {x : Int64} : (wM ad ct σ).set 8 (ad 8, .inl (ct 1, 3, .inr (.inl (vp_updL (σ.2.2.2 8) i x)))) = wM ad ct (sJ σ 8 i x) := rfl
set_option maxRecDepth 100000 in
set_option maxHeartbeats 4000000 in
theorem gM_M_answerOf (ad : Nat → Nat) (ct : Nat → ClassId) (σ : ST) : (wM ad ct σ)[9]? = some (ad 9, .inl (ct 1, 3, .inr (.inl (σ.2.2.2 9)))) := rfl
set_option maxRecDepth 100000 in
set_option maxHeartbeats 4000000 in
theorem sM_M_answerOf (ad : Nat → Nat) (ct : Nat → ClassId) (σ : ST) {i : Nat} {x : Int64} : (wM ad ct σ).set 9 (ad 9, .inl (ct 1, 3, .inr (.inl (vp_updL (σ.2.2.2 9) i x)))) = wM ad ct (sJ σ 9 i x) := rfl
set_option maxRecDepth 100000 in
set_option maxHeartbeats 4000000 in
theorem gM_M_ahead (ad : Nat → Nat) (ct : Nat → ClassId) (σ : ST) : (wM ad ct σ)[10]? = some (ad 10, .inl (ct 0, 64, .inl (σ.2.2.1 10))) := rfl
set_option maxRecDepth 100000 in
set_option maxHeartbeats 4000000 in
theorem sM_M_ahead (ad : Nat → Nat) (ct : Nat → ClassId) (σ : ST) {i : Nat} {x : Int32} : (wM ad ct σ).set 10 (ad 10, .inl (ct 0, 64, .inl (upd (σ.2.2.1 10) i x))) = wM ad ct (sR σ 10 i x) := rfl
set_option maxRecDepth 100000 in
set_option maxHeartbeats 4000000 in
theorem gM_M_knownSet (ad : Nat → Nat) (ct : Nat → ClassId) (σ : ST) : (wM ad ct σ)[11]? = some (ad 11, .inl (ct 1, 4096, .inr (.inl (σ.2.2.2 11)))) := rfl
set_option maxRecDepth 100000 in
set_option maxHeartbeats 4000000 in
theorem sM_M_knownSet (ad : Nat → Nat) (ct : Nat → ClassId) (σ : ST) {i : Nat} {x : Int64} : (wM ad ct σ).set 11 (ad 11, .inl (ct 1, 4096, .inr (.inl (vp_updL (σ.2.2.2 11) i x)))) = wM ad ct (sJ σ 11 i x) := rfl
set_option maxRecDepth 100000 in
set_option maxHeartbeats 4000000 in
theorem gM_M_knownTick (ad : Nat → Nat) (ct : Nat → ClassId) (σ : ST) : (wM ad ct σ)[12]? = some (ad 12, .inl (ct 0, 4096, .inl (σ.2.2.1 12))) := rfl
set_option maxRecDepth 100000 in
set_option maxHeartbeats 4000000 in
theorem sM_M_knownTick (ad : Nat → Nat) (ct : Nat → ClassId) (σ : ST) {i : Nat} {x : Int32} : (wM ad ct σ).set 12 (ad 12, .inl (ct 0, 4096, .inl (upd (σ.2.2.1 12) i x))) = wM ad ct (sR σ 12 i x) := rfl
set_option maxRecDepth 100000 in
set_option maxHeartbeats 4000000 in
theorem gM_M_knownIn (ad : Nat → Nat) (ct : Nat → ClassId) (σ : ST) : (wM ad ct σ)[13]? = some (ad 13, .inl (ct 0, 4096, .inl (σ.2.2.1 13))) := rfl
set_option maxRecDepth 100000 in
set_option maxHeartbeats 4000000 in
theorem sM_M_knownIn (ad : Nat → Nat) (ct : Nat → ClassId) (σ : ST) {i : Nat} {x : Int32} : (wM ad ct σ).set 13 (ad 13, .inl (ct 0, 4096, .inl (upd (σ.2.2.1 13) i x))) = wM ad ct (sR σ 13 i x) := rfl
set_option maxRecDepth 100000 in
set_option maxHeartbeats 4000000 in
theorem gM_M_knownMost (ad : Nat → Nat) (ct : Nat → ClassId) (σ : ST) : (wM ad ct σ)[14]? = some (ad 14, .inl (ct 0, 4096, .inl (σ.2.2.1 14))) := rfl
set_option maxRecDepth 100000 in
set_option maxHeartbeats 4000000 in
theorem sM_M_knownMost (ad : Nat → Nat) (ct : Nat → ClassId) (σ : ST) {i : Nat} {x : Int32} : (wM ad ct σ).set 14 (ad 14, .inl (ct 0, 4096, .inl (upd (σ.2.2.1 14) i x))) = wM ad ct (sR σ 14 i x) := rfl
set_option maxRecDepth 100000 in
set_option maxHeartbeats 4000000 in
theorem gM_M_acts (ad : Nat → Nat) (ct : Nat → ClassId) (σ : ST) : (wM ad ct σ)[15]? = some (ad 15, .inl (ct 0, 3, .inl (σ.2.2.1 15))) := rfl
set_option maxRecDepth 100000 in
set_option maxHeartbeats 4000000 in
theorem sM_M_acts (ad : Nat → Nat) (ct : Nat → ClassId) (σ : ST) {i : Nat} {x : Int32} : (wM ad ct σ).set 15 (ad 15, .inl (ct 0, 3, .inl (upd (σ.2.2.1 15) i x))) = wM ad ct (sR σ 15 i x) := rfl
set_option maxRecDepth 100000 in
set_option maxHeartbeats 4000000 in
theorem gM_M_said (ad : Nat → Nat) (ct : Nat → ClassId) (σ : ST) : (wM ad ct σ)[16]? = some (ad 16, .inl (ct 0, 3, .inl (σ.2.2.1 16))) := rfl
set_option maxRecDepth 100000 in
set_option maxHeartbeats 4000000 in
theorem sM_M_said (ad : Nat → Nat) (ct : Nat → ClassId) (σ : ST) {i : Nat} {x : Int32} : (wM ad ct σ).set 16 (ad 16, .inl (ct 0, 3, .inl (upd (σ.2.2.1 16) i x))) = wM ad ct (sR σ 16 i x) := rfl
set_option maxRecDepth 100000 in
set_option maxHeartbeats 4000000 in
theorem gM_M_wish (ad : Nat → Nat) (ct : Nat → ClassId) (σ : ST) : (wM ad ct σ)[17]? = some (ad 17, .inl (ct 0, 3, .inl (σ.2.2.1 17))) := rfl
set_option maxRecDepth 100000 in
set_option maxHeartbeats 4000000 in
theorem sM_M_wish (ad : Nat → Nat) (ct : Nat → ClassId) (σ : ST) {i : Nat} {x : Int32} : (wM ad ct σ).set 17 (ad 17, .inl (ct 0, 3, .inl (upd (σ.2.2.1 17) i x))) = wM ad ct (sR σ 17 i x) := rfl
