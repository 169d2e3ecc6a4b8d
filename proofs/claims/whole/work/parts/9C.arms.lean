/-- where an arm of the switch comes out -/
def lwK (p : Program) (l : Launch) (e : Env) (s : State) (m : MethodId) (below : List Frame) (meth : Method) (c : Code) (cells slots : Nat) (Q : State → Prop) (b n0 : Nat) (D : va_G) (cf : Nat → ClassId) (cL : ClassId) (B i : Nat) : Prop :=
  ∀ (H1 : Heap) (locs1 : List Loc) (Ix1 Im1 : ek_St) (v1 : Int64) (ls1 : Array Slot) (cells1 slots1 : Nat), lwH n0 D cf cL Ix1 Im1 v1 s H1 locs1 → ST Ix1 Im1 (B + 5000) → lv_has ls1 7 (lwL b n0 i) → cells1 ≤ cells + 1 → slots1 ≤ slots + 6 → W p l e room_1 s m #[Value.ref b] below meth c H1 locs1 cells1 slots1 Q (F0 m 456 ls1 [])
section LWA
variable {p : Program} {l : Launch} {e : Env} {s : State} {m : MethodId} {below : List Frame} {meth : Method} {c : Code} {H : Heap} {locs : List Loc} {cells slots : Nat} {Q : State → Prop}
variable {ls : Array Slot} {b L n0 i B : Nat} {xs : Nat → Int32} {D : va_G} {cf : Nat → ClassId} {cL : ClassId} {Ix Im : ek_St} {v : Int64}
set_option maxHeartbeats 1000000 in
theorem lw_add (Y : lwC p s m meth c b L xs n0 D cf cL) (hH : lwH n0 D cf cL Ix Im v s H locs) (hST : ST Ix Im B) (hB : B ≤ 900000000) (hi : i + 6 ≤ L) (hl : lv_has ls 7 (lwL b n0 i)) (hcs : cells ≤ room_1.cells ∧ slots ≤ room_1.slots) (kk : lwK p l e s m below meth c cells slots Q b n0 D cf cL B i) : W p l e room_1 s m #[Value.ref b] below meth c H locs cells slots Q (F0 m 92 ls []) := by
  obtain ⟨hx, hb, hml, hown, hts⟩ := id Y.1
  obtain ⟨Ix1, Im1, r, e1, e2, hS1⟩ := j_add kM_k (by omega) hST (xs (i + 1)) (xs (i + 2)) (xs (i + 3)) (xs (i + 4)) (xs (i + 5))
  refine lv_aload_n hx hb dL92 rfl (lv_at hl 3 rfl) ?_
  refine lw_sc Y hH hl 1 (by omega) (by decide) dA93 ?_
  refine lw_sc Y hH hl 2 (by omega) (by decide) dA99 ?_
  refine lw_sc Y hH hl 3 (by omega) (by decide) dA105 ?_
  refine lw_sc Y hH hl 4 (by omega) (by decide) dA111 ?_
  refine lw_sc Y hH hl 5 (by omega) (by decide) dA117 ?_
  refine lw_cx (r := r) (Ix' := Ix1) Y hH hl.1 (As := [.int (xs (i + 1)), .int (xs (i + 2)), .int (xs (i + 3)), .int (xs (i + 4)), .int (xs (i + 5))]) (rest := []) (mKe_add e1) (cwV 5 hts (lw_V q_218 q_219 q_220 q_1 q_221) rfl rfl rfl (by decide +kernel) (by decide)) rfl rfl (by show 0 ≤ 4; decide) dL123 hcs (fun H1 locs1 hH => ?_)
  refine lv_aload_n hx hb dL126 rfl (lv_at hl 2 rfl) ?_
  refine lw_sc Y hH hl 1 (by omega) (by decide) dA127 ?_
  refine lw_sc Y hH hl 2 (by omega) (by decide) dA133 ?_
  refine lw_sc Y hH hl 3 (by omega) (by decide) dA139 ?_
  refine lw_sc Y hH hl 4 (by omega) (by decide) dA145 ?_
  refine lw_sc Y hH hl 5 (by omega) (by decide) dA151 ?_
  refine lw_cm (r := r) (Im' := Im1) Y hH hl.1 (As := [.int (xs (i + 1)), .int (xs (i + 2)), .int (xs (i + 3)), .int (xs (i + 4)), .int (xs (i + 5))]) (rest := [.int r]) (mMo_add5 e2) (cwV 5 hts (lw_V q_657 q_658 q_659 q_8 q_660) rfl rfl rfl (by decide +kernel) (by decide)) rfl rfl (by show 1 ≤ 4; decide) dL157 hcs (fun H2 locs2 hH => ?_)
  exact lv_icmp_eq (tgt := 456) hx hb dL160 (by decide) (fun _ => kk H2 locs2 Ix1 Im1 v ls cells slots hH (hS1.mono (by omega)) hl (by omega) (by omega)) (fun h => absurd rfl h)
set_option maxHeartbeats 1000000 in
theorem lw_leave (Y : lwC p s m meth c b L xs n0 D cf cL) (hH : lwH n0 D cf cL Ix Im v s H locs) (hST : ST Ix Im B) (hB : B ≤ 900000000) (hi : i + 6 ≤ L) (hl : lv_has ls 7 (lwL b n0 i)) (hcs : cells ≤ room_1.cells ∧ slots ≤ room_1.slots) (kk : lwK p l e s m below meth c cells slots Q b n0 D cf cL B i) : W p l e room_1 s m #[Value.ref b] below meth c H locs cells slots Q (F0 m 165 ls []) := by
  obtain ⟨hx, hb, hml, hown, hts⟩ := id Y.1
  obtain ⟨Ix1, Im1, r, e1, e2, hS1⟩ := j_leave kM_k (by omega) hST (xs (i + 1))
  refine lv_aload_n hx hb dL165 rfl (lv_at hl 3 rfl) ?_
  refine lw_sc Y hH hl 1 (by omega) (by decide) dA166 ?_
  refine lw_cx (r := r) (Ix' := Ix1) Y hH hl.1 (As := [.int (xs (i + 1))]) (rest := []) (mKe_leave e1) (cwV 1 hts (lw_V q_413 q_414 q_415 q_1 q_416) rfl rfl rfl (by decide +kernel) (by decide)) rfl rfl (by show 0 ≤ 4; decide) dL172 hcs (fun H1 locs1 hH => ?_)
  refine lv_aload_n hx hb dL175 rfl (lv_at hl 2 rfl) ?_
  refine lw_sc Y hH hl 1 (by omega) (by decide) dA176 ?_
  refine lw_cm (r := r) (Im' := Im1) Y hH hl.1 (As := [.int (xs (i + 1))]) (rest := [.int r]) (mMo_leave e2) (cwV 1 hts (lw_V q_747 q_748 q_749 q_8 q_750) rfl rfl rfl (by decide +kernel) (by decide)) rfl rfl (by show 1 ≤ 4; decide) dL182 hcs (fun H2 locs2 hH => ?_)
  exact lv_icmp_eq (tgt := 456) hx hb dL185 (by decide) (fun _ => kk H2 locs2 Ix1 Im1 v ls cells slots hH (hS1.mono (by omega)) hl (by omega) (by omega)) (fun h => absurd rfl h)
set_option maxHeartbeats 1000000 in
theorem lw_load (Y : lwC p s m meth c b L xs n0 D cf cL) (hH : lwH n0 D cf cL Ix Im v s H locs) (hST : ST Ix Im B) (hB : B ≤ 900000000) (hi : i + 6 ≤ L) (hl : lv_has ls 7 (lwL b n0 i)) (hcs : cells ≤ room_1.cells ∧ slots ≤ room_1.slots) (kk : lwK p l e s m below meth c cells slots Q b n0 D cf cL B i) : W p l e room_1 s m #[Value.ref b] below meth c H locs cells slots Q (F0 m 190 ls []) := by
  obtain ⟨hx, hb, hml, hown, hts⟩ := id Y.1
  obtain ⟨Ix1, Im1, r, e1, e2, hS1⟩ := j_load kM_k (by omega) hST (xs (i + 1))
  refine lv_aload_n hx hb dL190 rfl (lv_at hl 3 rfl) ?_
  refine lw_sc Y hH hl 1 (by omega) (by decide) dA191 ?_
  refine lw_cx (r := r) (Ix' := Ix1) Y hH hl.1 (As := [.int (xs (i + 1))]) (rest := []) (mKe_load e1) (cwV 1 hts (lw_V q_418 q_419 q_420 q_1 q_421) rfl rfl rfl (by decide +kernel) (by decide)) rfl rfl (by show 0 ≤ 4; decide) dL197 hcs (fun H1 locs1 hH => ?_)
  refine lv_aload_n hx hb dL200 rfl (lv_at hl 2 rfl) ?_
  refine lw_sc Y hH hl 1 (by omega) (by decide) dA201 ?_
  refine lw_cm (r := r) (Im' := Im1) Y hH hl.1 (As := [.int (xs (i + 1))]) (rest := [.int r]) (mMo_load e2) (cwV 1 hts (lw_V q_751 q_752 q_753 q_8 q_754) rfl rfl rfl (by decide +kernel) (by decide)) rfl rfl (by show 1 ≤ 4; decide) dL207 hcs (fun H2 locs2 hH => ?_)
  exact lv_icmp_eq (tgt := 456) hx hb dL210 (by decide) (fun _ => kk H2 locs2 Ix1 Im1 v ls cells slots hH (hS1.mono (by omega)) hl (by omega) (by omega)) (fun h => absurd rfl h)
set_option maxHeartbeats 1000000 in
theorem lw_use (Y : lwC p s m meth c b L xs n0 D cf cL) (hH : lwH n0 D cf cL Ix Im v s H locs) (hST : ST Ix Im B) (hB : B ≤ 900000000) (hi : i + 6 ≤ L) (hl : lv_has ls 7 (lwL b n0 i)) (hcs : cells ≤ room_1.cells ∧ slots ≤ room_1.slots) (kk : lwK p l e s m below meth c cells slots Q b n0 D cf cL B i) : W p l e room_1 s m #[Value.ref b] below meth c H locs cells slots Q (F0 m 215 ls []) := by
  obtain ⟨hx, hb, hml, hown, hts⟩ := id Y.1
  obtain ⟨Ix1, Im1, r, e1, e2, hS1⟩ := j_use kM_k hST (xs (i + 1)) (xs (i + 2))
  refine lv_aload_n hx hb dL215 rfl (lv_at hl 3 rfl) ?_
  refine lw_sc Y hH hl 1 (by omega) (by decide) dA216 ?_
  refine lw_sc Y hH hl 2 (by omega) (by decide) dA222 ?_
  refine lw_cx (r := r) (Ix' := Ix1) Y hH hl.1 (As := [.int (xs (i + 1)), .int (xs (i + 2))]) (rest := []) (mKe_use e1) (cwV 2 hts (lw_V q_422 q_423 q_424 q_1 q_425) rfl rfl rfl (by decide +kernel) (by decide)) rfl rfl (by show 0 ≤ 4; decide) dL228 hcs (fun H1 locs1 hH => ?_)
  refine lv_aload_n hx hb dL231 rfl (lv_at hl 2 rfl) ?_
  refine lw_sc Y hH hl 1 (by omega) (by decide) dA232 ?_
  refine lw_sc Y hH hl 2 (by omega) (by decide) dA238 ?_
  refine lw_cm (r := r) (Im' := Im1) Y hH hl.1 (As := [.int (xs (i + 1)), .int (xs (i + 2))]) (rest := [.int r]) (mMo_use e2) (cwV 2 hts (lw_V q_755 q_756 q_757 q_8 q_758) rfl rfl rfl (by decide +kernel) (by decide)) rfl rfl (by show 1 ≤ 4; decide) dL244 hcs (fun H2 locs2 hH => ?_)
  exact lv_icmp_eq (tgt := 456) hx hb dL247 (by decide) (fun _ => kk H2 locs2 Ix1 Im1 v ls cells slots hH (hS1.mono (by omega)) hl (by omega) (by omega)) (fun h => absurd rfl h)
set_option maxHeartbeats 1000000 in
theorem lw_task (Y : lwC p s m meth c b L xs n0 D cf cL) (hH : lwH n0 D cf cL Ix Im v s H locs) (hST : ST Ix Im B) (hB : B ≤ 900000000) (hi : i + 6 ≤ L) (hl : lv_has ls 7 (lwL b n0 i)) (hcs : cells ≤ room_1.cells ∧ slots ≤ room_1.slots) (kk : lwK p l e s m below meth c cells slots Q b n0 D cf cL B i) : W p l e room_1 s m #[Value.ref b] below meth c H locs cells slots Q (F0 m 308 ls []) := by
  obtain ⟨hx, hb, hml, hown, hts⟩ := id Y.1
  obtain ⟨Ix1, Im1, r, e1, e2, hS1⟩ := j_task kM_k hST (xs (i + 1)) (xs (i + 2))
  refine lv_aload_n hx hb dL308 rfl (lv_at hl 3 rfl) ?_
  refine lw_sc Y hH hl 1 (by omega) (by decide) dA309 ?_
  refine lw_sc Y hH hl 2 (by omega) (by decide) dA315 ?_
  refine lw_cx (r := r) (Ix' := Ix1) Y hH hl.1 (As := [.int (xs (i + 1)), .int (xs (i + 2))]) (rest := []) (mKe_task e1) (cwV 2 hts (lw_V q_426 q_427 q_428 q_1 q_429) rfl rfl rfl (by decide +kernel) (by decide)) rfl rfl (by show 0 ≤ 4; decide) dL321 hcs (fun H1 locs1 hH => ?_)
  refine lv_aload_n hx hb dL324 rfl (lv_at hl 2 rfl) ?_
  refine lw_sc Y hH hl 1 (by omega) (by decide) dA325 ?_
  refine lw_sc Y hH hl 2 (by omega) (by decide) dA331 ?_
  refine lw_cm (r := r) (Im' := Im1) Y hH hl.1 (As := [.int (xs (i + 1)), .int (xs (i + 2))]) (rest := [.int r]) (mMo_task e2) (cwV 2 hts (lw_V q_771 q_772 q_773 q_8 q_774) rfl rfl rfl (by decide +kernel) (by decide)) rfl rfl (by show 1 ≤ 4; decide) dL337 hcs (fun H2 locs2 hH => ?_)
  exact lv_icmp_eq (tgt := 456) hx hb dL340 (by decide) (fun _ => kk H2 locs2 Ix1 Im1 v ls cells slots hH (hS1.mono (by omega)) hl (by omega) (by omega)) (fun h => absurd rfl h)
set_option maxHeartbeats 1000000 in
theorem lw_rate (Y : lwC p s m meth c b L xs n0 D cf cL) (hH : lwH n0 D cf cL Ix Im v s H locs) (hST : ST Ix Im B) (hB : B ≤ 900000000) (hi : i + 6 ≤ L) (hl : lv_has ls 7 (lwL b n0 i)) (hcs : cells ≤ room_1.cells ∧ slots ≤ room_1.slots) (kk : lwK p l e s m below meth c cells slots Q b n0 D cf cL B i) : W p l e room_1 s m #[Value.ref b] below meth c H locs cells slots Q (F0 m 345 ls []) := by
  obtain ⟨hx, hb, hml, hown, hts⟩ := id Y.1
  obtain ⟨Ix1, Im1, r, e1, e2, hS1⟩ := j_rate kM_k hST (xs (i + 1)) (xs (i + 2)) (xs (i + 3))
  refine lv_aload_n hx hb dL345 rfl (lv_at hl 3 rfl) ?_
  refine lw_sc Y hH hl 1 (by omega) (by decide) dA346 ?_
  refine lw_sc Y hH hl 2 (by omega) (by decide) dA352 ?_
  refine lw_sc Y hH hl 3 (by omega) (by decide) dA358 ?_
  refine lw_cx (r := r) (Ix' := Ix1) Y hH hl.1 (As := [.int (xs (i + 1)), .int (xs (i + 2)), .int (xs (i + 3))]) (rest := []) (mKe_rate e1) (cwV 3 hts (lw_V q_436 q_437 q_438 q_1 q_439) rfl rfl rfl (by decide +kernel) (by decide)) rfl rfl (by show 0 ≤ 4; decide) dL364 hcs (fun H1 locs1 hH => ?_)
  refine lv_aload_n hx hb dL367 rfl (lv_at hl 2 rfl) ?_
  refine lw_sc Y hH hl 1 (by omega) (by decide) dA368 ?_
  refine lw_sc Y hH hl 2 (by omega) (by decide) dA374 ?_
  refine lw_sc Y hH hl 3 (by omega) (by decide) dA380 ?_
  refine lw_cm (r := r) (Im' := Im1) Y hH hl.1 (As := [.int (xs (i + 1)), .int (xs (i + 2)), .int (xs (i + 3))]) (rest := [.int r]) (mMo_rate e2) (cwV 3 hts (lw_V q_775 q_776 q_777 q_8 q_778) rfl rfl rfl (by decide +kernel) (by decide)) rfl rfl (by show 1 ≤ 4; decide) dL386 hcs (fun H2 locs2 hH => ?_)
  exact lv_icmp_eq (tgt := 456) hx hb dL389 (by decide) (fun _ => kk H2 locs2 Ix1 Im1 v ls cells slots hH (hS1.mono (by omega)) hl (by omega) (by omega)) (fun h => absurd rfl h)
set_option maxHeartbeats 1000000 in
theorem lw_total (Y : lwC p s m meth c b L xs n0 D cf cL) (hH : lwH n0 D cf cL Ix Im v s H locs) (hST : ST Ix Im B) (hB : B ≤ 900000000) (hi : i + 6 ≤ L) (hl : lv_has ls 7 (lwL b n0 i)) (hcs : cells ≤ room_1.cells ∧ slots ≤ room_1.slots) (kk : lwK p l e s m below meth c cells slots Q b n0 D cf cL B i) : W p l e room_1 s m #[Value.ref b] below meth c H locs cells slots Q (F0 m 394 ls []) := by
  obtain ⟨hx, hb, hml, hown, hts⟩ := id Y.1
  obtain ⟨Ix1, Im1, r, e1, e2, hS1⟩ := j_total kM_k hST (xs (i + 1)) (xs (i + 2))
  refine lv_aload_n hx hb dL394 rfl (lv_at hl 3 rfl) ?_
  refine lw_sc Y hH hl 1 (by omega) (by decide) dA395 ?_
  refine lw_sc Y hH hl 2 (by omega) (by decide) dA401 ?_
  refine lw_cx (r := r) (Ix' := Ix1) Y hH hl.1 (As := [.int (xs (i + 1)), .int (xs (i + 2))]) (rest := []) (mKe_total e1) (cwV 2 hts (lw_V q_444 q_445 q_446 q_1 q_447) rfl rfl rfl (by decide +kernel) (by decide)) rfl rfl (by show 0 ≤ 4; decide) dL407 hcs (fun H1 locs1 hH => ?_)
  refine lv_aload_n hx hb dL410 rfl (lv_at hl 2 rfl) ?_
  refine lw_sc Y hH hl 1 (by omega) (by decide) dA411 ?_
  refine lw_sc Y hH hl 2 (by omega) (by decide) dA417 ?_
  refine lw_cm (r := r) (Im' := Im1) Y hH hl.1 (As := [.int (xs (i + 1)), .int (xs (i + 2))]) (rest := [.int r]) (mMo_total e2) (cwV 2 hts (lw_V q_803 q_804 q_805 q_8 q_806) rfl rfl rfl (by decide +kernel) (by decide)) rfl rfl (by show 1 ≤ 4; decide) dL423 hcs (fun H2 locs2 hH => ?_)
  exact lv_icmp_eq (tgt := 456) hx hb dL426 (by decide) (fun _ => kk H2 locs2 Ix1 Im1 v ls cells slots hH (hS1.mono (by omega)) hl (by omega) (by omega)) (fun h => absurd rfl h)
set_option maxHeartbeats 1000000 in
theorem lw_state (Y : lwC p s m meth c b L xs n0 D cf cL) (hH : lwH n0 D cf cL Ix Im v s H locs) (hST : ST Ix Im B) (hB : B ≤ 900000000) (hi : i + 6 ≤ L) (hl : lv_has ls 7 (lwL b n0 i)) (hcs : cells ≤ room_1.cells ∧ slots ≤ room_1.slots) (kk : lwK p l e s m below meth c cells slots Q b n0 D cf cL B i) : W p l e room_1 s m #[Value.ref b] below meth c H locs cells slots Q (F0 m 431 ls []) := by
  obtain ⟨hx, hb, hml, hown, hts⟩ := id Y.1
  obtain ⟨Ix1, Im1, r, e1, e2, hS1⟩ := j_state kM_k hST (xs (i + 1))
  refine lv_aload_n hx hb dL431 rfl (lv_at hl 3 rfl) ?_
  refine lw_sc Y hH hl 1 (by omega) (by decide) dA432 ?_
  refine lw_cx (r := r) (Ix' := Ix1) Y hH hl.1 (As := [.int (xs (i + 1))]) (rest := []) (mKe_state e1) (cwV 1 hts (lw_V q_448 q_449 q_450 q_1 q_451) rfl rfl rfl (by decide +kernel) (by decide)) rfl rfl (by show 0 ≤ 4; decide) dL438 hcs (fun H1 locs1 hH => ?_)
  refine lv_aload_n hx hb dL441 rfl (lv_at hl 2 rfl) ?_
  refine lw_sc Y hH hl 1 (by omega) (by decide) dA442 ?_
  refine lw_cm (r := r) (Im' := Im1) Y hH hl.1 (As := [.int (xs (i + 1))]) (rest := [.int r]) (mMo_state e2) (cwV 1 hts (lw_V q_807 q_808 q_809 q_8 q_810) rfl rfl rfl (by decide +kernel) (by decide)) rfl rfl (by show 1 ≤ 4; decide) dL448 hcs (fun H2 locs2 hH => ?_)
  exact lv_icmp_eq (tgt := 456) hx hb dL451 (by decide) (fun _ => kk H2 locs2 Ix1 Im1 v ls cells slots hH (hS1.mono (by omega)) hl (by omega) (by omega)) (fun h => absurd rfl h)
end LWA
