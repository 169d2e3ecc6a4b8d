theorem lg_cmp_self (x : Int64) : lg_cmp x x = 0 := by simp [lg_cmp]
section LWT
variable {p : Program} {l : Launch} {e : Env} {s : State} {m : MethodId} {below : List Frame} {meth : Method} {c : Code} {H : Heap} {locs : List Loc} {cells slots : Nat} {Q : State → Prop}
variable {pc : Nat} {rest st0 : List Value} {a : Array Value} {ls : Array Slot} {b L n0 i B : Nat} {xs : Nat → Int32} {D : va_G} {cf : Nat → ClassId} {cL : ClassId} {Ix Im Ix' : ek_St} {v : Int64} {r : Int32}
theorem lw_lt (hH : lwH n0 D cf cL Ix Im v s H locs) (hr : va_Run p l e room_1 s m #[Value.ref b] below meth c H locs cells slots 0 0 (F0 m pc ls st0) rest (ltQ (D, cf, n0) Ix' cL (n0 + 124) r a) (ltA (D, cf, n0) (n0 + 124)))
    (kk : ∀ (H1 : Heap) (locs1 : List Loc), lwH n0 D cf cL Ix' Im r.toInt64 s H1 locs1 → W p l e room_1 s m #[Value.ref b] below meth c H1 locs1 cells slots Q (F0 m (pc + 3) ls (.int 0 :: rest))) : W p l e room_1 s m #[Value.ref b] below meth c H locs cells slots Q (F0 m pc ls st0) := by
  intro T hT X
  obtain ⟨v, st₀, t, T', L, h0, X', hL, e1, e2, ⟨hv, hw, hc, hz, hk⟩, st⟩ := hr T hT X
  cases hv
  rw [h0] at hz hk
  have hlt := hH.lt
  obtain ⟨h1, h2, h3, h4, h5⟩ := hH
  suffices hN : lwH n0 D cf cL Ix' Im r.toInt64 s T'.heap (locs ++ L) by
    obtain ⟨t2, a1, b1⟩ := kk T'.heap (locs ++ L) hN T' rfl X'
    exact ⟨t2, st t2 a1, b1⟩
  refine ⟨by rw [e1]; exact hw, ek_W_kept h2 (fun x hx => ?_), by rw [e1]; exact hc, fun q hq => ?_, fun q hq => ?_⟩
  · have g1 := kM_dom hx
    rw [e1]
    refine hk _ (show n0 + 105 + x < H.size by omega) (fun g => ?_)
    rcases g with g | g
    · have := aX g
      have : (D, cf, n0 + 105).2.2 + x = n0 + 105 + x := rfl
      omega
    · have : (D, cf, n0 + 105).2.2 + x = n0 + 105 + x := rfl
      omega
  · rw [e1]
    refine (hk q (by omega) (fun g => ?_)).trans (h4 q hq)
    rcases g with g | g
    · have := aX g
      omega
    · omega
  · rcases List.mem_append.mp hq with g | g
    · exact h5 q g
    · rcases hL q g with g | g
      · exact (aX g).1
      · omega
theorem lw_ltT (hH : lwH n0 D cf cL Ix Im v s H locs) (hr : va_Run p l e room_1 s m #[Value.ref b] below meth c H locs cells slots 1 6 (F0 m pc ls st0) rest (ltQT a) (fun _ => False))
    (kk : ∀ (H1 : Heap) (locs1 : List Loc), lwH n0 D cf cL Ix Im v s H1 locs1 → W p l e room_1 s m #[Value.ref b] below meth c H1 locs1 (cells + 1) (slots + 6) Q (F0 m (pc + 3) ls (.int 1 :: rest))) : W p l e room_1 s m #[Value.ref b] below meth c H locs cells slots Q (F0 m pc ls st0) := by
  intro T hT X
  obtain ⟨v, st₀, t, T', L, h0, X', hL, e1, e2, ⟨hv, hz, hk⟩, st⟩ := hr T hT X
  cases hv
  rw [h0] at hz hk
  have hL0 : L = [] := by
    cases L with
    | nil => rfl
    | cons x L => exact (hL x List.mem_cons_self).elim
  subst hL0
  rw [List.append_nil] at X'
  obtain ⟨t2, a1, b1⟩ := kk T'.heap locs (hH.push (fun q hq => by rw [e1]; exact hk q hq)) T' rfl X'
  exact ⟨t2, st t2 a1, b1⟩
theorem th_ok {I : ek_St} : fMo_thrown kM I 1 = some (I, I 1 0) := by
  unfold fMo_thrown fMo_thrown_0 ek_ck
  exact if_pos (by decide)
set_option maxHeartbeats 2000000 in
theorem lw_tick (hl0 : l.stackTraces = false) (Y : lwC p s m meth c b L xs n0 D cf cL) (hH : lwH n0 D cf cL Ix Im v s H locs) (hST : ST Ix Im B) (hB : B ≤ 900000000) (hi : i + 6 ≤ L) (hl : lv_has ls 7 (lwL b n0 i)) (hcs : cells + 1 ≤ room_1.cells ∧ slots + 6 ≤ room_1.slots) (kk : lwK p l e s m below meth c cells slots Q b n0 D cf cL B i) : W p l e room_1 s m #[Value.ref b] below meth c H locs cells slots Q (F0 m 252 ls []) := by
  obtain ⟨hx, hb, hml, hown, hts⟩ := id Y.1
  have hK := Y.2.2.2.2.2.2.2.1
  have hAr := Y.2.2.2.2.2.2.2.2.1
  have hTP := Y.2.2.2.2.2.2.2.2.2
  have hno : ¬ ek_A (D, cf, n0) kX (n0 + 124) := fun g => by have := aX g; omega
  refine lv_aload_n hx hb dL252 rfl (lv_at hl 3 rfl) ?_
  refine lw_sc Y hH hl 1 (by omega) (by decide) dA253 ?_
  refine lv_aload_n hx hb dL259 rfl (lv_at hl 1 rfl) ?_
  by_cases ha : 1 ≤ xs (i + 1) ∧ xs (i + 1) ≤ 5000
  · obtain ⟨Ix1, Im1, r, e1, e2, h0, hS1⟩ := j_tick kM_k hB hST (xs (i + 1)) ha
    have hrun := lw_runSW (R := room_1) (e := e) (below := below) (meth := meth) (H := H) (locs := locs) (cells := cells) (slots := slots) (pc := 260) (ls := ls) (rest := []) (n := 3) (As := [.ref (n0 + 1), .int (xs (i + 1)), .ref (n0 + 124)]) Y.1 (c_Lt (l := l) (G := (D, cf, n0)) (o := n0 + 124) (cL := cL) (v := v) e1) q_456 q_457 q_0 q_458 (by decide) (by decide +kernel) ⟨rfl, rfl⟩ (by decide) ⟨ltB_blind, fun U hU hW => ⟨rfl, by rw [hU]; exact hH.1, ek_K_warm hW hK, arrOfT_moved hW.alike hAr, by rw [hU]; exact hH.2.2.1, hno⟩⟩ rfl hl.1 (st0 := [.ref (n0 + 124), .int (xs (i + 1)), .ref (n0 + 1)]) rfl (by show 0 ≤ 4; decide) dL260 ⟨by omega, by omega⟩
    refine lw_lt hH hrun (fun H1 locs1 hH => ?_)
    show W p l e room_1 s m _ below meth c H1 locs1 cells slots Q (F0 m 263 ls [.int 0])
    refine lv_istore hx hb dL263 hl (by decide) rfl (fun ls1 hl1 => ?_)
    have hl2 : lv_has ls1 7 (lwL b n0 i) := lv_sub hl1 [1, 2, 3, 4, 5] rfl
    refine lv_aload_n hx hb dL265 rfl (lv_at hl2 2 rfl) ?_
    refine lw_sc Y hH hl2 1 (by omega) (by decide) dA266 ?_
    refine lw_cm (r := r) (Im' := Im1) Y hH hl2.1 (As := [.int (xs (i + 1))]) (rest := []) (mMo_tick e2) (cwV 1 hts (lw_V q_759 q_760 q_761 q_8 q_762) rfl rfl rfl (by decide +kernel) (by decide)) rfl rfl (by show 0 ≤ 4; decide) dL272 ⟨by omega, by omega⟩ (fun H2 locs2 hH => ?_)
    refine lv_istore hx hb dL275 hl1 (by decide) rfl (fun ls2 hl3 => ?_)
    have hl4 : lv_has ls2 7 (lwL b n0 i) := lv_sub hl3 [2, 3, 4, 5, 6] rfl
    refine lv_aload_n hx hb dL277 rfl (lv_at hl4 2 rfl) ?_
    refine lw_cm (r := Im1 1 0) (Im' := Im1) Y hH hl4.1 (As := []) (rest := []) (mMo_thrown th_ok) (cwV 0 hts (lw_V q_653 q_654 q_655 q_8 q_656) rfl rfl rfl (by decide +kernel) (by decide)) rfl rfl (by show 0 ≤ 4; decide) dL278 ⟨by omega, by omega⟩ (fun H3 locs3 hH => ?_)
    rw [h0]
    refine lv_iload hx hb dL281 (lv_at hl3 1 rfl) ?_
    refine lv_icmp_eq (tgt := 288) hx hb dL283 (by decide) (fun _ => ?_) (fun h => absurd rfl h)
    refine lv_iload hx hb dL288 (lv_at hl3 1 rfl) ?_
    refine lv_if_ne (tgt := 305) hx hb dL290 (by decide) (fun h => absurd rfl h) (fun _ => ?_)
    refine lv_aload_n hx hb dL293 rfl (lv_at hl4 1 rfl) ?_
    refine lv_iconst (v := 0) hx hb dL294 (by decide) ?_
    refine lg_get hx hb hH.2.2.1 hAr dL295 ?_
    refine lv_iload hx hb dL296 (lv_at hl3 0 rfl) ?_
    refine lv_i2l (v := r.toInt64) hx hb dL298 rfl ?_
    refine W.lcmp hx hb dL299 ?_
    rw [lg_cmp_self]
    refine lv_if_eq (tgt := 305) hx hb dL300 (by decide) (fun _ => ?_) (fun h => absurd rfl h)
    refine lv_goto (tgt := 456) hx hb dL305 (by decide) ?_
    exact kk H3 locs3 Ix1 Im1 _ ls2 cells slots hH hS1 hl4 (by omega) (by omega)
  · obtain ⟨Im1, e2, h0, hS1⟩ := j_tick_no kM_k hST (xs (i + 1)) ha
    have hbe : TP (n0 + 1) s H := hTP.kept (fun q hq => hH.2.2.2.1 q hq)
    have hrun := lw_runSW (R := room_1) (e := e) (below := below) (meth := meth) (H := H) (locs := locs) (cells := cells) (slots := slots) (pc := 260) (ls := ls) (rest := []) (n := 3) (As := [.ref (n0 + 1), .int (xs (i + 1)), .ref (n0 + 124)]) Y.1 (c_LtT (l := l) hl0 (G := (D, cf, n0)) (I := Ix) (o := n0 + 124) (lo := n0 + 1) ha) q_456 q_457 q_0 q_458 (by decide) (by decide +kernel) ⟨rfl, rfl⟩ (by decide) ⟨ltBT_blind, fun U hU hW => ⟨rfl, by rw [hU]; exact hH.1, ek_K_warm hW hK, by rw [hU]; exact TP.warm hW hbe⟩⟩ rfl hl.1 (st0 := [.ref (n0 + 124), .int (xs (i + 1)), .ref (n0 + 1)]) rfl (by show 0 ≤ 4; decide) dL260 hcs
    refine lw_ltT hH hrun (fun H1 locs1 hH => ?_)
    show W p l e room_1 s m _ below meth c H1 locs1 (cells + 1) (slots + 6) Q (F0 m 263 ls [.int 1])
    refine lv_istore hx hb dL263 hl (by decide) rfl (fun ls1 hl1 => ?_)
    have hl2 : lv_has ls1 7 (lwL b n0 i) := lv_sub hl1 [1, 2, 3, 4, 5] rfl
    refine lv_aload_n hx hb dL265 rfl (lv_at hl2 2 rfl) ?_
    refine lw_sc Y hH hl2 1 (by omega) (by decide) dA266 ?_
    refine lw_cm (r := 0) (Im' := Im1) Y hH hl2.1 (As := [.int (xs (i + 1))]) (rest := []) (mMo_tick e2) (cwV 1 hts (lw_V q_759 q_760 q_761 q_8 q_762) rfl rfl rfl (by decide +kernel) (by decide)) rfl rfl (by show 0 ≤ 4; decide) dL272 hcs (fun H2 locs2 hH => ?_)
    refine lv_istore hx hb dL275 hl1 (by decide) rfl (fun ls2 hl3 => ?_)
    have hl4 : lv_has ls2 7 (lwL b n0 i) := lv_sub hl3 [2, 3, 4, 5, 6] rfl
    refine lv_aload_n hx hb dL277 rfl (lv_at hl4 2 rfl) ?_
    refine lw_cm (r := Im1 1 0) (Im' := Im1) Y hH hl4.1 (As := []) (rest := []) (mMo_thrown th_ok) (cwV 0 hts (lw_V q_653 q_654 q_655 q_8 q_656) rfl rfl rfl (by decide +kernel) (by decide)) rfl rfl (by show 0 ≤ 4; decide) dL278 hcs (fun H3 locs3 hH => ?_)
    rw [h0]
    refine lv_iload hx hb dL281 (lv_at hl3 1 rfl) ?_
    refine lv_icmp_eq (tgt := 288) hx hb dL283 (by decide) (fun _ => ?_) (fun h => absurd rfl h)
    refine lv_iload hx hb dL288 (lv_at hl3 1 rfl) ?_
    refine lv_if_ne (tgt := 305) hx hb dL290 (by decide) (fun _ => ?_) (fun h => absurd h (by decide))
    refine lv_goto (tgt := 456) hx hb dL305 (by decide) ?_
    exact kk H3 locs3 Ix Im1 v ls2 (cells + 1) (slots + 6) hH (hS1.mono (by omega)) hl4 (Nat.le_refl _) (Nat.le_refl _)
end LWT
