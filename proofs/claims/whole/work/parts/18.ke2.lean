/-! ElasticKernel.wordOf(LElasticKernel$Fraction;II)I -/
def fKe_wordOf_0 (kd : Nat → Nat) (I : ek_St) (x0 : Nat) (i1 : Int32) (i2 : Int32) : Option (ek_St × Int32) :=
  if i1 < ((0 : Int32)) then (some (I, (-1 : Int32))) else (if ((1 : Int32)) < i1 then (some (I, (-1 : Int32))) else (if ((0 : Int32)) ≤ i2 then (if i1 = ((0 : Int32)) then (ek_ck (kd x0 = 2) (ek_ck (kd (x0 + 1) = 3) (ek_bi (fNa_word kd I (x0 + 1) i2) (fun I8 ir10 => some (I8, ir10))))) else (ek_ck (kd x0 = 2) (ek_ck (kd (x0 + 3) = 3) (ek_bi (fNa_word kd I (x0 + 3) i2) (fun I5 ir7 => some (I5, ir7)))))) else (some (I, (-1 : Int32)))))
def fKe_wordOf (kd : Nat → Nat) (I : ek_St) (x0 : Nat) (i1 : Int32) (i2 : Int32) : Option (ek_St × Int32) := fKe_wordOf_0 kd I x0 i1 i2
theorem dKe_wordOf_0 : decode prog_1_method_13_code 0 = .ok (.iload_n 1, 1) := by decide +kernel
theorem dKe_wordOf_1 : decode prog_1_method_13_code 1 = .ok (.ifCond .lt 12, 3) := by decide +kernel
theorem dKe_wordOf_4 : decode prog_1_method_13_code 4 = .ok (.iload_n 1, 1) := by decide +kernel
theorem dKe_wordOf_5 : decode prog_1_method_13_code 5 = .ok (.iconst 1, 1) := by decide +kernel
theorem dKe_wordOf_6 : decode prog_1_method_13_code 6 = .ok (.if_icmp .gt 7, 3) := by decide +kernel
theorem dKe_wordOf_9 : decode prog_1_method_13_code 9 = .ok (.iload_n 2, 1) := by decide +kernel
theorem dKe_wordOf_10 : decode prog_1_method_13_code 10 = .ok (.ifCond .ge 5, 3) := by decide +kernel
theorem dKe_wordOf_13 : decode prog_1_method_13_code 13 = .ok (.iconst (-1), 1) := by decide +kernel
theorem dKe_wordOf_14 : decode prog_1_method_13_code 14 = .ok (.ireturn, 1) := by decide +kernel
theorem dKe_wordOf_15 : decode prog_1_method_13_code 15 = .ok (.iload_n 1, 1) := by decide +kernel
theorem dKe_wordOf_16 : decode prog_1_method_13_code 16 = .ok (.ifCond .ne 14, 3) := by decide +kernel
theorem dKe_wordOf_19 : decode prog_1_method_13_code 19 = .ok (.aload_n 0, 1) := by decide +kernel
theorem dKe_wordOf_20 : decode prog_1_method_13_code 20 = .ok (.getfield 157, 3) := by decide +kernel
theorem dKe_wordOf_23 : decode prog_1_method_13_code 23 = .ok (.iload_n 2, 1) := by decide +kernel
theorem dKe_wordOf_24 : decode prog_1_method_13_code 24 = .ok (.invokevirtual 163, 3) := by decide +kernel
theorem dKe_wordOf_27 : decode prog_1_method_13_code 27 = .ok (.goto 11, 3) := by decide +kernel
theorem dKe_wordOf_30 : decode prog_1_method_13_code 30 = .ok (.aload_n 0, 1) := by decide +kernel
theorem dKe_wordOf_31 : decode prog_1_method_13_code 31 = .ok (.getfield 169, 3) := by decide +kernel
theorem dKe_wordOf_34 : decode prog_1_method_13_code 34 = .ok (.iload_n 2, 1) := by decide +kernel
theorem dKe_wordOf_35 : decode prog_1_method_13_code 35 = .ok (.invokevirtual 163, 3) := by decide +kernel
theorem dKe_wordOf_38 : decode prog_1_method_13_code 38 = .ok (.ireturn, 1) := by decide +kernel
set_option maxHeartbeats 4000000 in
set_option maxRecDepth 100000 in
theorem wKe_wordOf_0 {l : Launch} {G : ek_G} {kd : Nat → Nat} {p : Program} {e : Env} {s : State} {m : MethodId} {args : Array Value} {below : List Frame} {meth : Method} {c : Code} (X : ek_X p s m meth c args G prog_1_method_13_code 3 "ElasticKernel" (some .int)) {q : ek_St × Int32} {I : ek_St} {x0 : Nat} {i1 : Int32} {i2 : Int32} (hf : fKe_wordOf_0 kd I x0 i1 i2 = some q) {H : Heap} {locs : List Loc} {ls : Array Slot} (hw : ek_W G kd I H) (hS : va_S (ek_A G kd) s.heap H locs) (hl : lv_has ls 3 [(0, ek_r G x0), (1, .int i1), (2, .int i2)]) : W p l e ({ frames := 1, cells := 0, slots := 0, locals := 21 } : Room) s m args below meth c H locs 0 0 (MQ below (ek_Q G kd (some (.int q.2)) q.1) args s 0 0 (ek_A G kd)) (F0 m 0 ls []) := by
  obtain ⟨hx, hb, hml, hown, hts, hr, hlocks, hK⟩ := id X
  have hA : ∀ q, ek_A G kd q → ek_A G kd q := fun _ h => h
  unfold fKe_wordOf_0 at hf
  refine lv_iload_n hx hb dKe_wordOf_0 rfl (lv_at hl 1 rfl) ?_
  refine lv_if_lt (tgt := 13) hx hb dKe_wordOf_1 (by decide) (fun c1 => ?_) (fun c1 => ?_)
  · have hf := ek_t c1 hf
    refine lv_iconst (v := (-1 : Int32)) hx hb dKe_wordOf_13 (by decide) ?_
    exact ek_iret hx hb hr hlocks hw hS hf dKe_wordOf_14
  · have hf := ek_f c1 hf
    refine lv_iload_n hx hb dKe_wordOf_4 rfl (lv_at hl 1 rfl) ?_
    refine lv_iconst (v := (1 : Int32)) hx hb dKe_wordOf_5 (by decide) ?_
    refine lv_icmp_gt (tgt := 13) hx hb dKe_wordOf_6 (by decide) (fun c2 => ?_) (fun c2 => ?_)
    · have hf := ek_t c2 hf
      refine lv_iconst (v := (-1 : Int32)) hx hb dKe_wordOf_13 (by decide) ?_
      exact ek_iret hx hb hr hlocks hw hS hf dKe_wordOf_14
    · have hf := ek_f c2 hf
      refine lv_iload_n hx hb dKe_wordOf_9 rfl (lv_at hl 2 rfl) ?_
      refine lv_if_ge (tgt := 15) hx hb dKe_wordOf_10 (by decide) (fun c3 => ?_) (fun c3 => ?_)
      · have hf := ek_t c3 hf
        refine lv_iload_n hx hb dKe_wordOf_15 rfl (lv_at hl 1 rfl) ?_
        refine lv_if_ne (tgt := 30) hx hb dKe_wordOf_16 (by decide) (fun c4 => ?_) (fun c4 => ?_)
        · have hf := ek_f c4 hf
          refine ek_aload_n hx hb dKe_wordOf_30 rfl (lv_at hl 0 rfl) ?_
          refine ek_getrN hx hb 2 hts (in_Fr) hown hK hw rfl (by decide) (by decide) 1 (by decide) (n := 2) rfl rfl (va_Nw.use rfl (hK.2 _ n_66)) hf dKe_wordOf_31 (fun hf => ?_)
          refine lv_iload_n hx hb dKe_wordOf_34 rfl (lv_at hl 2 rfl) ?_
          obtain ⟨hx6, hf⟩ := ek_ck_s hf
          refine ek_ci hf hS hA (fun I' v hq => ek_rV (As := [.int i2]) ⟨hx, hb, hml, hown, hts⟩ hK hw 3 rfl (by decide) (by decide) hx6 (mNa_word hq) (cwV 1 hts (lw_V q_443 q_383 q_384 q_5 q_385) rfl rfl rfl (by decide +kernel) ⟨Nat.le_of_ble_eq_true rfl, Nat.le_of_ble_eq_true rfl⟩) rfl hl.1 rfl (Nat.le_of_ble_eq_true rfl) dKe_wordOf_35 ⟨Nat.zero_le _, Nat.zero_le _⟩) (fun I5 ir7 H locs hf hw hS => ?_)
          exact ek_iret hx hb hr hlocks hw hS hf dKe_wordOf_38
        · have hf := ek_t c4 hf
          refine ek_aload_n hx hb dKe_wordOf_19 rfl (lv_at hl 0 rfl) ?_
          refine ek_getrN hx hb 2 hts (in_Fr) hown hK hw rfl (by decide) (by decide) 0 (by decide) (n := 0) rfl rfl (va_Nw.use rfl (hK.2 _ n_62)) hf dKe_wordOf_20 (fun hf => ?_)
          refine lv_iload_n hx hb dKe_wordOf_23 rfl (lv_at hl 2 rfl) ?_
          obtain ⟨hx9, hf⟩ := ek_ck_s hf
          refine ek_ci hf hS hA (fun I' v hq => ek_rV (As := [.int i2]) ⟨hx, hb, hml, hown, hts⟩ hK hw 3 rfl (by decide) (by decide) hx9 (mNa_word hq) (cwV 1 hts (lw_V q_443 q_383 q_384 q_5 q_385) rfl rfl rfl (by decide +kernel) ⟨Nat.le_of_ble_eq_true rfl, Nat.le_of_ble_eq_true rfl⟩) rfl hl.1 rfl (Nat.le_of_ble_eq_true rfl) dKe_wordOf_24 ⟨Nat.zero_le _, Nat.zero_le _⟩) (fun I8 ir10 H locs hf hw hS => ?_)
          refine lv_goto (tgt := 38) hx hb dKe_wordOf_27 (by decide) ?_
          exact ek_iret hx hb hr hlocks hw hS hf dKe_wordOf_38
      · have hf := ek_f c3 hf
        refine lv_iconst (v := (-1 : Int32)) hx hb dKe_wordOf_13 (by decide) ?_
        exact ek_iret hx hb hr hlocks hw hS hf dKe_wordOf_14
set_option maxHeartbeats 4000000 in
set_option maxRecDepth 100000 in
theorem mKe_wordOf {l : Launch} {G : ek_G} {kd : Nat → Nat} {I : ek_St} {x0 : Nat} {i1 : Int32} {i2 : Int32} {q : ek_St × Int32} (hf : fKe_wordOf kd I x0 i1 i2 = some q) : ek_M l G kd y_Ke_wordOf (.code y_Ke_wordOf prog_1_method_13_code 3 (some .int) :: lw_g) ({ frames := 1, cells := 0, slots := 0, locals := 21 } : Room) [ek_r G x0, .int i1, .int i2] I (some (.int q.2)) q.1 :=
  ek_body [(0, ek_r G x0), (1, .int i1), (2, .int i2)] (by decide) (by simp [lg_sl, ek_r_cat, ek_c_i, ek_c_l]) (by simp [lv_args, ek_r_cat, ek_c_i, ek_c_l]) (fun p e s m below meth c ls X hw hS hl => wKe_wordOf_0 X hf hw hS hl)
/-! ElasticKernel.rate(III)I -/
def fKe_rate_0 (kd : Nat → Nat) (I : ek_St) (x0 : Nat) (i1 : Int32) (i2 : Int32) (i3 : Int32) : Option (ek_St × Int32) :=
  ek_ck (kd x0 = 7) (ek_ck (kd (x0 + 1) = 4) (ek_bi (fRo_find kd I (x0 + 1) i1) (fun I1 xr3 => if xr3 = ((0 : Nat)) then (some (I1, (-1 : Int32))) else (ek_ck (kd xr3 = 6) (if (I1 xr3 5) = ((2 : Int32)) then (some (I1, (-1 : Int32))) else (ek_ck (kd xr3 = 6) (ek_bi (fKe_wordOf kd I1 (xr3 + 1) i2 i3) (fun I6 ir7 => some (I6, ir7)))))))))
def fKe_rate (kd : Nat → Nat) (I : ek_St) (x0 : Nat) (i1 : Int32) (i2 : Int32) (i3 : Int32) : Option (ek_St × Int32) := fKe_rate_0 kd I x0 i1 i2 i3
theorem dKe_rate_0 : decode prog_1_method_8_code 0 = .ok (.aload_n 0, 1) := by decide +kernel
theorem dKe_rate_1 : decode prog_1_method_8_code 1 = .ok (.getfield 10, 3) := by decide +kernel
theorem dKe_rate_4 : decode prog_1_method_8_code 4 = .ok (.iload_n 1, 1) := by decide +kernel
theorem dKe_rate_5 : decode prog_1_method_8_code 5 = .ok (.invokevirtual 62, 3) := by decide +kernel
theorem dKe_rate_8 : decode prog_1_method_8_code 8 = .ok (.astore 4, 2) := by decide +kernel
theorem dKe_rate_10 : decode prog_1_method_8_code 10 = .ok (.aload 4, 2) := by decide +kernel
theorem dKe_rate_12 : decode prog_1_method_8_code 12 = .ok (.ifnull 12, 3) := by decide +kernel
theorem dKe_rate_15 : decode prog_1_method_8_code 15 = .ok (.aload 4, 2) := by decide +kernel
theorem dKe_rate_17 : decode prog_1_method_8_code 17 = .ok (.getfield 65, 3) := by decide +kernel
theorem dKe_rate_20 : decode prog_1_method_8_code 20 = .ok (.iconst 2, 1) := by decide +kernel
theorem dKe_rate_21 : decode prog_1_method_8_code 21 = .ok (.if_icmp .ne 5, 3) := by decide +kernel
theorem dKe_rate_24 : decode prog_1_method_8_code 24 = .ok (.iconst (-1), 1) := by decide +kernel
theorem dKe_rate_25 : decode prog_1_method_8_code 25 = .ok (.ireturn, 1) := by decide +kernel
theorem dKe_rate_26 : decode prog_1_method_8_code 26 = .ok (.aload 4, 2) := by decide +kernel
theorem dKe_rate_28 : decode prog_1_method_8_code 28 = .ok (.getfield 130, 3) := by decide +kernel
theorem dKe_rate_31 : decode prog_1_method_8_code 31 = .ok (.iload_n 2, 1) := by decide +kernel
theorem dKe_rate_32 : decode prog_1_method_8_code 32 = .ok (.iload_n 3, 1) := by decide +kernel
theorem dKe_rate_33 : decode prog_1_method_8_code 33 = .ok (.invokestatic 134, 3) := by decide +kernel
theorem dKe_rate_36 : decode prog_1_method_8_code 36 = .ok (.ireturn, 1) := by decide +kernel
set_option maxHeartbeats 4000000 in
set_option maxRecDepth 100000 in
theorem wKe_rate_0 {l : Launch} {G : ek_G} {kd : Nat → Nat} {p : Program} {e : Env} {s : State} {m : MethodId} {args : Array Value} {below : List Frame} {meth : Method} {c : Code} (X : ek_X p s m meth c args G prog_1_method_8_code 5 "ElasticKernel" (some .int)) {q : ek_St × Int32} {I : ek_St} {x0 : Nat} {i1 : Int32} {i2 : Int32} {i3 : Int32} (hf : fKe_rate_0 kd I x0 i1 i2 i3 = some q) {H : Heap} {locs : List Loc} {ls : Array Slot} (hw : ek_W G kd I H) (hS : va_S (ek_A G kd) s.heap H locs) (hl : lv_has ls 5 [(0, ek_r G x0), (1, .int i1), (2, .int i2), (3, .int i3)]) : W p l e ({ frames := 2, cells := 0, slots := 0, locals := 43 } : Room) s m args below meth c H locs 0 0 (MQ below (ek_Q G kd (some (.int q.2)) q.1) args s 0 0 (ek_A G kd)) (F0 m 0 ls []) := by
  obtain ⟨hx, hb, hml, hown, hts, hr, hlocks, hK⟩ := id X
  have hA : ∀ q, ek_A G kd q → ek_A G kd q := fun _ h => h
  unfold fKe_rate_0 at hf
  refine ek_aload_n hx hb dKe_rate_0 rfl (lv_at hl 0 rfl) ?_
  refine ek_getr hx hb 7 hts (in_Ke) hown hK hw rfl (by decide) (by decide) 0 (by decide) (n := 0) rfl rfl (hts _ q_193) hf dKe_rate_1 (fun hf => ?_)
  refine lv_iload_n hx hb dKe_rate_4 rfl (lv_at hl 1 rfl) ?_
  obtain ⟨hx2, hf⟩ := ek_ck_s hf
  refine ek_cr hf hS hA (fun I' v hq => ek_rV (As := [.int i1]) ⟨hx, hb, hml, hown, hts⟩ hK hw 4 rfl (by decide) (by decide) hx2 (mRo_find hq) (cwV 1 hts (lw_V q_417 q_233 q_234 q_2 q_235) rfl rfl rfl (by decide +kernel) ⟨Nat.le_of_ble_eq_true rfl, Nat.le_of_ble_eq_true rfl⟩) rfl hl.1 rfl (Nat.le_of_ble_eq_true rfl) dKe_rate_5 ⟨Nat.zero_le _, Nat.zero_le _⟩) (fun I1 xr3 H locs hf hw hS => ?_)
  refine ek_astore (lv' := [(4, ek_r G xr3), (3, .int i3), (0, ek_r G x0), (1, .int i1), (2, .int i2)]) hx hb dKe_rate_8 hl (by decide) (ek_s1k 3 rfl rfl rfl ek_r_cat rfl) (fun ls hl => ?_)
  refine ek_aload hx hb dKe_rate_10 (lv_at hl 0 rfl) ?_
  refine ek_ifnull (tgt := 24) hx hb dKe_rate_12 (by decide) (fun c4 => ?_) (fun c4 => ?_)
  · have hf := ek_t c4 hf
    refine lv_iconst (v := (-1 : Int32)) hx hb dKe_rate_24 (by decide) ?_
    exact ek_iret hx hb hr hlocks hw hS hf dKe_rate_25
  · have hf := ek_f c4 hf
    refine ek_aload hx hb dKe_rate_15 (lv_at hl 0 rfl) ?_
    refine ek_getiN hx hb 6 hts (in_Ta) hown hK hw rfl (by decide) (by decide) 5 (by decide) rfl (va_Nw.use rfl (hK.2 _ n_85)) hf dKe_rate_17 (fun hf => ?_)
    refine lv_iconst (v := (2 : Int32)) hx hb dKe_rate_20 (by decide) ?_
    refine lv_icmp_ne (tgt := 26) hx hb dKe_rate_21 (by decide) (fun c5 => ?_) (fun c5 => ?_)
    · have hf := ek_f c5 hf
      refine ek_aload hx hb dKe_rate_26 (lv_at hl 0 rfl) ?_
      refine ek_getrN hx hb 6 hts (in_Ta) hown hK hw rfl (by decide) (by decide) 14 (by decide) (n := 0) rfl rfl (va_Nw.use rfl (hK.2 _ n_103)) hf dKe_rate_28 (fun hf => ?_)
      refine lv_iload_n hx hb dKe_rate_31 rfl (lv_at hl 4 rfl) ?_
      refine lv_iload_n hx hb dKe_rate_32 rfl (lv_at hl 1 rfl) ?_
      refine ek_ci hf hS hA (fun I' v hq => ek_rS (As := [ek_r G (xr3 + 1), .int i2, .int i3]) ⟨hx, hb, hml, hown, hts⟩ hK hw (mKe_wordOf hq) (ek_cwS 3 hts q_440 q_441 q_1 q_442 (by decide +kernel) ⟨Nat.le_of_ble_eq_true rfl, Nat.le_of_ble_eq_true rfl⟩) rfl hl.1 rfl (Nat.le_of_ble_eq_true rfl) dKe_rate_33 ⟨Nat.zero_le _, Nat.zero_le _⟩) (fun I6 ir7 H locs hf hw hS => ?_)
      exact ek_iret hx hb hr hlocks hw hS hf dKe_rate_36
    · have hf := ek_t c5 hf
      refine lv_iconst (v := (-1 : Int32)) hx hb dKe_rate_24 (by decide) ?_
      exact ek_iret hx hb hr hlocks hw hS hf dKe_rate_25
set_option maxHeartbeats 4000000 in
set_option maxRecDepth 100000 in
theorem mKe_rate {l : Launch} {G : ek_G} {kd : Nat → Nat} {I : ek_St} {x0 : Nat} {i1 : Int32} {i2 : Int32} {i3 : Int32} {q : ek_St × Int32} (hf : fKe_rate kd I x0 i1 i2 i3 = some q) : ek_M l G kd y_Ke_rate (.code y_Ke_rate prog_1_method_8_code 5 (some .int) :: lw_g) ({ frames := 2, cells := 0, slots := 0, locals := 43 } : Room) [ek_r G x0, .int i1, .int i2, .int i3] I (some (.int q.2)) q.1 :=
  ek_body [(0, ek_r G x0), (1, .int i1), (2, .int i2), (3, .int i3)] (by decide) (by simp [lg_sl, ek_r_cat, ek_c_i, ek_c_l]) (by simp [lv_args, ek_r_cat, ek_c_i, ek_c_l]) (fun p e s m below meth c ls X hw hS hl => wKe_rate_0 X hf hw hS hl)
/-! ElasticKernel.total(II)I -/
def fKe_total_0 (kd : Nat → Nat) (I : ek_St) (x0 : Nat) (i1 : Int32) (i2 : Int32) : Option (ek_St × Int32) :=
  ek_ck (kd x0 = 7) (ek_ck (kd (x0 + 75) = 5) (ek_bi (fKe_wordOf kd I ((x0 + 75) + 1) i1 i2) (fun I1 ir2 => some (I1, ir2))))
def fKe_total (kd : Nat → Nat) (I : ek_St) (x0 : Nat) (i1 : Int32) (i2 : Int32) : Option (ek_St × Int32) := fKe_total_0 kd I x0 i1 i2
theorem dKe_total_0 : decode prog_1_method_9_code 0 = .ok (.aload_n 0, 1) := by decide +kernel
theorem dKe_total_1 : decode prog_1_method_9_code 1 = .ok (.getfield 19, 3) := by decide +kernel
theorem dKe_total_4 : decode prog_1_method_9_code 4 = .ok (.getfield 138, 3) := by decide +kernel
theorem dKe_total_7 : decode prog_1_method_9_code 7 = .ok (.iload_n 1, 1) := by decide +kernel
theorem dKe_total_8 : decode prog_1_method_9_code 8 = .ok (.iload_n 2, 1) := by decide +kernel
theorem dKe_total_9 : decode prog_1_method_9_code 9 = .ok (.invokestatic 134, 3) := by decide +kernel
theorem dKe_total_12 : decode prog_1_method_9_code 12 = .ok (.ireturn, 1) := by decide +kernel
set_option maxHeartbeats 4000000 in
set_option maxRecDepth 100000 in
theorem wKe_total_0 {l : Launch} {G : ek_G} {kd : Nat → Nat} {p : Program} {e : Env} {s : State} {m : MethodId} {args : Array Value} {below : List Frame} {meth : Method} {c : Code} (X : ek_X p s m meth c args G prog_1_method_9_code 3 "ElasticKernel" (some .int)) {q : ek_St × Int32} {I : ek_St} {x0 : Nat} {i1 : Int32} {i2 : Int32} (hf : fKe_total_0 kd I x0 i1 i2 = some q) {H : Heap} {locs : List Loc} {ls : Array Slot} (hw : ek_W G kd I H) (hS : va_S (ek_A G kd) s.heap H locs) (hl : lv_has ls 3 [(0, ek_r G x0), (1, .int i1), (2, .int i2)]) : W p l e ({ frames := 2, cells := 0, slots := 0, locals := 43 } : Room) s m args below meth c H locs 0 0 (MQ below (ek_Q G kd (some (.int q.2)) q.1) args s 0 0 (ek_A G kd)) (F0 m 0 ls []) := by
  obtain ⟨hx, hb, hml, hown, hts, hr, hlocks, hK⟩ := id X
  have hA : ∀ q, ek_A G kd q → ek_A G kd q := fun _ h => h
  unfold fKe_total_0 at hf
  refine ek_aload_n hx hb dKe_total_0 rfl (lv_at hl 0 rfl) ?_
  refine ek_getr hx hb 7 hts (in_Ke) hown hK hw rfl (by decide) (by decide) 1 (by decide) (n := 74) rfl rfl (hts _ q_194) hf dKe_total_1 (fun hf => ?_)
  refine ek_getrN hx hb 5 hts (in_Sp) hown hK hw rfl (by decide) (by decide) 0 (by decide) (n := 0) rfl rfl (va_Nw.use rfl (hK.2 _ n_177)) hf dKe_total_4 (fun hf => ?_)
  refine lv_iload_n hx hb dKe_total_7 rfl (lv_at hl 1 rfl) ?_
  refine lv_iload_n hx hb dKe_total_8 rfl (lv_at hl 2 rfl) ?_
  refine ek_ci hf hS hA (fun I' v hq => ek_rS (As := [ek_r G ((x0 + 75) + 1), .int i1, .int i2]) ⟨hx, hb, hml, hown, hts⟩ hK hw (mKe_wordOf hq) (ek_cwS 3 hts q_440 q_441 q_1 q_442 (by decide +kernel) ⟨Nat.le_of_ble_eq_true rfl, Nat.le_of_ble_eq_true rfl⟩) rfl hl.1 rfl (Nat.le_of_ble_eq_true rfl) dKe_total_9 ⟨Nat.zero_le _, Nat.zero_le _⟩) (fun I1 ir2 H locs hf hw hS => ?_)
  exact ek_iret hx hb hr hlocks hw hS hf dKe_total_12
set_option maxHeartbeats 4000000 in
set_option maxRecDepth 100000 in
theorem mKe_total {l : Launch} {G : ek_G} {kd : Nat → Nat} {I : ek_St} {x0 : Nat} {i1 : Int32} {i2 : Int32} {q : ek_St × Int32} (hf : fKe_total kd I x0 i1 i2 = some q) : ek_M l G kd y_Ke_total (.code y_Ke_total prog_1_method_9_code 3 (some .int) :: lw_g) ({ frames := 2, cells := 0, slots := 0, locals := 43 } : Room) [ek_r G x0, .int i1, .int i2] I (some (.int q.2)) q.1 :=
  ek_body [(0, ek_r G x0), (1, .int i1), (2, .int i2)] (by decide) (by simp [lg_sl, ek_r_cat, ek_c_i, ek_c_l]) (by simp [lv_args, ek_r_cat, ek_c_i, ek_c_l]) (fun p e s m below meth c ls X hw hS hl => wKe_total_0 X hf hw hS hl)
/-! ElasticKernel.state(I)I -/
def fKe_state_0 (kd : Nat → Nat) (I : ek_St) (x0 : Nat) (i1 : Int32) : Option (ek_St × Int32) :=
  if i1 = (0 : Int32) then (ek_ck (kd x0 = 7) (some (I, I x0 2))) else (if i1 = (1 : Int32) then (ek_ck (kd x0 = 7) (some (I, I x0 3))) else (if i1 = (2 : Int32) then (ek_ck (kd x0 = 7) (some (I, I x0 4))) else (if i1 = (3 : Int32) then (ek_ck (kd x0 = 7) (some (I, I x0 5))) else (if i1 = (4 : Int32) then (ek_ck (kd x0 = 7) (ek_ck (kd x0 = 7) (ek_ck (kd (x0 + 75) = 5) (ek_bi (fSp_thousandthsInUse kd I (x0 + 75)) (fun I6 ir8 => some (I6, (I x0 3) - ir8)))))) else (if i1 = (5 : Int32) then (ek_ck (kd x0 = 7) (some (I, I x0 6))) else (if i1 = (6 : Int32) then (ek_ck (kd x0 = 7) (ek_ck (kd (x0 + 1) = 4) (some (I, I (x0 + 1) 1)))) else (if i1 = (7 : Int32) then (ek_ck (kd x0 = 7) (some (I, I x0 7))) else (some (I, (-1 : Int32))))))))))
def fKe_state (kd : Nat → Nat) (I : ek_St) (x0 : Nat) (i1 : Int32) : Option (ek_St × Int32) := fKe_state_0 kd I x0 i1
theorem dKe_state_0 : decode prog_1_method_10_code 0 = .ok (.iload_n 1, 1) := by decide +kernel
theorem dKe_state_1 : decode prog_1_method_10_code 1 = .ok (.tableswitch 98 0 7 #[47, 52, 57, 62, 67, 80, 85, 93], 47) := by decide +kernel
theorem dKe_state_48 : decode prog_1_method_10_code 48 = .ok (.aload_n 0, 1) := by decide +kernel
theorem dKe_state_49 : decode prog_1_method_10_code 49 = .ok (.getfield 59, 3) := by decide +kernel
theorem dKe_state_52 : decode prog_1_method_10_code 52 = .ok (.ireturn, 1) := by decide +kernel
theorem dKe_state_53 : decode prog_1_method_10_code 53 = .ok (.aload_n 0, 1) := by decide +kernel
theorem dKe_state_54 : decode prog_1_method_10_code 54 = .ok (.getfield 23, 3) := by decide +kernel
theorem dKe_state_57 : decode prog_1_method_10_code 57 = .ok (.ireturn, 1) := by decide +kernel
theorem dKe_state_58 : decode prog_1_method_10_code 58 = .ok (.aload_n 0, 1) := by decide +kernel
theorem dKe_state_59 : decode prog_1_method_10_code 59 = .ok (.getfield 141, 3) := by decide +kernel
theorem dKe_state_62 : decode prog_1_method_10_code 62 = .ok (.ireturn, 1) := by decide +kernel
theorem dKe_state_63 : decode prog_1_method_10_code 63 = .ok (.aload_n 0, 1) := by decide +kernel
theorem dKe_state_64 : decode prog_1_method_10_code 64 = .ok (.getfield 144, 3) := by decide +kernel
theorem dKe_state_67 : decode prog_1_method_10_code 67 = .ok (.ireturn, 1) := by decide +kernel
theorem dKe_state_68 : decode prog_1_method_10_code 68 = .ok (.aload_n 0, 1) := by decide +kernel
theorem dKe_state_69 : decode prog_1_method_10_code 69 = .ok (.getfield 23, 3) := by decide +kernel
theorem dKe_state_72 : decode prog_1_method_10_code 72 = .ok (.aload_n 0, 1) := by decide +kernel
theorem dKe_state_73 : decode prog_1_method_10_code 73 = .ok (.getfield 19, 3) := by decide +kernel
theorem dKe_state_76 : decode prog_1_method_10_code 76 = .ok (.invokevirtual 147, 3) := by decide +kernel
theorem dKe_state_79 : decode prog_1_method_10_code 79 = .ok (.isub, 1) := by decide +kernel
theorem dKe_state_80 : decode prog_1_method_10_code 80 = .ok (.ireturn, 1) := by decide +kernel
theorem dKe_state_81 : decode prog_1_method_10_code 81 = .ok (.aload_n 0, 1) := by decide +kernel
theorem dKe_state_82 : decode prog_1_method_10_code 82 = .ok (.getfield 56, 3) := by decide +kernel
theorem dKe_state_85 : decode prog_1_method_10_code 85 = .ok (.ireturn, 1) := by decide +kernel
theorem dKe_state_86 : decode prog_1_method_10_code 86 = .ok (.aload_n 0, 1) := by decide +kernel
theorem dKe_state_87 : decode prog_1_method_10_code 87 = .ok (.getfield 10, 3) := by decide +kernel
theorem dKe_state_90 : decode prog_1_method_10_code 90 = .ok (.getfield 151, 3) := by decide +kernel
theorem dKe_state_93 : decode prog_1_method_10_code 93 = .ok (.ireturn, 1) := by decide +kernel
theorem dKe_state_94 : decode prog_1_method_10_code 94 = .ok (.aload_n 0, 1) := by decide +kernel
theorem dKe_state_95 : decode prog_1_method_10_code 95 = .ok (.getfield 154, 3) := by decide +kernel
theorem dKe_state_98 : decode prog_1_method_10_code 98 = .ok (.ireturn, 1) := by decide +kernel
theorem dKe_state_99 : decode prog_1_method_10_code 99 = .ok (.iconst (-1), 1) := by decide +kernel
theorem dKe_state_100 : decode prog_1_method_10_code 100 = .ok (.ireturn, 1) := by decide +kernel
set_option maxHeartbeats 4000000 in
set_option maxRecDepth 100000 in
theorem wKe_state_0 {l : Launch} {G : ek_G} {kd : Nat → Nat} {p : Program} {e : Env} {s : State} {m : MethodId} {args : Array Value} {below : List Frame} {meth : Method} {c : Code} (X : ek_X p s m meth c args G prog_1_method_10_code 2 "ElasticKernel" (some .int)) {q : ek_St × Int32} {I : ek_St} {x0 : Nat} {i1 : Int32} (hf : fKe_state_0 kd I x0 i1 = some q) {H : Heap} {locs : List Loc} {ls : Array Slot} (hw : ek_W G kd I H) (hS : va_S (ek_A G kd) s.heap H locs) (hl : lv_has ls 2 [(0, ek_r G x0), (1, .int i1)]) : W p l e ({ frames := 5, cells := 0, slots := 0, locals := 115 } : Room) s m args below meth c H locs 0 0 (MQ below (ek_Q G kd (some (.int q.2)) q.1) args s 0 0 (ek_A G kd)) (F0 m 0 ls []) := by
  obtain ⟨hx, hb, hml, hown, hts, hr, hlocks, hK⟩ := id X
  have hA : ∀ q, ek_A G kd q → ek_A G kd q := fun _ h => h
  unfold fKe_state_0 at hf
  refine lv_iload_n hx hb dKe_state_0 rfl (lv_at hl 1 rfl) ?_
  by_cases c1 : i1 = (0 : Int32)
  · have hf := ek_t c1 hf
    refine lv_tableIn (tgt := 48) hx hb dKe_state_1 (by rw [c1]; decide) (by rw [c1]; decide) (off := 47) (by rw [c1]; rfl) (by decide) ?_
    refine ek_aload_n hx hb dKe_state_48 rfl (lv_at hl 0 rfl) ?_
    refine ek_geti hx hb 7 hts (in_Ke) hown hK hw rfl (by decide) (by decide) 2 (by decide) rfl (hts _ q_195) hf dKe_state_49 (fun hf => ?_)
    exact ek_iret hx hb hr hlocks hw hS hf dKe_state_52
  have hf := ek_f c1 hf
  by_cases c2 : i1 = (1 : Int32)
  · have hf := ek_t c2 hf
    refine lv_tableIn (tgt := 53) hx hb dKe_state_1 (by rw [c2]; decide) (by rw [c2]; decide) (off := 52) (by rw [c2]; rfl) (by decide) ?_
    refine ek_aload_n hx hb dKe_state_53 rfl (lv_at hl 0 rfl) ?_
    refine ek_geti hx hb 7 hts (in_Ke) hown hK hw rfl (by decide) (by decide) 3 (by decide) rfl (hts _ q_196) hf dKe_state_54 (fun hf => ?_)
    exact ek_iret hx hb hr hlocks hw hS hf dKe_state_57
  have hf := ek_f c2 hf
  by_cases c3 : i1 = (2 : Int32)
  · have hf := ek_t c3 hf
    refine lv_tableIn (tgt := 58) hx hb dKe_state_1 (by rw [c3]; decide) (by rw [c3]; decide) (off := 57) (by rw [c3]; rfl) (by decide) ?_
    refine ek_aload_n hx hb dKe_state_58 rfl (lv_at hl 0 rfl) ?_
    refine ek_geti hx hb 7 hts (in_Ke) hown hK hw rfl (by decide) (by decide) 4 (by decide) rfl (hts _ q_197) hf dKe_state_59 (fun hf => ?_)
    exact ek_iret hx hb hr hlocks hw hS hf dKe_state_62
  have hf := ek_f c3 hf
  by_cases c4 : i1 = (3 : Int32)
  · have hf := ek_t c4 hf
    refine lv_tableIn (tgt := 63) hx hb dKe_state_1 (by rw [c4]; decide) (by rw [c4]; decide) (off := 62) (by rw [c4]; rfl) (by decide) ?_
    refine ek_aload_n hx hb dKe_state_63 rfl (lv_at hl 0 rfl) ?_
    refine ek_geti hx hb 7 hts (in_Ke) hown hK hw rfl (by decide) (by decide) 5 (by decide) rfl (hts _ q_198) hf dKe_state_64 (fun hf => ?_)
    exact ek_iret hx hb hr hlocks hw hS hf dKe_state_67
  have hf := ek_f c4 hf
  by_cases c5 : i1 = (4 : Int32)
  · have hf := ek_t c5 hf
    refine lv_tableIn (tgt := 68) hx hb dKe_state_1 (by rw [c5]; decide) (by rw [c5]; decide) (off := 67) (by rw [c5]; rfl) (by decide) ?_
    refine ek_aload_n hx hb dKe_state_68 rfl (lv_at hl 0 rfl) ?_
    refine ek_geti hx hb 7 hts (in_Ke) hown hK hw rfl (by decide) (by decide) 3 (by decide) rfl (hts _ q_196) hf dKe_state_69 (fun hf => ?_)
    refine ek_aload_n hx hb dKe_state_72 rfl (lv_at hl 0 rfl) ?_
    refine ek_getr hx hb 7 hts (in_Ke) hown hK hw rfl (by decide) (by decide) 1 (by decide) (n := 74) rfl rfl (hts _ q_194) hf dKe_state_73 (fun hf => ?_)
    obtain ⟨hx7, hf⟩ := ek_ck_s hf
    refine ek_ci hf hS hA (fun I' v hq => ek_rV (As := []) ⟨hx, hb, hml, hown, hts⟩ hK hw 5 rfl (by decide) (by decide) hx7 (mSp_thousandthsInUse hq) (cwV 0 hts (lw_V q_452 q_453 q_454 q_6 q_455) rfl rfl rfl (by decide +kernel) ⟨Nat.le_of_ble_eq_true rfl, Nat.le_of_ble_eq_true rfl⟩) rfl hl.1 rfl (Nat.le_of_ble_eq_true rfl) dKe_state_76 ⟨Nat.zero_le _, Nat.zero_le _⟩) (fun I6 ir8 H locs hf hw hS => ?_)
    refine lv_isub hx hb dKe_state_79 ?_
    exact ek_iret hx hb hr hlocks hw hS hf dKe_state_80
  have hf := ek_f c5 hf
  by_cases c9 : i1 = (5 : Int32)
  · have hf := ek_t c9 hf
    refine lv_tableIn (tgt := 81) hx hb dKe_state_1 (by rw [c9]; decide) (by rw [c9]; decide) (off := 80) (by rw [c9]; rfl) (by decide) ?_
    refine ek_aload_n hx hb dKe_state_81 rfl (lv_at hl 0 rfl) ?_
    refine ek_geti hx hb 7 hts (in_Ke) hown hK hw rfl (by decide) (by decide) 6 (by decide) rfl (hts _ q_199) hf dKe_state_82 (fun hf => ?_)
    exact ek_iret hx hb hr hlocks hw hS hf dKe_state_85
  have hf := ek_f c9 hf
  by_cases c10 : i1 = (6 : Int32)
  · have hf := ek_t c10 hf
    refine lv_tableIn (tgt := 86) hx hb dKe_state_1 (by rw [c10]; decide) (by rw [c10]; decide) (off := 85) (by rw [c10]; rfl) (by decide) ?_
    refine ek_aload_n hx hb dKe_state_86 rfl (lv_at hl 0 rfl) ?_
    refine ek_getr hx hb 7 hts (in_Ke) hown hK hw rfl (by decide) (by decide) 0 (by decide) (n := 0) rfl rfl (hts _ q_193) hf dKe_state_87 (fun hf => ?_)
    refine ek_getiN hx hb 4 hts (in_Ro) hown hK hw rfl (by decide) (by decide) 1 (by decide) rfl (va_Nw.use rfl (hK.2 _ n_141)) hf dKe_state_90 (fun hf => ?_)
    exact ek_iret hx hb hr hlocks hw hS hf dKe_state_93
  have hf := ek_f c10 hf
  by_cases c11 : i1 = (7 : Int32)
  · have hf := ek_t c11 hf
    refine lv_tableIn (tgt := 94) hx hb dKe_state_1 (by rw [c11]; decide) (by rw [c11]; decide) (off := 93) (by rw [c11]; rfl) (by decide) ?_
    refine ek_aload_n hx hb dKe_state_94 rfl (lv_at hl 0 rfl) ?_
    refine ek_geti hx hb 7 hts (in_Ke) hown hK hw rfl (by decide) (by decide) 7 (by decide) rfl (hts _ q_200) hf dKe_state_95 (fun hf => ?_)
    exact ek_iret hx hb hr hlocks hw hS hf dKe_state_98
  have hf := ek_f c11 hf
  refine lv_tableOut (tgt := 99) hx hb dKe_state_1 (by have := lv_neT c1 (a := 0) (by decide); have := lv_neT c2 (a := 1) (by decide); have := lv_neT c3 (a := 2) (by decide); have := lv_neT c4 (a := 3) (by decide); have := lv_neT c5 (a := 4) (by decide); have := lv_neT c9 (a := 5) (by decide); have := lv_neT c10 (a := 6) (by decide); have := lv_neT c11 (a := 7) (by decide); omega) (by decide) ?_
  refine lv_iconst (v := (-1 : Int32)) hx hb dKe_state_99 (by decide) ?_
  exact ek_iret hx hb hr hlocks hw hS hf dKe_state_100
set_option maxHeartbeats 4000000 in
set_option maxRecDepth 100000 in
theorem mKe_state {l : Launch} {G : ek_G} {kd : Nat → Nat} {I : ek_St} {x0 : Nat} {i1 : Int32} {q : ek_St × Int32} (hf : fKe_state kd I x0 i1 = some q) : ek_M l G kd y_Ke_state (.code y_Ke_state prog_1_method_10_code 2 (some .int) :: lw_g) ({ frames := 5, cells := 0, slots := 0, locals := 115 } : Room) [ek_r G x0, .int i1] I (some (.int q.2)) q.1 :=
  ek_body [(0, ek_r G x0), (1, .int i1)] (by decide) (by simp [lg_sl, ek_r_cat, ek_c_i, ek_c_l]) (by simp [lv_args, ek_r_cat, ek_c_i, ek_c_l]) (fun p e s m below meth c ls X hw hS hl => wKe_state_0 X hf hw hS hl)
