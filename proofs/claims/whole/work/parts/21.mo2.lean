/-! ElasticKernelModel.counts(I)Z -/
def fMo_counts_0 (kd : Nat → Nat) (I : ek_St) (x0 : Nat) (i1 : Int32) : Option (ek_St × Int32) :=
  ek_ck (kd x0 = 8) (ek_ck (kd (x0 + 6) = 112) (ek_ck (ek_in i1 12) (if (I (x0 + 6) i1.toNatClampNeg) = ((2 : Int32)) then (ek_ck (((0 : Int32)) = (0 : Int32) ∨ ((0 : Int32)) = (1 : Int32)) (some (I, (0 : Int32)))) else (ek_ck (((1 : Int32)) = (0 : Int32) ∨ ((1 : Int32)) = (1 : Int32)) (some (I, (1 : Int32)))))))
def fMo_counts (kd : Nat → Nat) (I : ek_St) (x0 : Nat) (i1 : Int32) : Option (ek_St × Int32) := fMo_counts_0 kd I x0 i1
theorem dMo_counts_0 : decode prog_9_method_14_code 0 = .ok (.aload_n 0, 1) := by decide +kernel
theorem dMo_counts_1 : decode prog_9_method_14_code 1 = .ok (.getfield 29, 3) := by decide +kernel
theorem dMo_counts_4 : decode prog_9_method_14_code 4 = .ok (.iload_n 1, 1) := by decide +kernel
theorem dMo_counts_5 : decode prog_9_method_14_code 5 = .ok (.iaload, 1) := by decide +kernel
theorem dMo_counts_6 : decode prog_9_method_14_code 6 = .ok (.iconst 2, 1) := by decide +kernel
theorem dMo_counts_7 : decode prog_9_method_14_code 7 = .ok (.if_icmp .eq 7, 3) := by decide +kernel
theorem dMo_counts_10 : decode prog_9_method_14_code 10 = .ok (.iconst 1, 1) := by decide +kernel
theorem dMo_counts_11 : decode prog_9_method_14_code 11 = .ok (.goto 4, 3) := by decide +kernel
theorem dMo_counts_14 : decode prog_9_method_14_code 14 = .ok (.iconst 0, 1) := by decide +kernel
theorem dMo_counts_15 : decode prog_9_method_14_code 15 = .ok (.ireturn, 1) := by decide +kernel
set_option maxHeartbeats 4000000 in
set_option maxRecDepth 100000 in
theorem wMo_counts_0 {l : Launch} {G : ek_G} {kd : Nat → Nat} {p : Program} {e : Env} {s : State} {m : MethodId} {args : Array Value} {below : List Frame} {meth : Method} {c : Code} (X : ek_X p s m meth c args G prog_9_method_14_code 2 "ElasticKernelModel" (some .boolean)) {q : ek_St × Int32} {I : ek_St} {x0 : Nat} {i1 : Int32} (hf : fMo_counts_0 kd I x0 i1 = some q) {H : Heap} {locs : List Loc} {ls : Array Slot} (hw : ek_W G kd I H) (hS : va_S (ek_A G kd) s.heap H locs) (hl : lv_has ls 2 [(0, ek_r G x0), (1, .int i1)]) : W p l e ({ frames := 0, cells := 0, slots := 0, locals := 0 } : Room) s m args below meth c H locs 0 0 (MQ below (ek_Q G kd (some (.int q.2)) q.1) args s 0 0 (ek_A G kd)) (F0 m 0 ls []) := by
  obtain ⟨hx, hb, hml, hown, hts, hr, hlocks, hK⟩ := id X
  have hA : ∀ q, ek_A G kd q → ek_A G kd q := fun _ h => h
  unfold fMo_counts_0 at hf
  refine ek_aload_n hx hb dMo_counts_0 rfl (lv_at hl 0 rfl) ?_
  refine ek_getr hx hb 8 hts (in_Mo) hown hK hw rfl (by decide) (by decide) 13 (by decide) (n := 5) rfl rfl (hts _ q_589) hf dMo_counts_1 (fun hf => ?_)
  refine lv_iload_n hx hb dMo_counts_4 rfl (lv_at hl 1 rfl) ?_
  refine ek_iald hx hb hK hw 12 rfl hf dMo_counts_5 (fun hf => ?_)
  refine lv_iconst (v := (2 : Int32)) hx hb dMo_counts_6 (by decide) ?_
  refine lv_icmp_eq (tgt := 14) hx hb dMo_counts_7 (by decide) (fun c1 => ?_) (fun c1 => ?_)
  · have hf := ek_t c1 hf
    refine lv_iconst (v := (0 : Int32)) hx hb dMo_counts_14 (by decide) ?_
    exact ek_zret hx hb hr hlocks hw hS hf dMo_counts_15
  · have hf := ek_f c1 hf
    refine lv_iconst (v := (1 : Int32)) hx hb dMo_counts_10 (by decide) ?_
    refine lv_goto (tgt := 15) hx hb dMo_counts_11 (by decide) ?_
    exact ek_zret hx hb hr hlocks hw hS hf dMo_counts_15
set_option maxHeartbeats 4000000 in
set_option maxRecDepth 100000 in
theorem mMo_counts {l : Launch} {G : ek_G} {kd : Nat → Nat} {I : ek_St} {x0 : Nat} {i1 : Int32} {q : ek_St × Int32} (hf : fMo_counts kd I x0 i1 = some q) : ek_M l G kd y_Mo_counts (.code y_Mo_counts prog_9_method_14_code 2 (some .boolean) :: lw_g) ({ frames := 0, cells := 0, slots := 0, locals := 0 } : Room) [ek_r G x0, .int i1] I (some (.int q.2)) q.1 :=
  ek_body [(0, ek_r G x0), (1, .int i1)] (by decide) (by simp [lg_sl, ek_r_cat, ek_c_i, ek_c_l]) (by simp [lv_args, ek_r_cat, ek_c_i, ek_c_l]) (fun p e s m below meth c ls X hw hS hl => wMo_counts_0 X hf hw hS hl)
/-! ElasticKernelModel.addFraction(II)V -/
def fMo_addFraction_0 (kd : Nat → Nat) (I : ek_St) (x0 : Nat) (i1 : Int32) (i2 : Int32) : Option (ek_St) :=
  ek_ck (kd x0 = 8) (ek_bv (fMo_times kd I x0 ((26 : Int32)) i2) (fun I1 => ek_ck (kd x0 = 8) (ek_bv (fMo_copy kd I1 x0 ((30 : Int32)) ((27 : Int32))) (fun I3 => ek_ck (kd x0 = 8) (ek_bv (fMo_times kd I3 x0 ((30 : Int32)) i1) (fun I5 => ek_ck (kd x0 = 8) (ek_bv (fMo_add3 kd I5 x0 ((26 : Int32)) ((30 : Int32)) ((0 : Int32))) (fun I7 => ek_ck (kd x0 = 8) (ek_bv (fMo_times kd I7 x0 ((27 : Int32)) i2) (fun I9 => some I9))))))))))
def fMo_addFraction (kd : Nat → Nat) (I : ek_St) (x0 : Nat) (i1 : Int32) (i2 : Int32) : Option (ek_St) := fMo_addFraction_0 kd I x0 i1 i2
theorem dMo_addFraction_0 : decode prog_9_method_15_code 0 = .ok (.aload_n 0, 1) := by decide +kernel
theorem dMo_addFraction_1 : decode prog_9_method_15_code 1 = .ok (.bipush 26, 2) := by decide +kernel
theorem dMo_addFraction_3 : decode prog_9_method_15_code 3 = .ok (.iload_n 2, 1) := by decide +kernel
theorem dMo_addFraction_4 : decode prog_9_method_15_code 4 = .ok (.invokevirtual 102, 3) := by decide +kernel
theorem dMo_addFraction_7 : decode prog_9_method_15_code 7 = .ok (.aload_n 0, 1) := by decide +kernel
theorem dMo_addFraction_8 : decode prog_9_method_15_code 8 = .ok (.bipush 30, 2) := by decide +kernel
theorem dMo_addFraction_10 : decode prog_9_method_15_code 10 = .ok (.bipush 27, 2) := by decide +kernel
theorem dMo_addFraction_12 : decode prog_9_method_15_code 12 = .ok (.invokevirtual 87, 3) := by decide +kernel
theorem dMo_addFraction_15 : decode prog_9_method_15_code 15 = .ok (.aload_n 0, 1) := by decide +kernel
theorem dMo_addFraction_16 : decode prog_9_method_15_code 16 = .ok (.bipush 30, 2) := by decide +kernel
theorem dMo_addFraction_18 : decode prog_9_method_15_code 18 = .ok (.iload_n 1, 1) := by decide +kernel
theorem dMo_addFraction_19 : decode prog_9_method_15_code 19 = .ok (.invokevirtual 102, 3) := by decide +kernel
theorem dMo_addFraction_22 : decode prog_9_method_15_code 22 = .ok (.aload_n 0, 1) := by decide +kernel
theorem dMo_addFraction_23 : decode prog_9_method_15_code 23 = .ok (.bipush 26, 2) := by decide +kernel
theorem dMo_addFraction_25 : decode prog_9_method_15_code 25 = .ok (.bipush 30, 2) := by decide +kernel
theorem dMo_addFraction_27 : decode prog_9_method_15_code 27 = .ok (.iconst 0, 1) := by decide +kernel
theorem dMo_addFraction_28 : decode prog_9_method_15_code 28 = .ok (.invokevirtual 95, 3) := by decide +kernel
theorem dMo_addFraction_31 : decode prog_9_method_15_code 31 = .ok (.aload_n 0, 1) := by decide +kernel
theorem dMo_addFraction_32 : decode prog_9_method_15_code 32 = .ok (.bipush 27, 2) := by decide +kernel
theorem dMo_addFraction_34 : decode prog_9_method_15_code 34 = .ok (.iload_n 2, 1) := by decide +kernel
theorem dMo_addFraction_35 : decode prog_9_method_15_code 35 = .ok (.invokevirtual 102, 3) := by decide +kernel
theorem dMo_addFraction_38 : decode prog_9_method_15_code 38 = .ok (.return_, 1) := by decide +kernel
set_option maxHeartbeats 4000000 in
set_option maxRecDepth 100000 in
theorem wMo_addFraction_0 {l : Launch} {G : ek_G} {kd : Nat → Nat} {p : Program} {e : Env} {s : State} {m : MethodId} {args : Array Value} {below : List Frame} {meth : Method} {c : Code} (X : ek_X p s m meth c args G prog_9_method_15_code 3 "ElasticKernelModel" none) {q : ek_St} {I : ek_St} {x0 : Nat} {i1 : Int32} {i2 : Int32} (hf : fMo_addFraction_0 kd I x0 i1 i2 = some q) {H : Heap} {locs : List Loc} {ls : Array Slot} (hw : ek_W G kd I H) (hS : va_S (ek_A G kd) s.heap H locs) (hl : lv_has ls 3 [(0, ek_r G x0), (1, .int i1), (2, .int i2)]) : W p l e ({ frames := 1, cells := 0, slots := 0, locals := 27 } : Room) s m args below meth c H locs 0 0 (MQ below (ek_Q G kd none q) args s 0 0 (ek_A G kd)) (F0 m 0 ls []) := by
  obtain ⟨hx, hb, hml, hown, hts, hr, hlocks, hK⟩ := id X
  have hA : ∀ q, ek_A G kd q → ek_A G kd q := fun _ h => h
  unfold fMo_addFraction_0 at hf
  refine ek_aload_n hx hb dMo_addFraction_0 rfl (lv_at hl 0 rfl) ?_
  refine lv_bipush (v := (26 : Int32)) hx hb dMo_addFraction_1 (by decide) ?_
  refine lv_iload_n hx hb dMo_addFraction_3 rfl (lv_at hl 2 rfl) ?_
  obtain ⟨hx2, hf⟩ := ek_ck_s hf
  refine ek_cv hf hS hA (fun I' hq => ek_rV (As := [.int ((26 : Int32)), .int i2]) ⟨hx, hb, hml, hown, hts⟩ hK hw 8 rfl (by decide) (by decide) hx2 (mMo_times hq) (cwV 2 hts (lw_V q_685 q_687 p_22 q_8 q_688) rfl rfl rfl (by decide +kernel) ⟨Nat.le_of_ble_eq_true rfl, Nat.le_of_ble_eq_true rfl⟩) rfl hl.1 rfl (Nat.le_of_ble_eq_true rfl) dMo_addFraction_4 ⟨Nat.zero_le _, Nat.zero_le _⟩) (fun I1 H locs hf hw hS => ?_)
  refine ek_aload_n hx hb dMo_addFraction_7 rfl (lv_at hl 0 rfl) ?_
  refine lv_bipush (v := (30 : Int32)) hx hb dMo_addFraction_8 (by decide) ?_
  refine lv_bipush (v := (27 : Int32)) hx hb dMo_addFraction_10 (by decide) ?_
  obtain ⟨hx4, hf⟩ := ek_ck_s hf
  refine ek_cv hf hS hA (fun I' hq => ek_rV (As := [.int ((30 : Int32)), .int ((27 : Int32))]) ⟨hx, hb, hml, hown, hts⟩ hK hw 8 rfl (by decide) (by decide) hx4 (mMo_copy hq) (cwV 2 hts (lw_V q_669 q_671 p_18 q_8 q_672) rfl rfl rfl (by decide +kernel) ⟨Nat.le_of_ble_eq_true rfl, Nat.le_of_ble_eq_true rfl⟩) rfl hl.1 rfl (Nat.le_of_ble_eq_true rfl) dMo_addFraction_12 ⟨Nat.zero_le _, Nat.zero_le _⟩) (fun I3 H locs hf hw hS => ?_)
  refine ek_aload_n hx hb dMo_addFraction_15 rfl (lv_at hl 0 rfl) ?_
  refine lv_bipush (v := (30 : Int32)) hx hb dMo_addFraction_16 (by decide) ?_
  refine lv_iload_n hx hb dMo_addFraction_18 rfl (lv_at hl 1 rfl) ?_
  obtain ⟨hx6, hf⟩ := ek_ck_s hf
  refine ek_cv hf hS hA (fun I' hq => ek_rV (As := [.int ((30 : Int32)), .int i1]) ⟨hx, hb, hml, hown, hts⟩ hK hw 8 rfl (by decide) (by decide) hx6 (mMo_times hq) (cwV 2 hts (lw_V q_685 q_687 p_22 q_8 q_688) rfl rfl rfl (by decide +kernel) ⟨Nat.le_of_ble_eq_true rfl, Nat.le_of_ble_eq_true rfl⟩) rfl hl.1 rfl (Nat.le_of_ble_eq_true rfl) dMo_addFraction_19 ⟨Nat.zero_le _, Nat.zero_le _⟩) (fun I5 H locs hf hw hS => ?_)
  refine ek_aload_n hx hb dMo_addFraction_22 rfl (lv_at hl 0 rfl) ?_
  refine lv_bipush (v := (26 : Int32)) hx hb dMo_addFraction_23 (by decide) ?_
  refine lv_bipush (v := (30 : Int32)) hx hb dMo_addFraction_25 (by decide) ?_
  refine lv_iconst (v := (0 : Int32)) hx hb dMo_addFraction_27 (by decide) ?_
  obtain ⟨hx8, hf⟩ := ek_ck_s hf
  refine ek_cv hf hS hA (fun I' hq => ek_rV (As := [.int ((26 : Int32)), .int ((30 : Int32)), .int ((0 : Int32))]) ⟨hx, hb, hml, hown, hts⟩ hK hw 8 rfl (by decide) (by decide) hx8 (mMo_add3 hq) (cwV 3 hts (lw_V q_689 q_691 p_23 q_8 q_692) rfl rfl rfl (by decide +kernel) ⟨Nat.le_of_ble_eq_true rfl, Nat.le_of_ble_eq_true rfl⟩) rfl hl.1 rfl (Nat.le_of_ble_eq_true rfl) dMo_addFraction_28 ⟨Nat.zero_le _, Nat.zero_le _⟩) (fun I7 H locs hf hw hS => ?_)
  refine ek_aload_n hx hb dMo_addFraction_31 rfl (lv_at hl 0 rfl) ?_
  refine lv_bipush (v := (27 : Int32)) hx hb dMo_addFraction_32 (by decide) ?_
  refine lv_iload_n hx hb dMo_addFraction_34 rfl (lv_at hl 2 rfl) ?_
  obtain ⟨hx10, hf⟩ := ek_ck_s hf
  refine ek_cv hf hS hA (fun I' hq => ek_rV (As := [.int ((27 : Int32)), .int i2]) ⟨hx, hb, hml, hown, hts⟩ hK hw 8 rfl (by decide) (by decide) hx10 (mMo_times hq) (cwV 2 hts (lw_V q_685 q_687 p_22 q_8 q_688) rfl rfl rfl (by decide +kernel) ⟨Nat.le_of_ble_eq_true rfl, Nat.le_of_ble_eq_true rfl⟩) rfl hl.1 rfl (Nat.le_of_ble_eq_true rfl) dMo_addFraction_35 ⟨Nat.zero_le _, Nat.zero_le _⟩) (fun I9 H locs hf hw hS => ?_)
  exact ek_vret hx hb hr hlocks hw hS hf dMo_addFraction_38
set_option maxHeartbeats 4000000 in
set_option maxRecDepth 100000 in
theorem mMo_addFraction {l : Launch} {G : ek_G} {kd : Nat → Nat} {I : ek_St} {x0 : Nat} {i1 : Int32} {i2 : Int32} {q : ek_St} (hf : fMo_addFraction kd I x0 i1 i2 = some q) : ek_M l G kd y_Mo_addFraction (.code y_Mo_addFraction prog_9_method_15_code 3 none :: lw_g) ({ frames := 1, cells := 0, slots := 0, locals := 27 } : Room) [ek_r G x0, .int i1, .int i2] I none q :=
  ek_body [(0, ek_r G x0), (1, .int i1), (2, .int i2)] (by decide) (by simp [lg_sl, ek_r_cat, ek_c_i, ek_c_l]) (by simp [lv_args, ek_r_cat, ek_c_i, ek_c_l]) (fun p e s m below meth c ls X hw hS hl => wMo_addFraction_0 X hf hw hS hl)
/-! ElasticKernelModel.isAbove(I)Z -/
def fMo_isAbove_0 (kd : Nat → Nat) (I : ek_St) (x0 : Nat) (i1 : Int32) : Option (ek_St × Int32) :=
  ek_ck (kd x0 = 8) (ek_bv (fMo_copy kd I x0 ((30 : Int32)) ((26 : Int32))) (fun I1 => ek_ck (kd x0 = 8) (ek_bv (fMo_times kd I1 x0 ((30 : Int32)) ((1000 : Int32))) (fun I3 => ek_ck (kd x0 = 8) (ek_bv (fMo_copy kd I3 x0 ((31 : Int32)) ((27 : Int32))) (fun I5 => ek_ck (kd x0 = 8) (ek_bv (fMo_times kd I5 x0 ((31 : Int32)) i1) (fun I7 => ek_ck (kd x0 = 8) (ek_bi (fMo_compare kd I7 x0 ((30 : Int32)) ((31 : Int32))) (fun I9 ir11 => if ir11 ≤ ((0 : Int32)) then (ek_ck (((0 : Int32)) = (0 : Int32) ∨ ((0 : Int32)) = (1 : Int32)) (some (I9, (0 : Int32)))) else (ek_ck (((1 : Int32)) = (0 : Int32) ∨ ((1 : Int32)) = (1 : Int32)) (some (I9, (1 : Int32))))))))))))))
def fMo_isAbove (kd : Nat → Nat) (I : ek_St) (x0 : Nat) (i1 : Int32) : Option (ek_St × Int32) := fMo_isAbove_0 kd I x0 i1
theorem dMo_isAbove_0 : decode prog_9_method_16_code 0 = .ok (.aload_n 0, 1) := by decide +kernel
theorem dMo_isAbove_1 : decode prog_9_method_16_code 1 = .ok (.bipush 30, 2) := by decide +kernel
theorem dMo_isAbove_3 : decode prog_9_method_16_code 3 = .ok (.bipush 26, 2) := by decide +kernel
theorem dMo_isAbove_5 : decode prog_9_method_16_code 5 = .ok (.invokevirtual 87, 3) := by decide +kernel
theorem dMo_isAbove_8 : decode prog_9_method_16_code 8 = .ok (.aload_n 0, 1) := by decide +kernel
theorem dMo_isAbove_9 : decode prog_9_method_16_code 9 = .ok (.bipush 30, 2) := by decide +kernel
theorem dMo_isAbove_11 : decode prog_9_method_16_code 11 = .ok (.sipush 1000, 3) := by decide +kernel
theorem dMo_isAbove_14 : decode prog_9_method_16_code 14 = .ok (.invokevirtual 102, 3) := by decide +kernel
theorem dMo_isAbove_17 : decode prog_9_method_16_code 17 = .ok (.aload_n 0, 1) := by decide +kernel
theorem dMo_isAbove_18 : decode prog_9_method_16_code 18 = .ok (.bipush 31, 2) := by decide +kernel
theorem dMo_isAbove_20 : decode prog_9_method_16_code 20 = .ok (.bipush 27, 2) := by decide +kernel
theorem dMo_isAbove_22 : decode prog_9_method_16_code 22 = .ok (.invokevirtual 87, 3) := by decide +kernel
theorem dMo_isAbove_25 : decode prog_9_method_16_code 25 = .ok (.aload_n 0, 1) := by decide +kernel
theorem dMo_isAbove_26 : decode prog_9_method_16_code 26 = .ok (.bipush 31, 2) := by decide +kernel
theorem dMo_isAbove_28 : decode prog_9_method_16_code 28 = .ok (.iload_n 1, 1) := by decide +kernel
theorem dMo_isAbove_29 : decode prog_9_method_16_code 29 = .ok (.invokevirtual 102, 3) := by decide +kernel
theorem dMo_isAbove_32 : decode prog_9_method_16_code 32 = .ok (.aload_n 0, 1) := by decide +kernel
theorem dMo_isAbove_33 : decode prog_9_method_16_code 33 = .ok (.bipush 30, 2) := by decide +kernel
theorem dMo_isAbove_35 : decode prog_9_method_16_code 35 = .ok (.bipush 31, 2) := by decide +kernel
theorem dMo_isAbove_37 : decode prog_9_method_16_code 37 = .ok (.invokevirtual 91, 3) := by decide +kernel
theorem dMo_isAbove_40 : decode prog_9_method_16_code 40 = .ok (.ifCond .le 7, 3) := by decide +kernel
theorem dMo_isAbove_43 : decode prog_9_method_16_code 43 = .ok (.iconst 1, 1) := by decide +kernel
theorem dMo_isAbove_44 : decode prog_9_method_16_code 44 = .ok (.goto 4, 3) := by decide +kernel
theorem dMo_isAbove_47 : decode prog_9_method_16_code 47 = .ok (.iconst 0, 1) := by decide +kernel
theorem dMo_isAbove_48 : decode prog_9_method_16_code 48 = .ok (.ireturn, 1) := by decide +kernel
set_option maxHeartbeats 4000000 in
set_option maxRecDepth 100000 in
theorem wMo_isAbove_0 {l : Launch} {G : ek_G} {kd : Nat → Nat} {p : Program} {e : Env} {s : State} {m : MethodId} {args : Array Value} {below : List Frame} {meth : Method} {c : Code} (X : ek_X p s m meth c args G prog_9_method_16_code 2 "ElasticKernelModel" (some .boolean)) {q : ek_St × Int32} {I : ek_St} {x0 : Nat} {i1 : Int32} (hf : fMo_isAbove_0 kd I x0 i1 = some q) {H : Heap} {locs : List Loc} {ls : Array Slot} (hw : ek_W G kd I H) (hS : va_S (ek_A G kd) s.heap H locs) (hl : lv_has ls 2 [(0, ek_r G x0), (1, .int i1)]) : W p l e ({ frames := 1, cells := 0, slots := 0, locals := 27 } : Room) s m args below meth c H locs 0 0 (MQ below (ek_Q G kd (some (.int q.2)) q.1) args s 0 0 (ek_A G kd)) (F0 m 0 ls []) := by
  obtain ⟨hx, hb, hml, hown, hts, hr, hlocks, hK⟩ := id X
  have hA : ∀ q, ek_A G kd q → ek_A G kd q := fun _ h => h
  unfold fMo_isAbove_0 at hf
  refine ek_aload_n hx hb dMo_isAbove_0 rfl (lv_at hl 0 rfl) ?_
  refine lv_bipush (v := (30 : Int32)) hx hb dMo_isAbove_1 (by decide) ?_
  refine lv_bipush (v := (26 : Int32)) hx hb dMo_isAbove_3 (by decide) ?_
  obtain ⟨hx2, hf⟩ := ek_ck_s hf
  refine ek_cv hf hS hA (fun I' hq => ek_rV (As := [.int ((30 : Int32)), .int ((26 : Int32))]) ⟨hx, hb, hml, hown, hts⟩ hK hw 8 rfl (by decide) (by decide) hx2 (mMo_copy hq) (cwV 2 hts (lw_V q_669 q_671 p_18 q_8 q_672) rfl rfl rfl (by decide +kernel) ⟨Nat.le_of_ble_eq_true rfl, Nat.le_of_ble_eq_true rfl⟩) rfl hl.1 rfl (Nat.le_of_ble_eq_true rfl) dMo_isAbove_5 ⟨Nat.zero_le _, Nat.zero_le _⟩) (fun I1 H locs hf hw hS => ?_)
  refine ek_aload_n hx hb dMo_isAbove_8 rfl (lv_at hl 0 rfl) ?_
  refine lv_bipush (v := (30 : Int32)) hx hb dMo_isAbove_9 (by decide) ?_
  refine lv_sipush (v := (1000 : Int32)) hx hb dMo_isAbove_11 (by decide) ?_
  obtain ⟨hx4, hf⟩ := ek_ck_s hf
  refine ek_cv hf hS hA (fun I' hq => ek_rV (As := [.int ((30 : Int32)), .int ((1000 : Int32))]) ⟨hx, hb, hml, hown, hts⟩ hK hw 8 rfl (by decide) (by decide) hx4 (mMo_times hq) (cwV 2 hts (lw_V q_685 q_687 p_22 q_8 q_688) rfl rfl rfl (by decide +kernel) ⟨Nat.le_of_ble_eq_true rfl, Nat.le_of_ble_eq_true rfl⟩) rfl hl.1 rfl (Nat.le_of_ble_eq_true rfl) dMo_isAbove_14 ⟨Nat.zero_le _, Nat.zero_le _⟩) (fun I3 H locs hf hw hS => ?_)
  refine ek_aload_n hx hb dMo_isAbove_17 rfl (lv_at hl 0 rfl) ?_
  refine lv_bipush (v := (31 : Int32)) hx hb dMo_isAbove_18 (by decide) ?_
  refine lv_bipush (v := (27 : Int32)) hx hb dMo_isAbove_20 (by decide) ?_
  obtain ⟨hx6, hf⟩ := ek_ck_s hf
  refine ek_cv hf hS hA (fun I' hq => ek_rV (As := [.int ((31 : Int32)), .int ((27 : Int32))]) ⟨hx, hb, hml, hown, hts⟩ hK hw 8 rfl (by decide) (by decide) hx6 (mMo_copy hq) (cwV 2 hts (lw_V q_669 q_671 p_18 q_8 q_672) rfl rfl rfl (by decide +kernel) ⟨Nat.le_of_ble_eq_true rfl, Nat.le_of_ble_eq_true rfl⟩) rfl hl.1 rfl (Nat.le_of_ble_eq_true rfl) dMo_isAbove_22 ⟨Nat.zero_le _, Nat.zero_le _⟩) (fun I5 H locs hf hw hS => ?_)
  refine ek_aload_n hx hb dMo_isAbove_25 rfl (lv_at hl 0 rfl) ?_
  refine lv_bipush (v := (31 : Int32)) hx hb dMo_isAbove_26 (by decide) ?_
  refine lv_iload_n hx hb dMo_isAbove_28 rfl (lv_at hl 1 rfl) ?_
  obtain ⟨hx8, hf⟩ := ek_ck_s hf
  refine ek_cv hf hS hA (fun I' hq => ek_rV (As := [.int ((31 : Int32)), .int i1]) ⟨hx, hb, hml, hown, hts⟩ hK hw 8 rfl (by decide) (by decide) hx8 (mMo_times hq) (cwV 2 hts (lw_V q_685 q_687 p_22 q_8 q_688) rfl rfl rfl (by decide +kernel) ⟨Nat.le_of_ble_eq_true rfl, Nat.le_of_ble_eq_true rfl⟩) rfl hl.1 rfl (Nat.le_of_ble_eq_true rfl) dMo_isAbove_29 ⟨Nat.zero_le _, Nat.zero_le _⟩) (fun I7 H locs hf hw hS => ?_)
  refine ek_aload_n hx hb dMo_isAbove_32 rfl (lv_at hl 0 rfl) ?_
  refine lv_bipush (v := (30 : Int32)) hx hb dMo_isAbove_33 (by decide) ?_
  refine lv_bipush (v := (31 : Int32)) hx hb dMo_isAbove_35 (by decide) ?_
  obtain ⟨hx10, hf⟩ := ek_ck_s hf
  refine ek_ci hf hS hA (fun I' v hq => ek_rV (As := [.int ((30 : Int32)), .int ((31 : Int32))]) ⟨hx, hb, hml, hown, hts⟩ hK hw 8 rfl (by decide) (by decide) hx10 (mMo_compare hq) (cwV 2 hts (lw_V q_698 q_700 p_25 q_8 q_701) rfl rfl rfl (by decide +kernel) ⟨Nat.le_of_ble_eq_true rfl, Nat.le_of_ble_eq_true rfl⟩) rfl hl.1 rfl (Nat.le_of_ble_eq_true rfl) dMo_isAbove_37 ⟨Nat.zero_le _, Nat.zero_le _⟩) (fun I9 ir11 H locs hf hw hS => ?_)
  refine lv_if_le (tgt := 47) hx hb dMo_isAbove_40 (by decide) (fun c12 => ?_) (fun c12 => ?_)
  · have hf := ek_t c12 hf
    refine lv_iconst (v := (0 : Int32)) hx hb dMo_isAbove_47 (by decide) ?_
    exact ek_zret hx hb hr hlocks hw hS hf dMo_isAbove_48
  · have hf := ek_f c12 hf
    refine lv_iconst (v := (1 : Int32)) hx hb dMo_isAbove_43 (by decide) ?_
    refine lv_goto (tgt := 48) hx hb dMo_isAbove_44 (by decide) ?_
    exact ek_zret hx hb hr hlocks hw hS hf dMo_isAbove_48
set_option maxHeartbeats 4000000 in
set_option maxRecDepth 100000 in
theorem mMo_isAbove {l : Launch} {G : ek_G} {kd : Nat → Nat} {I : ek_St} {x0 : Nat} {i1 : Int32} {q : ek_St × Int32} (hf : fMo_isAbove kd I x0 i1 = some q) : ek_M l G kd y_Mo_isAbove (.code y_Mo_isAbove prog_9_method_16_code 2 (some .boolean) :: lw_g) ({ frames := 1, cells := 0, slots := 0, locals := 27 } : Room) [ek_r G x0, .int i1] I (some (.int q.2)) q.1 :=
  ek_body [(0, ek_r G x0), (1, .int i1)] (by decide) (by simp [lg_sl, ek_r_cat, ek_c_i, ek_c_l]) (by simp [lv_args, ek_r_cat, ek_c_i, ek_c_l]) (fun p e s m below meth c ls X hw hS hl => wMo_isAbove_0 X hf hw hS hl)
/-! ElasticKernelModel.none()V -/
def fMo_none_0 (kd : Nat → Nat) (I : ek_St) (x0 : Nat) : Option (ek_St) :=
  ek_ck (kd x0 = 8) (ek_bv (fMo_be kd I x0 ((26 : Int32)) ((0 : Int64))) (fun I1 => ek_ck (kd x0 = 8) (ek_bv (fMo_be kd I1 x0 ((27 : Int32)) ((1 : Int64))) (fun I3 => some I3))))
def fMo_none (kd : Nat → Nat) (I : ek_St) (x0 : Nat) : Option (ek_St) := fMo_none_0 kd I x0
theorem dMo_none_0 : decode prog_9_method_17_code 0 = .ok (.aload_n 0, 1) := by decide +kernel
theorem dMo_none_1 : decode prog_9_method_17_code 1 = .ok (.bipush 26, 2) := by decide +kernel
theorem dMo_none_3 : decode prog_9_method_17_code 3 = .ok (.lconst 0, 1) := by decide +kernel
theorem dMo_none_4 : decode prog_9_method_17_code 4 = .ok (.invokevirtual 66, 3) := by decide +kernel
theorem dMo_none_7 : decode prog_9_method_17_code 7 = .ok (.aload_n 0, 1) := by decide +kernel
theorem dMo_none_8 : decode prog_9_method_17_code 8 = .ok (.bipush 27, 2) := by decide +kernel
theorem dMo_none_10 : decode prog_9_method_17_code 10 = .ok (.lconst 1, 1) := by decide +kernel
theorem dMo_none_11 : decode prog_9_method_17_code 11 = .ok (.invokevirtual 66, 3) := by decide +kernel
theorem dMo_none_14 : decode prog_9_method_17_code 14 = .ok (.return_, 1) := by decide +kernel
set_option maxHeartbeats 4000000 in
set_option maxRecDepth 100000 in
theorem wMo_none_0 {l : Launch} {G : ek_G} {kd : Nat → Nat} {p : Program} {e : Env} {s : State} {m : MethodId} {args : Array Value} {below : List Frame} {meth : Method} {c : Code} (X : ek_X p s m meth c args G prog_9_method_17_code 1 "ElasticKernelModel" none) {q : ek_St} {I : ek_St} {x0 : Nat} (hf : fMo_none_0 kd I x0 = some q) {H : Heap} {locs : List Loc} {ls : Array Slot} (hw : ek_W G kd I H) (hS : va_S (ek_A G kd) s.heap H locs) (hl : lv_has ls 1 [(0, ek_r G x0)]) : W p l e ({ frames := 1, cells := 0, slots := 0, locals := 24 } : Room) s m args below meth c H locs 0 0 (MQ below (ek_Q G kd none q) args s 0 0 (ek_A G kd)) (F0 m 0 ls []) := by
  obtain ⟨hx, hb, hml, hown, hts, hr, hlocks, hK⟩ := id X
  have hA : ∀ q, ek_A G kd q → ek_A G kd q := fun _ h => h
  unfold fMo_none_0 at hf
  refine ek_aload_n hx hb dMo_none_0 rfl (lv_at hl 0 rfl) ?_
  refine lv_bipush (v := (26 : Int32)) hx hb dMo_none_1 (by decide) ?_
  refine lv_lconst (v := (0 : Int64)) hx hb dMo_none_3 (by decide) ?_
  obtain ⟨hx2, hf⟩ := ek_ck_s hf
  refine ek_cv hf hS hA (fun I' hq => ek_rV (As := [.int ((26 : Int32)), .long ((0 : Int64))]) ⟨hx, hb, hml, hown, hts⟩ hK hw 8 rfl (by decide) (by decide) hx2 (mMo_be hq) (cwV 2 hts (lw_V q_571 q_573 p_15 q_8 q_574) rfl rfl rfl (by decide +kernel) ⟨Nat.le_of_ble_eq_true rfl, Nat.le_of_ble_eq_true rfl⟩) rfl hl.1 rfl (Nat.le_of_ble_eq_true rfl) dMo_none_4 ⟨Nat.zero_le _, Nat.zero_le _⟩) (fun I1 H locs hf hw hS => ?_)
  refine ek_aload_n hx hb dMo_none_7 rfl (lv_at hl 0 rfl) ?_
  refine lv_bipush (v := (27 : Int32)) hx hb dMo_none_8 (by decide) ?_
  refine lv_lconst (v := (1 : Int64)) hx hb dMo_none_10 (by decide) ?_
  obtain ⟨hx4, hf⟩ := ek_ck_s hf
  refine ek_cv hf hS hA (fun I' hq => ek_rV (As := [.int ((27 : Int32)), .long ((1 : Int64))]) ⟨hx, hb, hml, hown, hts⟩ hK hw 8 rfl (by decide) (by decide) hx4 (mMo_be hq) (cwV 2 hts (lw_V q_571 q_573 p_15 q_8 q_574) rfl rfl rfl (by decide +kernel) ⟨Nat.le_of_ble_eq_true rfl, Nat.le_of_ble_eq_true rfl⟩) rfl hl.1 rfl (Nat.le_of_ble_eq_true rfl) dMo_none_11 ⟨Nat.zero_le _, Nat.zero_le _⟩) (fun I3 H locs hf hw hS => ?_)
  exact ek_vret hx hb hr hlocks hw hS hf dMo_none_14
set_option maxHeartbeats 4000000 in
set_option maxRecDepth 100000 in
theorem mMo_none {l : Launch} {G : ek_G} {kd : Nat → Nat} {I : ek_St} {x0 : Nat} {q : ek_St} (hf : fMo_none kd I x0 = some q) : ek_M l G kd y_Mo_none (.code y_Mo_none prog_9_method_17_code 1 none :: lw_g) ({ frames := 1, cells := 0, slots := 0, locals := 24 } : Room) [ek_r G x0] I none q :=
  ek_body [(0, ek_r G x0)] (by decide) (by simp [lg_sl, ek_r_cat, ek_c_i, ek_c_l]) (by simp [lv_args, ek_r_cat, ek_c_i, ek_c_l]) (fun p e s m below meth c ls X hw hS hl => wMo_none_0 X hf hw hS hl)
/-! ElasticKernelModel.isSofter(II)Z -/
def fMo_isSofter_151 (kd : Nat → Nat) (I : ek_St) : Option (ek_St × Int32) :=
  ek_ck (((1 : Int32)) = (0 : Int32) ∨ ((1 : Int32)) = (1 : Int32)) (some (I, (1 : Int32)))
def fMo_isSofter_155 (kd : Nat → Nat) (I : ek_St) : Option (ek_St × Int32) :=
  ek_ck (((0 : Int32)) = (0 : Int32) ∨ ((0 : Int32)) = (1 : Int32)) (some (I, (0 : Int32)))
def fMo_isSofter_0 (kd : Nat → Nat) (I : ek_St) (x0 : Nat) (i1 : Int32) (i2 : Int32) : Option (ek_St × Int32) :=
  ek_ck (kd x0 = 8) (ek_ck (kd (x0 + 5) = 112) (ek_ck (ek_in i1 12) (ek_ck (kd x0 = 8) (ek_ck (kd (x0 + 2) = 112) (ek_ck (ek_in i1 12) (ek_ck (kd x0 = 8) (ek_ck (kd (x0 + 4) = 112) (ek_ck (ek_in i1 12) (ek_ck (kd x0 = 8) (ek_ck (kd (x0 + 3) = 112) (ek_ck (ek_in i1 12) (ek_let (((Int32.toInt64 (I (x0 + 5) i1.toNatClampNeg)) * (Int32.toInt64 (I (x0 + 2) i1.toNatClampNeg))) * (Int32.toInt64 ((I (x0 + 4) i1.toNatClampNeg) - (I (x0 + 3) i1.toNatClampNeg)))) (fun j3_1 => ek_ck (kd x0 = 8) (ek_ck (kd (x0 + 5) = 112) (ek_ck (ek_in i2 12) (ek_ck (kd x0 = 8) (ek_ck (kd (x0 + 2) = 112) (ek_ck (ek_in i2 12) (ek_ck (kd x0 = 8) (ek_ck (kd (x0 + 4) = 112) (ek_ck (ek_in i2 12) (ek_ck (kd x0 = 8) (ek_ck (kd (x0 + 3) = 112) (ek_ck (ek_in i2 12) (ek_let (((Int32.toInt64 (I (x0 + 5) i2.toNatClampNeg)) * (Int32.toInt64 (I (x0 + 2) i2.toNatClampNeg))) * (Int32.toInt64 ((I (x0 + 4) i2.toNatClampNeg) - (I (x0 + 3) i2.toNatClampNeg)))) (fun j5_2 => ek_ck (kd x0 = 8) (ek_bv (fMo_be kd I x0 ((30 : Int32)) j3_1) (fun I3 => ek_ck (kd x0 = 8) (ek_ck (kd (x0 + 3) = 112) (ek_ck (ek_in i2 12) (ek_ck (kd x0 = 8) (ek_bv (fMo_times kd I3 x0 ((30 : Int32)) (I3 (x0 + 3) i2.toNatClampNeg)) (fun I5 => ek_ck (kd x0 = 8) (ek_ck (kd (x0 + 4) = 112) (ek_ck (ek_in i2 12) (ek_ck (kd x0 = 8) (ek_bv (fMo_times kd I5 x0 ((30 : Int32)) (I5 (x0 + 4) i2.toNatClampNeg)) (fun I7 => ek_ck (kd x0 = 8) (ek_bv (fMo_be kd I7 x0 ((31 : Int32)) j5_2) (fun I9 => ek_ck (kd x0 = 8) (ek_ck (kd (x0 + 3) = 112) (ek_ck (ek_in i1 12) (ek_ck (kd x0 = 8) (ek_bv (fMo_times kd I9 x0 ((31 : Int32)) (I9 (x0 + 3) i1.toNatClampNeg)) (fun I11 => ek_ck (kd x0 = 8) (ek_ck (kd (x0 + 4) = 112) (ek_ck (ek_in i1 12) (ek_ck (kd x0 = 8) (ek_bv (fMo_times kd I11 x0 ((31 : Int32)) (I11 (x0 + 4) i1.toNatClampNeg)) (fun I13 => ek_ck (kd x0 = 8) (ek_bi (fMo_compare kd I13 x0 ((30 : Int32)) ((31 : Int32))) (fun I15 ir17 => if ir17 < ((0 : Int32)) then (fMo_isSofter_151 kd I15) else (if ir17 = ((0 : Int32)) then (if i2 ≤ i1 then (fMo_isSofter_155 kd I15) else (fMo_isSofter_151 kd I15)) else (fMo_isSofter_155 kd I15))))))))))))))))))))))))))))))))))))))))))))))))))))))
def fMo_isSofter (kd : Nat → Nat) (I : ek_St) (x0 : Nat) (i1 : Int32) (i2 : Int32) : Option (ek_St × Int32) := fMo_isSofter_0 kd I x0 i1 i2
theorem dMo_isSofter_0 : decode prog_9_method_18_code 0 = .ok (.aload_n 0, 1) := by decide +kernel
theorem dMo_isSofter_1 : decode prog_9_method_18_code 1 = .ok (.getfield 26, 3) := by decide +kernel
theorem dMo_isSofter_4 : decode prog_9_method_18_code 4 = .ok (.iload_n 1, 1) := by decide +kernel
theorem dMo_isSofter_5 : decode prog_9_method_18_code 5 = .ok (.iaload, 1) := by decide +kernel
theorem dMo_isSofter_6 : decode prog_9_method_18_code 6 = .ok (.i2l, 1) := by decide +kernel
theorem dMo_isSofter_7 : decode prog_9_method_18_code 7 = .ok (.aload_n 0, 1) := by decide +kernel
theorem dMo_isSofter_8 : decode prog_9_method_18_code 8 = .ok (.getfield 17, 3) := by decide +kernel
theorem dMo_isSofter_11 : decode prog_9_method_18_code 11 = .ok (.iload_n 1, 1) := by decide +kernel
theorem dMo_isSofter_12 : decode prog_9_method_18_code 12 = .ok (.iaload, 1) := by decide +kernel
theorem dMo_isSofter_13 : decode prog_9_method_18_code 13 = .ok (.i2l, 1) := by decide +kernel
theorem dMo_isSofter_14 : decode prog_9_method_18_code 14 = .ok (.lmul, 1) := by decide +kernel
theorem dMo_isSofter_15 : decode prog_9_method_18_code 15 = .ok (.aload_n 0, 1) := by decide +kernel
theorem dMo_isSofter_16 : decode prog_9_method_18_code 16 = .ok (.getfield 23, 3) := by decide +kernel
theorem dMo_isSofter_19 : decode prog_9_method_18_code 19 = .ok (.iload_n 1, 1) := by decide +kernel
theorem dMo_isSofter_20 : decode prog_9_method_18_code 20 = .ok (.iaload, 1) := by decide +kernel
theorem dMo_isSofter_21 : decode prog_9_method_18_code 21 = .ok (.aload_n 0, 1) := by decide +kernel
theorem dMo_isSofter_22 : decode prog_9_method_18_code 22 = .ok (.getfield 20, 3) := by decide +kernel
theorem dMo_isSofter_25 : decode prog_9_method_18_code 25 = .ok (.iload_n 1, 1) := by decide +kernel
theorem dMo_isSofter_26 : decode prog_9_method_18_code 26 = .ok (.iaload, 1) := by decide +kernel
theorem dMo_isSofter_27 : decode prog_9_method_18_code 27 = .ok (.isub, 1) := by decide +kernel
theorem dMo_isSofter_28 : decode prog_9_method_18_code 28 = .ok (.i2l, 1) := by decide +kernel
theorem dMo_isSofter_29 : decode prog_9_method_18_code 29 = .ok (.lmul, 1) := by decide +kernel
theorem dMo_isSofter_30 : decode prog_9_method_18_code 30 = .ok (.lstore_n 3, 1) := by decide +kernel
theorem dMo_isSofter_31 : decode prog_9_method_18_code 31 = .ok (.aload_n 0, 1) := by decide +kernel
theorem dMo_isSofter_32 : decode prog_9_method_18_code 32 = .ok (.getfield 26, 3) := by decide +kernel
theorem dMo_isSofter_35 : decode prog_9_method_18_code 35 = .ok (.iload_n 2, 1) := by decide +kernel
theorem dMo_isSofter_36 : decode prog_9_method_18_code 36 = .ok (.iaload, 1) := by decide +kernel
theorem dMo_isSofter_37 : decode prog_9_method_18_code 37 = .ok (.i2l, 1) := by decide +kernel
theorem dMo_isSofter_38 : decode prog_9_method_18_code 38 = .ok (.aload_n 0, 1) := by decide +kernel
theorem dMo_isSofter_39 : decode prog_9_method_18_code 39 = .ok (.getfield 17, 3) := by decide +kernel
theorem dMo_isSofter_42 : decode prog_9_method_18_code 42 = .ok (.iload_n 2, 1) := by decide +kernel
theorem dMo_isSofter_43 : decode prog_9_method_18_code 43 = .ok (.iaload, 1) := by decide +kernel
theorem dMo_isSofter_44 : decode prog_9_method_18_code 44 = .ok (.i2l, 1) := by decide +kernel
theorem dMo_isSofter_45 : decode prog_9_method_18_code 45 = .ok (.lmul, 1) := by decide +kernel
theorem dMo_isSofter_46 : decode prog_9_method_18_code 46 = .ok (.aload_n 0, 1) := by decide +kernel
theorem dMo_isSofter_47 : decode prog_9_method_18_code 47 = .ok (.getfield 23, 3) := by decide +kernel
theorem dMo_isSofter_50 : decode prog_9_method_18_code 50 = .ok (.iload_n 2, 1) := by decide +kernel
theorem dMo_isSofter_51 : decode prog_9_method_18_code 51 = .ok (.iaload, 1) := by decide +kernel
theorem dMo_isSofter_52 : decode prog_9_method_18_code 52 = .ok (.aload_n 0, 1) := by decide +kernel
theorem dMo_isSofter_53 : decode prog_9_method_18_code 53 = .ok (.getfield 20, 3) := by decide +kernel
theorem dMo_isSofter_56 : decode prog_9_method_18_code 56 = .ok (.iload_n 2, 1) := by decide +kernel
theorem dMo_isSofter_57 : decode prog_9_method_18_code 57 = .ok (.iaload, 1) := by decide +kernel
theorem dMo_isSofter_58 : decode prog_9_method_18_code 58 = .ok (.isub, 1) := by decide +kernel
theorem dMo_isSofter_59 : decode prog_9_method_18_code 59 = .ok (.i2l, 1) := by decide +kernel
theorem dMo_isSofter_60 : decode prog_9_method_18_code 60 = .ok (.lmul, 1) := by decide +kernel
theorem dMo_isSofter_61 : decode prog_9_method_18_code 61 = .ok (.lstore 5, 2) := by decide +kernel
theorem dMo_isSofter_63 : decode prog_9_method_18_code 63 = .ok (.aload_n 0, 1) := by decide +kernel
theorem dMo_isSofter_64 : decode prog_9_method_18_code 64 = .ok (.bipush 30, 2) := by decide +kernel
theorem dMo_isSofter_66 : decode prog_9_method_18_code 66 = .ok (.lload_n 3, 1) := by decide +kernel
theorem dMo_isSofter_67 : decode prog_9_method_18_code 67 = .ok (.invokevirtual 66, 3) := by decide +kernel
theorem dMo_isSofter_70 : decode prog_9_method_18_code 70 = .ok (.aload_n 0, 1) := by decide +kernel
theorem dMo_isSofter_71 : decode prog_9_method_18_code 71 = .ok (.bipush 30, 2) := by decide +kernel
theorem dMo_isSofter_73 : decode prog_9_method_18_code 73 = .ok (.aload_n 0, 1) := by decide +kernel
theorem dMo_isSofter_74 : decode prog_9_method_18_code 74 = .ok (.getfield 20, 3) := by decide +kernel
theorem dMo_isSofter_77 : decode prog_9_method_18_code 77 = .ok (.iload_n 2, 1) := by decide +kernel
theorem dMo_isSofter_78 : decode prog_9_method_18_code 78 = .ok (.iaload, 1) := by decide +kernel
theorem dMo_isSofter_79 : decode prog_9_method_18_code 79 = .ok (.invokevirtual 102, 3) := by decide +kernel
theorem dMo_isSofter_82 : decode prog_9_method_18_code 82 = .ok (.aload_n 0, 1) := by decide +kernel
theorem dMo_isSofter_83 : decode prog_9_method_18_code 83 = .ok (.bipush 30, 2) := by decide +kernel
theorem dMo_isSofter_85 : decode prog_9_method_18_code 85 = .ok (.aload_n 0, 1) := by decide +kernel
theorem dMo_isSofter_86 : decode prog_9_method_18_code 86 = .ok (.getfield 23, 3) := by decide +kernel
theorem dMo_isSofter_89 : decode prog_9_method_18_code 89 = .ok (.iload_n 2, 1) := by decide +kernel
theorem dMo_isSofter_90 : decode prog_9_method_18_code 90 = .ok (.iaload, 1) := by decide +kernel
theorem dMo_isSofter_91 : decode prog_9_method_18_code 91 = .ok (.invokevirtual 102, 3) := by decide +kernel
theorem dMo_isSofter_94 : decode prog_9_method_18_code 94 = .ok (.aload_n 0, 1) := by decide +kernel
theorem dMo_isSofter_95 : decode prog_9_method_18_code 95 = .ok (.bipush 31, 2) := by decide +kernel
theorem dMo_isSofter_97 : decode prog_9_method_18_code 97 = .ok (.lload 5, 2) := by decide +kernel
theorem dMo_isSofter_99 : decode prog_9_method_18_code 99 = .ok (.invokevirtual 66, 3) := by decide +kernel
theorem dMo_isSofter_102 : decode prog_9_method_18_code 102 = .ok (.aload_n 0, 1) := by decide +kernel
theorem dMo_isSofter_103 : decode prog_9_method_18_code 103 = .ok (.bipush 31, 2) := by decide +kernel
theorem dMo_isSofter_105 : decode prog_9_method_18_code 105 = .ok (.aload_n 0, 1) := by decide +kernel
theorem dMo_isSofter_106 : decode prog_9_method_18_code 106 = .ok (.getfield 20, 3) := by decide +kernel
theorem dMo_isSofter_109 : decode prog_9_method_18_code 109 = .ok (.iload_n 1, 1) := by decide +kernel
theorem dMo_isSofter_110 : decode prog_9_method_18_code 110 = .ok (.iaload, 1) := by decide +kernel
theorem dMo_isSofter_111 : decode prog_9_method_18_code 111 = .ok (.invokevirtual 102, 3) := by decide +kernel
theorem dMo_isSofter_114 : decode prog_9_method_18_code 114 = .ok (.aload_n 0, 1) := by decide +kernel
theorem dMo_isSofter_115 : decode prog_9_method_18_code 115 = .ok (.bipush 31, 2) := by decide +kernel
theorem dMo_isSofter_117 : decode prog_9_method_18_code 117 = .ok (.aload_n 0, 1) := by decide +kernel
theorem dMo_isSofter_118 : decode prog_9_method_18_code 118 = .ok (.getfield 23, 3) := by decide +kernel
theorem dMo_isSofter_121 : decode prog_9_method_18_code 121 = .ok (.iload_n 1, 1) := by decide +kernel
theorem dMo_isSofter_122 : decode prog_9_method_18_code 122 = .ok (.iaload, 1) := by decide +kernel
theorem dMo_isSofter_123 : decode prog_9_method_18_code 123 = .ok (.invokevirtual 102, 3) := by decide +kernel
theorem dMo_isSofter_126 : decode prog_9_method_18_code 126 = .ok (.aload_n 0, 1) := by decide +kernel
theorem dMo_isSofter_127 : decode prog_9_method_18_code 127 = .ok (.bipush 30, 2) := by decide +kernel
theorem dMo_isSofter_129 : decode prog_9_method_18_code 129 = .ok (.bipush 31, 2) := by decide +kernel
theorem dMo_isSofter_131 : decode prog_9_method_18_code 131 = .ok (.invokevirtual 91, 3) := by decide +kernel
theorem dMo_isSofter_134 : decode prog_9_method_18_code 134 = .ok (.istore 7, 2) := by decide +kernel
theorem dMo_isSofter_136 : decode prog_9_method_18_code 136 = .ok (.iload 7, 2) := by decide +kernel
theorem dMo_isSofter_138 : decode prog_9_method_18_code 138 = .ok (.ifCond .lt 13, 3) := by decide +kernel
theorem dMo_isSofter_141 : decode prog_9_method_18_code 141 = .ok (.iload 7, 2) := by decide +kernel
theorem dMo_isSofter_143 : decode prog_9_method_18_code 143 = .ok (.ifCond .ne 12, 3) := by decide +kernel
theorem dMo_isSofter_146 : decode prog_9_method_18_code 146 = .ok (.iload_n 1, 1) := by decide +kernel
theorem dMo_isSofter_147 : decode prog_9_method_18_code 147 = .ok (.iload_n 2, 1) := by decide +kernel
theorem dMo_isSofter_148 : decode prog_9_method_18_code 148 = .ok (.if_icmp .ge 7, 3) := by decide +kernel
theorem dMo_isSofter_151 : decode prog_9_method_18_code 151 = .ok (.iconst 1, 1) := by decide +kernel
theorem dMo_isSofter_152 : decode prog_9_method_18_code 152 = .ok (.goto 4, 3) := by decide +kernel
theorem dMo_isSofter_155 : decode prog_9_method_18_code 155 = .ok (.iconst 0, 1) := by decide +kernel
theorem dMo_isSofter_156 : decode prog_9_method_18_code 156 = .ok (.ireturn, 1) := by decide +kernel
set_option maxHeartbeats 4000000 in
set_option maxRecDepth 100000 in
theorem wMo_isSofter_151 {l : Launch} {G : ek_G} {kd : Nat → Nat} {p : Program} {e : Env} {s : State} {m : MethodId} {args : Array Value} {below : List Frame} {meth : Method} {c : Code} (X : ek_X p s m meth c args G prog_9_method_18_code 8 "ElasticKernelModel" (some .boolean)) {q : ek_St × Int32} {I : ek_St} (hf : fMo_isSofter_151 kd I = some q) {H : Heap} {locs : List Loc} {ls : Array Slot} (hw : ek_W G kd I H) (hS : va_S (ek_A G kd) s.heap H locs) (hl : lv_has ls 8 []) : W p l e ({ frames := 1, cells := 0, slots := 0, locals := 27 } : Room) s m args below meth c H locs 0 0 (MQ below (ek_Q G kd (some (.int q.2)) q.1) args s 0 0 (ek_A G kd)) (F0 m 151 ls []) := by
  obtain ⟨hx, hb, hml, hown, hts, hr, hlocks, hK⟩ := id X
  have hA : ∀ q, ek_A G kd q → ek_A G kd q := fun _ h => h
  unfold fMo_isSofter_151 at hf
  refine lv_iconst (v := (1 : Int32)) hx hb dMo_isSofter_151 (by decide) ?_
  refine lv_goto (tgt := 156) hx hb dMo_isSofter_152 (by decide) ?_
  exact ek_zret hx hb hr hlocks hw hS hf dMo_isSofter_156
set_option maxHeartbeats 4000000 in
set_option maxRecDepth 100000 in
theorem wMo_isSofter_155 {l : Launch} {G : ek_G} {kd : Nat → Nat} {p : Program} {e : Env} {s : State} {m : MethodId} {args : Array Value} {below : List Frame} {meth : Method} {c : Code} (X : ek_X p s m meth c args G prog_9_method_18_code 8 "ElasticKernelModel" (some .boolean)) {q : ek_St × Int32} {I : ek_St} (hf : fMo_isSofter_155 kd I = some q) {H : Heap} {locs : List Loc} {ls : Array Slot} (hw : ek_W G kd I H) (hS : va_S (ek_A G kd) s.heap H locs) (hl : lv_has ls 8 []) : W p l e ({ frames := 1, cells := 0, slots := 0, locals := 27 } : Room) s m args below meth c H locs 0 0 (MQ below (ek_Q G kd (some (.int q.2)) q.1) args s 0 0 (ek_A G kd)) (F0 m 155 ls []) := by
  obtain ⟨hx, hb, hml, hown, hts, hr, hlocks, hK⟩ := id X
  have hA : ∀ q, ek_A G kd q → ek_A G kd q := fun _ h => h
  unfold fMo_isSofter_155 at hf
  refine lv_iconst (v := (0 : Int32)) hx hb dMo_isSofter_155 (by decide) ?_
  exact ek_zret hx hb hr hlocks hw hS hf dMo_isSofter_156
set_option maxHeartbeats 4000000 in
set_option maxRecDepth 100000 in
theorem wMo_isSofter_0 {l : Launch} {G : ek_G} {kd : Nat → Nat} {p : Program} {e : Env} {s : State} {m : MethodId} {args : Array Value} {below : List Frame} {meth : Method} {c : Code} (X : ek_X p s m meth c args G prog_9_method_18_code 8 "ElasticKernelModel" (some .boolean)) {q : ek_St × Int32} {I : ek_St} {x0 : Nat} {i1 : Int32} {i2 : Int32} (hf : fMo_isSofter_0 kd I x0 i1 i2 = some q) {H : Heap} {locs : List Loc} {ls : Array Slot} (hw : ek_W G kd I H) (hS : va_S (ek_A G kd) s.heap H locs) (hl : lv_has ls 8 [(0, ek_r G x0), (1, .int i1), (2, .int i2)]) : W p l e ({ frames := 1, cells := 0, slots := 0, locals := 27 } : Room) s m args below meth c H locs 0 0 (MQ below (ek_Q G kd (some (.int q.2)) q.1) args s 0 0 (ek_A G kd)) (F0 m 0 ls []) := by
  obtain ⟨hx, hb, hml, hown, hts, hr, hlocks, hK⟩ := id X
  have hA : ∀ q, ek_A G kd q → ek_A G kd q := fun _ h => h
  unfold fMo_isSofter_0 at hf
  refine ek_aload_n hx hb dMo_isSofter_0 rfl (lv_at hl 0 rfl) ?_
  refine ek_getr hx hb 8 hts (in_Mo) hown hK hw rfl (by decide) (by decide) 12 (by decide) (n := 4) rfl rfl (hts _ q_588) hf dMo_isSofter_1 (fun hf => ?_)
  refine lv_iload_n hx hb dMo_isSofter_4 rfl (lv_at hl 1 rfl) ?_
  refine ek_iald hx hb hK hw 12 rfl hf dMo_isSofter_5 (fun hf => ?_)
  refine lv_i2l hx hb dMo_isSofter_6 rfl ?_
  refine ek_aload_n hx hb dMo_isSofter_7 rfl (lv_at hl 0 rfl) ?_
  refine ek_getr hx hb 8 hts (in_Mo) hown hK hw rfl (by decide) (by decide) 9 (by decide) (n := 1) rfl rfl (hts _ q_585) hf dMo_isSofter_8 (fun hf => ?_)
  refine lv_iload_n hx hb dMo_isSofter_11 rfl (lv_at hl 1 rfl) ?_
  refine ek_iald hx hb hK hw 12 rfl hf dMo_isSofter_12 (fun hf => ?_)
  refine lv_i2l hx hb dMo_isSofter_13 rfl ?_
  refine lv_lmul hx hb dMo_isSofter_14 ?_
  refine ek_aload_n hx hb dMo_isSofter_15 rfl (lv_at hl 0 rfl) ?_
  refine ek_getr hx hb 8 hts (in_Mo) hown hK hw rfl (by decide) (by decide) 11 (by decide) (n := 3) rfl rfl (hts _ q_587) hf dMo_isSofter_16 (fun hf => ?_)
  refine lv_iload_n hx hb dMo_isSofter_19 rfl (lv_at hl 1 rfl) ?_
  refine ek_iald hx hb hK hw 12 rfl hf dMo_isSofter_20 (fun hf => ?_)
  refine ek_aload_n hx hb dMo_isSofter_21 rfl (lv_at hl 0 rfl) ?_
  refine ek_getr hx hb 8 hts (in_Mo) hown hK hw rfl (by decide) (by decide) 10 (by decide) (n := 2) rfl rfl (hts _ q_586) hf dMo_isSofter_22 (fun hf => ?_)
  refine lv_iload_n hx hb dMo_isSofter_25 rfl (lv_at hl 1 rfl) ?_
  refine ek_iald hx hb hK hw 12 rfl hf dMo_isSofter_26 (fun hf => ?_)
  refine lv_isub hx hb dMo_isSofter_27 ?_
  refine lv_i2l hx hb dMo_isSofter_28 rfl ?_
  refine lv_lmul hx hb dMo_isSofter_29 ?_
  refine ek_tl hf (fun j3_1 hf => ?_)
  refine ek_lstore_n (lv' := [(3, .long j3_1), (2, .int i2), (0, ek_r G x0), (1, .int i1)]) hx hb dMo_isSofter_30 rfl hl (by decide) (ek_s2k 2 rfl rfl rfl rfl rfl) (fun ls hl => ?_)
  refine ek_aload_n hx hb dMo_isSofter_31 rfl (lv_at hl 2 rfl) ?_
  refine ek_getr hx hb 8 hts (in_Mo) hown hK hw rfl (by decide) (by decide) 12 (by decide) (n := 4) rfl rfl (hts _ q_588) hf dMo_isSofter_32 (fun hf => ?_)
  refine lv_iload_n hx hb dMo_isSofter_35 rfl (lv_at hl 1 rfl) ?_
  refine ek_iald hx hb hK hw 12 rfl hf dMo_isSofter_36 (fun hf => ?_)
  refine lv_i2l hx hb dMo_isSofter_37 rfl ?_
  refine ek_aload_n hx hb dMo_isSofter_38 rfl (lv_at hl 2 rfl) ?_
  refine ek_getr hx hb 8 hts (in_Mo) hown hK hw rfl (by decide) (by decide) 9 (by decide) (n := 1) rfl rfl (hts _ q_585) hf dMo_isSofter_39 (fun hf => ?_)
  refine lv_iload_n hx hb dMo_isSofter_42 rfl (lv_at hl 1 rfl) ?_
  refine ek_iald hx hb hK hw 12 rfl hf dMo_isSofter_43 (fun hf => ?_)
  refine lv_i2l hx hb dMo_isSofter_44 rfl ?_
  refine lv_lmul hx hb dMo_isSofter_45 ?_
  refine ek_aload_n hx hb dMo_isSofter_46 rfl (lv_at hl 2 rfl) ?_
  refine ek_getr hx hb 8 hts (in_Mo) hown hK hw rfl (by decide) (by decide) 11 (by decide) (n := 3) rfl rfl (hts _ q_587) hf dMo_isSofter_47 (fun hf => ?_)
  refine lv_iload_n hx hb dMo_isSofter_50 rfl (lv_at hl 1 rfl) ?_
  refine ek_iald hx hb hK hw 12 rfl hf dMo_isSofter_51 (fun hf => ?_)
  refine ek_aload_n hx hb dMo_isSofter_52 rfl (lv_at hl 2 rfl) ?_
  refine ek_getr hx hb 8 hts (in_Mo) hown hK hw rfl (by decide) (by decide) 10 (by decide) (n := 2) rfl rfl (hts _ q_586) hf dMo_isSofter_53 (fun hf => ?_)
  refine lv_iload_n hx hb dMo_isSofter_56 rfl (lv_at hl 1 rfl) ?_
  refine ek_iald hx hb hK hw 12 rfl hf dMo_isSofter_57 (fun hf => ?_)
  refine lv_isub hx hb dMo_isSofter_58 ?_
  refine lv_i2l hx hb dMo_isSofter_59 rfl ?_
  refine lv_lmul hx hb dMo_isSofter_60 ?_
  refine ek_tl hf (fun j5_2 hf => ?_)
  refine ek_lstore (lv' := [(5, .long j5_2), (3, .long j3_1), (2, .int i2), (0, ek_r G x0), (1, .int i1)]) hx hb dMo_isSofter_61 hl (by decide) (ek_s2 rfl rfl) (fun ls hl => ?_)
  refine ek_aload_n hx hb dMo_isSofter_63 rfl (lv_at hl 3 rfl) ?_
  refine lv_bipush (v := (30 : Int32)) hx hb dMo_isSofter_64 (by decide) ?_
  refine lv_lload_n hx hb dMo_isSofter_66 rfl (lv_at hl 1 rfl) ?_
  obtain ⟨hx4, hf⟩ := ek_ck_s hf
  refine ek_cv hf hS hA (fun I' hq => ek_rV (As := [.int ((30 : Int32)), .long j3_1]) ⟨hx, hb, hml, hown, hts⟩ hK hw 8 rfl (by decide) (by decide) hx4 (mMo_be hq) (cwV 2 hts (lw_V q_571 q_573 p_15 q_8 q_574) rfl rfl rfl (by decide +kernel) ⟨Nat.le_of_ble_eq_true rfl, Nat.le_of_ble_eq_true rfl⟩) rfl hl.1 rfl (Nat.le_of_ble_eq_true rfl) dMo_isSofter_67 ⟨Nat.zero_le _, Nat.zero_le _⟩) (fun I3 H locs hf hw hS => ?_)
  refine ek_aload_n hx hb dMo_isSofter_70 rfl (lv_at hl 3 rfl) ?_
  refine lv_bipush (v := (30 : Int32)) hx hb dMo_isSofter_71 (by decide) ?_
  refine ek_aload_n hx hb dMo_isSofter_73 rfl (lv_at hl 3 rfl) ?_
  refine ek_getr hx hb 8 hts (in_Mo) hown hK hw rfl (by decide) (by decide) 10 (by decide) (n := 2) rfl rfl (hts _ q_586) hf dMo_isSofter_74 (fun hf => ?_)
  refine lv_iload_n hx hb dMo_isSofter_77 rfl (lv_at hl 2 rfl) ?_
  refine ek_iald hx hb hK hw 12 rfl hf dMo_isSofter_78 (fun hf => ?_)
  obtain ⟨hx6, hf⟩ := ek_ck_s hf
  refine ek_cv hf hS hA (fun I' hq => ek_rV (As := [.int ((30 : Int32)), .int (I3 (x0 + 3) i2.toNatClampNeg)]) ⟨hx, hb, hml, hown, hts⟩ hK hw 8 rfl (by decide) (by decide) hx6 (mMo_times hq) (cwV 2 hts (lw_V q_685 q_687 p_22 q_8 q_688) rfl rfl rfl (by decide +kernel) ⟨Nat.le_of_ble_eq_true rfl, Nat.le_of_ble_eq_true rfl⟩) rfl hl.1 rfl (Nat.le_of_ble_eq_true rfl) dMo_isSofter_79 ⟨Nat.zero_le _, Nat.zero_le _⟩) (fun I5 H locs hf hw hS => ?_)
  refine ek_aload_n hx hb dMo_isSofter_82 rfl (lv_at hl 3 rfl) ?_
  refine lv_bipush (v := (30 : Int32)) hx hb dMo_isSofter_83 (by decide) ?_
  refine ek_aload_n hx hb dMo_isSofter_85 rfl (lv_at hl 3 rfl) ?_
  refine ek_getr hx hb 8 hts (in_Mo) hown hK hw rfl (by decide) (by decide) 11 (by decide) (n := 3) rfl rfl (hts _ q_587) hf dMo_isSofter_86 (fun hf => ?_)
  refine lv_iload_n hx hb dMo_isSofter_89 rfl (lv_at hl 2 rfl) ?_
  refine ek_iald hx hb hK hw 12 rfl hf dMo_isSofter_90 (fun hf => ?_)
  obtain ⟨hx8, hf⟩ := ek_ck_s hf
  refine ek_cv hf hS hA (fun I' hq => ek_rV (As := [.int ((30 : Int32)), .int (I5 (x0 + 4) i2.toNatClampNeg)]) ⟨hx, hb, hml, hown, hts⟩ hK hw 8 rfl (by decide) (by decide) hx8 (mMo_times hq) (cwV 2 hts (lw_V q_685 q_687 p_22 q_8 q_688) rfl rfl rfl (by decide +kernel) ⟨Nat.le_of_ble_eq_true rfl, Nat.le_of_ble_eq_true rfl⟩) rfl hl.1 rfl (Nat.le_of_ble_eq_true rfl) dMo_isSofter_91 ⟨Nat.zero_le _, Nat.zero_le _⟩) (fun I7 H locs hf hw hS => ?_)
  refine ek_aload_n hx hb dMo_isSofter_94 rfl (lv_at hl 3 rfl) ?_
  refine lv_bipush (v := (31 : Int32)) hx hb dMo_isSofter_95 (by decide) ?_
  refine lv_lload hx hb dMo_isSofter_97 (lv_at hl 0 rfl) ?_
  obtain ⟨hx10, hf⟩ := ek_ck_s hf
  refine ek_cv hf hS hA (fun I' hq => ek_rV (As := [.int ((31 : Int32)), .long j5_2]) ⟨hx, hb, hml, hown, hts⟩ hK hw 8 rfl (by decide) (by decide) hx10 (mMo_be hq) (cwV 2 hts (lw_V q_571 q_573 p_15 q_8 q_574) rfl rfl rfl (by decide +kernel) ⟨Nat.le_of_ble_eq_true rfl, Nat.le_of_ble_eq_true rfl⟩) rfl hl.1 rfl (Nat.le_of_ble_eq_true rfl) dMo_isSofter_99 ⟨Nat.zero_le _, Nat.zero_le _⟩) (fun I9 H locs hf hw hS => ?_)
  refine ek_aload_n hx hb dMo_isSofter_102 rfl (lv_at hl 3 rfl) ?_
  refine lv_bipush (v := (31 : Int32)) hx hb dMo_isSofter_103 (by decide) ?_
  refine ek_aload_n hx hb dMo_isSofter_105 rfl (lv_at hl 3 rfl) ?_
  refine ek_getr hx hb 8 hts (in_Mo) hown hK hw rfl (by decide) (by decide) 10 (by decide) (n := 2) rfl rfl (hts _ q_586) hf dMo_isSofter_106 (fun hf => ?_)
  refine lv_iload_n hx hb dMo_isSofter_109 rfl (lv_at hl 4 rfl) ?_
  refine ek_iald hx hb hK hw 12 rfl hf dMo_isSofter_110 (fun hf => ?_)
  obtain ⟨hx12, hf⟩ := ek_ck_s hf
  refine ek_cv hf hS hA (fun I' hq => ek_rV (As := [.int ((31 : Int32)), .int (I9 (x0 + 3) i1.toNatClampNeg)]) ⟨hx, hb, hml, hown, hts⟩ hK hw 8 rfl (by decide) (by decide) hx12 (mMo_times hq) (cwV 2 hts (lw_V q_685 q_687 p_22 q_8 q_688) rfl rfl rfl (by decide +kernel) ⟨Nat.le_of_ble_eq_true rfl, Nat.le_of_ble_eq_true rfl⟩) rfl hl.1 rfl (Nat.le_of_ble_eq_true rfl) dMo_isSofter_111 ⟨Nat.zero_le _, Nat.zero_le _⟩) (fun I11 H locs hf hw hS => ?_)
  refine ek_aload_n hx hb dMo_isSofter_114 rfl (lv_at hl 3 rfl) ?_
  refine lv_bipush (v := (31 : Int32)) hx hb dMo_isSofter_115 (by decide) ?_
  refine ek_aload_n hx hb dMo_isSofter_117 rfl (lv_at hl 3 rfl) ?_
  refine ek_getr hx hb 8 hts (in_Mo) hown hK hw rfl (by decide) (by decide) 11 (by decide) (n := 3) rfl rfl (hts _ q_587) hf dMo_isSofter_118 (fun hf => ?_)
  refine lv_iload_n hx hb dMo_isSofter_121 rfl (lv_at hl 4 rfl) ?_
  refine ek_iald hx hb hK hw 12 rfl hf dMo_isSofter_122 (fun hf => ?_)
  obtain ⟨hx14, hf⟩ := ek_ck_s hf
  refine ek_cv hf hS hA (fun I' hq => ek_rV (As := [.int ((31 : Int32)), .int (I11 (x0 + 4) i1.toNatClampNeg)]) ⟨hx, hb, hml, hown, hts⟩ hK hw 8 rfl (by decide) (by decide) hx14 (mMo_times hq) (cwV 2 hts (lw_V q_685 q_687 p_22 q_8 q_688) rfl rfl rfl (by decide +kernel) ⟨Nat.le_of_ble_eq_true rfl, Nat.le_of_ble_eq_true rfl⟩) rfl hl.1 rfl (Nat.le_of_ble_eq_true rfl) dMo_isSofter_123 ⟨Nat.zero_le _, Nat.zero_le _⟩) (fun I13 H locs hf hw hS => ?_)
  refine ek_aload_n hx hb dMo_isSofter_126 rfl (lv_at hl 3 rfl) ?_
  refine lv_bipush (v := (30 : Int32)) hx hb dMo_isSofter_127 (by decide) ?_
  refine lv_bipush (v := (31 : Int32)) hx hb dMo_isSofter_129 (by decide) ?_
  obtain ⟨hx16, hf⟩ := ek_ck_s hf
  refine ek_ci hf hS hA (fun I' v hq => ek_rV (As := [.int ((30 : Int32)), .int ((31 : Int32))]) ⟨hx, hb, hml, hown, hts⟩ hK hw 8 rfl (by decide) (by decide) hx16 (mMo_compare hq) (cwV 2 hts (lw_V q_698 q_700 p_25 q_8 q_701) rfl rfl rfl (by decide +kernel) ⟨Nat.le_of_ble_eq_true rfl, Nat.le_of_ble_eq_true rfl⟩) rfl hl.1 rfl (Nat.le_of_ble_eq_true rfl) dMo_isSofter_131 ⟨Nat.zero_le _, Nat.zero_le _⟩) (fun I15 ir17 H locs hf hw hS => ?_)
  refine ek_istore (lv' := [(7, .int ir17), (5, .long j5_2), (3, .long j3_1), (2, .int i2), (0, ek_r G x0), (1, .int i1)]) hx hb dMo_isSofter_134 hl (by decide) (ek_s1 rfl rfl) (fun ls hl => ?_)
  refine lv_iload hx hb dMo_isSofter_136 (lv_at hl 0 rfl) ?_
  refine lv_if_lt (tgt := 151) hx hb dMo_isSofter_138 (by decide) (fun c18 => ?_) (fun c18 => ?_)
  · have hf := ek_t c18 hf
    exact wMo_isSofter_151 X hf hw hS (lv_sub hl [] rfl)
  · have hf := ek_f c18 hf
    refine lv_iload hx hb dMo_isSofter_141 (lv_at hl 0 rfl) ?_
    refine lv_if_ne (tgt := 155) hx hb dMo_isSofter_143 (by decide) (fun c19 => ?_) (fun c19 => ?_)
    · have hf := ek_f c19 hf
      exact wMo_isSofter_155 X hf hw hS (lv_sub hl [] rfl)
    · have hf := ek_t c19 hf
      refine lv_iload_n hx hb dMo_isSofter_146 rfl (lv_at hl 5 rfl) ?_
      refine lv_iload_n hx hb dMo_isSofter_147 rfl (lv_at hl 3 rfl) ?_
      refine lv_icmp_ge (tgt := 155) hx hb dMo_isSofter_148 (by decide) (fun c20 => ?_) (fun c20 => ?_)
      · have hf := ek_t c20 hf
        exact wMo_isSofter_155 X hf hw hS (lv_sub hl [] rfl)
      · have hf := ek_f c20 hf
        exact wMo_isSofter_151 X hf hw hS (lv_sub hl [] rfl)
set_option maxHeartbeats 4000000 in
set_option maxRecDepth 100000 in
theorem mMo_isSofter {l : Launch} {G : ek_G} {kd : Nat → Nat} {I : ek_St} {x0 : Nat} {i1 : Int32} {i2 : Int32} {q : ek_St × Int32} (hf : fMo_isSofter kd I x0 i1 i2 = some q) : ek_M l G kd y_Mo_isSofter (.code y_Mo_isSofter prog_9_method_18_code 8 (some .boolean) :: lw_g) ({ frames := 1, cells := 0, slots := 0, locals := 27 } : Room) [ek_r G x0, .int i1, .int i2] I (some (.int q.2)) q.1 :=
  ek_body [(0, ek_r G x0), (1, .int i1), (2, .int i2)] (by decide) (by simp [lg_sl, ek_r_cat, ek_c_i, ek_c_l]) (by simp [lv_args, ek_r_cat, ek_c_i, ek_c_l]) (fun p e s m below meth c ls X hw hS hl => wMo_isSofter_0 X hf hw hS hl)
/-! ElasticKernelModel.rankOf(I)I -/
def fMo_rankOf_40 (kd : Nat → Nat) (k4 : (ek_St × Nat × Int32 × Int32 × Int32) → Option (ek_St × Int32)) (I : ek_St) (x0 : Nat) (i1 : Int32) (i3 : Int32) (t0 : Int32) (t1 : Int32) : Option (ek_St × Int32) :=
  ek_let (t0 + t1) (fun i2_1 => ek_let (i3 + (1 : Int32)) (fun i3_2 => k4 (I, x0, i1, i2_1, i3_2)))
def fMo_rankOf_39 (kd : Nat → Nat) (k4 : (ek_St × Nat × Int32 × Int32 × Int32) → Option (ek_St × Int32)) (I : ek_St) (x0 : Nat) (i1 : Int32) (i3 : Int32) (t0 : Int32) : Option (ek_St × Int32) :=
  fMo_rankOf_40 kd k4 I x0 i1 i3 t0 ((0 : Int32))
def fMo_rankOf_4 (kd : Nat → Nat) (k4 : (ek_St × Nat × Int32 × Int32 × Int32) → Option (ek_St × Int32)) (I : ek_St) (x0 : Nat) (i1 : Int32) (i2 : Int32) (i3 : Int32) : Option (ek_St × Int32) :=
  ek_ck (kd x0 = 8) (if (I x0 7) ≤ i3 then (some (I, i2)) else (if i3 = i1 then (fMo_rankOf_39 kd k4 I x0 i1 i3 i2) else (ek_ck (kd x0 = 8) (ek_bi (fMo_counts kd I x0 i3) (fun I3 ir5 => if ir5 = ((0 : Int32)) then (fMo_rankOf_39 kd k4 I3 x0 i1 i3 i2) else (ek_ck (kd x0 = 8) (ek_bi (fMo_isSofter kd I3 x0 i3 i1) (fun I7 ir9 => if ir9 = ((0 : Int32)) then (fMo_rankOf_39 kd k4 I7 x0 i1 i3 i2) else (fMo_rankOf_40 kd k4 I7 x0 i1 i3 i2 ((1 : Int32)))))))))))
def fMo_rankOf_0 (kd : Nat → Nat) (I : ek_St) (x0 : Nat) (i1 : Int32) : Option (ek_St × Int32) :=
  ek_lp (fun (k : (ek_St × Nat × Int32 × Int32 × Int32) → Option (ek_St × Int32)) (q : (ek_St × Nat × Int32 × Int32 × Int32)) => fMo_rankOf_4 kd k q.1 q.2.1 q.2.2.1 q.2.2.2.1 q.2.2.2.2) ek_N (I, x0, i1, (0 : Int32), (0 : Int32))
def fMo_rankOf (kd : Nat → Nat) (I : ek_St) (x0 : Nat) (i1 : Int32) : Option (ek_St × Int32) := fMo_rankOf_0 kd I x0 i1
theorem dMo_rankOf_0 : decode prog_9_method_19_code 0 = .ok (.iconst 0, 1) := by decide +kernel
theorem dMo_rankOf_1 : decode prog_9_method_19_code 1 = .ok (.istore_n 2, 1) := by decide +kernel
theorem dMo_rankOf_2 : decode prog_9_method_19_code 2 = .ok (.iconst 0, 1) := by decide +kernel
theorem dMo_rankOf_3 : decode prog_9_method_19_code 3 = .ok (.istore_n 3, 1) := by decide +kernel
theorem dMo_rankOf_4 : decode prog_9_method_19_code 4 = .ok (.iload_n 3, 1) := by decide +kernel
theorem dMo_rankOf_5 : decode prog_9_method_19_code 5 = .ok (.aload_n 0, 1) := by decide +kernel
theorem dMo_rankOf_6 : decode prog_9_method_19_code 6 = .ok (.getfield 105, 3) := by decide +kernel
theorem dMo_rankOf_9 : decode prog_9_method_19_code 9 = .ok (.if_icmp .ge 39, 3) := by decide +kernel
theorem dMo_rankOf_12 : decode prog_9_method_19_code 12 = .ok (.iload_n 2, 1) := by decide +kernel
theorem dMo_rankOf_13 : decode prog_9_method_19_code 13 = .ok (.iload_n 3, 1) := by decide +kernel
theorem dMo_rankOf_14 : decode prog_9_method_19_code 14 = .ok (.iload_n 1, 1) := by decide +kernel
theorem dMo_rankOf_15 : decode prog_9_method_19_code 15 = .ok (.if_icmp .eq 24, 3) := by decide +kernel
theorem dMo_rankOf_18 : decode prog_9_method_19_code 18 = .ok (.aload_n 0, 1) := by decide +kernel
theorem dMo_rankOf_19 : decode prog_9_method_19_code 19 = .ok (.iload_n 3, 1) := by decide +kernel
theorem dMo_rankOf_20 : decode prog_9_method_19_code 20 = .ok (.invokevirtual 108, 3) := by decide +kernel
theorem dMo_rankOf_23 : decode prog_9_method_19_code 23 = .ok (.ifCond .eq 16, 3) := by decide +kernel
theorem dMo_rankOf_26 : decode prog_9_method_19_code 26 = .ok (.aload_n 0, 1) := by decide +kernel
theorem dMo_rankOf_27 : decode prog_9_method_19_code 27 = .ok (.iload_n 3, 1) := by decide +kernel
theorem dMo_rankOf_28 : decode prog_9_method_19_code 28 = .ok (.iload_n 1, 1) := by decide +kernel
theorem dMo_rankOf_29 : decode prog_9_method_19_code 29 = .ok (.invokevirtual 111, 3) := by decide +kernel
theorem dMo_rankOf_32 : decode prog_9_method_19_code 32 = .ok (.ifCond .eq 7, 3) := by decide +kernel
theorem dMo_rankOf_35 : decode prog_9_method_19_code 35 = .ok (.iconst 1, 1) := by decide +kernel
theorem dMo_rankOf_36 : decode prog_9_method_19_code 36 = .ok (.goto 4, 3) := by decide +kernel
theorem dMo_rankOf_39 : decode prog_9_method_19_code 39 = .ok (.iconst 0, 1) := by decide +kernel
theorem dMo_rankOf_40 : decode prog_9_method_19_code 40 = .ok (.iadd, 1) := by decide +kernel
theorem dMo_rankOf_41 : decode prog_9_method_19_code 41 = .ok (.istore_n 2, 1) := by decide +kernel
theorem dMo_rankOf_42 : decode prog_9_method_19_code 42 = .ok (.iinc 3 1, 3) := by decide +kernel
theorem dMo_rankOf_45 : decode prog_9_method_19_code 45 = .ok (.goto (-41), 3) := by decide +kernel
theorem dMo_rankOf_48 : decode prog_9_method_19_code 48 = .ok (.iload_n 2, 1) := by decide +kernel
theorem dMo_rankOf_49 : decode prog_9_method_19_code 49 = .ok (.ireturn, 1) := by decide +kernel
set_option maxHeartbeats 4000000 in
set_option maxRecDepth 100000 in
theorem wMo_rankOf_40 {l : Launch} {G : ek_G} {kd : Nat → Nat} {p : Program} {e : Env} {s : State} {m : MethodId} {args : Array Value} {below : List Frame} {meth : Method} {c : Code} (X : ek_X p s m meth c args G prog_9_method_19_code 4 "ElasticKernelModel" (some .int)) {q : ek_St × Int32} {k4 : (ek_St × Nat × Int32 × Int32 × Int32) → Option (ek_St × Int32)} (hk4 : ∀ q0 : ek_St × Nat × Int32 × Int32 × Int32, k4 q0 = some q → ∀ (H : Heap) (locs : List Loc) (ls : Array Slot), ek_W G kd q0.1 H → va_S (ek_A G kd) s.heap H locs → lv_has ls 4 [(0, ek_r G q0.2.1), (1, .int q0.2.2.1), (2, .int q0.2.2.2.1), (3, .int q0.2.2.2.2)] → W p l e ({ frames := 2, cells := 0, slots := 0, locals := 54 } : Room) s m args below meth c H locs 0 0 (MQ below (ek_Q G kd (some (.int q.2)) q.1) args s 0 0 (ek_A G kd)) (F0 m 4 ls [])) {I : ek_St} {x0 : Nat} {i1 : Int32} {i3 : Int32} {t0 : Int32} {t1 : Int32} (hf : fMo_rankOf_40 kd k4 I x0 i1 i3 t0 t1 = some q) {H : Heap} {locs : List Loc} {ls : Array Slot} (hw : ek_W G kd I H) (hS : va_S (ek_A G kd) s.heap H locs) (hl : lv_has ls 4 [(0, ek_r G x0), (1, .int i1), (3, .int i3)]) : W p l e ({ frames := 2, cells := 0, slots := 0, locals := 54 } : Room) s m args below meth c H locs 0 0 (MQ below (ek_Q G kd (some (.int q.2)) q.1) args s 0 0 (ek_A G kd)) (F0 m 40 ls [.int t1, .int t0]) := by
  obtain ⟨hx, hb, hml, hown, hts, hr, hlocks, hK⟩ := id X
  have hA : ∀ q, ek_A G kd q → ek_A G kd q := fun _ h => h
  unfold fMo_rankOf_40 at hf
  refine lv_iadd hx hb dMo_rankOf_40 ?_
  refine ek_ti hf (fun i2_1 hf => ?_)
  refine ek_istore_n (lv' := [(2, .int i2_1), (1, .int i1), (0, ek_r G x0), (3, .int i3)]) hx hb dMo_rankOf_41 rfl hl (by decide) (ek_s1k 1 rfl rfl rfl rfl rfl) (fun ls hl => ?_)
  refine ek_iinc hx hb 3 (fun i3_2 => [(3, .int i3_2), (2, .int i2_1), (1, .int i1), (0, ek_r G x0)]) dMo_rankOf_42 hl rfl (v := i3 + (1 : Int32)) rfl hf (by decide) (fun i3_2 => ek_s1k 0 rfl rfl rfl rfl rfl) (fun i3_2 ls hf hl => ?_)
  refine lv_goto (tgt := 4) hx hb dMo_rankOf_45 (by decide) ?_
  exact hk4 (I, x0, i1, i2_1, i3_2) hf _ _ _ hw hS (lv_sub hl [3, 2, 1, 0] rfl)
set_option maxHeartbeats 4000000 in
set_option maxRecDepth 100000 in
theorem wMo_rankOf_39 {l : Launch} {G : ek_G} {kd : Nat → Nat} {p : Program} {e : Env} {s : State} {m : MethodId} {args : Array Value} {below : List Frame} {meth : Method} {c : Code} (X : ek_X p s m meth c args G prog_9_method_19_code 4 "ElasticKernelModel" (some .int)) {q : ek_St × Int32} {k4 : (ek_St × Nat × Int32 × Int32 × Int32) → Option (ek_St × Int32)} (hk4 : ∀ q0 : ek_St × Nat × Int32 × Int32 × Int32, k4 q0 = some q → ∀ (H : Heap) (locs : List Loc) (ls : Array Slot), ek_W G kd q0.1 H → va_S (ek_A G kd) s.heap H locs → lv_has ls 4 [(0, ek_r G q0.2.1), (1, .int q0.2.2.1), (2, .int q0.2.2.2.1), (3, .int q0.2.2.2.2)] → W p l e ({ frames := 2, cells := 0, slots := 0, locals := 54 } : Room) s m args below meth c H locs 0 0 (MQ below (ek_Q G kd (some (.int q.2)) q.1) args s 0 0 (ek_A G kd)) (F0 m 4 ls [])) {I : ek_St} {x0 : Nat} {i1 : Int32} {i3 : Int32} {t0 : Int32} (hf : fMo_rankOf_39 kd k4 I x0 i1 i3 t0 = some q) {H : Heap} {locs : List Loc} {ls : Array Slot} (hw : ek_W G kd I H) (hS : va_S (ek_A G kd) s.heap H locs) (hl : lv_has ls 4 [(0, ek_r G x0), (1, .int i1), (3, .int i3)]) : W p l e ({ frames := 2, cells := 0, slots := 0, locals := 54 } : Room) s m args below meth c H locs 0 0 (MQ below (ek_Q G kd (some (.int q.2)) q.1) args s 0 0 (ek_A G kd)) (F0 m 39 ls [.int t0]) := by
  obtain ⟨hx, hb, hml, hown, hts, hr, hlocks, hK⟩ := id X
  have hA : ∀ q, ek_A G kd q → ek_A G kd q := fun _ h => h
  unfold fMo_rankOf_39 at hf
  refine lv_iconst (v := (0 : Int32)) hx hb dMo_rankOf_39 (by decide) ?_
  exact wMo_rankOf_40 X hk4 hf hw hS (lv_sub hl [0, 1, 2] rfl)
set_option maxHeartbeats 4000000 in
set_option maxRecDepth 100000 in
theorem wMo_rankOf_4 {l : Launch} {G : ek_G} {kd : Nat → Nat} {p : Program} {e : Env} {s : State} {m : MethodId} {args : Array Value} {below : List Frame} {meth : Method} {c : Code} (X : ek_X p s m meth c args G prog_9_method_19_code 4 "ElasticKernelModel" (some .int)) {q : ek_St × Int32} {k4 : (ek_St × Nat × Int32 × Int32 × Int32) → Option (ek_St × Int32)} (hk4 : ∀ q0 : ek_St × Nat × Int32 × Int32 × Int32, k4 q0 = some q → ∀ (H : Heap) (locs : List Loc) (ls : Array Slot), ek_W G kd q0.1 H → va_S (ek_A G kd) s.heap H locs → lv_has ls 4 [(0, ek_r G q0.2.1), (1, .int q0.2.2.1), (2, .int q0.2.2.2.1), (3, .int q0.2.2.2.2)] → W p l e ({ frames := 2, cells := 0, slots := 0, locals := 54 } : Room) s m args below meth c H locs 0 0 (MQ below (ek_Q G kd (some (.int q.2)) q.1) args s 0 0 (ek_A G kd)) (F0 m 4 ls [])) {I : ek_St} {x0 : Nat} {i1 : Int32} {i2 : Int32} {i3 : Int32} (hf : fMo_rankOf_4 kd k4 I x0 i1 i2 i3 = some q) {H : Heap} {locs : List Loc} {ls : Array Slot} (hw : ek_W G kd I H) (hS : va_S (ek_A G kd) s.heap H locs) (hl : lv_has ls 4 [(0, ek_r G x0), (1, .int i1), (2, .int i2), (3, .int i3)]) : W p l e ({ frames := 2, cells := 0, slots := 0, locals := 54 } : Room) s m args below meth c H locs 0 0 (MQ below (ek_Q G kd (some (.int q.2)) q.1) args s 0 0 (ek_A G kd)) (F0 m 4 ls []) := by
  obtain ⟨hx, hb, hml, hown, hts, hr, hlocks, hK⟩ := id X
  have hA : ∀ q, ek_A G kd q → ek_A G kd q := fun _ h => h
  unfold fMo_rankOf_4 at hf
  refine lv_iload_n hx hb dMo_rankOf_4 rfl (lv_at hl 3 rfl) ?_
  refine ek_aload_n hx hb dMo_rankOf_5 rfl (lv_at hl 0 rfl) ?_
  refine ek_geti hx hb 8 hts (in_Mo) hown hK hw rfl (by decide) (by decide) 7 (by decide) rfl (hts _ q_583) hf dMo_rankOf_6 (fun hf => ?_)
  refine lv_icmp_ge (tgt := 48) hx hb dMo_rankOf_9 (by decide) (fun c1 => ?_) (fun c1 => ?_)
  · have hf := ek_t c1 hf
    refine lv_iload_n hx hb dMo_rankOf_48 rfl (lv_at hl 2 rfl) ?_
    exact ek_iret hx hb hr hlocks hw hS hf dMo_rankOf_49
  · have hf := ek_f c1 hf
    refine lv_iload_n hx hb dMo_rankOf_12 rfl (lv_at hl 2 rfl) ?_
    refine lv_iload_n hx hb dMo_rankOf_13 rfl (lv_at hl 3 rfl) ?_
    refine lv_iload_n hx hb dMo_rankOf_14 rfl (lv_at hl 1 rfl) ?_
    refine lv_icmp_eq (tgt := 39) hx hb dMo_rankOf_15 (by decide) (fun c2 => ?_) (fun c2 => ?_)
    · have hf := ek_t c2 hf
      exact wMo_rankOf_39 X hk4 hf hw hS (lv_sub hl [0, 1, 3] rfl)
    · have hf := ek_f c2 hf
      refine ek_aload_n hx hb dMo_rankOf_18 rfl (lv_at hl 0 rfl) ?_
      refine lv_iload_n hx hb dMo_rankOf_19 rfl (lv_at hl 3 rfl) ?_
      obtain ⟨hx4, hf⟩ := ek_ck_s hf
      refine ek_ci hf hS hA (fun I' v hq => ek_rV (As := [.int i3]) ⟨hx, hb, hml, hown, hts⟩ hK hw 8 rfl (by decide) (by decide) hx4 (mMo_counts hq) (cwV 1 hts (lw_V q_710 q_712 p_28 q_8 q_713) rfl rfl rfl (by decide +kernel) ⟨Nat.le_of_ble_eq_true rfl, Nat.le_of_ble_eq_true rfl⟩) rfl hl.1 rfl (Nat.le_of_ble_eq_true rfl) dMo_rankOf_20 ⟨Nat.zero_le _, Nat.zero_le _⟩) (fun I3 ir5 H locs hf hw hS => ?_)
      refine lv_if_eq (tgt := 39) hx hb dMo_rankOf_23 (by decide) (fun c6 => ?_) (fun c6 => ?_)
      · have hf := ek_t c6 hf
        exact wMo_rankOf_39 X hk4 hf hw hS (lv_sub hl [0, 1, 3] rfl)
      · have hf := ek_f c6 hf
        refine ek_aload_n hx hb dMo_rankOf_26 rfl (lv_at hl 0 rfl) ?_
        refine lv_iload_n hx hb dMo_rankOf_27 rfl (lv_at hl 3 rfl) ?_
        refine lv_iload_n hx hb dMo_rankOf_28 rfl (lv_at hl 1 rfl) ?_
        obtain ⟨hx8, hf⟩ := ek_ck_s hf
        refine ek_ci hf hS hA (fun I' v hq => ek_rV (As := [.int i3, .int i1]) ⟨hx, hb, hml, hown, hts⟩ hK hw 8 rfl (by decide) (by decide) hx8 (mMo_isSofter hq) (cwV 2 hts (lw_V q_719 q_721 p_30 q_8 q_722) rfl rfl rfl (by decide +kernel) ⟨Nat.le_of_ble_eq_true rfl, Nat.le_of_ble_eq_true rfl⟩) rfl hl.1 rfl (Nat.le_of_ble_eq_true rfl) dMo_rankOf_29 ⟨Nat.zero_le _, Nat.zero_le _⟩) (fun I7 ir9 H locs hf hw hS => ?_)
        refine lv_if_eq (tgt := 39) hx hb dMo_rankOf_32 (by decide) (fun c10 => ?_) (fun c10 => ?_)
        · have hf := ek_t c10 hf
          exact wMo_rankOf_39 X hk4 hf hw hS (lv_sub hl [0, 1, 3] rfl)
        · have hf := ek_f c10 hf
          refine lv_iconst (v := (1 : Int32)) hx hb dMo_rankOf_35 (by decide) ?_
          refine lv_goto (tgt := 40) hx hb dMo_rankOf_36 (by decide) ?_
          exact wMo_rankOf_40 X hk4 hf hw hS (lv_sub hl [0, 1, 3] rfl)
set_option maxHeartbeats 4000000 in
set_option maxRecDepth 100000 in
theorem wMo_rankOf_4_lp {l : Launch} {G : ek_G} {kd : Nat → Nat} {p : Program} {e : Env} {s : State} {m : MethodId} {args : Array Value} {below : List Frame} {meth : Method} {c : Code} (X : ek_X p s m meth c args G prog_9_method_19_code 4 "ElasticKernelModel" (some .int)) {q : ek_St × Int32} (n : Nat) : ∀ q0 : ek_St × Nat × Int32 × Int32 × Int32, ek_lp (fun (k : (ek_St × Nat × Int32 × Int32 × Int32) → Option (ek_St × Int32)) (q : (ek_St × Nat × Int32 × Int32 × Int32)) => fMo_rankOf_4 kd k q.1 q.2.1 q.2.2.1 q.2.2.2.1 q.2.2.2.2) n q0 = some q → ∀ (H : Heap) (locs : List Loc) (ls : Array Slot), ek_W G kd q0.1 H → va_S (ek_A G kd) s.heap H locs → lv_has ls 4 [(0, ek_r G q0.2.1), (1, .int q0.2.2.1), (2, .int q0.2.2.2.1), (3, .int q0.2.2.2.2)] → W p l e ({ frames := 2, cells := 0, slots := 0, locals := 54 } : Room) s m args below meth c H locs 0 0 (MQ below (ek_Q G kd (some (.int q.2)) q.1) args s 0 0 (ek_A G kd)) (F0 m 4 ls []) :=
  ek_lp_ind (fun k hk q0 hf => fun H locs ls hw hS hl => wMo_rankOf_4 X hk hf hw hS hl) n
set_option maxHeartbeats 4000000 in
set_option maxRecDepth 100000 in
theorem wMo_rankOf_0 {l : Launch} {G : ek_G} {kd : Nat → Nat} {p : Program} {e : Env} {s : State} {m : MethodId} {args : Array Value} {below : List Frame} {meth : Method} {c : Code} (X : ek_X p s m meth c args G prog_9_method_19_code 4 "ElasticKernelModel" (some .int)) {q : ek_St × Int32} {I : ek_St} {x0 : Nat} {i1 : Int32} (hf : fMo_rankOf_0 kd I x0 i1 = some q) {H : Heap} {locs : List Loc} {ls : Array Slot} (hw : ek_W G kd I H) (hS : va_S (ek_A G kd) s.heap H locs) (hl : lv_has ls 4 [(0, ek_r G x0), (1, .int i1)]) : W p l e ({ frames := 2, cells := 0, slots := 0, locals := 54 } : Room) s m args below meth c H locs 0 0 (MQ below (ek_Q G kd (some (.int q.2)) q.1) args s 0 0 (ek_A G kd)) (F0 m 0 ls []) := by
  obtain ⟨hx, hb, hml, hown, hts, hr, hlocks, hK⟩ := id X
  have hA : ∀ q, ek_A G kd q → ek_A G kd q := fun _ h => h
  unfold fMo_rankOf_0 at hf
  refine lv_iconst (v := (0 : Int32)) hx hb dMo_rankOf_0 (by decide) ?_
  refine ek_istore_n (lv' := [(2, .int ((0 : Int32))), (1, .int i1), (0, ek_r G x0)]) hx hb dMo_rankOf_1 rfl hl (by decide) (ek_s1k 1 rfl rfl rfl rfl rfl) (fun ls hl => ?_)
  refine lv_iconst (v := (0 : Int32)) hx hb dMo_rankOf_2 (by decide) ?_
  refine ek_istore_n (lv' := [(3, .int ((0 : Int32))), (2, .int ((0 : Int32))), (1, .int i1), (0, ek_r G x0)]) hx hb dMo_rankOf_3 rfl hl (by decide) (ek_s1k 0 rfl rfl rfl rfl rfl) (fun ls hl => ?_)
  exact wMo_rankOf_4_lp X ek_N (I, x0, i1, (0 : Int32), (0 : Int32)) hf _ _ _ hw hS (lv_sub hl [3, 2, 1, 0] rfl)
set_option maxHeartbeats 4000000 in
set_option maxRecDepth 100000 in
theorem mMo_rankOf {l : Launch} {G : ek_G} {kd : Nat → Nat} {I : ek_St} {x0 : Nat} {i1 : Int32} {q : ek_St × Int32} (hf : fMo_rankOf kd I x0 i1 = some q) : ek_M l G kd y_Mo_rankOf (.code y_Mo_rankOf prog_9_method_19_code 4 (some .int) :: lw_g) ({ frames := 2, cells := 0, slots := 0, locals := 54 } : Room) [ek_r G x0, .int i1] I (some (.int q.2)) q.1 :=
  ek_body [(0, ek_r G x0), (1, .int i1)] (by decide) (by simp [lg_sl, ek_r_cat, ek_c_i, ek_c_l]) (by simp [lv_args, ek_r_cat, ek_c_i, ek_c_l]) (fun p e s m below meth c ls X hw hS hl => wMo_rankOf_0 X hf hw hS hl)
/-! ElasticKernelModel.fits(I)Z -/
def fMo_fits_136 (kd : Nat → Nat) (k2 : (ek_St × Nat × Int32 × Int32) → Option (ek_St × Int32)) (I : ek_St) (x0 : Nat) (i1 : Int32) (i2 : Int32) : Option (ek_St × Int32) :=
  ek_let (i2 + (1 : Int32)) (fun i2_1 => k2 (I, x0, i1, i2_1))
def fMo_fits_2 (kd : Nat → Nat) (k2 : (ek_St × Nat × Int32 × Int32) → Option (ek_St × Int32)) (I : ek_St) (x0 : Nat) (i1 : Int32) (i2 : Int32) : Option (ek_St × Int32) :=
  ek_ck (kd x0 = 8) (if (I x0 7) ≤ i2 then (ek_ck (((1 : Int32)) = (0 : Int32) ∨ ((1 : Int32)) = (1 : Int32)) (some (I, (1 : Int32)))) else (ek_ck (kd x0 = 8) (ek_bi (fMo_counts kd I x0 i2) (fun I2 ir4 => if ir4 = ((0 : Int32)) then (fMo_fits_136 kd k2 I2 x0 i1 i2) else (ek_ck (kd x0 = 8) (ek_bv (fMo_copy kd I2 x0 ((30 : Int32)) ((26 : Int32))) (fun I6 => ek_ck (kd x0 = 8) (ek_ck (kd (x0 + 3) = 112) (ek_ck (ek_in i2 12) (ek_ck (kd x0 = 8) (ek_bv (fMo_times kd I6 x0 ((30 : Int32)) (I6 (x0 + 3) i2.toNatClampNeg)) (fun I8 => ek_ck (kd x0 = 8) (ek_ck (kd (x0 + 4) = 112) (ek_ck (ek_in i2 12) (ek_ck (kd x0 = 8) (ek_bv (fMo_times kd I8 x0 ((30 : Int32)) (I8 (x0 + 4) i2.toNatClampNeg)) (fun I10 => ek_ck (kd x0 = 8) (ek_bv (fMo_copy kd I10 x0 ((31 : Int32)) ((27 : Int32))) (fun I12 => ek_ck (kd x0 = 8) (ek_ck (kd (x0 + 5) = 112) (ek_ck (ek_in i2 12) (ek_ck (kd x0 = 8) (ek_bv (fMo_times kd I12 x0 ((31 : Int32)) (I12 (x0 + 5) i2.toNatClampNeg)) (fun I14 => ek_ck (kd x0 = 8) (ek_ck (kd (x0 + 2) = 112) (ek_ck (ek_in i2 12) (ek_ck (kd x0 = 8) (ek_bv (fMo_times kd I14 x0 ((31 : Int32)) (I14 (x0 + 2) i2.toNatClampNeg)) (fun I16 => ek_ck (kd x0 = 8) (ek_ck (kd (x0 + 4) = 112) (ek_ck (ek_in i2 12) (ek_ck (kd x0 = 8) (ek_ck (kd (x0 + 3) = 112) (ek_ck (ek_in i2 12) (ek_ck (kd x0 = 8) (ek_bv (fMo_times kd I16 x0 ((31 : Int32)) ((I16 (x0 + 4) i2.toNatClampNeg) - (I16 (x0 + 3) i2.toNatClampNeg))) (fun I18 => ek_ck (kd x0 = 8) (ek_bi (fMo_compare kd I18 x0 ((30 : Int32)) ((31 : Int32))) (fun I20 ir22 => ek_ck (kd x0 = 8) (ek_ck (kd (x0 + 17) = 112) (ek_ck (ek_in i2 12) (if i1 ≤ (I20 (x0 + 17) i2.toNatClampNeg) then (if ir22 ≤ ((0 : Int32)) then (fMo_fits_136 kd k2 I20 x0 i1 i2) else (ek_ck (((0 : Int32)) = (0 : Int32) ∨ ((0 : Int32)) = (1 : Int32)) (some (I20, (0 : Int32))))) else (if ((0 : Int32)) ≤ ir22 then (fMo_fits_136 kd k2 I20 x0 i1 i2) else (ek_ck (((0 : Int32)) = (0 : Int32) ∨ ((0 : Int32)) = (1 : Int32)) (some (I20, (0 : Int32)))))))))))))))))))))))))))))))))))))))))))))))
def fMo_fits_0 (kd : Nat → Nat) (I : ek_St) (x0 : Nat) (i1 : Int32) : Option (ek_St × Int32) :=
  ek_lp (fun (k : (ek_St × Nat × Int32 × Int32) → Option (ek_St × Int32)) (q : (ek_St × Nat × Int32 × Int32)) => fMo_fits_2 kd k q.1 q.2.1 q.2.2.1 q.2.2.2) ek_N (I, x0, i1, (0 : Int32))
def fMo_fits (kd : Nat → Nat) (I : ek_St) (x0 : Nat) (i1 : Int32) : Option (ek_St × Int32) := fMo_fits_0 kd I x0 i1
theorem dMo_fits_0 : decode prog_9_method_21_code 0 = .ok (.iconst 0, 1) := by decide +kernel
theorem dMo_fits_1 : decode prog_9_method_21_code 1 = .ok (.istore_n 2, 1) := by decide +kernel
theorem dMo_fits_2 : decode prog_9_method_21_code 2 = .ok (.iload_n 2, 1) := by decide +kernel
theorem dMo_fits_3 : decode prog_9_method_21_code 3 = .ok (.aload_n 0, 1) := by decide +kernel
theorem dMo_fits_4 : decode prog_9_method_21_code 4 = .ok (.getfield 105, 3) := by decide +kernel
theorem dMo_fits_7 : decode prog_9_method_21_code 7 = .ok (.if_icmp .ge 135, 3) := by decide +kernel
theorem dMo_fits_10 : decode prog_9_method_21_code 10 = .ok (.aload_n 0, 1) := by decide +kernel
theorem dMo_fits_11 : decode prog_9_method_21_code 11 = .ok (.iload_n 2, 1) := by decide +kernel
theorem dMo_fits_12 : decode prog_9_method_21_code 12 = .ok (.invokevirtual 108, 3) := by decide +kernel
theorem dMo_fits_15 : decode prog_9_method_21_code 15 = .ok (.ifCond .ne 6, 3) := by decide +kernel
theorem dMo_fits_18 : decode prog_9_method_21_code 18 = .ok (.goto 118, 3) := by decide +kernel
theorem dMo_fits_21 : decode prog_9_method_21_code 21 = .ok (.aload_n 0, 1) := by decide +kernel
theorem dMo_fits_22 : decode prog_9_method_21_code 22 = .ok (.bipush 30, 2) := by decide +kernel
theorem dMo_fits_24 : decode prog_9_method_21_code 24 = .ok (.bipush 26, 2) := by decide +kernel
theorem dMo_fits_26 : decode prog_9_method_21_code 26 = .ok (.invokevirtual 87, 3) := by decide +kernel
theorem dMo_fits_29 : decode prog_9_method_21_code 29 = .ok (.aload_n 0, 1) := by decide +kernel
theorem dMo_fits_30 : decode prog_9_method_21_code 30 = .ok (.bipush 30, 2) := by decide +kernel
theorem dMo_fits_32 : decode prog_9_method_21_code 32 = .ok (.aload_n 0, 1) := by decide +kernel
theorem dMo_fits_33 : decode prog_9_method_21_code 33 = .ok (.getfield 20, 3) := by decide +kernel
theorem dMo_fits_36 : decode prog_9_method_21_code 36 = .ok (.iload_n 2, 1) := by decide +kernel
theorem dMo_fits_37 : decode prog_9_method_21_code 37 = .ok (.iaload, 1) := by decide +kernel
theorem dMo_fits_38 : decode prog_9_method_21_code 38 = .ok (.invokevirtual 102, 3) := by decide +kernel
theorem dMo_fits_41 : decode prog_9_method_21_code 41 = .ok (.aload_n 0, 1) := by decide +kernel
theorem dMo_fits_42 : decode prog_9_method_21_code 42 = .ok (.bipush 30, 2) := by decide +kernel
theorem dMo_fits_44 : decode prog_9_method_21_code 44 = .ok (.aload_n 0, 1) := by decide +kernel
theorem dMo_fits_45 : decode prog_9_method_21_code 45 = .ok (.getfield 23, 3) := by decide +kernel
theorem dMo_fits_48 : decode prog_9_method_21_code 48 = .ok (.iload_n 2, 1) := by decide +kernel
theorem dMo_fits_49 : decode prog_9_method_21_code 49 = .ok (.iaload, 1) := by decide +kernel
theorem dMo_fits_50 : decode prog_9_method_21_code 50 = .ok (.invokevirtual 102, 3) := by decide +kernel
theorem dMo_fits_53 : decode prog_9_method_21_code 53 = .ok (.aload_n 0, 1) := by decide +kernel
theorem dMo_fits_54 : decode prog_9_method_21_code 54 = .ok (.bipush 31, 2) := by decide +kernel
theorem dMo_fits_56 : decode prog_9_method_21_code 56 = .ok (.bipush 27, 2) := by decide +kernel
theorem dMo_fits_58 : decode prog_9_method_21_code 58 = .ok (.invokevirtual 87, 3) := by decide +kernel
theorem dMo_fits_61 : decode prog_9_method_21_code 61 = .ok (.aload_n 0, 1) := by decide +kernel
theorem dMo_fits_62 : decode prog_9_method_21_code 62 = .ok (.bipush 31, 2) := by decide +kernel
theorem dMo_fits_64 : decode prog_9_method_21_code 64 = .ok (.aload_n 0, 1) := by decide +kernel
theorem dMo_fits_65 : decode prog_9_method_21_code 65 = .ok (.getfield 26, 3) := by decide +kernel
theorem dMo_fits_68 : decode prog_9_method_21_code 68 = .ok (.iload_n 2, 1) := by decide +kernel
theorem dMo_fits_69 : decode prog_9_method_21_code 69 = .ok (.iaload, 1) := by decide +kernel
theorem dMo_fits_70 : decode prog_9_method_21_code 70 = .ok (.invokevirtual 102, 3) := by decide +kernel
theorem dMo_fits_73 : decode prog_9_method_21_code 73 = .ok (.aload_n 0, 1) := by decide +kernel
theorem dMo_fits_74 : decode prog_9_method_21_code 74 = .ok (.bipush 31, 2) := by decide +kernel
theorem dMo_fits_76 : decode prog_9_method_21_code 76 = .ok (.aload_n 0, 1) := by decide +kernel
theorem dMo_fits_77 : decode prog_9_method_21_code 77 = .ok (.getfield 17, 3) := by decide +kernel
theorem dMo_fits_80 : decode prog_9_method_21_code 80 = .ok (.iload_n 2, 1) := by decide +kernel
theorem dMo_fits_81 : decode prog_9_method_21_code 81 = .ok (.iaload, 1) := by decide +kernel
theorem dMo_fits_82 : decode prog_9_method_21_code 82 = .ok (.invokevirtual 102, 3) := by decide +kernel
theorem dMo_fits_85 : decode prog_9_method_21_code 85 = .ok (.aload_n 0, 1) := by decide +kernel
theorem dMo_fits_86 : decode prog_9_method_21_code 86 = .ok (.bipush 31, 2) := by decide +kernel
theorem dMo_fits_88 : decode prog_9_method_21_code 88 = .ok (.aload_n 0, 1) := by decide +kernel
theorem dMo_fits_89 : decode prog_9_method_21_code 89 = .ok (.getfield 23, 3) := by decide +kernel
theorem dMo_fits_92 : decode prog_9_method_21_code 92 = .ok (.iload_n 2, 1) := by decide +kernel
theorem dMo_fits_93 : decode prog_9_method_21_code 93 = .ok (.iaload, 1) := by decide +kernel
theorem dMo_fits_94 : decode prog_9_method_21_code 94 = .ok (.aload_n 0, 1) := by decide +kernel
theorem dMo_fits_95 : decode prog_9_method_21_code 95 = .ok (.getfield 20, 3) := by decide +kernel
theorem dMo_fits_98 : decode prog_9_method_21_code 98 = .ok (.iload_n 2, 1) := by decide +kernel
theorem dMo_fits_99 : decode prog_9_method_21_code 99 = .ok (.iaload, 1) := by decide +kernel
theorem dMo_fits_100 : decode prog_9_method_21_code 100 = .ok (.isub, 1) := by decide +kernel
theorem dMo_fits_101 : decode prog_9_method_21_code 101 = .ok (.invokevirtual 102, 3) := by decide +kernel
theorem dMo_fits_104 : decode prog_9_method_21_code 104 = .ok (.aload_n 0, 1) := by decide +kernel
theorem dMo_fits_105 : decode prog_9_method_21_code 105 = .ok (.bipush 30, 2) := by decide +kernel
theorem dMo_fits_107 : decode prog_9_method_21_code 107 = .ok (.bipush 31, 2) := by decide +kernel
theorem dMo_fits_109 : decode prog_9_method_21_code 109 = .ok (.invokevirtual 91, 3) := by decide +kernel
theorem dMo_fits_112 : decode prog_9_method_21_code 112 = .ok (.istore_n 3, 1) := by decide +kernel
theorem dMo_fits_113 : decode prog_9_method_21_code 113 = .ok (.aload_n 0, 1) := by decide +kernel
theorem dMo_fits_114 : decode prog_9_method_21_code 114 = .ok (.getfield 63, 3) := by decide +kernel
theorem dMo_fits_117 : decode prog_9_method_21_code 117 = .ok (.iload_n 2, 1) := by decide +kernel
theorem dMo_fits_118 : decode prog_9_method_21_code 118 = .ok (.iaload, 1) := by decide +kernel
theorem dMo_fits_119 : decode prog_9_method_21_code 119 = .ok (.iload_n 1, 1) := by decide +kernel
theorem dMo_fits_120 : decode prog_9_method_21_code 120 = .ok (.if_icmp .ge 10, 3) := by decide +kernel
theorem dMo_fits_123 : decode prog_9_method_21_code 123 = .ok (.iload_n 3, 1) := by decide +kernel
theorem dMo_fits_124 : decode prog_9_method_21_code 124 = .ok (.ifCond .ge 12, 3) := by decide +kernel
theorem dMo_fits_127 : decode prog_9_method_21_code 127 = .ok (.goto 7, 3) := by decide +kernel
theorem dMo_fits_130 : decode prog_9_method_21_code 130 = .ok (.iload_n 3, 1) := by decide +kernel
theorem dMo_fits_131 : decode prog_9_method_21_code 131 = .ok (.ifCond .le 5, 3) := by decide +kernel
theorem dMo_fits_134 : decode prog_9_method_21_code 134 = .ok (.iconst 0, 1) := by decide +kernel
theorem dMo_fits_135 : decode prog_9_method_21_code 135 = .ok (.ireturn, 1) := by decide +kernel
theorem dMo_fits_136 : decode prog_9_method_21_code 136 = .ok (.iinc 2 1, 3) := by decide +kernel
theorem dMo_fits_139 : decode prog_9_method_21_code 139 = .ok (.goto (-137), 3) := by decide +kernel
theorem dMo_fits_142 : decode prog_9_method_21_code 142 = .ok (.iconst 1, 1) := by decide +kernel
theorem dMo_fits_143 : decode prog_9_method_21_code 143 = .ok (.ireturn, 1) := by decide +kernel
set_option maxHeartbeats 4000000 in
set_option maxRecDepth 100000 in
theorem wMo_fits_136 {l : Launch} {G : ek_G} {kd : Nat → Nat} {p : Program} {e : Env} {s : State} {m : MethodId} {args : Array Value} {below : List Frame} {meth : Method} {c : Code} (X : ek_X p s m meth c args G prog_9_method_21_code 4 "ElasticKernelModel" (some .boolean)) {q : ek_St × Int32} {k2 : (ek_St × Nat × Int32 × Int32) → Option (ek_St × Int32)} (hk2 : ∀ q0 : ek_St × Nat × Int32 × Int32, k2 q0 = some q → ∀ (H : Heap) (locs : List Loc) (ls : Array Slot), ek_W G kd q0.1 H → va_S (ek_A G kd) s.heap H locs → lv_has ls 4 [(0, ek_r G q0.2.1), (1, .int q0.2.2.1), (2, .int q0.2.2.2)] → W p l e ({ frames := 1, cells := 0, slots := 0, locals := 27 } : Room) s m args below meth c H locs 0 0 (MQ below (ek_Q G kd (some (.int q.2)) q.1) args s 0 0 (ek_A G kd)) (F0 m 2 ls [])) {I : ek_St} {x0 : Nat} {i1 : Int32} {i2 : Int32} (hf : fMo_fits_136 kd k2 I x0 i1 i2 = some q) {H : Heap} {locs : List Loc} {ls : Array Slot} (hw : ek_W G kd I H) (hS : va_S (ek_A G kd) s.heap H locs) (hl : lv_has ls 4 [(0, ek_r G x0), (1, .int i1), (2, .int i2)]) : W p l e ({ frames := 1, cells := 0, slots := 0, locals := 27 } : Room) s m args below meth c H locs 0 0 (MQ below (ek_Q G kd (some (.int q.2)) q.1) args s 0 0 (ek_A G kd)) (F0 m 136 ls []) := by
  obtain ⟨hx, hb, hml, hown, hts, hr, hlocks, hK⟩ := id X
  have hA : ∀ q, ek_A G kd q → ek_A G kd q := fun _ h => h
  unfold fMo_fits_136 at hf
  refine ek_iinc hx hb 2 (fun i2_1 => [(2, .int i2_1), (1, .int i1), (0, ek_r G x0)]) dMo_fits_136 hl rfl (v := i2 + (1 : Int32)) rfl hf (by decide) (fun i2_1 => ek_s1k 1 rfl rfl rfl rfl rfl) (fun i2_1 ls hf hl => ?_)
  refine lv_goto (tgt := 2) hx hb dMo_fits_139 (by decide) ?_
  exact hk2 (I, x0, i1, i2_1) hf _ _ _ hw hS (lv_sub hl [2, 1, 0] rfl)
set_option maxHeartbeats 4000000 in
set_option maxRecDepth 100000 in
theorem wMo_fits_2 {l : Launch} {G : ek_G} {kd : Nat → Nat} {p : Program} {e : Env} {s : State} {m : MethodId} {args : Array Value} {below : List Frame} {meth : Method} {c : Code} (X : ek_X p s m meth c args G prog_9_method_21_code 4 "ElasticKernelModel" (some .boolean)) {q : ek_St × Int32} {k2 : (ek_St × Nat × Int32 × Int32) → Option (ek_St × Int32)} (hk2 : ∀ q0 : ek_St × Nat × Int32 × Int32, k2 q0 = some q → ∀ (H : Heap) (locs : List Loc) (ls : Array Slot), ek_W G kd q0.1 H → va_S (ek_A G kd) s.heap H locs → lv_has ls 4 [(0, ek_r G q0.2.1), (1, .int q0.2.2.1), (2, .int q0.2.2.2)] → W p l e ({ frames := 1, cells := 0, slots := 0, locals := 27 } : Room) s m args below meth c H locs 0 0 (MQ below (ek_Q G kd (some (.int q.2)) q.1) args s 0 0 (ek_A G kd)) (F0 m 2 ls [])) {I : ek_St} {x0 : Nat} {i1 : Int32} {i2 : Int32} (hf : fMo_fits_2 kd k2 I x0 i1 i2 = some q) {H : Heap} {locs : List Loc} {ls : Array Slot} (hw : ek_W G kd I H) (hS : va_S (ek_A G kd) s.heap H locs) (hl : lv_has ls 4 [(0, ek_r G x0), (1, .int i1), (2, .int i2)]) : W p l e ({ frames := 1, cells := 0, slots := 0, locals := 27 } : Room) s m args below meth c H locs 0 0 (MQ below (ek_Q G kd (some (.int q.2)) q.1) args s 0 0 (ek_A G kd)) (F0 m 2 ls []) := by
  obtain ⟨hx, hb, hml, hown, hts, hr, hlocks, hK⟩ := id X
  have hA : ∀ q, ek_A G kd q → ek_A G kd q := fun _ h => h
  unfold fMo_fits_2 at hf
  refine lv_iload_n hx hb dMo_fits_2 rfl (lv_at hl 2 rfl) ?_
  refine ek_aload_n hx hb dMo_fits_3 rfl (lv_at hl 0 rfl) ?_
  refine ek_geti hx hb 8 hts (in_Mo) hown hK hw rfl (by decide) (by decide) 7 (by decide) rfl (hts _ q_583) hf dMo_fits_4 (fun hf => ?_)
  refine lv_icmp_ge (tgt := 142) hx hb dMo_fits_7 (by decide) (fun c1 => ?_) (fun c1 => ?_)
  · have hf := ek_t c1 hf
    refine lv_iconst (v := (1 : Int32)) hx hb dMo_fits_142 (by decide) ?_
    exact ek_zret hx hb hr hlocks hw hS hf dMo_fits_143
  · have hf := ek_f c1 hf
    refine ek_aload_n hx hb dMo_fits_10 rfl (lv_at hl 0 rfl) ?_
    refine lv_iload_n hx hb dMo_fits_11 rfl (lv_at hl 2 rfl) ?_
    obtain ⟨hx3, hf⟩ := ek_ck_s hf
    refine ek_ci hf hS hA (fun I' v hq => ek_rV (As := [.int i2]) ⟨hx, hb, hml, hown, hts⟩ hK hw 8 rfl (by decide) (by decide) hx3 (mMo_counts hq) (cwV 1 hts (lw_V q_710 q_712 p_28 q_8 q_713) rfl rfl rfl (by decide +kernel) ⟨Nat.le_of_ble_eq_true rfl, Nat.le_of_ble_eq_true rfl⟩) rfl hl.1 rfl (Nat.le_of_ble_eq_true rfl) dMo_fits_12 ⟨Nat.zero_le _, Nat.zero_le _⟩) (fun I2 ir4 H locs hf hw hS => ?_)
    refine lv_if_ne (tgt := 21) hx hb dMo_fits_15 (by decide) (fun c5 => ?_) (fun c5 => ?_)
    · have hf := ek_f c5 hf
      refine ek_aload_n hx hb dMo_fits_21 rfl (lv_at hl 0 rfl) ?_
      refine lv_bipush (v := (30 : Int32)) hx hb dMo_fits_22 (by decide) ?_
      refine lv_bipush (v := (26 : Int32)) hx hb dMo_fits_24 (by decide) ?_
      obtain ⟨hx7, hf⟩ := ek_ck_s hf
      refine ek_cv hf hS hA (fun I' hq => ek_rV (As := [.int ((30 : Int32)), .int ((26 : Int32))]) ⟨hx, hb, hml, hown, hts⟩ hK hw 8 rfl (by decide) (by decide) hx7 (mMo_copy hq) (cwV 2 hts (lw_V q_669 q_671 p_18 q_8 q_672) rfl rfl rfl (by decide +kernel) ⟨Nat.le_of_ble_eq_true rfl, Nat.le_of_ble_eq_true rfl⟩) rfl hl.1 rfl (Nat.le_of_ble_eq_true rfl) dMo_fits_26 ⟨Nat.zero_le _, Nat.zero_le _⟩) (fun I6 H locs hf hw hS => ?_)
      refine ek_aload_n hx hb dMo_fits_29 rfl (lv_at hl 0 rfl) ?_
      refine lv_bipush (v := (30 : Int32)) hx hb dMo_fits_30 (by decide) ?_
      refine ek_aload_n hx hb dMo_fits_32 rfl (lv_at hl 0 rfl) ?_
      refine ek_getr hx hb 8 hts (in_Mo) hown hK hw rfl (by decide) (by decide) 10 (by decide) (n := 2) rfl rfl (hts _ q_586) hf dMo_fits_33 (fun hf => ?_)
      refine lv_iload_n hx hb dMo_fits_36 rfl (lv_at hl 2 rfl) ?_
      refine ek_iald hx hb hK hw 12 rfl hf dMo_fits_37 (fun hf => ?_)
      obtain ⟨hx9, hf⟩ := ek_ck_s hf
      refine ek_cv hf hS hA (fun I' hq => ek_rV (As := [.int ((30 : Int32)), .int (I6 (x0 + 3) i2.toNatClampNeg)]) ⟨hx, hb, hml, hown, hts⟩ hK hw 8 rfl (by decide) (by decide) hx9 (mMo_times hq) (cwV 2 hts (lw_V q_685 q_687 p_22 q_8 q_688) rfl rfl rfl (by decide +kernel) ⟨Nat.le_of_ble_eq_true rfl, Nat.le_of_ble_eq_true rfl⟩) rfl hl.1 rfl (Nat.le_of_ble_eq_true rfl) dMo_fits_38 ⟨Nat.zero_le _, Nat.zero_le _⟩) (fun I8 H locs hf hw hS => ?_)
      refine ek_aload_n hx hb dMo_fits_41 rfl (lv_at hl 0 rfl) ?_
      refine lv_bipush (v := (30 : Int32)) hx hb dMo_fits_42 (by decide) ?_
      refine ek_aload_n hx hb dMo_fits_44 rfl (lv_at hl 0 rfl) ?_
      refine ek_getr hx hb 8 hts (in_Mo) hown hK hw rfl (by decide) (by decide) 11 (by decide) (n := 3) rfl rfl (hts _ q_587) hf dMo_fits_45 (fun hf => ?_)
      refine lv_iload_n hx hb dMo_fits_48 rfl (lv_at hl 2 rfl) ?_
      refine ek_iald hx hb hK hw 12 rfl hf dMo_fits_49 (fun hf => ?_)
      obtain ⟨hx11, hf⟩ := ek_ck_s hf
      refine ek_cv hf hS hA (fun I' hq => ek_rV (As := [.int ((30 : Int32)), .int (I8 (x0 + 4) i2.toNatClampNeg)]) ⟨hx, hb, hml, hown, hts⟩ hK hw 8 rfl (by decide) (by decide) hx11 (mMo_times hq) (cwV 2 hts (lw_V q_685 q_687 p_22 q_8 q_688) rfl rfl rfl (by decide +kernel) ⟨Nat.le_of_ble_eq_true rfl, Nat.le_of_ble_eq_true rfl⟩) rfl hl.1 rfl (Nat.le_of_ble_eq_true rfl) dMo_fits_50 ⟨Nat.zero_le _, Nat.zero_le _⟩) (fun I10 H locs hf hw hS => ?_)
      refine ek_aload_n hx hb dMo_fits_53 rfl (lv_at hl 0 rfl) ?_
      refine lv_bipush (v := (31 : Int32)) hx hb dMo_fits_54 (by decide) ?_
      refine lv_bipush (v := (27 : Int32)) hx hb dMo_fits_56 (by decide) ?_
      obtain ⟨hx13, hf⟩ := ek_ck_s hf
      refine ek_cv hf hS hA (fun I' hq => ek_rV (As := [.int ((31 : Int32)), .int ((27 : Int32))]) ⟨hx, hb, hml, hown, hts⟩ hK hw 8 rfl (by decide) (by decide) hx13 (mMo_copy hq) (cwV 2 hts (lw_V q_669 q_671 p_18 q_8 q_672) rfl rfl rfl (by decide +kernel) ⟨Nat.le_of_ble_eq_true rfl, Nat.le_of_ble_eq_true rfl⟩) rfl hl.1 rfl (Nat.le_of_ble_eq_true rfl) dMo_fits_58 ⟨Nat.zero_le _, Nat.zero_le _⟩) (fun I12 H locs hf hw hS => ?_)
      refine ek_aload_n hx hb dMo_fits_61 rfl (lv_at hl 0 rfl) ?_
      refine lv_bipush (v := (31 : Int32)) hx hb dMo_fits_62 (by decide) ?_
      refine ek_aload_n hx hb dMo_fits_64 rfl (lv_at hl 0 rfl) ?_
      refine ek_getr hx hb 8 hts (in_Mo) hown hK hw rfl (by decide) (by decide) 12 (by decide) (n := 4) rfl rfl (hts _ q_588) hf dMo_fits_65 (fun hf => ?_)
      refine lv_iload_n hx hb dMo_fits_68 rfl (lv_at hl 2 rfl) ?_
      refine ek_iald hx hb hK hw 12 rfl hf dMo_fits_69 (fun hf => ?_)
      obtain ⟨hx15, hf⟩ := ek_ck_s hf
      refine ek_cv hf hS hA (fun I' hq => ek_rV (As := [.int ((31 : Int32)), .int (I12 (x0 + 5) i2.toNatClampNeg)]) ⟨hx, hb, hml, hown, hts⟩ hK hw 8 rfl (by decide) (by decide) hx15 (mMo_times hq) (cwV 2 hts (lw_V q_685 q_687 p_22 q_8 q_688) rfl rfl rfl (by decide +kernel) ⟨Nat.le_of_ble_eq_true rfl, Nat.le_of_ble_eq_true rfl⟩) rfl hl.1 rfl (Nat.le_of_ble_eq_true rfl) dMo_fits_70 ⟨Nat.zero_le _, Nat.zero_le _⟩) (fun I14 H locs hf hw hS => ?_)
      refine ek_aload_n hx hb dMo_fits_73 rfl (lv_at hl 0 rfl) ?_
      refine lv_bipush (v := (31 : Int32)) hx hb dMo_fits_74 (by decide) ?_
      refine ek_aload_n hx hb dMo_fits_76 rfl (lv_at hl 0 rfl) ?_
      refine ek_getr hx hb 8 hts (in_Mo) hown hK hw rfl (by decide) (by decide) 9 (by decide) (n := 1) rfl rfl (hts _ q_585) hf dMo_fits_77 (fun hf => ?_)
      refine lv_iload_n hx hb dMo_fits_80 rfl (lv_at hl 2 rfl) ?_
      refine ek_iald hx hb hK hw 12 rfl hf dMo_fits_81 (fun hf => ?_)
      obtain ⟨hx17, hf⟩ := ek_ck_s hf
      refine ek_cv hf hS hA (fun I' hq => ek_rV (As := [.int ((31 : Int32)), .int (I14 (x0 + 2) i2.toNatClampNeg)]) ⟨hx, hb, hml, hown, hts⟩ hK hw 8 rfl (by decide) (by decide) hx17 (mMo_times hq) (cwV 2 hts (lw_V q_685 q_687 p_22 q_8 q_688) rfl rfl rfl (by decide +kernel) ⟨Nat.le_of_ble_eq_true rfl, Nat.le_of_ble_eq_true rfl⟩) rfl hl.1 rfl (Nat.le_of_ble_eq_true rfl) dMo_fits_82 ⟨Nat.zero_le _, Nat.zero_le _⟩) (fun I16 H locs hf hw hS => ?_)
      refine ek_aload_n hx hb dMo_fits_85 rfl (lv_at hl 0 rfl) ?_
      refine lv_bipush (v := (31 : Int32)) hx hb dMo_fits_86 (by decide) ?_
      refine ek_aload_n hx hb dMo_fits_88 rfl (lv_at hl 0 rfl) ?_
      refine ek_getr hx hb 8 hts (in_Mo) hown hK hw rfl (by decide) (by decide) 11 (by decide) (n := 3) rfl rfl (hts _ q_587) hf dMo_fits_89 (fun hf => ?_)
      refine lv_iload_n hx hb dMo_fits_92 rfl (lv_at hl 2 rfl) ?_
      refine ek_iald hx hb hK hw 12 rfl hf dMo_fits_93 (fun hf => ?_)
      refine ek_aload_n hx hb dMo_fits_94 rfl (lv_at hl 0 rfl) ?_
      refine ek_getr hx hb 8 hts (in_Mo) hown hK hw rfl (by decide) (by decide) 10 (by decide) (n := 2) rfl rfl (hts _ q_586) hf dMo_fits_95 (fun hf => ?_)
      refine lv_iload_n hx hb dMo_fits_98 rfl (lv_at hl 2 rfl) ?_
      refine ek_iald hx hb hK hw 12 rfl hf dMo_fits_99 (fun hf => ?_)
      refine lv_isub hx hb dMo_fits_100 ?_
      obtain ⟨hx19, hf⟩ := ek_ck_s hf
      refine ek_cv hf hS hA (fun I' hq => ek_rV (As := [.int ((31 : Int32)), .int ((I16 (x0 + 4) i2.toNatClampNeg) - (I16 (x0 + 3) i2.toNatClampNeg))]) ⟨hx, hb, hml, hown, hts⟩ hK hw 8 rfl (by decide) (by decide) hx19 (mMo_times hq) (cwV 2 hts (lw_V q_685 q_687 p_22 q_8 q_688) rfl rfl rfl (by decide +kernel) ⟨Nat.le_of_ble_eq_true rfl, Nat.le_of_ble_eq_true rfl⟩) rfl hl.1 rfl (Nat.le_of_ble_eq_true rfl) dMo_fits_101 ⟨Nat.zero_le _, Nat.zero_le _⟩) (fun I18 H locs hf hw hS => ?_)
      refine ek_aload_n hx hb dMo_fits_104 rfl (lv_at hl 0 rfl) ?_
      refine lv_bipush (v := (30 : Int32)) hx hb dMo_fits_105 (by decide) ?_
      refine lv_bipush (v := (31 : Int32)) hx hb dMo_fits_107 (by decide) ?_
      obtain ⟨hx21, hf⟩ := ek_ck_s hf
      refine ek_ci hf hS hA (fun I' v hq => ek_rV (As := [.int ((30 : Int32)), .int ((31 : Int32))]) ⟨hx, hb, hml, hown, hts⟩ hK hw 8 rfl (by decide) (by decide) hx21 (mMo_compare hq) (cwV 2 hts (lw_V q_698 q_700 p_25 q_8 q_701) rfl rfl rfl (by decide +kernel) ⟨Nat.le_of_ble_eq_true rfl, Nat.le_of_ble_eq_true rfl⟩) rfl hl.1 rfl (Nat.le_of_ble_eq_true rfl) dMo_fits_109 ⟨Nat.zero_le _, Nat.zero_le _⟩) (fun I20 ir22 H locs hf hw hS => ?_)
      refine ek_istore_n (lv' := [(3, .int ir22), (2, .int i2), (0, ek_r G x0), (1, .int i1)]) hx hb dMo_fits_112 rfl hl (by decide) (ek_s1k 2 rfl rfl rfl rfl rfl) (fun ls hl => ?_)
      refine ek_aload_n hx hb dMo_fits_113 rfl (lv_at hl 2 rfl) ?_
      refine ek_getr hx hb 8 hts (in_Mo) hown hK hw rfl (by decide) (by decide) 24 (by decide) (n := 16) rfl rfl (hts _ q_600) hf dMo_fits_114 (fun hf => ?_)
      refine lv_iload_n hx hb dMo_fits_117 rfl (lv_at hl 1 rfl) ?_
      refine ek_iald hx hb hK hw 12 rfl hf dMo_fits_118 (fun hf => ?_)
      refine lv_iload_n hx hb dMo_fits_119 rfl (lv_at hl 3 rfl) ?_
      refine lv_icmp_ge (tgt := 130) hx hb dMo_fits_120 (by decide) (fun c23 => ?_) (fun c23 => ?_)
      · have hf := ek_t c23 hf
        refine lv_iload_n hx hb dMo_fits_130 rfl (lv_at hl 0 rfl) ?_
        refine lv_if_le (tgt := 136) hx hb dMo_fits_131 (by decide) (fun c24 => ?_) (fun c24 => ?_)
        · have hf := ek_t c24 hf
          exact wMo_fits_136 X hk2 hf hw hS (lv_sub hl [2, 3, 1] rfl)
        · have hf := ek_f c24 hf
          refine lv_iconst (v := (0 : Int32)) hx hb dMo_fits_134 (by decide) ?_
          exact ek_zret hx hb hr hlocks hw hS hf dMo_fits_135
      · have hf := ek_f c23 hf
        refine lv_iload_n hx hb dMo_fits_123 rfl (lv_at hl 0 rfl) ?_
        refine lv_if_ge (tgt := 136) hx hb dMo_fits_124 (by decide) (fun c25 => ?_) (fun c25 => ?_)
        · have hf := ek_t c25 hf
          exact wMo_fits_136 X hk2 hf hw hS (lv_sub hl [2, 3, 1] rfl)
        · have hf := ek_f c25 hf
          refine lv_goto (tgt := 134) hx hb dMo_fits_127 (by decide) ?_
          refine lv_iconst (v := (0 : Int32)) hx hb dMo_fits_134 (by decide) ?_
          exact ek_zret hx hb hr hlocks hw hS hf dMo_fits_135
    · have hf := ek_t c5 hf
      refine lv_goto (tgt := 136) hx hb dMo_fits_18 (by decide) ?_
      exact wMo_fits_136 X hk2 hf hw hS (lv_sub hl [0, 1, 2] rfl)
set_option maxHeartbeats 4000000 in
set_option maxRecDepth 100000 in
theorem wMo_fits_2_lp {l : Launch} {G : ek_G} {kd : Nat → Nat} {p : Program} {e : Env} {s : State} {m : MethodId} {args : Array Value} {below : List Frame} {meth : Method} {c : Code} (X : ek_X p s m meth c args G prog_9_method_21_code 4 "ElasticKernelModel" (some .boolean)) {q : ek_St × Int32} (n : Nat) : ∀ q0 : ek_St × Nat × Int32 × Int32, ek_lp (fun (k : (ek_St × Nat × Int32 × Int32) → Option (ek_St × Int32)) (q : (ek_St × Nat × Int32 × Int32)) => fMo_fits_2 kd k q.1 q.2.1 q.2.2.1 q.2.2.2) n q0 = some q → ∀ (H : Heap) (locs : List Loc) (ls : Array Slot), ek_W G kd q0.1 H → va_S (ek_A G kd) s.heap H locs → lv_has ls 4 [(0, ek_r G q0.2.1), (1, .int q0.2.2.1), (2, .int q0.2.2.2)] → W p l e ({ frames := 1, cells := 0, slots := 0, locals := 27 } : Room) s m args below meth c H locs 0 0 (MQ below (ek_Q G kd (some (.int q.2)) q.1) args s 0 0 (ek_A G kd)) (F0 m 2 ls []) :=
  ek_lp_ind (fun k hk q0 hf => fun H locs ls hw hS hl => wMo_fits_2 X hk hf hw hS hl) n
set_option maxHeartbeats 4000000 in
set_option maxRecDepth 100000 in
theorem wMo_fits_0 {l : Launch} {G : ek_G} {kd : Nat → Nat} {p : Program} {e : Env} {s : State} {m : MethodId} {args : Array Value} {below : List Frame} {meth : Method} {c : Code} (X : ek_X p s m meth c args G prog_9_method_21_code 4 "ElasticKernelModel" (some .boolean)) {q : ek_St × Int32} {I : ek_St} {x0 : Nat} {i1 : Int32} (hf : fMo_fits_0 kd I x0 i1 = some q) {H : Heap} {locs : List Loc} {ls : Array Slot} (hw : ek_W G kd I H) (hS : va_S (ek_A G kd) s.heap H locs) (hl : lv_has ls 4 [(0, ek_r G x0), (1, .int i1)]) : W p l e ({ frames := 1, cells := 0, slots := 0, locals := 27 } : Room) s m args below meth c H locs 0 0 (MQ below (ek_Q G kd (some (.int q.2)) q.1) args s 0 0 (ek_A G kd)) (F0 m 0 ls []) := by
  obtain ⟨hx, hb, hml, hown, hts, hr, hlocks, hK⟩ := id X
  have hA : ∀ q, ek_A G kd q → ek_A G kd q := fun _ h => h
  unfold fMo_fits_0 at hf
  refine lv_iconst (v := (0 : Int32)) hx hb dMo_fits_0 (by decide) ?_
  refine ek_istore_n (lv' := [(2, .int ((0 : Int32))), (1, .int i1), (0, ek_r G x0)]) hx hb dMo_fits_1 rfl hl (by decide) (ek_s1k 1 rfl rfl rfl rfl rfl) (fun ls hl => ?_)
  exact wMo_fits_2_lp X ek_N (I, x0, i1, (0 : Int32)) hf _ _ _ hw hS (lv_sub hl [2, 1, 0] rfl)
set_option maxHeartbeats 4000000 in
set_option maxRecDepth 100000 in
theorem mMo_fits {l : Launch} {G : ek_G} {kd : Nat → Nat} {I : ek_St} {x0 : Nat} {i1 : Int32} {q : ek_St × Int32} (hf : fMo_fits kd I x0 i1 = some q) : ek_M l G kd y_Mo_fits (.code y_Mo_fits prog_9_method_21_code 4 (some .boolean) :: lw_g) ({ frames := 1, cells := 0, slots := 0, locals := 27 } : Room) [ek_r G x0, .int i1] I (some (.int q.2)) q.1 :=
  ek_body [(0, ek_r G x0), (1, .int i1)] (by decide) (by simp [lg_sl, ek_r_cat, ek_c_i, ek_c_l]) (by simp [lv_args, ek_r_cat, ek_c_i, ek_c_l]) (fun p e s m below meth c ls X hw hS hl => wMo_fits_0 X hf hw hS hl)
/-! ElasticKernelModel.tryLeast(I)Z -/
def fMo_tryLeast_131 (kd : Nat → Nat) (k22 : (ek_St × Nat × Int32 × Int32 × Int32) → Option (ek_St × Int32)) (I : ek_St) (x0 : Nat) (i1 : Int32) (i2 : Int32) (i3 : Int32) : Option (ek_St × Int32) :=
  ek_let (i3 + (1 : Int32)) (fun i3_1 => k22 (I, x0, i1, i2, i3_1))
def fMo_tryLeast_85 (kd : Nat → Nat) (k22 : (ek_St × Nat × Int32 × Int32 × Int32) → Option (ek_St × Int32)) (I : ek_St) (x0 : Nat) (i1 : Int32) (i2 : Int32) (i3 : Int32) (i4 : Int32) (t0 : Nat) (t1 : Int32) (t2 : Int32) : Option (ek_St × Int32) :=
  ek_ck (kd t0 = 8) (ek_bv (fMo_addFraction kd I t0 t1 t2) (fun I1 => if i4 = ((0 : Int32)) then (ek_ck (kd x0 = 8) (ek_ck (kd (x0 + 5) = 112) (ek_ck (ek_in i3 12) (ek_ck (kd x0 = 8) (ek_bv (fMo_times kd I1 x0 ((28 : Int32)) (I1 (x0 + 5) i3.toNatClampNeg)) (fun I4 => ek_ck (kd x0 = 8) (ek_bv (fMo_add3 kd I4 x0 ((28 : Int32)) ((29 : Int32)) ((0 : Int32))) (fun I6 => ek_ck (kd x0 = 8) (ek_ck (kd (x0 + 5) = 112) (ek_ck (ek_in i3 12) (ek_ck (kd x0 = 8) (ek_bv (fMo_times kd I6 x0 ((29 : Int32)) (I6 (x0 + 5) i3.toNatClampNeg)) (fun I8 => fMo_tryLeast_131 kd k22 I8 x0 i1 ((1 : Int32)) i3))))))))))))) else (fMo_tryLeast_131 kd k22 I1 x0 i1 i2 i3)))
def fMo_tryLeast_56 (kd : Nat → Nat) (k22 : (ek_St × Nat × Int32 × Int32 × Int32) → Option (ek_St × Int32)) (I : ek_St) (x0 : Nat) (i1 : Int32) (i2 : Int32) (i3 : Int32) (t0 : Int32) : Option (ek_St × Int32) :=
  ek_ck (kd x0 = 8) (ek_ck (kd (x0 + 2) = 112) (ek_ck (ek_in i3 12) (if t0 = ((0 : Int32)) then (ek_ck (kd x0 = 8) (ek_ck (kd (x0 + 3) = 112) (ek_ck (ek_in i3 12) (fMo_tryLeast_85 kd k22 I x0 i1 i2 i3 t0 x0 (I (x0 + 2) i3.toNatClampNeg) (I (x0 + 3) i3.toNatClampNeg))))) else (ek_ck (kd x0 = 8) (ek_ck (kd (x0 + 4) = 112) (ek_ck (ek_in i3 12) (fMo_tryLeast_85 kd k22 I x0 i1 i2 i3 t0 x0 (I (x0 + 2) i3.toNatClampNeg) (I (x0 + 4) i3.toNatClampNeg))))))))
def fMo_tryLeast_22 (kd : Nat → Nat) (k22 : (ek_St × Nat × Int32 × Int32 × Int32) → Option (ek_St × Int32)) (I : ek_St) (x0 : Nat) (i1 : Int32) (i2 : Int32) (i3 : Int32) : Option (ek_St × Int32) :=
  ek_ck (kd x0 = 8) (if (I x0 7) ≤ i3 then (if i2 = ((0 : Int32)) then (ek_ck (((1 : Int32)) = (0 : Int32) ∨ ((1 : Int32)) = (1 : Int32)) (some (I, (1 : Int32)))) else (ek_ck (kd x0 = 8) (ek_bv (fMo_times kd I x0 ((26 : Int32)) ((1000 : Int32))) (fun I3 => ek_ck (kd x0 = 8) (ek_bv (fMo_copy kd I3 x0 ((30 : Int32)) ((27 : Int32))) (fun I5 => ek_ck (kd x0 = 8) (ek_ck (kd x0 = 8) (ek_bv (fMo_times kd I5 x0 ((30 : Int32)) (I5 x0 2)) (fun I7 => ek_ck (kd x0 = 8) (ek_bi (fMo_compare kd I7 x0 ((26 : Int32)) ((30 : Int32))) (fun I9 ir11 => if ((0 : Int32)) ≤ ir11 then (ek_ck (kd x0 = 8) (ek_bv (fMo_add3 kd I9 x0 ((26 : Int32)) ((30 : Int32)) ((1 : Int32))) (fun I13 => ek_ck (kd x0 = 8) (ek_bv (fMo_times kd I13 x0 ((27 : Int32)) ((1000 : Int32))) (fun I15 => ek_ck (kd x0 = 8) (ek_bv (fMo_copy kd I15 x0 ((30 : Int32)) ((26 : Int32))) (fun I17 => ek_ck (kd x0 = 8) (ek_bv (fMo_product kd I17 x0 ((26 : Int32)) ((30 : Int32)) ((29 : Int32))) (fun I19 => ek_ck (kd x0 = 8) (ek_bv (fMo_copy kd I19 x0 ((30 : Int32)) ((27 : Int32))) (fun I21 => ek_ck (kd x0 = 8) (ek_bv (fMo_product kd I21 x0 ((27 : Int32)) ((30 : Int32)) ((28 : Int32))) (fun I23 => ek_ck (kd x0 = 8) (ek_bi (fMo_fits kd I23 x0 i1) (fun I25 ir27 => ek_ck (ir27 = (0 : Int32) ∨ ir27 = (1 : Int32)) (some (I25, ir27))))))))))))))))) else (ek_ck (((0 : Int32)) = (0 : Int32) ∨ ((0 : Int32)) = (1 : Int32)) (some (I9, (0 : Int32))))))))))))))) else (ek_ck (kd x0 = 8) (ek_bi (fMo_counts kd I x0 i3) (fun I28 ir30 => if ir30 = ((0 : Int32)) then (fMo_tryLeast_131 kd k22 I28 x0 i1 i2 i3) else (ek_ck (kd x0 = 8) (ek_ck (kd (x0 + 17) = 112) (ek_ck (ek_in i3 12) (if i1 ≤ (I28 (x0 + 17) i3.toNatClampNeg) then (fMo_tryLeast_56 kd k22 I28 x0 i1 i2 i3 ((0 : Int32))) else (fMo_tryLeast_56 kd k22 I28 x0 i1 i2 i3 ((1 : Int32)))))))))))
def fMo_tryLeast_0 (kd : Nat → Nat) (I : ek_St) (x0 : Nat) (i1 : Int32) : Option (ek_St × Int32) :=
  ek_ck (kd x0 = 8) (ek_bv (fMo_none kd I x0) (fun I1 => ek_ck (kd x0 = 8) (ek_bv (fMo_be kd I1 x0 ((28 : Int32)) ((0 : Int64))) (fun I3 => ek_ck (kd x0 = 8) (ek_bv (fMo_be kd I3 x0 ((29 : Int32)) ((1 : Int64))) (fun I5 => ek_lp (fun (k : (ek_St × Nat × Int32 × Int32 × Int32) → Option (ek_St × Int32)) (q : (ek_St × Nat × Int32 × Int32 × Int32)) => fMo_tryLeast_22 kd k q.1 q.2.1 q.2.2.1 q.2.2.2.1 q.2.2.2.2) ek_N (I5, x0, i1, (0 : Int32), (0 : Int32))))))))
def fMo_tryLeast (kd : Nat → Nat) (I : ek_St) (x0 : Nat) (i1 : Int32) : Option (ek_St × Int32) := fMo_tryLeast_0 kd I x0 i1
theorem dMo_tryLeast_0 : decode prog_9_method_20_code 0 = .ok (.aload_n 0, 1) := by decide +kernel
theorem dMo_tryLeast_1 : decode prog_9_method_20_code 1 = .ok (.invokevirtual 115, 3) := by decide +kernel
theorem dMo_tryLeast_4 : decode prog_9_method_20_code 4 = .ok (.aload_n 0, 1) := by decide +kernel
theorem dMo_tryLeast_5 : decode prog_9_method_20_code 5 = .ok (.bipush 28, 2) := by decide +kernel
theorem dMo_tryLeast_7 : decode prog_9_method_20_code 7 = .ok (.lconst 0, 1) := by decide +kernel
theorem dMo_tryLeast_8 : decode prog_9_method_20_code 8 = .ok (.invokevirtual 66, 3) := by decide +kernel
theorem dMo_tryLeast_11 : decode prog_9_method_20_code 11 = .ok (.aload_n 0, 1) := by decide +kernel
theorem dMo_tryLeast_12 : decode prog_9_method_20_code 12 = .ok (.bipush 29, 2) := by decide +kernel
theorem dMo_tryLeast_14 : decode prog_9_method_20_code 14 = .ok (.lconst 1, 1) := by decide +kernel
theorem dMo_tryLeast_15 : decode prog_9_method_20_code 15 = .ok (.invokevirtual 66, 3) := by decide +kernel
theorem dMo_tryLeast_18 : decode prog_9_method_20_code 18 = .ok (.iconst 0, 1) := by decide +kernel
theorem dMo_tryLeast_19 : decode prog_9_method_20_code 19 = .ok (.istore_n 2, 1) := by decide +kernel
theorem dMo_tryLeast_20 : decode prog_9_method_20_code 20 = .ok (.iconst 0, 1) := by decide +kernel
theorem dMo_tryLeast_21 : decode prog_9_method_20_code 21 = .ok (.istore_n 3, 1) := by decide +kernel
theorem dMo_tryLeast_22 : decode prog_9_method_20_code 22 = .ok (.iload_n 3, 1) := by decide +kernel
theorem dMo_tryLeast_23 : decode prog_9_method_20_code 23 = .ok (.aload_n 0, 1) := by decide +kernel
theorem dMo_tryLeast_24 : decode prog_9_method_20_code 24 = .ok (.getfield 105, 3) := by decide +kernel
theorem dMo_tryLeast_27 : decode prog_9_method_20_code 27 = .ok (.if_icmp .ge 110, 3) := by decide +kernel
theorem dMo_tryLeast_30 : decode prog_9_method_20_code 30 = .ok (.aload_n 0, 1) := by decide +kernel
theorem dMo_tryLeast_31 : decode prog_9_method_20_code 31 = .ok (.iload_n 3, 1) := by decide +kernel
theorem dMo_tryLeast_32 : decode prog_9_method_20_code 32 = .ok (.invokevirtual 108, 3) := by decide +kernel
theorem dMo_tryLeast_35 : decode prog_9_method_20_code 35 = .ok (.ifCond .ne 6, 3) := by decide +kernel
theorem dMo_tryLeast_38 : decode prog_9_method_20_code 38 = .ok (.goto 93, 3) := by decide +kernel
theorem dMo_tryLeast_41 : decode prog_9_method_20_code 41 = .ok (.aload_n 0, 1) := by decide +kernel
theorem dMo_tryLeast_42 : decode prog_9_method_20_code 42 = .ok (.getfield 63, 3) := by decide +kernel
theorem dMo_tryLeast_45 : decode prog_9_method_20_code 45 = .ok (.iload_n 3, 1) := by decide +kernel
theorem dMo_tryLeast_46 : decode prog_9_method_20_code 46 = .ok (.iaload, 1) := by decide +kernel
theorem dMo_tryLeast_47 : decode prog_9_method_20_code 47 = .ok (.iload_n 1, 1) := by decide +kernel
theorem dMo_tryLeast_48 : decode prog_9_method_20_code 48 = .ok (.if_icmp .ge 7, 3) := by decide +kernel
theorem dMo_tryLeast_51 : decode prog_9_method_20_code 51 = .ok (.iconst 1, 1) := by decide +kernel
theorem dMo_tryLeast_52 : decode prog_9_method_20_code 52 = .ok (.goto 4, 3) := by decide +kernel
theorem dMo_tryLeast_55 : decode prog_9_method_20_code 55 = .ok (.iconst 0, 1) := by decide +kernel
theorem dMo_tryLeast_56 : decode prog_9_method_20_code 56 = .ok (.istore 4, 2) := by decide +kernel
theorem dMo_tryLeast_58 : decode prog_9_method_20_code 58 = .ok (.aload_n 0, 1) := by decide +kernel
theorem dMo_tryLeast_59 : decode prog_9_method_20_code 59 = .ok (.aload_n 0, 1) := by decide +kernel
theorem dMo_tryLeast_60 : decode prog_9_method_20_code 60 = .ok (.getfield 17, 3) := by decide +kernel
theorem dMo_tryLeast_63 : decode prog_9_method_20_code 63 = .ok (.iload_n 3, 1) := by decide +kernel
theorem dMo_tryLeast_64 : decode prog_9_method_20_code 64 = .ok (.iaload, 1) := by decide +kernel
theorem dMo_tryLeast_65 : decode prog_9_method_20_code 65 = .ok (.iload 4, 2) := by decide +kernel
theorem dMo_tryLeast_67 : decode prog_9_method_20_code 67 = .ok (.ifCond .eq 12, 3) := by decide +kernel
theorem dMo_tryLeast_70 : decode prog_9_method_20_code 70 = .ok (.aload_n 0, 1) := by decide +kernel
theorem dMo_tryLeast_71 : decode prog_9_method_20_code 71 = .ok (.getfield 23, 3) := by decide +kernel
theorem dMo_tryLeast_74 : decode prog_9_method_20_code 74 = .ok (.iload_n 3, 1) := by decide +kernel
theorem dMo_tryLeast_75 : decode prog_9_method_20_code 75 = .ok (.iaload, 1) := by decide +kernel
theorem dMo_tryLeast_76 : decode prog_9_method_20_code 76 = .ok (.goto 9, 3) := by decide +kernel
theorem dMo_tryLeast_79 : decode prog_9_method_20_code 79 = .ok (.aload_n 0, 1) := by decide +kernel
theorem dMo_tryLeast_80 : decode prog_9_method_20_code 80 = .ok (.getfield 20, 3) := by decide +kernel
theorem dMo_tryLeast_83 : decode prog_9_method_20_code 83 = .ok (.iload_n 3, 1) := by decide +kernel
theorem dMo_tryLeast_84 : decode prog_9_method_20_code 84 = .ok (.iaload, 1) := by decide +kernel
theorem dMo_tryLeast_85 : decode prog_9_method_20_code 85 = .ok (.invokevirtual 118, 3) := by decide +kernel
theorem dMo_tryLeast_88 : decode prog_9_method_20_code 88 = .ok (.iload 4, 2) := by decide +kernel
theorem dMo_tryLeast_90 : decode prog_9_method_20_code 90 = .ok (.ifCond .eq 6, 3) := by decide +kernel
theorem dMo_tryLeast_93 : decode prog_9_method_20_code 93 = .ok (.goto 38, 3) := by decide +kernel
theorem dMo_tryLeast_96 : decode prog_9_method_20_code 96 = .ok (.iconst 1, 1) := by decide +kernel
theorem dMo_tryLeast_97 : decode prog_9_method_20_code 97 = .ok (.istore_n 2, 1) := by decide +kernel
theorem dMo_tryLeast_98 : decode prog_9_method_20_code 98 = .ok (.aload_n 0, 1) := by decide +kernel
theorem dMo_tryLeast_99 : decode prog_9_method_20_code 99 = .ok (.bipush 28, 2) := by decide +kernel
theorem dMo_tryLeast_101 : decode prog_9_method_20_code 101 = .ok (.aload_n 0, 1) := by decide +kernel
theorem dMo_tryLeast_102 : decode prog_9_method_20_code 102 = .ok (.getfield 26, 3) := by decide +kernel
theorem dMo_tryLeast_105 : decode prog_9_method_20_code 105 = .ok (.iload_n 3, 1) := by decide +kernel
theorem dMo_tryLeast_106 : decode prog_9_method_20_code 106 = .ok (.iaload, 1) := by decide +kernel
theorem dMo_tryLeast_107 : decode prog_9_method_20_code 107 = .ok (.invokevirtual 102, 3) := by decide +kernel
theorem dMo_tryLeast_110 : decode prog_9_method_20_code 110 = .ok (.aload_n 0, 1) := by decide +kernel
theorem dMo_tryLeast_111 : decode prog_9_method_20_code 111 = .ok (.bipush 28, 2) := by decide +kernel
theorem dMo_tryLeast_113 : decode prog_9_method_20_code 113 = .ok (.bipush 29, 2) := by decide +kernel
theorem dMo_tryLeast_115 : decode prog_9_method_20_code 115 = .ok (.iconst 0, 1) := by decide +kernel
theorem dMo_tryLeast_116 : decode prog_9_method_20_code 116 = .ok (.invokevirtual 95, 3) := by decide +kernel
theorem dMo_tryLeast_119 : decode prog_9_method_20_code 119 = .ok (.aload_n 0, 1) := by decide +kernel
theorem dMo_tryLeast_120 : decode prog_9_method_20_code 120 = .ok (.bipush 29, 2) := by decide +kernel
theorem dMo_tryLeast_122 : decode prog_9_method_20_code 122 = .ok (.aload_n 0, 1) := by decide +kernel
theorem dMo_tryLeast_123 : decode prog_9_method_20_code 123 = .ok (.getfield 26, 3) := by decide +kernel
theorem dMo_tryLeast_126 : decode prog_9_method_20_code 126 = .ok (.iload_n 3, 1) := by decide +kernel
theorem dMo_tryLeast_127 : decode prog_9_method_20_code 127 = .ok (.iaload, 1) := by decide +kernel
theorem dMo_tryLeast_128 : decode prog_9_method_20_code 128 = .ok (.invokevirtual 102, 3) := by decide +kernel
theorem dMo_tryLeast_131 : decode prog_9_method_20_code 131 = .ok (.iinc 3 1, 3) := by decide +kernel
theorem dMo_tryLeast_134 : decode prog_9_method_20_code 134 = .ok (.goto (-112), 3) := by decide +kernel
theorem dMo_tryLeast_137 : decode prog_9_method_20_code 137 = .ok (.iload_n 2, 1) := by decide +kernel
theorem dMo_tryLeast_138 : decode prog_9_method_20_code 138 = .ok (.ifCond .ne 5, 3) := by decide +kernel
theorem dMo_tryLeast_141 : decode prog_9_method_20_code 141 = .ok (.iconst 1, 1) := by decide +kernel
theorem dMo_tryLeast_142 : decode prog_9_method_20_code 142 = .ok (.ireturn, 1) := by decide +kernel
theorem dMo_tryLeast_143 : decode prog_9_method_20_code 143 = .ok (.aload_n 0, 1) := by decide +kernel
theorem dMo_tryLeast_144 : decode prog_9_method_20_code 144 = .ok (.bipush 26, 2) := by decide +kernel
theorem dMo_tryLeast_146 : decode prog_9_method_20_code 146 = .ok (.sipush 1000, 3) := by decide +kernel
theorem dMo_tryLeast_149 : decode prog_9_method_20_code 149 = .ok (.invokevirtual 102, 3) := by decide +kernel
theorem dMo_tryLeast_152 : decode prog_9_method_20_code 152 = .ok (.aload_n 0, 1) := by decide +kernel
theorem dMo_tryLeast_153 : decode prog_9_method_20_code 153 = .ok (.bipush 30, 2) := by decide +kernel
theorem dMo_tryLeast_155 : decode prog_9_method_20_code 155 = .ok (.bipush 27, 2) := by decide +kernel
theorem dMo_tryLeast_157 : decode prog_9_method_20_code 157 = .ok (.invokevirtual 87, 3) := by decide +kernel
theorem dMo_tryLeast_160 : decode prog_9_method_20_code 160 = .ok (.aload_n 0, 1) := by decide +kernel
theorem dMo_tryLeast_161 : decode prog_9_method_20_code 161 = .ok (.bipush 30, 2) := by decide +kernel
theorem dMo_tryLeast_163 : decode prog_9_method_20_code 163 = .ok (.aload_n 0, 1) := by decide +kernel
theorem dMo_tryLeast_164 : decode prog_9_method_20_code 164 = .ok (.getfield 7, 3) := by decide +kernel
theorem dMo_tryLeast_167 : decode prog_9_method_20_code 167 = .ok (.invokevirtual 102, 3) := by decide +kernel
theorem dMo_tryLeast_170 : decode prog_9_method_20_code 170 = .ok (.aload_n 0, 1) := by decide +kernel
theorem dMo_tryLeast_171 : decode prog_9_method_20_code 171 = .ok (.bipush 26, 2) := by decide +kernel
theorem dMo_tryLeast_173 : decode prog_9_method_20_code 173 = .ok (.bipush 30, 2) := by decide +kernel
theorem dMo_tryLeast_175 : decode prog_9_method_20_code 175 = .ok (.invokevirtual 91, 3) := by decide +kernel
theorem dMo_tryLeast_178 : decode prog_9_method_20_code 178 = .ok (.ifCond .ge 5, 3) := by decide +kernel
theorem dMo_tryLeast_181 : decode prog_9_method_20_code 181 = .ok (.iconst 0, 1) := by decide +kernel
theorem dMo_tryLeast_182 : decode prog_9_method_20_code 182 = .ok (.ireturn, 1) := by decide +kernel
theorem dMo_tryLeast_183 : decode prog_9_method_20_code 183 = .ok (.aload_n 0, 1) := by decide +kernel
theorem dMo_tryLeast_184 : decode prog_9_method_20_code 184 = .ok (.bipush 26, 2) := by decide +kernel
theorem dMo_tryLeast_186 : decode prog_9_method_20_code 186 = .ok (.bipush 30, 2) := by decide +kernel
theorem dMo_tryLeast_188 : decode prog_9_method_20_code 188 = .ok (.iconst 1, 1) := by decide +kernel
theorem dMo_tryLeast_189 : decode prog_9_method_20_code 189 = .ok (.invokevirtual 95, 3) := by decide +kernel
theorem dMo_tryLeast_192 : decode prog_9_method_20_code 192 = .ok (.aload_n 0, 1) := by decide +kernel
theorem dMo_tryLeast_193 : decode prog_9_method_20_code 193 = .ok (.bipush 27, 2) := by decide +kernel
theorem dMo_tryLeast_195 : decode prog_9_method_20_code 195 = .ok (.sipush 1000, 3) := by decide +kernel
theorem dMo_tryLeast_198 : decode prog_9_method_20_code 198 = .ok (.invokevirtual 102, 3) := by decide +kernel
theorem dMo_tryLeast_201 : decode prog_9_method_20_code 201 = .ok (.aload_n 0, 1) := by decide +kernel
theorem dMo_tryLeast_202 : decode prog_9_method_20_code 202 = .ok (.bipush 30, 2) := by decide +kernel
theorem dMo_tryLeast_204 : decode prog_9_method_20_code 204 = .ok (.bipush 26, 2) := by decide +kernel
theorem dMo_tryLeast_206 : decode prog_9_method_20_code 206 = .ok (.invokevirtual 87, 3) := by decide +kernel
theorem dMo_tryLeast_209 : decode prog_9_method_20_code 209 = .ok (.aload_n 0, 1) := by decide +kernel
theorem dMo_tryLeast_210 : decode prog_9_method_20_code 210 = .ok (.bipush 26, 2) := by decide +kernel
theorem dMo_tryLeast_212 : decode prog_9_method_20_code 212 = .ok (.bipush 30, 2) := by decide +kernel
theorem dMo_tryLeast_214 : decode prog_9_method_20_code 214 = .ok (.bipush 29, 2) := by decide +kernel
theorem dMo_tryLeast_216 : decode prog_9_method_20_code 216 = .ok (.invokevirtual 121, 3) := by decide +kernel
theorem dMo_tryLeast_219 : decode prog_9_method_20_code 219 = .ok (.aload_n 0, 1) := by decide +kernel
theorem dMo_tryLeast_220 : decode prog_9_method_20_code 220 = .ok (.bipush 30, 2) := by decide +kernel
theorem dMo_tryLeast_222 : decode prog_9_method_20_code 222 = .ok (.bipush 27, 2) := by decide +kernel
theorem dMo_tryLeast_224 : decode prog_9_method_20_code 224 = .ok (.invokevirtual 87, 3) := by decide +kernel
theorem dMo_tryLeast_227 : decode prog_9_method_20_code 227 = .ok (.aload_n 0, 1) := by decide +kernel
theorem dMo_tryLeast_228 : decode prog_9_method_20_code 228 = .ok (.bipush 27, 2) := by decide +kernel
theorem dMo_tryLeast_230 : decode prog_9_method_20_code 230 = .ok (.bipush 30, 2) := by decide +kernel
theorem dMo_tryLeast_232 : decode prog_9_method_20_code 232 = .ok (.bipush 28, 2) := by decide +kernel
theorem dMo_tryLeast_234 : decode prog_9_method_20_code 234 = .ok (.invokevirtual 121, 3) := by decide +kernel
theorem dMo_tryLeast_237 : decode prog_9_method_20_code 237 = .ok (.aload_n 0, 1) := by decide +kernel
theorem dMo_tryLeast_238 : decode prog_9_method_20_code 238 = .ok (.iload_n 1, 1) := by decide +kernel
theorem dMo_tryLeast_239 : decode prog_9_method_20_code 239 = .ok (.invokevirtual 125, 3) := by decide +kernel
theorem dMo_tryLeast_242 : decode prog_9_method_20_code 242 = .ok (.ireturn, 1) := by decide +kernel
set_option maxHeartbeats 4000000 in
set_option maxRecDepth 100000 in
theorem wMo_tryLeast_131 {l : Launch} {G : ek_G} {kd : Nat → Nat} {p : Program} {e : Env} {s : State} {m : MethodId} {args : Array Value} {below : List Frame} {meth : Method} {c : Code} (X : ek_X p s m meth c args G prog_9_method_20_code 5 "ElasticKernelModel" (some .boolean)) {q : ek_St × Int32} {k22 : (ek_St × Nat × Int32 × Int32 × Int32) → Option (ek_St × Int32)} (hk22 : ∀ q0 : ek_St × Nat × Int32 × Int32 × Int32, k22 q0 = some q → ∀ (H : Heap) (locs : List Loc) (ls : Array Slot), ek_W G kd q0.1 H → va_S (ek_A G kd) s.heap H locs → lv_has ls 5 [(0, ek_r G q0.2.1), (1, .int q0.2.2.1), (2, .int q0.2.2.2.1), (3, .int q0.2.2.2.2)] → W p l e ({ frames := 2, cells := 0, slots := 0, locals := 53 } : Room) s m args below meth c H locs 0 0 (MQ below (ek_Q G kd (some (.int q.2)) q.1) args s 0 0 (ek_A G kd)) (F0 m 22 ls [])) {I : ek_St} {x0 : Nat} {i1 : Int32} {i2 : Int32} {i3 : Int32} (hf : fMo_tryLeast_131 kd k22 I x0 i1 i2 i3 = some q) {H : Heap} {locs : List Loc} {ls : Array Slot} (hw : ek_W G kd I H) (hS : va_S (ek_A G kd) s.heap H locs) (hl : lv_has ls 5 [(0, ek_r G x0), (1, .int i1), (2, .int i2), (3, .int i3)]) : W p l e ({ frames := 2, cells := 0, slots := 0, locals := 53 } : Room) s m args below meth c H locs 0 0 (MQ below (ek_Q G kd (some (.int q.2)) q.1) args s 0 0 (ek_A G kd)) (F0 m 131 ls []) := by
  obtain ⟨hx, hb, hml, hown, hts, hr, hlocks, hK⟩ := id X
  have hA : ∀ q, ek_A G kd q → ek_A G kd q := fun _ h => h
  unfold fMo_tryLeast_131 at hf
  refine ek_iinc hx hb 3 (fun i3_1 => [(3, .int i3_1), (2, .int i2), (0, ek_r G x0), (1, .int i1)]) dMo_tryLeast_131 hl rfl (v := i3 + (1 : Int32)) rfl hf (by decide) (fun i3_1 => ek_s1k 2 rfl rfl rfl rfl rfl) (fun i3_1 ls hf hl => ?_)
  refine lv_goto (tgt := 22) hx hb dMo_tryLeast_134 (by decide) ?_
  exact hk22 (I, x0, i1, i2, i3_1) hf _ _ _ hw hS (lv_sub hl [2, 3, 1, 0] rfl)
set_option maxHeartbeats 4000000 in
set_option maxRecDepth 100000 in
theorem wMo_tryLeast_85 {l : Launch} {G : ek_G} {kd : Nat → Nat} {p : Program} {e : Env} {s : State} {m : MethodId} {args : Array Value} {below : List Frame} {meth : Method} {c : Code} (X : ek_X p s m meth c args G prog_9_method_20_code 5 "ElasticKernelModel" (some .boolean)) {q : ek_St × Int32} {k22 : (ek_St × Nat × Int32 × Int32 × Int32) → Option (ek_St × Int32)} (hk22 : ∀ q0 : ek_St × Nat × Int32 × Int32 × Int32, k22 q0 = some q → ∀ (H : Heap) (locs : List Loc) (ls : Array Slot), ek_W G kd q0.1 H → va_S (ek_A G kd) s.heap H locs → lv_has ls 5 [(0, ek_r G q0.2.1), (1, .int q0.2.2.1), (2, .int q0.2.2.2.1), (3, .int q0.2.2.2.2)] → W p l e ({ frames := 2, cells := 0, slots := 0, locals := 53 } : Room) s m args below meth c H locs 0 0 (MQ below (ek_Q G kd (some (.int q.2)) q.1) args s 0 0 (ek_A G kd)) (F0 m 22 ls [])) {I : ek_St} {x0 : Nat} {i1 : Int32} {i2 : Int32} {i3 : Int32} {i4 : Int32} {t0 : Nat} {t1 : Int32} {t2 : Int32} (hf : fMo_tryLeast_85 kd k22 I x0 i1 i2 i3 i4 t0 t1 t2 = some q) {H : Heap} {locs : List Loc} {ls : Array Slot} (hw : ek_W G kd I H) (hS : va_S (ek_A G kd) s.heap H locs) (hl : lv_has ls 5 [(0, ek_r G x0), (1, .int i1), (2, .int i2), (3, .int i3), (4, .int i4)]) : W p l e ({ frames := 2, cells := 0, slots := 0, locals := 53 } : Room) s m args below meth c H locs 0 0 (MQ below (ek_Q G kd (some (.int q.2)) q.1) args s 0 0 (ek_A G kd)) (F0 m 85 ls [.int t2, .int t1, ek_r G t0]) := by
  obtain ⟨hx, hb, hml, hown, hts, hr, hlocks, hK⟩ := id X
  have hA : ∀ q, ek_A G kd q → ek_A G kd q := fun _ h => h
  unfold fMo_tryLeast_85 at hf
  obtain ⟨hx2, hf⟩ := ek_ck_s hf
  refine ek_cv hf hS hA (fun I' hq => ek_rV (As := [.int t1, .int t2]) ⟨hx, hb, hml, hown, hts⟩ hK hw 8 rfl (by decide) (by decide) hx2 (mMo_addFraction hq) (cwV 2 hts (lw_V q_681 q_683 p_21 q_8 q_684) rfl rfl rfl (by decide +kernel) ⟨Nat.le_of_ble_eq_true rfl, Nat.le_of_ble_eq_true rfl⟩) rfl hl.1 rfl (Nat.le_of_ble_eq_true rfl) dMo_tryLeast_85 ⟨Nat.zero_le _, Nat.zero_le _⟩) (fun I1 H locs hf hw hS => ?_)
  refine lv_iload hx hb dMo_tryLeast_88 (lv_at hl 4 rfl) ?_
  refine lv_if_eq (tgt := 96) hx hb dMo_tryLeast_90 (by decide) (fun c3 => ?_) (fun c3 => ?_)
  · have hf := ek_t c3 hf
    refine lv_iconst (v := (1 : Int32)) hx hb dMo_tryLeast_96 (by decide) ?_
    refine ek_istore_n (lv' := [(2, .int ((1 : Int32))), (1, .int i1), (0, ek_r G x0), (3, .int i3), (4, .int i4)]) hx hb dMo_tryLeast_97 rfl hl (by decide) (ek_s1k 1 rfl rfl rfl rfl rfl) (fun ls hl => ?_)
    refine ek_aload_n hx hb dMo_tryLeast_98 rfl (lv_at hl 2 rfl) ?_
    refine lv_bipush (v := (28 : Int32)) hx hb dMo_tryLeast_99 (by decide) ?_
    refine ek_aload_n hx hb dMo_tryLeast_101 rfl (lv_at hl 2 rfl) ?_
    refine ek_getr hx hb 8 hts (in_Mo) hown hK hw rfl (by decide) (by decide) 12 (by decide) (n := 4) rfl rfl (hts _ q_588) hf dMo_tryLeast_102 (fun hf => ?_)
    refine lv_iload_n hx hb dMo_tryLeast_105 rfl (lv_at hl 3 rfl) ?_
    refine ek_iald hx hb hK hw 12 rfl hf dMo_tryLeast_106 (fun hf => ?_)
    obtain ⟨hx5, hf⟩ := ek_ck_s hf
    refine ek_cv hf hS hA (fun I' hq => ek_rV (As := [.int ((28 : Int32)), .int (I1 (x0 + 5) i3.toNatClampNeg)]) ⟨hx, hb, hml, hown, hts⟩ hK hw 8 rfl (by decide) (by decide) hx5 (mMo_times hq) (cwV 2 hts (lw_V q_685 q_687 p_22 q_8 q_688) rfl rfl rfl (by decide +kernel) ⟨Nat.le_of_ble_eq_true rfl, Nat.le_of_ble_eq_true rfl⟩) rfl hl.1 rfl (Nat.le_of_ble_eq_true rfl) dMo_tryLeast_107 ⟨Nat.zero_le _, Nat.zero_le _⟩) (fun I4 H locs hf hw hS => ?_)
    refine ek_aload_n hx hb dMo_tryLeast_110 rfl (lv_at hl 2 rfl) ?_
    refine lv_bipush (v := (28 : Int32)) hx hb dMo_tryLeast_111 (by decide) ?_
    refine lv_bipush (v := (29 : Int32)) hx hb dMo_tryLeast_113 (by decide) ?_
    refine lv_iconst (v := (0 : Int32)) hx hb dMo_tryLeast_115 (by decide) ?_
    obtain ⟨hx7, hf⟩ := ek_ck_s hf
    refine ek_cv hf hS hA (fun I' hq => ek_rV (As := [.int ((28 : Int32)), .int ((29 : Int32)), .int ((0 : Int32))]) ⟨hx, hb, hml, hown, hts⟩ hK hw 8 rfl (by decide) (by decide) hx7 (mMo_add3 hq) (cwV 3 hts (lw_V q_689 q_691 p_23 q_8 q_692) rfl rfl rfl (by decide +kernel) ⟨Nat.le_of_ble_eq_true rfl, Nat.le_of_ble_eq_true rfl⟩) rfl hl.1 rfl (Nat.le_of_ble_eq_true rfl) dMo_tryLeast_116 ⟨Nat.zero_le _, Nat.zero_le _⟩) (fun I6 H locs hf hw hS => ?_)
    refine ek_aload_n hx hb dMo_tryLeast_119 rfl (lv_at hl 2 rfl) ?_
    refine lv_bipush (v := (29 : Int32)) hx hb dMo_tryLeast_120 (by decide) ?_
    refine ek_aload_n hx hb dMo_tryLeast_122 rfl (lv_at hl 2 rfl) ?_
    refine ek_getr hx hb 8 hts (in_Mo) hown hK hw rfl (by decide) (by decide) 12 (by decide) (n := 4) rfl rfl (hts _ q_588) hf dMo_tryLeast_123 (fun hf => ?_)
    refine lv_iload_n hx hb dMo_tryLeast_126 rfl (lv_at hl 3 rfl) ?_
    refine ek_iald hx hb hK hw 12 rfl hf dMo_tryLeast_127 (fun hf => ?_)
    obtain ⟨hx9, hf⟩ := ek_ck_s hf
    refine ek_cv hf hS hA (fun I' hq => ek_rV (As := [.int ((29 : Int32)), .int (I6 (x0 + 5) i3.toNatClampNeg)]) ⟨hx, hb, hml, hown, hts⟩ hK hw 8 rfl (by decide) (by decide) hx9 (mMo_times hq) (cwV 2 hts (lw_V q_685 q_687 p_22 q_8 q_688) rfl rfl rfl (by decide +kernel) ⟨Nat.le_of_ble_eq_true rfl, Nat.le_of_ble_eq_true rfl⟩) rfl hl.1 rfl (Nat.le_of_ble_eq_true rfl) dMo_tryLeast_128 ⟨Nat.zero_le _, Nat.zero_le _⟩) (fun I8 H locs hf hw hS => ?_)
    exact wMo_tryLeast_131 X hk22 hf hw hS (lv_sub hl [2, 1, 0, 3] rfl)
  · have hf := ek_f c3 hf
    refine lv_goto (tgt := 131) hx hb dMo_tryLeast_93 (by decide) ?_
    exact wMo_tryLeast_131 X hk22 hf hw hS (lv_sub hl [0, 1, 2, 3] rfl)
set_option maxHeartbeats 4000000 in
set_option maxRecDepth 100000 in
theorem wMo_tryLeast_56 {l : Launch} {G : ek_G} {kd : Nat → Nat} {p : Program} {e : Env} {s : State} {m : MethodId} {args : Array Value} {below : List Frame} {meth : Method} {c : Code} (X : ek_X p s m meth c args G prog_9_method_20_code 5 "ElasticKernelModel" (some .boolean)) {q : ek_St × Int32} {k22 : (ek_St × Nat × Int32 × Int32 × Int32) → Option (ek_St × Int32)} (hk22 : ∀ q0 : ek_St × Nat × Int32 × Int32 × Int32, k22 q0 = some q → ∀ (H : Heap) (locs : List Loc) (ls : Array Slot), ek_W G kd q0.1 H → va_S (ek_A G kd) s.heap H locs → lv_has ls 5 [(0, ek_r G q0.2.1), (1, .int q0.2.2.1), (2, .int q0.2.2.2.1), (3, .int q0.2.2.2.2)] → W p l e ({ frames := 2, cells := 0, slots := 0, locals := 53 } : Room) s m args below meth c H locs 0 0 (MQ below (ek_Q G kd (some (.int q.2)) q.1) args s 0 0 (ek_A G kd)) (F0 m 22 ls [])) {I : ek_St} {x0 : Nat} {i1 : Int32} {i2 : Int32} {i3 : Int32} {t0 : Int32} (hf : fMo_tryLeast_56 kd k22 I x0 i1 i2 i3 t0 = some q) {H : Heap} {locs : List Loc} {ls : Array Slot} (hw : ek_W G kd I H) (hS : va_S (ek_A G kd) s.heap H locs) (hl : lv_has ls 5 [(0, ek_r G x0), (1, .int i1), (2, .int i2), (3, .int i3)]) : W p l e ({ frames := 2, cells := 0, slots := 0, locals := 53 } : Room) s m args below meth c H locs 0 0 (MQ below (ek_Q G kd (some (.int q.2)) q.1) args s 0 0 (ek_A G kd)) (F0 m 56 ls [.int t0]) := by
  obtain ⟨hx, hb, hml, hown, hts, hr, hlocks, hK⟩ := id X
  have hA : ∀ q, ek_A G kd q → ek_A G kd q := fun _ h => h
  unfold fMo_tryLeast_56 at hf
  refine ek_istore (lv' := [(4, .int t0), (3, .int i3), (0, ek_r G x0), (1, .int i1), (2, .int i2)]) hx hb dMo_tryLeast_56 hl (by decide) (ek_s1k 3 rfl rfl rfl rfl rfl) (fun ls hl => ?_)
  refine ek_aload_n hx hb dMo_tryLeast_58 rfl (lv_at hl 2 rfl) ?_
  refine ek_aload_n hx hb dMo_tryLeast_59 rfl (lv_at hl 2 rfl) ?_
  refine ek_getr hx hb 8 hts (in_Mo) hown hK hw rfl (by decide) (by decide) 9 (by decide) (n := 1) rfl rfl (hts _ q_585) hf dMo_tryLeast_60 (fun hf => ?_)
  refine lv_iload_n hx hb dMo_tryLeast_63 rfl (lv_at hl 1 rfl) ?_
  refine ek_iald hx hb hK hw 12 rfl hf dMo_tryLeast_64 (fun hf => ?_)
  refine lv_iload hx hb dMo_tryLeast_65 (lv_at hl 0 rfl) ?_
  refine lv_if_eq (tgt := 79) hx hb dMo_tryLeast_67 (by decide) (fun c1 => ?_) (fun c1 => ?_)
  · have hf := ek_t c1 hf
    refine ek_aload_n hx hb dMo_tryLeast_79 rfl (lv_at hl 2 rfl) ?_
    refine ek_getr hx hb 8 hts (in_Mo) hown hK hw rfl (by decide) (by decide) 10 (by decide) (n := 2) rfl rfl (hts _ q_586) hf dMo_tryLeast_80 (fun hf => ?_)
    refine lv_iload_n hx hb dMo_tryLeast_83 rfl (lv_at hl 1 rfl) ?_
    refine ek_iald hx hb hK hw 12 rfl hf dMo_tryLeast_84 (fun hf => ?_)
    exact wMo_tryLeast_85 X hk22 hf hw hS (lv_sub hl [2, 3, 4, 1, 0] rfl)
  · have hf := ek_f c1 hf
    refine ek_aload_n hx hb dMo_tryLeast_70 rfl (lv_at hl 2 rfl) ?_
    refine ek_getr hx hb 8 hts (in_Mo) hown hK hw rfl (by decide) (by decide) 11 (by decide) (n := 3) rfl rfl (hts _ q_587) hf dMo_tryLeast_71 (fun hf => ?_)
    refine lv_iload_n hx hb dMo_tryLeast_74 rfl (lv_at hl 1 rfl) ?_
    refine ek_iald hx hb hK hw 12 rfl hf dMo_tryLeast_75 (fun hf => ?_)
    refine lv_goto (tgt := 85) hx hb dMo_tryLeast_76 (by decide) ?_
    exact wMo_tryLeast_85 X hk22 hf hw hS (lv_sub hl [2, 3, 4, 1, 0] rfl)
set_option maxHeartbeats 4000000 in
set_option maxRecDepth 100000 in
theorem wMo_tryLeast_22 {l : Launch} {G : ek_G} {kd : Nat → Nat} {p : Program} {e : Env} {s : State} {m : MethodId} {args : Array Value} {below : List Frame} {meth : Method} {c : Code} (X : ek_X p s m meth c args G prog_9_method_20_code 5 "ElasticKernelModel" (some .boolean)) {q : ek_St × Int32} {k22 : (ek_St × Nat × Int32 × Int32 × Int32) → Option (ek_St × Int32)} (hk22 : ∀ q0 : ek_St × Nat × Int32 × Int32 × Int32, k22 q0 = some q → ∀ (H : Heap) (locs : List Loc) (ls : Array Slot), ek_W G kd q0.1 H → va_S (ek_A G kd) s.heap H locs → lv_has ls 5 [(0, ek_r G q0.2.1), (1, .int q0.2.2.1), (2, .int q0.2.2.2.1), (3, .int q0.2.2.2.2)] → W p l e ({ frames := 2, cells := 0, slots := 0, locals := 53 } : Room) s m args below meth c H locs 0 0 (MQ below (ek_Q G kd (some (.int q.2)) q.1) args s 0 0 (ek_A G kd)) (F0 m 22 ls [])) {I : ek_St} {x0 : Nat} {i1 : Int32} {i2 : Int32} {i3 : Int32} (hf : fMo_tryLeast_22 kd k22 I x0 i1 i2 i3 = some q) {H : Heap} {locs : List Loc} {ls : Array Slot} (hw : ek_W G kd I H) (hS : va_S (ek_A G kd) s.heap H locs) (hl : lv_has ls 5 [(0, ek_r G x0), (1, .int i1), (2, .int i2), (3, .int i3)]) : W p l e ({ frames := 2, cells := 0, slots := 0, locals := 53 } : Room) s m args below meth c H locs 0 0 (MQ below (ek_Q G kd (some (.int q.2)) q.1) args s 0 0 (ek_A G kd)) (F0 m 22 ls []) := by
  obtain ⟨hx, hb, hml, hown, hts, hr, hlocks, hK⟩ := id X
  have hA : ∀ q, ek_A G kd q → ek_A G kd q := fun _ h => h
  unfold fMo_tryLeast_22 at hf
  refine lv_iload_n hx hb dMo_tryLeast_22 rfl (lv_at hl 3 rfl) ?_
  refine ek_aload_n hx hb dMo_tryLeast_23 rfl (lv_at hl 0 rfl) ?_
  refine ek_geti hx hb 8 hts (in_Mo) hown hK hw rfl (by decide) (by decide) 7 (by decide) rfl (hts _ q_583) hf dMo_tryLeast_24 (fun hf => ?_)
  refine lv_icmp_ge (tgt := 137) hx hb dMo_tryLeast_27 (by decide) (fun c1 => ?_) (fun c1 => ?_)
  · have hf := ek_t c1 hf
    refine lv_iload_n hx hb dMo_tryLeast_137 rfl (lv_at hl 2 rfl) ?_
    refine lv_if_ne (tgt := 143) hx hb dMo_tryLeast_138 (by decide) (fun c2 => ?_) (fun c2 => ?_)
    · have hf := ek_f c2 hf
      refine ek_aload_n hx hb dMo_tryLeast_143 rfl (lv_at hl 0 rfl) ?_
      refine lv_bipush (v := (26 : Int32)) hx hb dMo_tryLeast_144 (by decide) ?_
      refine lv_sipush (v := (1000 : Int32)) hx hb dMo_tryLeast_146 (by decide) ?_
      obtain ⟨hx4, hf⟩ := ek_ck_s hf
      refine ek_cv hf hS hA (fun I' hq => ek_rV (As := [.int ((26 : Int32)), .int ((1000 : Int32))]) ⟨hx, hb, hml, hown, hts⟩ hK hw 8 rfl (by decide) (by decide) hx4 (mMo_times hq) (cwV 2 hts (lw_V q_685 q_687 p_22 q_8 q_688) rfl rfl rfl (by decide +kernel) ⟨Nat.le_of_ble_eq_true rfl, Nat.le_of_ble_eq_true rfl⟩) rfl hl.1 rfl (Nat.le_of_ble_eq_true rfl) dMo_tryLeast_149 ⟨Nat.zero_le _, Nat.zero_le _⟩) (fun I3 H locs hf hw hS => ?_)
      refine ek_aload_n hx hb dMo_tryLeast_152 rfl (lv_at hl 0 rfl) ?_
      refine lv_bipush (v := (30 : Int32)) hx hb dMo_tryLeast_153 (by decide) ?_
      refine lv_bipush (v := (27 : Int32)) hx hb dMo_tryLeast_155 (by decide) ?_
      obtain ⟨hx6, hf⟩ := ek_ck_s hf
      refine ek_cv hf hS hA (fun I' hq => ek_rV (As := [.int ((30 : Int32)), .int ((27 : Int32))]) ⟨hx, hb, hml, hown, hts⟩ hK hw 8 rfl (by decide) (by decide) hx6 (mMo_copy hq) (cwV 2 hts (lw_V q_669 q_671 p_18 q_8 q_672) rfl rfl rfl (by decide +kernel) ⟨Nat.le_of_ble_eq_true rfl, Nat.le_of_ble_eq_true rfl⟩) rfl hl.1 rfl (Nat.le_of_ble_eq_true rfl) dMo_tryLeast_157 ⟨Nat.zero_le _, Nat.zero_le _⟩) (fun I5 H locs hf hw hS => ?_)
      refine ek_aload_n hx hb dMo_tryLeast_160 rfl (lv_at hl 0 rfl) ?_
      refine lv_bipush (v := (30 : Int32)) hx hb dMo_tryLeast_161 (by decide) ?_
      refine ek_aload_n hx hb dMo_tryLeast_163 rfl (lv_at hl 0 rfl) ?_
      refine ek_geti hx hb 8 hts (in_Mo) hown hK hw rfl (by decide) (by decide) 2 (by decide) rfl (hts _ q_578) hf dMo_tryLeast_164 (fun hf => ?_)
      obtain ⟨hx8, hf⟩ := ek_ck_s hf
      refine ek_cv hf hS hA (fun I' hq => ek_rV (As := [.int ((30 : Int32)), .int (I5 x0 2)]) ⟨hx, hb, hml, hown, hts⟩ hK hw 8 rfl (by decide) (by decide) hx8 (mMo_times hq) (cwV 2 hts (lw_V q_685 q_687 p_22 q_8 q_688) rfl rfl rfl (by decide +kernel) ⟨Nat.le_of_ble_eq_true rfl, Nat.le_of_ble_eq_true rfl⟩) rfl hl.1 rfl (Nat.le_of_ble_eq_true rfl) dMo_tryLeast_167 ⟨Nat.zero_le _, Nat.zero_le _⟩) (fun I7 H locs hf hw hS => ?_)
      refine ek_aload_n hx hb dMo_tryLeast_170 rfl (lv_at hl 0 rfl) ?_
      refine lv_bipush (v := (26 : Int32)) hx hb dMo_tryLeast_171 (by decide) ?_
      refine lv_bipush (v := (30 : Int32)) hx hb dMo_tryLeast_173 (by decide) ?_
      obtain ⟨hx10, hf⟩ := ek_ck_s hf
      refine ek_ci hf hS hA (fun I' v hq => ek_rV (As := [.int ((26 : Int32)), .int ((30 : Int32))]) ⟨hx, hb, hml, hown, hts⟩ hK hw 8 rfl (by decide) (by decide) hx10 (mMo_compare hq) (cwV 2 hts (lw_V q_698 q_700 p_25 q_8 q_701) rfl rfl rfl (by decide +kernel) ⟨Nat.le_of_ble_eq_true rfl, Nat.le_of_ble_eq_true rfl⟩) rfl hl.1 rfl (Nat.le_of_ble_eq_true rfl) dMo_tryLeast_175 ⟨Nat.zero_le _, Nat.zero_le _⟩) (fun I9 ir11 H locs hf hw hS => ?_)
      refine lv_if_ge (tgt := 183) hx hb dMo_tryLeast_178 (by decide) (fun c12 => ?_) (fun c12 => ?_)
      · have hf := ek_t c12 hf
        refine ek_aload_n hx hb dMo_tryLeast_183 rfl (lv_at hl 0 rfl) ?_
        refine lv_bipush (v := (26 : Int32)) hx hb dMo_tryLeast_184 (by decide) ?_
        refine lv_bipush (v := (30 : Int32)) hx hb dMo_tryLeast_186 (by decide) ?_
        refine lv_iconst (v := (1 : Int32)) hx hb dMo_tryLeast_188 (by decide) ?_
        obtain ⟨hx14, hf⟩ := ek_ck_s hf
        refine ek_cv hf hS hA (fun I' hq => ek_rV (As := [.int ((26 : Int32)), .int ((30 : Int32)), .int ((1 : Int32))]) ⟨hx, hb, hml, hown, hts⟩ hK hw 8 rfl (by decide) (by decide) hx14 (mMo_add3 hq) (cwV 3 hts (lw_V q_689 q_691 p_23 q_8 q_692) rfl rfl rfl (by decide +kernel) ⟨Nat.le_of_ble_eq_true rfl, Nat.le_of_ble_eq_true rfl⟩) rfl hl.1 rfl (Nat.le_of_ble_eq_true rfl) dMo_tryLeast_189 ⟨Nat.zero_le _, Nat.zero_le _⟩) (fun I13 H locs hf hw hS => ?_)
        refine ek_aload_n hx hb dMo_tryLeast_192 rfl (lv_at hl 0 rfl) ?_
        refine lv_bipush (v := (27 : Int32)) hx hb dMo_tryLeast_193 (by decide) ?_
        refine lv_sipush (v := (1000 : Int32)) hx hb dMo_tryLeast_195 (by decide) ?_
        obtain ⟨hx16, hf⟩ := ek_ck_s hf
        refine ek_cv hf hS hA (fun I' hq => ek_rV (As := [.int ((27 : Int32)), .int ((1000 : Int32))]) ⟨hx, hb, hml, hown, hts⟩ hK hw 8 rfl (by decide) (by decide) hx16 (mMo_times hq) (cwV 2 hts (lw_V q_685 q_687 p_22 q_8 q_688) rfl rfl rfl (by decide +kernel) ⟨Nat.le_of_ble_eq_true rfl, Nat.le_of_ble_eq_true rfl⟩) rfl hl.1 rfl (Nat.le_of_ble_eq_true rfl) dMo_tryLeast_198 ⟨Nat.zero_le _, Nat.zero_le _⟩) (fun I15 H locs hf hw hS => ?_)
        refine ek_aload_n hx hb dMo_tryLeast_201 rfl (lv_at hl 0 rfl) ?_
        refine lv_bipush (v := (30 : Int32)) hx hb dMo_tryLeast_202 (by decide) ?_
        refine lv_bipush (v := (26 : Int32)) hx hb dMo_tryLeast_204 (by decide) ?_
        obtain ⟨hx18, hf⟩ := ek_ck_s hf
        refine ek_cv hf hS hA (fun I' hq => ek_rV (As := [.int ((30 : Int32)), .int ((26 : Int32))]) ⟨hx, hb, hml, hown, hts⟩ hK hw 8 rfl (by decide) (by decide) hx18 (mMo_copy hq) (cwV 2 hts (lw_V q_669 q_671 p_18 q_8 q_672) rfl rfl rfl (by decide +kernel) ⟨Nat.le_of_ble_eq_true rfl, Nat.le_of_ble_eq_true rfl⟩) rfl hl.1 rfl (Nat.le_of_ble_eq_true rfl) dMo_tryLeast_206 ⟨Nat.zero_le _, Nat.zero_le _⟩) (fun I17 H locs hf hw hS => ?_)
        refine ek_aload_n hx hb dMo_tryLeast_209 rfl (lv_at hl 0 rfl) ?_
        refine lv_bipush (v := (26 : Int32)) hx hb dMo_tryLeast_210 (by decide) ?_
        refine lv_bipush (v := (30 : Int32)) hx hb dMo_tryLeast_212 (by decide) ?_
        refine lv_bipush (v := (29 : Int32)) hx hb dMo_tryLeast_214 (by decide) ?_
        obtain ⟨hx20, hf⟩ := ek_ck_s hf
        refine ek_cv hf hS hA (fun I' hq => ek_rV (As := [.int ((26 : Int32)), .int ((30 : Int32)), .int ((29 : Int32))]) ⟨hx, hb, hml, hown, hts⟩ hK hw 8 rfl (by decide) (by decide) hx20 (mMo_product hq) (cwV 3 hts (lw_V q_727 q_729 p_32 q_8 q_730) rfl rfl rfl (by decide +kernel) ⟨Nat.le_of_ble_eq_true rfl, Nat.le_of_ble_eq_true rfl⟩) rfl hl.1 rfl (Nat.le_of_ble_eq_true rfl) dMo_tryLeast_216 ⟨Nat.zero_le _, Nat.zero_le _⟩) (fun I19 H locs hf hw hS => ?_)
        refine ek_aload_n hx hb dMo_tryLeast_219 rfl (lv_at hl 0 rfl) ?_
        refine lv_bipush (v := (30 : Int32)) hx hb dMo_tryLeast_220 (by decide) ?_
        refine lv_bipush (v := (27 : Int32)) hx hb dMo_tryLeast_222 (by decide) ?_
        obtain ⟨hx22, hf⟩ := ek_ck_s hf
        refine ek_cv hf hS hA (fun I' hq => ek_rV (As := [.int ((30 : Int32)), .int ((27 : Int32))]) ⟨hx, hb, hml, hown, hts⟩ hK hw 8 rfl (by decide) (by decide) hx22 (mMo_copy hq) (cwV 2 hts (lw_V q_669 q_671 p_18 q_8 q_672) rfl rfl rfl (by decide +kernel) ⟨Nat.le_of_ble_eq_true rfl, Nat.le_of_ble_eq_true rfl⟩) rfl hl.1 rfl (Nat.le_of_ble_eq_true rfl) dMo_tryLeast_224 ⟨Nat.zero_le _, Nat.zero_le _⟩) (fun I21 H locs hf hw hS => ?_)
        refine ek_aload_n hx hb dMo_tryLeast_227 rfl (lv_at hl 0 rfl) ?_
        refine lv_bipush (v := (27 : Int32)) hx hb dMo_tryLeast_228 (by decide) ?_
        refine lv_bipush (v := (30 : Int32)) hx hb dMo_tryLeast_230 (by decide) ?_
        refine lv_bipush (v := (28 : Int32)) hx hb dMo_tryLeast_232 (by decide) ?_
        obtain ⟨hx24, hf⟩ := ek_ck_s hf
        refine ek_cv hf hS hA (fun I' hq => ek_rV (As := [.int ((27 : Int32)), .int ((30 : Int32)), .int ((28 : Int32))]) ⟨hx, hb, hml, hown, hts⟩ hK hw 8 rfl (by decide) (by decide) hx24 (mMo_product hq) (cwV 3 hts (lw_V q_727 q_729 p_32 q_8 q_730) rfl rfl rfl (by decide +kernel) ⟨Nat.le_of_ble_eq_true rfl, Nat.le_of_ble_eq_true rfl⟩) rfl hl.1 rfl (Nat.le_of_ble_eq_true rfl) dMo_tryLeast_234 ⟨Nat.zero_le _, Nat.zero_le _⟩) (fun I23 H locs hf hw hS => ?_)
        refine ek_aload_n hx hb dMo_tryLeast_237 rfl (lv_at hl 0 rfl) ?_
        refine lv_iload_n hx hb dMo_tryLeast_238 rfl (lv_at hl 1 rfl) ?_
        obtain ⟨hx26, hf⟩ := ek_ck_s hf
        refine ek_ci hf hS hA (fun I' v hq => ek_rV (As := [.int i1]) ⟨hx, hb, hml, hown, hts⟩ hK hw 8 rfl (by decide) (by decide) hx26 (mMo_fits hq) (cwV 1 hts (lw_V q_731 q_733 p_33 q_8 q_734) rfl rfl rfl (by decide +kernel) ⟨Nat.le_of_ble_eq_true rfl, Nat.le_of_ble_eq_true rfl⟩) rfl hl.1 rfl (Nat.le_of_ble_eq_true rfl) dMo_tryLeast_239 ⟨Nat.zero_le _, Nat.zero_le _⟩) (fun I25 ir27 H locs hf hw hS => ?_)
        exact ek_zret hx hb hr hlocks hw hS hf dMo_tryLeast_242
      · have hf := ek_f c12 hf
        refine lv_iconst (v := (0 : Int32)) hx hb dMo_tryLeast_181 (by decide) ?_
        exact ek_zret hx hb hr hlocks hw hS hf dMo_tryLeast_182
    · have hf := ek_t c2 hf
      refine lv_iconst (v := (1 : Int32)) hx hb dMo_tryLeast_141 (by decide) ?_
      exact ek_zret hx hb hr hlocks hw hS hf dMo_tryLeast_142
  · have hf := ek_f c1 hf
    refine ek_aload_n hx hb dMo_tryLeast_30 rfl (lv_at hl 0 rfl) ?_
    refine lv_iload_n hx hb dMo_tryLeast_31 rfl (lv_at hl 3 rfl) ?_
    obtain ⟨hx29, hf⟩ := ek_ck_s hf
    refine ek_ci hf hS hA (fun I' v hq => ek_rV (As := [.int i3]) ⟨hx, hb, hml, hown, hts⟩ hK hw 8 rfl (by decide) (by decide) hx29 (mMo_counts hq) (cwV 1 hts (lw_V q_710 q_712 p_28 q_8 q_713) rfl rfl rfl (by decide +kernel) ⟨Nat.le_of_ble_eq_true rfl, Nat.le_of_ble_eq_true rfl⟩) rfl hl.1 rfl (Nat.le_of_ble_eq_true rfl) dMo_tryLeast_32 ⟨Nat.zero_le _, Nat.zero_le _⟩) (fun I28 ir30 H locs hf hw hS => ?_)
    refine lv_if_ne (tgt := 41) hx hb dMo_tryLeast_35 (by decide) (fun c31 => ?_) (fun c31 => ?_)
    · have hf := ek_f c31 hf
      refine ek_aload_n hx hb dMo_tryLeast_41 rfl (lv_at hl 0 rfl) ?_
      refine ek_getr hx hb 8 hts (in_Mo) hown hK hw rfl (by decide) (by decide) 24 (by decide) (n := 16) rfl rfl (hts _ q_600) hf dMo_tryLeast_42 (fun hf => ?_)
      refine lv_iload_n hx hb dMo_tryLeast_45 rfl (lv_at hl 3 rfl) ?_
      refine ek_iald hx hb hK hw 12 rfl hf dMo_tryLeast_46 (fun hf => ?_)
      refine lv_iload_n hx hb dMo_tryLeast_47 rfl (lv_at hl 1 rfl) ?_
      refine lv_icmp_ge (tgt := 55) hx hb dMo_tryLeast_48 (by decide) (fun c32 => ?_) (fun c32 => ?_)
      · have hf := ek_t c32 hf
        refine lv_iconst (v := (0 : Int32)) hx hb dMo_tryLeast_55 (by decide) ?_
        exact wMo_tryLeast_56 X hk22 hf hw hS (lv_sub hl [0, 1, 2, 3] rfl)
      · have hf := ek_f c32 hf
        refine lv_iconst (v := (1 : Int32)) hx hb dMo_tryLeast_51 (by decide) ?_
        refine lv_goto (tgt := 56) hx hb dMo_tryLeast_52 (by decide) ?_
        exact wMo_tryLeast_56 X hk22 hf hw hS (lv_sub hl [0, 1, 2, 3] rfl)
    · have hf := ek_t c31 hf
      refine lv_goto (tgt := 131) hx hb dMo_tryLeast_38 (by decide) ?_
      exact wMo_tryLeast_131 X hk22 hf hw hS (lv_sub hl [0, 1, 2, 3] rfl)
set_option maxHeartbeats 4000000 in
set_option maxRecDepth 100000 in
theorem wMo_tryLeast_22_lp {l : Launch} {G : ek_G} {kd : Nat → Nat} {p : Program} {e : Env} {s : State} {m : MethodId} {args : Array Value} {below : List Frame} {meth : Method} {c : Code} (X : ek_X p s m meth c args G prog_9_method_20_code 5 "ElasticKernelModel" (some .boolean)) {q : ek_St × Int32} (n : Nat) : ∀ q0 : ek_St × Nat × Int32 × Int32 × Int32, ek_lp (fun (k : (ek_St × Nat × Int32 × Int32 × Int32) → Option (ek_St × Int32)) (q : (ek_St × Nat × Int32 × Int32 × Int32)) => fMo_tryLeast_22 kd k q.1 q.2.1 q.2.2.1 q.2.2.2.1 q.2.2.2.2) n q0 = some q → ∀ (H : Heap) (locs : List Loc) (ls : Array Slot), ek_W G kd q0.1 H → va_S (ek_A G kd) s.heap H locs → lv_has ls 5 [(0, ek_r G q0.2.1), (1, .int q0.2.2.1), (2, .int q0.2.2.2.1), (3, .int q0.2.2.2.2)] → W p l e ({ frames := 2, cells := 0, slots := 0, locals := 53 } : Room) s m args below meth c H locs 0 0 (MQ below (ek_Q G kd (some (.int q.2)) q.1) args s 0 0 (ek_A G kd)) (F0 m 22 ls []) :=
  ek_lp_ind (fun k hk q0 hf => fun H locs ls hw hS hl => wMo_tryLeast_22 X hk hf hw hS hl) n
set_option maxHeartbeats 4000000 in
set_option maxRecDepth 100000 in
theorem wMo_tryLeast_0 {l : Launch} {G : ek_G} {kd : Nat → Nat} {p : Program} {e : Env} {s : State} {m : MethodId} {args : Array Value} {below : List Frame} {meth : Method} {c : Code} (X : ek_X p s m meth c args G prog_9_method_20_code 5 "ElasticKernelModel" (some .boolean)) {q : ek_St × Int32} {I : ek_St} {x0 : Nat} {i1 : Int32} (hf : fMo_tryLeast_0 kd I x0 i1 = some q) {H : Heap} {locs : List Loc} {ls : Array Slot} (hw : ek_W G kd I H) (hS : va_S (ek_A G kd) s.heap H locs) (hl : lv_has ls 5 [(0, ek_r G x0), (1, .int i1)]) : W p l e ({ frames := 2, cells := 0, slots := 0, locals := 53 } : Room) s m args below meth c H locs 0 0 (MQ below (ek_Q G kd (some (.int q.2)) q.1) args s 0 0 (ek_A G kd)) (F0 m 0 ls []) := by
  obtain ⟨hx, hb, hml, hown, hts, hr, hlocks, hK⟩ := id X
  have hA : ∀ q, ek_A G kd q → ek_A G kd q := fun _ h => h
  unfold fMo_tryLeast_0 at hf
  refine ek_aload_n hx hb dMo_tryLeast_0 rfl (lv_at hl 0 rfl) ?_
  obtain ⟨hx2, hf⟩ := ek_ck_s hf
  refine ek_cv hf hS hA (fun I' hq => ek_rV (As := []) ⟨hx, hb, hml, hown, hts⟩ hK hw 8 rfl (by decide) (by decide) hx2 (mMo_none hq) (cwV 0 hts (lw_V q_677 q_679 p_20 q_8 q_680) rfl rfl rfl (by decide +kernel) ⟨Nat.le_of_ble_eq_true rfl, Nat.le_of_ble_eq_true rfl⟩) rfl hl.1 rfl (Nat.le_of_ble_eq_true rfl) dMo_tryLeast_1 ⟨Nat.zero_le _, Nat.zero_le _⟩) (fun I1 H locs hf hw hS => ?_)
  refine ek_aload_n hx hb dMo_tryLeast_4 rfl (lv_at hl 0 rfl) ?_
  refine lv_bipush (v := (28 : Int32)) hx hb dMo_tryLeast_5 (by decide) ?_
  refine lv_lconst (v := (0 : Int64)) hx hb dMo_tryLeast_7 (by decide) ?_
  obtain ⟨hx4, hf⟩ := ek_ck_s hf
  refine ek_cv hf hS hA (fun I' hq => ek_rV (As := [.int ((28 : Int32)), .long ((0 : Int64))]) ⟨hx, hb, hml, hown, hts⟩ hK hw 8 rfl (by decide) (by decide) hx4 (mMo_be hq) (cwV 2 hts (lw_V q_571 q_573 p_15 q_8 q_574) rfl rfl rfl (by decide +kernel) ⟨Nat.le_of_ble_eq_true rfl, Nat.le_of_ble_eq_true rfl⟩) rfl hl.1 rfl (Nat.le_of_ble_eq_true rfl) dMo_tryLeast_8 ⟨Nat.zero_le _, Nat.zero_le _⟩) (fun I3 H locs hf hw hS => ?_)
  refine ek_aload_n hx hb dMo_tryLeast_11 rfl (lv_at hl 0 rfl) ?_
  refine lv_bipush (v := (29 : Int32)) hx hb dMo_tryLeast_12 (by decide) ?_
  refine lv_lconst (v := (1 : Int64)) hx hb dMo_tryLeast_14 (by decide) ?_
  obtain ⟨hx6, hf⟩ := ek_ck_s hf
  refine ek_cv hf hS hA (fun I' hq => ek_rV (As := [.int ((29 : Int32)), .long ((1 : Int64))]) ⟨hx, hb, hml, hown, hts⟩ hK hw 8 rfl (by decide) (by decide) hx6 (mMo_be hq) (cwV 2 hts (lw_V q_571 q_573 p_15 q_8 q_574) rfl rfl rfl (by decide +kernel) ⟨Nat.le_of_ble_eq_true rfl, Nat.le_of_ble_eq_true rfl⟩) rfl hl.1 rfl (Nat.le_of_ble_eq_true rfl) dMo_tryLeast_15 ⟨Nat.zero_le _, Nat.zero_le _⟩) (fun I5 H locs hf hw hS => ?_)
  refine lv_iconst (v := (0 : Int32)) hx hb dMo_tryLeast_18 (by decide) ?_
  refine ek_istore_n (lv' := [(2, .int ((0 : Int32))), (1, .int i1), (0, ek_r G x0)]) hx hb dMo_tryLeast_19 rfl hl (by decide) (ek_s1k 1 rfl rfl rfl rfl rfl) (fun ls hl => ?_)
  refine lv_iconst (v := (0 : Int32)) hx hb dMo_tryLeast_20 (by decide) ?_
  refine ek_istore_n (lv' := [(3, .int ((0 : Int32))), (2, .int ((0 : Int32))), (1, .int i1), (0, ek_r G x0)]) hx hb dMo_tryLeast_21 rfl hl (by decide) (ek_s1k 0 rfl rfl rfl rfl rfl) (fun ls hl => ?_)
  exact wMo_tryLeast_22_lp X ek_N (I5, x0, i1, (0 : Int32), (0 : Int32)) hf _ _ _ hw hS (lv_sub hl [3, 2, 1, 0] rfl)
set_option maxHeartbeats 4000000 in
set_option maxRecDepth 100000 in
theorem mMo_tryLeast {l : Launch} {G : ek_G} {kd : Nat → Nat} {I : ek_St} {x0 : Nat} {i1 : Int32} {q : ek_St × Int32} (hf : fMo_tryLeast kd I x0 i1 = some q) : ek_M l G kd y_Mo_tryLeast (.code y_Mo_tryLeast prog_9_method_20_code 5 (some .boolean) :: lw_g) ({ frames := 2, cells := 0, slots := 0, locals := 53 } : Room) [ek_r G x0, .int i1] I (some (.int q.2)) q.1 :=
  ek_body [(0, ek_r G x0), (1, .int i1)] (by decide) (by simp [lg_sl, ek_r_cat, ek_c_i, ek_c_l]) (by simp [lv_args, ek_r_cat, ek_c_i, ek_c_l]) (fun p e s m below meth c ls X hw hS hl => wMo_tryLeast_0 X hf hw hS hl)
/-! ElasticKernelModel.findInstant()V -/
def fMo_findInstant_104 (kd : Nat → Nat) (k28 : (ek_St × Nat × Int32) → Option (ek_St)) (I : ek_St) (x0 : Nat) (i1 : Int32) : Option (ek_St) :=
  ek_let (i1 + (1 : Int32)) (fun i1_1 => k28 (I, x0, i1_1))
def fMo_findInstant_76 (kd : Nat → Nat) (k28 : (ek_St × Nat × Int32) → Option (ek_St)) (I : ek_St) (x0 : Nat) (i1 : Int32) (t0 : Int32) : Option (ek_St) :=
  if t0 = ((0 : Int32)) then (fMo_findInstant_104 kd k28 I x0 i1) else (ek_ck (kd x0 = 8) (ek_ck (kd (x0 + 9) = 112) (ek_ck (ek_in i1 12) (ek_ck (kd x0 = 8) (if (I (x0 + 9) i1.toNatClampNeg) ≤ (I x0 5) then (fMo_findInstant_104 kd k28 I x0 i1) else (ek_ck (kd x0 = 8) (ek_ck (kd (x0 + 9) = 112) (ek_ck (ek_in i1 12) (ek_ck (kd x0 = 8) (ek_let (ek_up I x0 5 (I (x0 + 9) i1.toNatClampNeg)) (fun I3 => fMo_findInstant_104 kd k28 I3 x0 i1)))))))))))
def fMo_findInstant_71 (kd : Nat → Nat) (k28 : (ek_St × Nat × Int32) → Option (ek_St)) (I : ek_St) (x0 : Nat) (i1 : Int32) : Option (ek_St) :=
  fMo_findInstant_76 kd k28 I x0 i1 ((1 : Int32))
def fMo_findInstant_75 (kd : Nat → Nat) (k28 : (ek_St × Nat × Int32) → Option (ek_St)) (I : ek_St) (x0 : Nat) (i1 : Int32) : Option (ek_St) :=
  fMo_findInstant_76 kd k28 I x0 i1 ((0 : Int32))
def fMo_findInstant_28 (kd : Nat → Nat) (k28 : (ek_St × Nat × Int32) → Option (ek_St)) (I : ek_St) (x0 : Nat) (i1 : Int32) : Option (ek_St) :=
  ek_ck (kd x0 = 8) (if (I x0 7) ≤ i1 then (some I) else (ek_ck (kd x0 = 8) (ek_ck (kd (x0 + 6) = 112) (ek_ck (ek_in i1 12) (if (I (x0 + 6) i1.toNatClampNeg) = ((2 : Int32)) then (fMo_findInstant_71 kd k28 I x0 i1) else (ek_ck (kd x0 = 8) (ek_ck (kd (x0 + 6) = 112) (ek_ck (ek_in i1 12) (if (I (x0 + 6) i1.toNatClampNeg) = ((1 : Int32)) then (ek_ck (kd x0 = 8) (ek_ck (kd (x0 + 8) = 112) (ek_ck (ek_in i1 12) (ek_ck (kd x0 = 8) (ek_ck (kd (x0 + 7) = 112) (ek_ck (ek_in i1 12) (if (I (x0 + 8) i1.toNatClampNeg) ≤ (I (x0 + 7) i1.toNatClampNeg) then (fMo_findInstant_75 kd k28 I x0 i1) else (fMo_findInstant_71 kd k28 I x0 i1)))))))) else (fMo_findInstant_75 kd k28 I x0 i1))))))))))
def fMo_findInstant_23 (kd : Nat → Nat) (I : ek_St) (x0 : Nat) (t0 : Nat) (t1 : Int32) : Option (ek_St) :=
  ek_ck (kd t0 = 8) (ek_let (ek_up I t0 5 t1) (fun I1 => ek_lp (fun (k : (ek_St × Nat × Int32) → Option (ek_St)) (q : (ek_St × Nat × Int32)) => fMo_findInstant_28 kd k q.1 q.2.1 q.2.2) ek_N (I1, x0, (0 : Int32))))
def fMo_findInstant_0 (kd : Nat → Nat) (I : ek_St) (x0 : Nat) : Option (ek_St) :=
  ek_ck (kd x0 = 8) (ek_ck (kd x0 = 8) (if (I x0 5) ≤ (I x0 1) then (ek_ck (kd x0 = 8) (fMo_findInstant_23 kd I x0 x0 (I x0 1))) else (ek_ck (kd x0 = 8) (fMo_findInstant_23 kd I x0 x0 (I x0 5)))))
def fMo_findInstant (kd : Nat → Nat) (I : ek_St) (x0 : Nat) : Option (ek_St) := fMo_findInstant_0 kd I x0
theorem dMo_findInstant_0 : decode prog_9_method_25_code 0 = .ok (.aload_n 0, 1) := by decide +kernel
theorem dMo_findInstant_1 : decode prog_9_method_25_code 1 = .ok (.aload_n 0, 1) := by decide +kernel
theorem dMo_findInstant_2 : decode prog_9_method_25_code 2 = .ok (.getfield 152, 3) := by decide +kernel
theorem dMo_findInstant_5 : decode prog_9_method_25_code 5 = .ok (.aload_n 0, 1) := by decide +kernel
theorem dMo_findInstant_6 : decode prog_9_method_25_code 6 = .ok (.getfield 155, 3) := by decide +kernel
theorem dMo_findInstant_9 : decode prog_9_method_25_code 9 = .ok (.if_icmp .le 10, 3) := by decide +kernel
theorem dMo_findInstant_12 : decode prog_9_method_25_code 12 = .ok (.aload_n 0, 1) := by decide +kernel
theorem dMo_findInstant_13 : decode prog_9_method_25_code 13 = .ok (.getfield 152, 3) := by decide +kernel
theorem dMo_findInstant_16 : decode prog_9_method_25_code 16 = .ok (.goto 7, 3) := by decide +kernel
theorem dMo_findInstant_19 : decode prog_9_method_25_code 19 = .ok (.aload_n 0, 1) := by decide +kernel
theorem dMo_findInstant_20 : decode prog_9_method_25_code 20 = .ok (.getfield 155, 3) := by decide +kernel
theorem dMo_findInstant_23 : decode prog_9_method_25_code 23 = .ok (.putfield 152, 3) := by decide +kernel
theorem dMo_findInstant_26 : decode prog_9_method_25_code 26 = .ok (.iconst 0, 1) := by decide +kernel
theorem dMo_findInstant_27 : decode prog_9_method_25_code 27 = .ok (.istore_n 1, 1) := by decide +kernel
theorem dMo_findInstant_28 : decode prog_9_method_25_code 28 = .ok (.iload_n 1, 1) := by decide +kernel
theorem dMo_findInstant_29 : decode prog_9_method_25_code 29 = .ok (.aload_n 0, 1) := by decide +kernel
theorem dMo_findInstant_30 : decode prog_9_method_25_code 30 = .ok (.getfield 105, 3) := by decide +kernel
theorem dMo_findInstant_33 : decode prog_9_method_25_code 33 = .ok (.if_icmp .ge 77, 3) := by decide +kernel
theorem dMo_findInstant_36 : decode prog_9_method_25_code 36 = .ok (.aload_n 0, 1) := by decide +kernel
theorem dMo_findInstant_37 : decode prog_9_method_25_code 37 = .ok (.getfield 29, 3) := by decide +kernel
theorem dMo_findInstant_40 : decode prog_9_method_25_code 40 = .ok (.iload_n 1, 1) := by decide +kernel
theorem dMo_findInstant_41 : decode prog_9_method_25_code 41 = .ok (.iaload, 1) := by decide +kernel
theorem dMo_findInstant_42 : decode prog_9_method_25_code 42 = .ok (.iconst 2, 1) := by decide +kernel
theorem dMo_findInstant_43 : decode prog_9_method_25_code 43 = .ok (.if_icmp .eq 28, 3) := by decide +kernel
theorem dMo_findInstant_46 : decode prog_9_method_25_code 46 = .ok (.aload_n 0, 1) := by decide +kernel
theorem dMo_findInstant_47 : decode prog_9_method_25_code 47 = .ok (.getfield 29, 3) := by decide +kernel
theorem dMo_findInstant_50 : decode prog_9_method_25_code 50 = .ok (.iload_n 1, 1) := by decide +kernel
theorem dMo_findInstant_51 : decode prog_9_method_25_code 51 = .ok (.iaload, 1) := by decide +kernel
theorem dMo_findInstant_52 : decode prog_9_method_25_code 52 = .ok (.iconst 1, 1) := by decide +kernel
theorem dMo_findInstant_53 : decode prog_9_method_25_code 53 = .ok (.if_icmp .ne 22, 3) := by decide +kernel
theorem dMo_findInstant_56 : decode prog_9_method_25_code 56 = .ok (.aload_n 0, 1) := by decide +kernel
theorem dMo_findInstant_57 : decode prog_9_method_25_code 57 = .ok (.getfield 35, 3) := by decide +kernel
theorem dMo_findInstant_60 : decode prog_9_method_25_code 60 = .ok (.iload_n 1, 1) := by decide +kernel
theorem dMo_findInstant_61 : decode prog_9_method_25_code 61 = .ok (.iaload, 1) := by decide +kernel
theorem dMo_findInstant_62 : decode prog_9_method_25_code 62 = .ok (.aload_n 0, 1) := by decide +kernel
theorem dMo_findInstant_63 : decode prog_9_method_25_code 63 = .ok (.getfield 32, 3) := by decide +kernel
theorem dMo_findInstant_66 : decode prog_9_method_25_code 66 = .ok (.iload_n 1, 1) := by decide +kernel
theorem dMo_findInstant_67 : decode prog_9_method_25_code 67 = .ok (.iaload, 1) := by decide +kernel
theorem dMo_findInstant_68 : decode prog_9_method_25_code 68 = .ok (.if_icmp .le 7, 3) := by decide +kernel
theorem dMo_findInstant_71 : decode prog_9_method_25_code 71 = .ok (.iconst 1, 1) := by decide +kernel
theorem dMo_findInstant_72 : decode prog_9_method_25_code 72 = .ok (.goto 4, 3) := by decide +kernel
theorem dMo_findInstant_75 : decode prog_9_method_25_code 75 = .ok (.iconst 0, 1) := by decide +kernel
theorem dMo_findInstant_76 : decode prog_9_method_25_code 76 = .ok (.istore_n 2, 1) := by decide +kernel
theorem dMo_findInstant_77 : decode prog_9_method_25_code 77 = .ok (.iload_n 2, 1) := by decide +kernel
theorem dMo_findInstant_78 : decode prog_9_method_25_code 78 = .ok (.ifCond .eq 26, 3) := by decide +kernel
theorem dMo_findInstant_81 : decode prog_9_method_25_code 81 = .ok (.aload_n 0, 1) := by decide +kernel
theorem dMo_findInstant_82 : decode prog_9_method_25_code 82 = .ok (.getfield 38, 3) := by decide +kernel
theorem dMo_findInstant_85 : decode prog_9_method_25_code 85 = .ok (.iload_n 1, 1) := by decide +kernel
theorem dMo_findInstant_86 : decode prog_9_method_25_code 86 = .ok (.iaload, 1) := by decide +kernel
theorem dMo_findInstant_87 : decode prog_9_method_25_code 87 = .ok (.aload_n 0, 1) := by decide +kernel
theorem dMo_findInstant_88 : decode prog_9_method_25_code 88 = .ok (.getfield 152, 3) := by decide +kernel
theorem dMo_findInstant_91 : decode prog_9_method_25_code 91 = .ok (.if_icmp .le 13, 3) := by decide +kernel
theorem dMo_findInstant_94 : decode prog_9_method_25_code 94 = .ok (.aload_n 0, 1) := by decide +kernel
theorem dMo_findInstant_95 : decode prog_9_method_25_code 95 = .ok (.aload_n 0, 1) := by decide +kernel
theorem dMo_findInstant_96 : decode prog_9_method_25_code 96 = .ok (.getfield 38, 3) := by decide +kernel
theorem dMo_findInstant_99 : decode prog_9_method_25_code 99 = .ok (.iload_n 1, 1) := by decide +kernel
theorem dMo_findInstant_100 : decode prog_9_method_25_code 100 = .ok (.iaload, 1) := by decide +kernel
theorem dMo_findInstant_101 : decode prog_9_method_25_code 101 = .ok (.putfield 152, 3) := by decide +kernel
theorem dMo_findInstant_104 : decode prog_9_method_25_code 104 = .ok (.iinc 1 1, 3) := by decide +kernel
theorem dMo_findInstant_107 : decode prog_9_method_25_code 107 = .ok (.goto (-79), 3) := by decide +kernel
theorem dMo_findInstant_110 : decode prog_9_method_25_code 110 = .ok (.return_, 1) := by decide +kernel
set_option maxHeartbeats 4000000 in
set_option maxRecDepth 100000 in
theorem wMo_findInstant_104 {l : Launch} {G : ek_G} {kd : Nat → Nat} {p : Program} {e : Env} {s : State} {m : MethodId} {args : Array Value} {below : List Frame} {meth : Method} {c : Code} (X : ek_X p s m meth c args G prog_9_method_25_code 3 "ElasticKernelModel" none) {q : ek_St} {k28 : (ek_St × Nat × Int32) → Option (ek_St)} (hk28 : ∀ q0 : ek_St × Nat × Int32, k28 q0 = some q → ∀ (H : Heap) (locs : List Loc) (ls : Array Slot), ek_W G kd q0.1 H → va_S (ek_A G kd) s.heap H locs → lv_has ls 3 [(0, ek_r G q0.2.1), (1, .int q0.2.2)] → W p l e ({ frames := 0, cells := 0, slots := 0, locals := 0 } : Room) s m args below meth c H locs 0 0 (MQ below (ek_Q G kd none q) args s 0 0 (ek_A G kd)) (F0 m 28 ls [])) {I : ek_St} {x0 : Nat} {i1 : Int32} (hf : fMo_findInstant_104 kd k28 I x0 i1 = some q) {H : Heap} {locs : List Loc} {ls : Array Slot} (hw : ek_W G kd I H) (hS : va_S (ek_A G kd) s.heap H locs) (hl : lv_has ls 3 [(0, ek_r G x0), (1, .int i1)]) : W p l e ({ frames := 0, cells := 0, slots := 0, locals := 0 } : Room) s m args below meth c H locs 0 0 (MQ below (ek_Q G kd none q) args s 0 0 (ek_A G kd)) (F0 m 104 ls []) := by
  obtain ⟨hx, hb, hml, hown, hts, hr, hlocks, hK⟩ := id X
  have hA : ∀ q, ek_A G kd q → ek_A G kd q := fun _ h => h
  unfold fMo_findInstant_104 at hf
  refine ek_iinc hx hb 1 (fun i1_1 => [(1, .int i1_1), (0, ek_r G x0)]) dMo_findInstant_104 hl rfl (v := i1 + (1 : Int32)) rfl hf (by decide) (fun i1_1 => ek_s1k 0 rfl rfl ek_r_cat rfl rfl) (fun i1_1 ls hf hl => ?_)
  refine lv_goto (tgt := 28) hx hb dMo_findInstant_107 (by decide) ?_
  exact hk28 (I, x0, i1_1) hf _ _ _ hw hS (lv_sub hl [1, 0] rfl)
set_option maxHeartbeats 4000000 in
set_option maxRecDepth 100000 in
theorem wMo_findInstant_76 {l : Launch} {G : ek_G} {kd : Nat → Nat} {p : Program} {e : Env} {s : State} {m : MethodId} {args : Array Value} {below : List Frame} {meth : Method} {c : Code} (X : ek_X p s m meth c args G prog_9_method_25_code 3 "ElasticKernelModel" none) {q : ek_St} {k28 : (ek_St × Nat × Int32) → Option (ek_St)} (hk28 : ∀ q0 : ek_St × Nat × Int32, k28 q0 = some q → ∀ (H : Heap) (locs : List Loc) (ls : Array Slot), ek_W G kd q0.1 H → va_S (ek_A G kd) s.heap H locs → lv_has ls 3 [(0, ek_r G q0.2.1), (1, .int q0.2.2)] → W p l e ({ frames := 0, cells := 0, slots := 0, locals := 0 } : Room) s m args below meth c H locs 0 0 (MQ below (ek_Q G kd none q) args s 0 0 (ek_A G kd)) (F0 m 28 ls [])) {I : ek_St} {x0 : Nat} {i1 : Int32} {t0 : Int32} (hf : fMo_findInstant_76 kd k28 I x0 i1 t0 = some q) {H : Heap} {locs : List Loc} {ls : Array Slot} (hw : ek_W G kd I H) (hS : va_S (ek_A G kd) s.heap H locs) (hl : lv_has ls 3 [(0, ek_r G x0), (1, .int i1)]) : W p l e ({ frames := 0, cells := 0, slots := 0, locals := 0 } : Room) s m args below meth c H locs 0 0 (MQ below (ek_Q G kd none q) args s 0 0 (ek_A G kd)) (F0 m 76 ls [.int t0]) := by
  obtain ⟨hx, hb, hml, hown, hts, hr, hlocks, hK⟩ := id X
  have hA : ∀ q, ek_A G kd q → ek_A G kd q := fun _ h => h
  unfold fMo_findInstant_76 at hf
  refine ek_istore_n (lv' := [(2, .int t0), (1, .int i1), (0, ek_r G x0)]) hx hb dMo_findInstant_76 rfl hl (by decide) (ek_s1k 1 rfl rfl rfl rfl rfl) (fun ls hl => ?_)
  refine lv_iload_n hx hb dMo_findInstant_77 rfl (lv_at hl 0 rfl) ?_
  refine lv_if_eq (tgt := 104) hx hb dMo_findInstant_78 (by decide) (fun c1 => ?_) (fun c1 => ?_)
  · have hf := ek_t c1 hf
    exact wMo_findInstant_104 X hk28 hf hw hS (lv_sub hl [2, 1] rfl)
  · have hf := ek_f c1 hf
    refine ek_aload_n hx hb dMo_findInstant_81 rfl (lv_at hl 2 rfl) ?_
    refine ek_getr hx hb 8 hts (in_Mo) hown hK hw rfl (by decide) (by decide) 16 (by decide) (n := 8) rfl rfl (hts _ q_592) hf dMo_findInstant_82 (fun hf => ?_)
    refine lv_iload_n hx hb dMo_findInstant_85 rfl (lv_at hl 1 rfl) ?_
    refine ek_iald hx hb hK hw 12 rfl hf dMo_findInstant_86 (fun hf => ?_)
    refine ek_aload_n hx hb dMo_findInstant_87 rfl (lv_at hl 2 rfl) ?_
    refine ek_geti hx hb 8 hts (in_Mo) hown hK hw rfl (by decide) (by decide) 5 (by decide) rfl (hts _ q_581) hf dMo_findInstant_88 (fun hf => ?_)
    refine lv_icmp_le (tgt := 104) hx hb dMo_findInstant_91 (by decide) (fun c2 => ?_) (fun c2 => ?_)
    · have hf := ek_t c2 hf
      exact wMo_findInstant_104 X hk28 hf hw hS (lv_sub hl [2, 1] rfl)
    · have hf := ek_f c2 hf
      refine ek_aload_n hx hb dMo_findInstant_94 rfl (lv_at hl 2 rfl) ?_
      refine ek_aload_n hx hb dMo_findInstant_95 rfl (lv_at hl 2 rfl) ?_
      refine ek_getr hx hb 8 hts (in_Mo) hown hK hw rfl (by decide) (by decide) 16 (by decide) (n := 8) rfl rfl (hts _ q_592) hf dMo_findInstant_96 (fun hf => ?_)
      refine lv_iload_n hx hb dMo_findInstant_99 rfl (lv_at hl 1 rfl) ?_
      refine ek_iald hx hb hK hw 12 rfl hf dMo_findInstant_100 (fun hf => ?_)
      refine ek_puti hx hb 8 hts (in_Mo) ty_Mo ty_Mo_ok nm_Mo hown hK hw hS hA rfl (by decide) (by decide) 5 (by decide) rfl (hts _ q_581) rfl rfl rfl hf dMo_findInstant_101 (fun I3 H locs hf hw hS => ?_)
      exact wMo_findInstant_104 X hk28 hf hw hS (lv_sub hl [2, 1] rfl)
set_option maxHeartbeats 4000000 in
set_option maxRecDepth 100000 in
theorem wMo_findInstant_71 {l : Launch} {G : ek_G} {kd : Nat → Nat} {p : Program} {e : Env} {s : State} {m : MethodId} {args : Array Value} {below : List Frame} {meth : Method} {c : Code} (X : ek_X p s m meth c args G prog_9_method_25_code 3 "ElasticKernelModel" none) {q : ek_St} {k28 : (ek_St × Nat × Int32) → Option (ek_St)} (hk28 : ∀ q0 : ek_St × Nat × Int32, k28 q0 = some q → ∀ (H : Heap) (locs : List Loc) (ls : Array Slot), ek_W G kd q0.1 H → va_S (ek_A G kd) s.heap H locs → lv_has ls 3 [(0, ek_r G q0.2.1), (1, .int q0.2.2)] → W p l e ({ frames := 0, cells := 0, slots := 0, locals := 0 } : Room) s m args below meth c H locs 0 0 (MQ below (ek_Q G kd none q) args s 0 0 (ek_A G kd)) (F0 m 28 ls [])) {I : ek_St} {x0 : Nat} {i1 : Int32} (hf : fMo_findInstant_71 kd k28 I x0 i1 = some q) {H : Heap} {locs : List Loc} {ls : Array Slot} (hw : ek_W G kd I H) (hS : va_S (ek_A G kd) s.heap H locs) (hl : lv_has ls 3 [(0, ek_r G x0), (1, .int i1)]) : W p l e ({ frames := 0, cells := 0, slots := 0, locals := 0 } : Room) s m args below meth c H locs 0 0 (MQ below (ek_Q G kd none q) args s 0 0 (ek_A G kd)) (F0 m 71 ls []) := by
  obtain ⟨hx, hb, hml, hown, hts, hr, hlocks, hK⟩ := id X
  have hA : ∀ q, ek_A G kd q → ek_A G kd q := fun _ h => h
  unfold fMo_findInstant_71 at hf
  refine lv_iconst (v := (1 : Int32)) hx hb dMo_findInstant_71 (by decide) ?_
  refine lv_goto (tgt := 76) hx hb dMo_findInstant_72 (by decide) ?_
  exact wMo_findInstant_76 X hk28 hf hw hS (lv_sub hl [0, 1] rfl)
set_option maxHeartbeats 4000000 in
set_option maxRecDepth 100000 in
theorem wMo_findInstant_75 {l : Launch} {G : ek_G} {kd : Nat → Nat} {p : Program} {e : Env} {s : State} {m : MethodId} {args : Array Value} {below : List Frame} {meth : Method} {c : Code} (X : ek_X p s m meth c args G prog_9_method_25_code 3 "ElasticKernelModel" none) {q : ek_St} {k28 : (ek_St × Nat × Int32) → Option (ek_St)} (hk28 : ∀ q0 : ek_St × Nat × Int32, k28 q0 = some q → ∀ (H : Heap) (locs : List Loc) (ls : Array Slot), ek_W G kd q0.1 H → va_S (ek_A G kd) s.heap H locs → lv_has ls 3 [(0, ek_r G q0.2.1), (1, .int q0.2.2)] → W p l e ({ frames := 0, cells := 0, slots := 0, locals := 0 } : Room) s m args below meth c H locs 0 0 (MQ below (ek_Q G kd none q) args s 0 0 (ek_A G kd)) (F0 m 28 ls [])) {I : ek_St} {x0 : Nat} {i1 : Int32} (hf : fMo_findInstant_75 kd k28 I x0 i1 = some q) {H : Heap} {locs : List Loc} {ls : Array Slot} (hw : ek_W G kd I H) (hS : va_S (ek_A G kd) s.heap H locs) (hl : lv_has ls 3 [(0, ek_r G x0), (1, .int i1)]) : W p l e ({ frames := 0, cells := 0, slots := 0, locals := 0 } : Room) s m args below meth c H locs 0 0 (MQ below (ek_Q G kd none q) args s 0 0 (ek_A G kd)) (F0 m 75 ls []) := by
  obtain ⟨hx, hb, hml, hown, hts, hr, hlocks, hK⟩ := id X
  have hA : ∀ q, ek_A G kd q → ek_A G kd q := fun _ h => h
  unfold fMo_findInstant_75 at hf
  refine lv_iconst (v := (0 : Int32)) hx hb dMo_findInstant_75 (by decide) ?_
  exact wMo_findInstant_76 X hk28 hf hw hS (lv_sub hl [0, 1] rfl)
set_option maxHeartbeats 4000000 in
set_option maxRecDepth 100000 in
theorem wMo_findInstant_28 {l : Launch} {G : ek_G} {kd : Nat → Nat} {p : Program} {e : Env} {s : State} {m : MethodId} {args : Array Value} {below : List Frame} {meth : Method} {c : Code} (X : ek_X p s m meth c args G prog_9_method_25_code 3 "ElasticKernelModel" none) {q : ek_St} {k28 : (ek_St × Nat × Int32) → Option (ek_St)} (hk28 : ∀ q0 : ek_St × Nat × Int32, k28 q0 = some q → ∀ (H : Heap) (locs : List Loc) (ls : Array Slot), ek_W G kd q0.1 H → va_S (ek_A G kd) s.heap H locs → lv_has ls 3 [(0, ek_r G q0.2.1), (1, .int q0.2.2)] → W p l e ({ frames := 0, cells := 0, slots := 0, locals := 0 } : Room) s m args below meth c H locs 0 0 (MQ below (ek_Q G kd none q) args s 0 0 (ek_A G kd)) (F0 m 28 ls [])) {I : ek_St} {x0 : Nat} {i1 : Int32} (hf : fMo_findInstant_28 kd k28 I x0 i1 = some q) {H : Heap} {locs : List Loc} {ls : Array Slot} (hw : ek_W G kd I H) (hS : va_S (ek_A G kd) s.heap H locs) (hl : lv_has ls 3 [(0, ek_r G x0), (1, .int i1)]) : W p l e ({ frames := 0, cells := 0, slots := 0, locals := 0 } : Room) s m args below meth c H locs 0 0 (MQ below (ek_Q G kd none q) args s 0 0 (ek_A G kd)) (F0 m 28 ls []) := by
  obtain ⟨hx, hb, hml, hown, hts, hr, hlocks, hK⟩ := id X
  have hA : ∀ q, ek_A G kd q → ek_A G kd q := fun _ h => h
  unfold fMo_findInstant_28 at hf
  refine lv_iload_n hx hb dMo_findInstant_28 rfl (lv_at hl 1 rfl) ?_
  refine ek_aload_n hx hb dMo_findInstant_29 rfl (lv_at hl 0 rfl) ?_
  refine ek_geti hx hb 8 hts (in_Mo) hown hK hw rfl (by decide) (by decide) 7 (by decide) rfl (hts _ q_583) hf dMo_findInstant_30 (fun hf => ?_)
  refine lv_icmp_ge (tgt := 110) hx hb dMo_findInstant_33 (by decide) (fun c1 => ?_) (fun c1 => ?_)
  · have hf := ek_t c1 hf
    exact ek_vret hx hb hr hlocks hw hS hf dMo_findInstant_110
  · have hf := ek_f c1 hf
    refine ek_aload_n hx hb dMo_findInstant_36 rfl (lv_at hl 0 rfl) ?_
    refine ek_getr hx hb 8 hts (in_Mo) hown hK hw rfl (by decide) (by decide) 13 (by decide) (n := 5) rfl rfl (hts _ q_589) hf dMo_findInstant_37 (fun hf => ?_)
    refine lv_iload_n hx hb dMo_findInstant_40 rfl (lv_at hl 1 rfl) ?_
    refine ek_iald hx hb hK hw 12 rfl hf dMo_findInstant_41 (fun hf => ?_)
    refine lv_iconst (v := (2 : Int32)) hx hb dMo_findInstant_42 (by decide) ?_
    refine lv_icmp_eq (tgt := 71) hx hb dMo_findInstant_43 (by decide) (fun c2 => ?_) (fun c2 => ?_)
    · have hf := ek_t c2 hf
      exact wMo_findInstant_71 X hk28 hf hw hS (lv_sub hl [0, 1] rfl)
    · have hf := ek_f c2 hf
      refine ek_aload_n hx hb dMo_findInstant_46 rfl (lv_at hl 0 rfl) ?_
      refine ek_getr hx hb 8 hts (in_Mo) hown hK hw rfl (by decide) (by decide) 13 (by decide) (n := 5) rfl rfl (hts _ q_589) hf dMo_findInstant_47 (fun hf => ?_)
      refine lv_iload_n hx hb dMo_findInstant_50 rfl (lv_at hl 1 rfl) ?_
      refine ek_iald hx hb hK hw 12 rfl hf dMo_findInstant_51 (fun hf => ?_)
      refine lv_iconst (v := (1 : Int32)) hx hb dMo_findInstant_52 (by decide) ?_
      refine lv_icmp_ne (tgt := 75) hx hb dMo_findInstant_53 (by decide) (fun c3 => ?_) (fun c3 => ?_)
      · have hf := ek_f c3 hf
        exact wMo_findInstant_75 X hk28 hf hw hS (lv_sub hl [0, 1] rfl)
      · have hf := ek_t c3 hf
        refine ek_aload_n hx hb dMo_findInstant_56 rfl (lv_at hl 0 rfl) ?_
        refine ek_getr hx hb 8 hts (in_Mo) hown hK hw rfl (by decide) (by decide) 15 (by decide) (n := 7) rfl rfl (hts _ q_591) hf dMo_findInstant_57 (fun hf => ?_)
        refine lv_iload_n hx hb dMo_findInstant_60 rfl (lv_at hl 1 rfl) ?_
        refine ek_iald hx hb hK hw 12 rfl hf dMo_findInstant_61 (fun hf => ?_)
        refine ek_aload_n hx hb dMo_findInstant_62 rfl (lv_at hl 0 rfl) ?_
        refine ek_getr hx hb 8 hts (in_Mo) hown hK hw rfl (by decide) (by decide) 14 (by decide) (n := 6) rfl rfl (hts _ q_590) hf dMo_findInstant_63 (fun hf => ?_)
        refine lv_iload_n hx hb dMo_findInstant_66 rfl (lv_at hl 1 rfl) ?_
        refine ek_iald hx hb hK hw 12 rfl hf dMo_findInstant_67 (fun hf => ?_)
        refine lv_icmp_le (tgt := 75) hx hb dMo_findInstant_68 (by decide) (fun c4 => ?_) (fun c4 => ?_)
        · have hf := ek_t c4 hf
          exact wMo_findInstant_75 X hk28 hf hw hS (lv_sub hl [0, 1] rfl)
        · have hf := ek_f c4 hf
          exact wMo_findInstant_71 X hk28 hf hw hS (lv_sub hl [0, 1] rfl)
set_option maxHeartbeats 4000000 in
set_option maxRecDepth 100000 in
theorem wMo_findInstant_28_lp {l : Launch} {G : ek_G} {kd : Nat → Nat} {p : Program} {e : Env} {s : State} {m : MethodId} {args : Array Value} {below : List Frame} {meth : Method} {c : Code} (X : ek_X p s m meth c args G prog_9_method_25_code 3 "ElasticKernelModel" none) {q : ek_St} (n : Nat) : ∀ q0 : ek_St × Nat × Int32, ek_lp (fun (k : (ek_St × Nat × Int32) → Option (ek_St)) (q : (ek_St × Nat × Int32)) => fMo_findInstant_28 kd k q.1 q.2.1 q.2.2) n q0 = some q → ∀ (H : Heap) (locs : List Loc) (ls : Array Slot), ek_W G kd q0.1 H → va_S (ek_A G kd) s.heap H locs → lv_has ls 3 [(0, ek_r G q0.2.1), (1, .int q0.2.2)] → W p l e ({ frames := 0, cells := 0, slots := 0, locals := 0 } : Room) s m args below meth c H locs 0 0 (MQ below (ek_Q G kd none q) args s 0 0 (ek_A G kd)) (F0 m 28 ls []) :=
  ek_lp_ind (fun k hk q0 hf => fun H locs ls hw hS hl => wMo_findInstant_28 X hk hf hw hS hl) n
set_option maxHeartbeats 4000000 in
set_option maxRecDepth 100000 in
theorem wMo_findInstant_23 {l : Launch} {G : ek_G} {kd : Nat → Nat} {p : Program} {e : Env} {s : State} {m : MethodId} {args : Array Value} {below : List Frame} {meth : Method} {c : Code} (X : ek_X p s m meth c args G prog_9_method_25_code 3 "ElasticKernelModel" none) {q : ek_St} {I : ek_St} {x0 : Nat} {t0 : Nat} {t1 : Int32} (hf : fMo_findInstant_23 kd I x0 t0 t1 = some q) {H : Heap} {locs : List Loc} {ls : Array Slot} (hw : ek_W G kd I H) (hS : va_S (ek_A G kd) s.heap H locs) (hl : lv_has ls 3 [(0, ek_r G x0)]) : W p l e ({ frames := 0, cells := 0, slots := 0, locals := 0 } : Room) s m args below meth c H locs 0 0 (MQ below (ek_Q G kd none q) args s 0 0 (ek_A G kd)) (F0 m 23 ls [.int t1, ek_r G t0]) := by
  obtain ⟨hx, hb, hml, hown, hts, hr, hlocks, hK⟩ := id X
  have hA : ∀ q, ek_A G kd q → ek_A G kd q := fun _ h => h
  unfold fMo_findInstant_23 at hf
  refine ek_puti hx hb 8 hts (in_Mo) ty_Mo ty_Mo_ok nm_Mo hown hK hw hS hA rfl (by decide) (by decide) 5 (by decide) rfl (hts _ q_581) rfl rfl rfl hf dMo_findInstant_23 (fun I1 H locs hf hw hS => ?_)
  refine lv_iconst (v := (0 : Int32)) hx hb dMo_findInstant_26 (by decide) ?_
  refine ek_istore_n (lv' := [(1, .int ((0 : Int32))), (0, ek_r G x0)]) hx hb dMo_findInstant_27 rfl hl (by decide) (ek_s1k 0 rfl rfl ek_r_cat rfl rfl) (fun ls hl => ?_)
  exact wMo_findInstant_28_lp X ek_N (I1, x0, (0 : Int32)) hf _ _ _ hw hS (lv_sub hl [1, 0] rfl)
set_option maxHeartbeats 4000000 in
set_option maxRecDepth 100000 in
theorem wMo_findInstant_0 {l : Launch} {G : ek_G} {kd : Nat → Nat} {p : Program} {e : Env} {s : State} {m : MethodId} {args : Array Value} {below : List Frame} {meth : Method} {c : Code} (X : ek_X p s m meth c args G prog_9_method_25_code 3 "ElasticKernelModel" none) {q : ek_St} {I : ek_St} {x0 : Nat} (hf : fMo_findInstant_0 kd I x0 = some q) {H : Heap} {locs : List Loc} {ls : Array Slot} (hw : ek_W G kd I H) (hS : va_S (ek_A G kd) s.heap H locs) (hl : lv_has ls 3 [(0, ek_r G x0)]) : W p l e ({ frames := 0, cells := 0, slots := 0, locals := 0 } : Room) s m args below meth c H locs 0 0 (MQ below (ek_Q G kd none q) args s 0 0 (ek_A G kd)) (F0 m 0 ls []) := by
  obtain ⟨hx, hb, hml, hown, hts, hr, hlocks, hK⟩ := id X
  have hA : ∀ q, ek_A G kd q → ek_A G kd q := fun _ h => h
  unfold fMo_findInstant_0 at hf
  refine ek_aload_n hx hb dMo_findInstant_0 rfl (lv_at hl 0 rfl) ?_
  refine ek_aload_n hx hb dMo_findInstant_1 rfl (lv_at hl 0 rfl) ?_
  refine ek_geti hx hb 8 hts (in_Mo) hown hK hw rfl (by decide) (by decide) 5 (by decide) rfl (hts _ q_581) hf dMo_findInstant_2 (fun hf => ?_)
  refine ek_aload_n hx hb dMo_findInstant_5 rfl (lv_at hl 0 rfl) ?_
  refine ek_geti hx hb 8 hts (in_Mo) hown hK hw rfl (by decide) (by decide) 1 (by decide) rfl (hts _ q_577) hf dMo_findInstant_6 (fun hf => ?_)
  refine lv_icmp_le (tgt := 19) hx hb dMo_findInstant_9 (by decide) (fun c1 => ?_) (fun c1 => ?_)
  · have hf := ek_t c1 hf
    refine ek_aload_n hx hb dMo_findInstant_19 rfl (lv_at hl 0 rfl) ?_
    refine ek_geti hx hb 8 hts (in_Mo) hown hK hw rfl (by decide) (by decide) 1 (by decide) rfl (hts _ q_577) hf dMo_findInstant_20 (fun hf => ?_)
    exact wMo_findInstant_23 X hf hw hS (lv_sub hl [0] rfl)
  · have hf := ek_f c1 hf
    refine ek_aload_n hx hb dMo_findInstant_12 rfl (lv_at hl 0 rfl) ?_
    refine ek_geti hx hb 8 hts (in_Mo) hown hK hw rfl (by decide) (by decide) 5 (by decide) rfl (hts _ q_581) hf dMo_findInstant_13 (fun hf => ?_)
    refine lv_goto (tgt := 23) hx hb dMo_findInstant_16 (by decide) ?_
    exact wMo_findInstant_23 X hf hw hS (lv_sub hl [0] rfl)
set_option maxHeartbeats 4000000 in
set_option maxRecDepth 100000 in
theorem mMo_findInstant {l : Launch} {G : ek_G} {kd : Nat → Nat} {I : ek_St} {x0 : Nat} {q : ek_St} (hf : fMo_findInstant kd I x0 = some q) : ek_M l G kd y_Mo_findInstant (.code y_Mo_findInstant prog_9_method_25_code 3 none :: lw_g) ({ frames := 0, cells := 0, slots := 0, locals := 0 } : Room) [ek_r G x0] I none q :=
  ek_body [(0, ek_r G x0)] (by decide) (by simp [lg_sl, ek_r_cat, ek_c_i, ek_c_l]) (by simp [lv_args, ek_r_cat, ek_c_i, ek_c_l]) (fun p e s m below meth c ls X hw hS hl => wMo_findInstant_0 X hf hw hS hl)
