/-! ElasticKernel$Divider.divide(LElasticKernel$Natural;LElasticKernel$Natural;)V -/
def fDv_divide_75 (kd : Nat → Nat) (k26 : (ek_St × Nat × Nat × Nat × Int32) → Option (ek_St)) (I : ek_St) (x0 : Nat) (x1 : Nat) (x2 : Nat) (i4 : Int32) : Option (ek_St) :=
  ek_let (i4 + (-1 : Int32)) (fun i4_1 => k26 (I, x0, x1, x2, i4_1))
def fDv_divide_26 (kd : Nat → Nat) (k26 : (ek_St × Nat × Nat × Nat × Int32) → Option (ek_St)) (I : ek_St) (x0 : Nat) (x1 : Nat) (x2 : Nat) (i4 : Int32) : Option (ek_St) :=
  if i4 < ((0 : Int32)) then (some I) else (ek_ck (kd x0 = 1) (ek_ck (kd (x0 + 3) = 3) (ek_bv (fNa_setShifted kd I (x0 + 3) x2 i4) (fun I2 => ek_ck (kd x0 = 1) (ek_bi (fNa_compareProducts kd I2 x1 ((1 : Int64)) (x0 + 3) ((1 : Int64))) (fun I4 ir5 => if ir5 < ((0 : Int32)) then (fDv_divide_75 kd k26 I4 x0 x1 x2 i4) else (ek_ck (kd x0 = 1) (ek_ck (kd x1 = 3) (ek_bv (fNa_weigh kd I4 x1 ((1 : Int64)) (x0 + 3) ((-1 : Int64))) (fun I7 => ek_ck (kd x0 = 1) (ek_ck (kd (x0 + 1) = 3) (ek_bv (fNa_setBit kd I7 (x0 + 1) i4) (fun I9 => fDv_divide_75 kd k26 I9 x0 x1 x2 i4)))))))))))))
def fDv_divide_0 (kd : Nat → Nat) (I : ek_St) (x0 : Nat) (x1 : Nat) (x2 : Nat) : Option (ek_St) :=
  ek_ck (kd x0 = 1) (ek_ck (kd (x0 + 1) = 3) (ek_bv (fNa_set kd I (x0 + 1) ((0 : Int32))) (fun I1 => ek_ck (kd x2 = 3) (ek_bi (fNa_bitLength kd I1 x2) (fun I3 ir5 => if ir5 = ((0 : Int32)) then (some I3) else (ek_ck (kd x1 = 3) (ek_bi (fNa_bitLength kd I3 x1) (fun I7 ir9 => ek_let (ir9 - ir5) (fun i4_10 => ek_lp (fun (k : (ek_St × Nat × Nat × Nat × Int32) → Option (ek_St)) (q : (ek_St × Nat × Nat × Nat × Int32)) => fDv_divide_26 kd k q.1 q.2.1 q.2.2.1 q.2.2.2.1 q.2.2.2.2) ek_N (I7, x0, x1, x2, i4_10))))))))))
def fDv_divide (kd : Nat → Nat) (I : ek_St) (x0 : Nat) (x1 : Nat) (x2 : Nat) : Option (ek_St) := fDv_divide_0 kd I x0 x1 x2
theorem dDv_divide_0 : decode prog_2_method_4_code 0 = .ok (.aload_n 0, 1) := by decide +kernel
theorem dDv_divide_1 : decode prog_2_method_4_code 1 = .ok (.getfield 10, 3) := by decide +kernel
theorem dDv_divide_4 : decode prog_2_method_4_code 4 = .ok (.iconst 0, 1) := by decide +kernel
theorem dDv_divide_5 : decode prog_2_method_4_code 5 = .ok (.invokevirtual 53, 3) := by decide +kernel
theorem dDv_divide_8 : decode prog_2_method_4_code 8 = .ok (.aload_n 2, 1) := by decide +kernel
theorem dDv_divide_9 : decode prog_2_method_4_code 9 = .ok (.invokevirtual 56, 3) := by decide +kernel
theorem dDv_divide_12 : decode prog_2_method_4_code 12 = .ok (.istore_n 3, 1) := by decide +kernel
theorem dDv_divide_13 : decode prog_2_method_4_code 13 = .ok (.iload_n 3, 1) := by decide +kernel
theorem dDv_divide_14 : decode prog_2_method_4_code 14 = .ok (.ifCond .ne 4, 3) := by decide +kernel
theorem dDv_divide_17 : decode prog_2_method_4_code 17 = .ok (.return_, 1) := by decide +kernel
theorem dDv_divide_18 : decode prog_2_method_4_code 18 = .ok (.aload_n 1, 1) := by decide +kernel
theorem dDv_divide_19 : decode prog_2_method_4_code 19 = .ok (.invokevirtual 56, 3) := by decide +kernel
theorem dDv_divide_22 : decode prog_2_method_4_code 22 = .ok (.iload_n 3, 1) := by decide +kernel
theorem dDv_divide_23 : decode prog_2_method_4_code 23 = .ok (.isub, 1) := by decide +kernel
theorem dDv_divide_24 : decode prog_2_method_4_code 24 = .ok (.istore 4, 2) := by decide +kernel
theorem dDv_divide_26 : decode prog_2_method_4_code 26 = .ok (.iload 4, 2) := by decide +kernel
theorem dDv_divide_28 : decode prog_2_method_4_code 28 = .ok (.ifCond .lt 53, 3) := by decide +kernel
theorem dDv_divide_31 : decode prog_2_method_4_code 31 = .ok (.aload_n 0, 1) := by decide +kernel
theorem dDv_divide_32 : decode prog_2_method_4_code 32 = .ok (.getfield 16, 3) := by decide +kernel
theorem dDv_divide_35 : decode prog_2_method_4_code 35 = .ok (.aload_n 2, 1) := by decide +kernel
theorem dDv_divide_36 : decode prog_2_method_4_code 36 = .ok (.iload 4, 2) := by decide +kernel
theorem dDv_divide_38 : decode prog_2_method_4_code 38 = .ok (.invokevirtual 60, 3) := by decide +kernel
theorem dDv_divide_41 : decode prog_2_method_4_code 41 = .ok (.aload_n 1, 1) := by decide +kernel
theorem dDv_divide_42 : decode prog_2_method_4_code 42 = .ok (.lconst 1, 1) := by decide +kernel
theorem dDv_divide_43 : decode prog_2_method_4_code 43 = .ok (.aload_n 0, 1) := by decide +kernel
theorem dDv_divide_44 : decode prog_2_method_4_code 44 = .ok (.getfield 16, 3) := by decide +kernel
theorem dDv_divide_47 : decode prog_2_method_4_code 47 = .ok (.lconst 1, 1) := by decide +kernel
theorem dDv_divide_48 : decode prog_2_method_4_code 48 = .ok (.invokestatic 64, 3) := by decide +kernel
theorem dDv_divide_51 : decode prog_2_method_4_code 51 = .ok (.ifCond .lt 24, 3) := by decide +kernel
theorem dDv_divide_54 : decode prog_2_method_4_code 54 = .ok (.aload_n 1, 1) := by decide +kernel
theorem dDv_divide_55 : decode prog_2_method_4_code 55 = .ok (.lconst 1, 1) := by decide +kernel
theorem dDv_divide_56 : decode prog_2_method_4_code 56 = .ok (.aload_n 0, 1) := by decide +kernel
theorem dDv_divide_57 : decode prog_2_method_4_code 57 = .ok (.getfield 16, 3) := by decide +kernel
theorem dDv_divide_60 : decode prog_2_method_4_code 60 = .ok (.ldc2_w 68, 3) := by decide +kernel
theorem dDv_divide_63 : decode prog_2_method_4_code 63 = .ok (.invokevirtual 70, 3) := by decide +kernel
theorem dDv_divide_66 : decode prog_2_method_4_code 66 = .ok (.aload_n 0, 1) := by decide +kernel
theorem dDv_divide_67 : decode prog_2_method_4_code 67 = .ok (.getfield 10, 3) := by decide +kernel
theorem dDv_divide_70 : decode prog_2_method_4_code 70 = .ok (.iload 4, 2) := by decide +kernel
theorem dDv_divide_72 : decode prog_2_method_4_code 72 = .ok (.invokevirtual 74, 3) := by decide +kernel
theorem dDv_divide_75 : decode prog_2_method_4_code 75 = .ok (.iinc 4 (-1), 3) := by decide +kernel
theorem dDv_divide_78 : decode prog_2_method_4_code 78 = .ok (.goto (-52), 3) := by decide +kernel
theorem dDv_divide_81 : decode prog_2_method_4_code 81 = .ok (.return_, 1) := by decide +kernel
set_option maxHeartbeats 4000000 in
set_option maxRecDepth 100000 in
theorem wDv_divide_75 {l : Launch} {G : ek_G} {kd : Nat → Nat} {p : Program} {e : Env} {s : State} {m : MethodId} {args : Array Value} {below : List Frame} {meth : Method} {c : Code} (X : ek_X p s m meth c args G prog_2_method_4_code 5 "ElasticKernel$Divider" none) {q : ek_St} {k26 : (ek_St × Nat × Nat × Nat × Int32) → Option (ek_St)} (hk26 : ∀ q0 : ek_St × Nat × Nat × Nat × Int32, k26 q0 = some q → ∀ (H : Heap) (locs : List Loc) (ls : Array Slot), ek_W G kd q0.1 H → va_S (ek_A G kd) s.heap H locs → lv_has ls 5 [(0, ek_r G q0.2.1), (1, ek_r G q0.2.2.1), (2, ek_r G q0.2.2.2.1), (4, .int q0.2.2.2.2)] → W p l e ({ frames := 2, cells := 0, slots := 0, locals := 48 } : Room) s m args below meth c H locs 0 0 (MQ below (ek_Q G kd none q) args s 0 0 (ek_A G kd)) (F0 m 26 ls [])) {I : ek_St} {x0 : Nat} {x1 : Nat} {x2 : Nat} {i4 : Int32} (hf : fDv_divide_75 kd k26 I x0 x1 x2 i4 = some q) {H : Heap} {locs : List Loc} {ls : Array Slot} (hw : ek_W G kd I H) (hS : va_S (ek_A G kd) s.heap H locs) (hl : lv_has ls 5 [(0, ek_r G x0), (1, ek_r G x1), (2, ek_r G x2), (4, .int i4)]) : W p l e ({ frames := 2, cells := 0, slots := 0, locals := 48 } : Room) s m args below meth c H locs 0 0 (MQ below (ek_Q G kd none q) args s 0 0 (ek_A G kd)) (F0 m 75 ls []) := by
  obtain ⟨hx, hb, hml, hown, hts, hr, hlocks, hK⟩ := id X
  have hA : ∀ q, ek_A G kd q → ek_A G kd q := fun _ h => h
  unfold fDv_divide_75 at hf
  refine ek_iinc hx hb 3 (fun i4_1 => [(4, .int i4_1), (0, ek_r G x0), (1, ek_r G x1), (2, ek_r G x2)]) dDv_divide_75 hl rfl (v := i4 + (-1 : Int32)) rfl hf (by decide) (fun i4_1 => ek_s1 rfl rfl) (fun i4_1 ls hf hl => ?_)
  refine lv_goto (tgt := 26) hx hb dDv_divide_78 (by decide) ?_
  exact hk26 (I, x0, x1, x2, i4_1) hf _ _ _ hw hS (lv_sub hl [1, 2, 3, 0] rfl)
set_option maxHeartbeats 4000000 in
set_option maxRecDepth 100000 in
theorem wDv_divide_26 {l : Launch} {G : ek_G} {kd : Nat → Nat} {p : Program} {e : Env} {s : State} {m : MethodId} {args : Array Value} {below : List Frame} {meth : Method} {c : Code} (X : ek_X p s m meth c args G prog_2_method_4_code 5 "ElasticKernel$Divider" none) {q : ek_St} {k26 : (ek_St × Nat × Nat × Nat × Int32) → Option (ek_St)} (hk26 : ∀ q0 : ek_St × Nat × Nat × Nat × Int32, k26 q0 = some q → ∀ (H : Heap) (locs : List Loc) (ls : Array Slot), ek_W G kd q0.1 H → va_S (ek_A G kd) s.heap H locs → lv_has ls 5 [(0, ek_r G q0.2.1), (1, ek_r G q0.2.2.1), (2, ek_r G q0.2.2.2.1), (4, .int q0.2.2.2.2)] → W p l e ({ frames := 2, cells := 0, slots := 0, locals := 48 } : Room) s m args below meth c H locs 0 0 (MQ below (ek_Q G kd none q) args s 0 0 (ek_A G kd)) (F0 m 26 ls [])) {I : ek_St} {x0 : Nat} {x1 : Nat} {x2 : Nat} {i4 : Int32} (hf : fDv_divide_26 kd k26 I x0 x1 x2 i4 = some q) {H : Heap} {locs : List Loc} {ls : Array Slot} (hw : ek_W G kd I H) (hS : va_S (ek_A G kd) s.heap H locs) (hl : lv_has ls 5 [(0, ek_r G x0), (1, ek_r G x1), (2, ek_r G x2), (4, .int i4)]) : W p l e ({ frames := 2, cells := 0, slots := 0, locals := 48 } : Room) s m args below meth c H locs 0 0 (MQ below (ek_Q G kd none q) args s 0 0 (ek_A G kd)) (F0 m 26 ls []) := by
  obtain ⟨hx, hb, hml, hown, hts, hr, hlocks, hK⟩ := id X
  have hA : ∀ q, ek_A G kd q → ek_A G kd q := fun _ h => h
  unfold fDv_divide_26 at hf
  refine lv_iload hx hb dDv_divide_26 (lv_at hl 3 rfl) ?_
  refine lv_if_lt (tgt := 81) hx hb dDv_divide_28 (by decide) (fun c1 => ?_) (fun c1 => ?_)
  · have hf := ek_t c1 hf
    exact ek_vret hx hb hr hlocks hw hS hf dDv_divide_81
  · have hf := ek_f c1 hf
    refine ek_aload_n hx hb dDv_divide_31 rfl (lv_at hl 0 rfl) ?_
    refine ek_getr hx hb 1 hts (in_Dv) hown hK hw rfl (by decide) (by decide) 1 (by decide) (n := 2) rfl rfl (hts _ q_164) hf dDv_divide_32 (fun hf => ?_)
    refine ek_aload_n hx hb dDv_divide_35 rfl (lv_at hl 2 rfl) ?_
    refine lv_iload hx hb dDv_divide_36 (lv_at hl 3 rfl) ?_
    obtain ⟨hx3, hf⟩ := ek_ck_s hf
    refine ek_cv hf hS hA (fun I' hq => ek_rV (As := [ek_r G x2, .int i4]) ⟨hx, hb, hml, hown, hts⟩ hK hw 3 rfl (by decide) (by decide) hx3 (mNa_setShifted hq) (cwV 2 hts (lw_V q_378 q_379 q_380 q_5 q_381) rfl rfl rfl (by decide +kernel) ⟨Nat.le_of_ble_eq_true rfl, Nat.le_of_ble_eq_true rfl⟩) rfl hl.1 rfl (Nat.le_of_ble_eq_true rfl) dDv_divide_38 ⟨Nat.zero_le _, Nat.zero_le _⟩) (fun I2 H locs hf hw hS => ?_)
    refine ek_aload_n hx hb dDv_divide_41 rfl (lv_at hl 1 rfl) ?_
    refine lv_lconst (v := (1 : Int64)) hx hb dDv_divide_42 (by decide) ?_
    refine ek_aload_n hx hb dDv_divide_43 rfl (lv_at hl 0 rfl) ?_
    refine ek_getr hx hb 1 hts (in_Dv) hown hK hw rfl (by decide) (by decide) 1 (by decide) (n := 2) rfl rfl (hts _ q_164) hf dDv_divide_44 (fun hf => ?_)
    refine lv_lconst (v := (1 : Int64)) hx hb dDv_divide_47 (by decide) ?_
    refine ek_ci hf hS hA (fun I' v hq => ek_rS (As := [ek_r G x1, .long ((1 : Int64)), ek_r G (x0 + 3), .long ((1 : Int64))]) ⟨hx, hb, hml, hown, hts⟩ hK hw (mNa_compareProducts hq) (ek_cwS 4 hts q_386 q_289 q_5 q_290 (by decide +kernel) ⟨Nat.le_of_ble_eq_true rfl, Nat.le_of_ble_eq_true rfl⟩) rfl hl.1 rfl (Nat.le_of_ble_eq_true rfl) dDv_divide_48 ⟨Nat.zero_le _, Nat.zero_le _⟩) (fun I4 ir5 H locs hf hw hS => ?_)
    refine lv_if_lt (tgt := 75) hx hb dDv_divide_51 (by decide) (fun c6 => ?_) (fun c6 => ?_)
    · have hf := ek_t c6 hf
      exact wDv_divide_75 X hk26 hf hw hS (lv_sub hl [0, 1, 2, 3] rfl)
    · have hf := ek_f c6 hf
      refine ek_aload_n hx hb dDv_divide_54 rfl (lv_at hl 1 rfl) ?_
      refine lv_lconst (v := (1 : Int64)) hx hb dDv_divide_55 (by decide) ?_
      refine ek_aload_n hx hb dDv_divide_56 rfl (lv_at hl 0 rfl) ?_
      refine ek_getr hx hb 1 hts (in_Dv) hown hK hw rfl (by decide) (by decide) 1 (by decide) (n := 2) rfl rfl (hts _ q_164) hf dDv_divide_57 (fun hf => ?_)
      refine lv_ldc2 hx hb hown (hts _ q_387) dDv_divide_60 ?_
      obtain ⟨hx8, hf⟩ := ek_ck_s hf
      refine ek_cv hf hS hA (fun I' hq => ek_rV (As := [.long ((1 : Int64)), ek_r G (x0 + 3), .long ((-1 : Int64))]) ⟨hx, hb, hml, hown, hts⟩ hK hw 3 rfl (by decide) (by decide) hx8 (mNa_weigh hq) (cwV 3 hts (lw_V q_388 q_274 q_275 q_5 q_276) rfl rfl rfl (by decide +kernel) ⟨Nat.le_of_ble_eq_true rfl, Nat.le_of_ble_eq_true rfl⟩) rfl hl.1 rfl (Nat.le_of_ble_eq_true rfl) dDv_divide_63 ⟨Nat.zero_le _, Nat.zero_le _⟩) (fun I7 H locs hf hw hS => ?_)
      refine ek_aload_n hx hb dDv_divide_66 rfl (lv_at hl 0 rfl) ?_
      refine ek_getr hx hb 1 hts (in_Dv) hown hK hw rfl (by decide) (by decide) 0 (by decide) (n := 0) rfl rfl (hts _ q_163) hf dDv_divide_67 (fun hf => ?_)
      refine lv_iload hx hb dDv_divide_70 (lv_at hl 3 rfl) ?_
      obtain ⟨hx10, hf⟩ := ek_ck_s hf
      refine ek_cv hf hS hA (fun I' hq => ek_rV (As := [.int i4]) ⟨hx, hb, hml, hown, hts⟩ hK hw 3 rfl (by decide) (by decide) hx10 (mNa_setBit hq) (cwV 1 hts (lw_V q_389 q_390 q_391 q_5 q_392) rfl rfl rfl (by decide +kernel) ⟨Nat.le_of_ble_eq_true rfl, Nat.le_of_ble_eq_true rfl⟩) rfl hl.1 rfl (Nat.le_of_ble_eq_true rfl) dDv_divide_72 ⟨Nat.zero_le _, Nat.zero_le _⟩) (fun I9 H locs hf hw hS => ?_)
      exact wDv_divide_75 X hk26 hf hw hS (lv_sub hl [0, 1, 2, 3] rfl)
set_option maxHeartbeats 4000000 in
set_option maxRecDepth 100000 in
theorem wDv_divide_26_lp {l : Launch} {G : ek_G} {kd : Nat → Nat} {p : Program} {e : Env} {s : State} {m : MethodId} {args : Array Value} {below : List Frame} {meth : Method} {c : Code} (X : ek_X p s m meth c args G prog_2_method_4_code 5 "ElasticKernel$Divider" none) {q : ek_St} (n : Nat) : ∀ q0 : ek_St × Nat × Nat × Nat × Int32, ek_lp (fun (k : (ek_St × Nat × Nat × Nat × Int32) → Option (ek_St)) (q : (ek_St × Nat × Nat × Nat × Int32)) => fDv_divide_26 kd k q.1 q.2.1 q.2.2.1 q.2.2.2.1 q.2.2.2.2) n q0 = some q → ∀ (H : Heap) (locs : List Loc) (ls : Array Slot), ek_W G kd q0.1 H → va_S (ek_A G kd) s.heap H locs → lv_has ls 5 [(0, ek_r G q0.2.1), (1, ek_r G q0.2.2.1), (2, ek_r G q0.2.2.2.1), (4, .int q0.2.2.2.2)] → W p l e ({ frames := 2, cells := 0, slots := 0, locals := 48 } : Room) s m args below meth c H locs 0 0 (MQ below (ek_Q G kd none q) args s 0 0 (ek_A G kd)) (F0 m 26 ls []) :=
  ek_lp_ind (fun k hk q0 hf => fun H locs ls hw hS hl => wDv_divide_26 X hk hf hw hS hl) n
set_option maxHeartbeats 4000000 in
set_option maxRecDepth 100000 in
theorem wDv_divide_0 {l : Launch} {G : ek_G} {kd : Nat → Nat} {p : Program} {e : Env} {s : State} {m : MethodId} {args : Array Value} {below : List Frame} {meth : Method} {c : Code} (X : ek_X p s m meth c args G prog_2_method_4_code 5 "ElasticKernel$Divider" none) {q : ek_St} {I : ek_St} {x0 : Nat} {x1 : Nat} {x2 : Nat} (hf : fDv_divide_0 kd I x0 x1 x2 = some q) {H : Heap} {locs : List Loc} {ls : Array Slot} (hw : ek_W G kd I H) (hS : va_S (ek_A G kd) s.heap H locs) (hl : lv_has ls 5 [(0, ek_r G x0), (1, ek_r G x1), (2, ek_r G x2)]) : W p l e ({ frames := 2, cells := 0, slots := 0, locals := 48 } : Room) s m args below meth c H locs 0 0 (MQ below (ek_Q G kd none q) args s 0 0 (ek_A G kd)) (F0 m 0 ls []) := by
  obtain ⟨hx, hb, hml, hown, hts, hr, hlocks, hK⟩ := id X
  have hA : ∀ q, ek_A G kd q → ek_A G kd q := fun _ h => h
  unfold fDv_divide_0 at hf
  refine ek_aload_n hx hb dDv_divide_0 rfl (lv_at hl 0 rfl) ?_
  refine ek_getr hx hb 1 hts (in_Dv) hown hK hw rfl (by decide) (by decide) 0 (by decide) (n := 0) rfl rfl (hts _ q_163) hf dDv_divide_1 (fun hf => ?_)
  refine lv_iconst (v := (0 : Int32)) hx hb dDv_divide_4 (by decide) ?_
  obtain ⟨hx2, hf⟩ := ek_ck_s hf
  refine ek_cv hf hS hA (fun I' hq => ek_rV (As := [.int ((0 : Int32))]) ⟨hx, hb, hml, hown, hts⟩ hK hw 3 rfl (by decide) (by decide) hx2 (mNa_set hq) (cwV 1 hts (lw_V q_376 q_55 q_56 q_5 q_57) rfl rfl rfl (by decide +kernel) ⟨Nat.le_of_ble_eq_true rfl, Nat.le_of_ble_eq_true rfl⟩) rfl hl.1 rfl (Nat.le_of_ble_eq_true rfl) dDv_divide_5 ⟨Nat.zero_le _, Nat.zero_le _⟩) (fun I1 H locs hf hw hS => ?_)
  refine ek_aload_n hx hb dDv_divide_8 rfl (lv_at hl 2 rfl) ?_
  obtain ⟨hx4, hf⟩ := ek_ck_s hf
  refine ek_ci hf hS hA (fun I' v hq => ek_rV (As := []) ⟨hx, hb, hml, hown, hts⟩ hK hw 3 rfl (by decide) (by decide) hx4 (mNa_bitLength hq) (cwV 0 hts (lw_V q_377 q_365 q_366 q_5 q_367) rfl rfl rfl (by decide +kernel) ⟨Nat.le_of_ble_eq_true rfl, Nat.le_of_ble_eq_true rfl⟩) rfl hl.1 rfl (Nat.le_of_ble_eq_true rfl) dDv_divide_9 ⟨Nat.zero_le _, Nat.zero_le _⟩) (fun I3 ir5 H locs hf hw hS => ?_)
  refine ek_istore_n (lv' := [(3, .int ir5), (2, ek_r G x2), (0, ek_r G x0), (1, ek_r G x1)]) hx hb dDv_divide_12 rfl hl (by decide) (ek_s1k 2 rfl rfl ek_r_cat rfl rfl) (fun ls hl => ?_)
  refine lv_iload_n hx hb dDv_divide_13 rfl (lv_at hl 0 rfl) ?_
  refine lv_if_ne (tgt := 18) hx hb dDv_divide_14 (by decide) (fun c6 => ?_) (fun c6 => ?_)
  · have hf := ek_f c6 hf
    refine ek_aload_n hx hb dDv_divide_18 rfl (lv_at hl 3 rfl) ?_
    obtain ⟨hx8, hf⟩ := ek_ck_s hf
    refine ek_ci hf hS hA (fun I' v hq => ek_rV (As := []) ⟨hx, hb, hml, hown, hts⟩ hK hw 3 rfl (by decide) (by decide) hx8 (mNa_bitLength hq) (cwV 0 hts (lw_V q_377 q_365 q_366 q_5 q_367) rfl rfl rfl (by decide +kernel) ⟨Nat.le_of_ble_eq_true rfl, Nat.le_of_ble_eq_true rfl⟩) rfl hl.1 rfl (Nat.le_of_ble_eq_true rfl) dDv_divide_19 ⟨Nat.zero_le _, Nat.zero_le _⟩) (fun I7 ir9 H locs hf hw hS => ?_)
    refine lv_iload_n hx hb dDv_divide_22 rfl (lv_at hl 0 rfl) ?_
    refine lv_isub hx hb dDv_divide_23 ?_
    refine ek_ti hf (fun i4_10 hf => ?_)
    refine ek_istore (lv' := [(4, .int i4_10), (3, .int ir5), (2, ek_r G x2), (0, ek_r G x0), (1, ek_r G x1)]) hx hb dDv_divide_24 hl (by decide) (ek_s1k 0 rfl rfl rfl rfl rfl) (fun ls hl => ?_)
    exact wDv_divide_26_lp X ek_N (I7, x0, x1, x2, i4_10) hf _ _ _ hw hS (lv_sub hl [3, 4, 2, 0] rfl)
  · have hf := ek_t c6 hf
    exact ek_vret hx hb hr hlocks hw hS hf dDv_divide_17
set_option maxHeartbeats 4000000 in
set_option maxRecDepth 100000 in
theorem mDv_divide {l : Launch} {G : ek_G} {kd : Nat → Nat} {I : ek_St} {x0 : Nat} {x1 : Nat} {x2 : Nat} {q : ek_St} (hf : fDv_divide kd I x0 x1 x2 = some q) : ek_M l G kd y_Dv_divide (.code y_Dv_divide prog_2_method_4_code 5 none :: lw_g) ({ frames := 2, cells := 0, slots := 0, locals := 48 } : Room) [ek_r G x0, ek_r G x1, ek_r G x2] I none q :=
  ek_body [(0, ek_r G x0), (1, ek_r G x1), (2, ek_r G x2)] (by decide) (by simp [lg_sl, ek_r_cat, ek_c_i, ek_c_l]) (by simp [lv_args, ek_r_cat, ek_c_i, ek_c_l]) (fun p e s m below meth c ls X hw hS hl => wDv_divide_0 X hf hw hS hl)
/-! ElasticKernel$Divider.reduce(LElasticKernel$Fraction;)V -/
def fDv_reduce_70 (kd : Nat → Nat) (I : ek_St) (x0 : Nat) (x1 : Nat) (x2 : Nat) : Option (ek_St) :=
  ek_ck (kd x1 = 2) (ek_ck (kd x0 = 1) (ek_bv (fDv_divide kd I x0 (x1 + 1) x2) (fun I1 => ek_ck (kd x1 = 2) (ek_ck (kd x0 = 1) (ek_ck (kd (x1 + 1) = 3) (ek_bv (fNa_copy kd I1 (x1 + 1) (x0 + 1)) (fun I3 => ek_ck (kd x1 = 2) (ek_ck (kd x0 = 1) (ek_bv (fDv_divide kd I3 x0 (x1 + 3) x2) (fun I5 => ek_ck (kd x1 = 2) (ek_ck (kd x0 = 1) (ek_ck (kd (x1 + 3) = 3) (ek_bv (fNa_copy kd I5 (x1 + 3) (x0 + 1)) (fun I7 => some I7))))))))))))))
def fDv_reduce_35 (kd : Nat → Nat) (k35 : (ek_St × Nat × Nat × Nat × Nat × Int32) → Option (ek_St)) (I : ek_St) (x0 : Nat) (x1 : Nat) (x2 : Nat) (x3 : Nat) (i4 : Int32) : Option (ek_St) :=
  if ((768 : Int32)) ≤ i4 then (fDv_reduce_70 kd I x0 x1 x2) else (ek_ck (kd x3 = 3) (ek_bi (fNa_isZero kd I x3) (fun I2 ir4 => if ir4 = ((0 : Int32)) then (ek_ck (kd x0 = 1) (ek_bv (fDv_divide kd I2 x0 x2 x3) (fun I6 => ek_let (i4 + (1 : Int32)) (fun i4_8 => k35 (I6, x0, x1, x3, x2, i4_8))))) else (fDv_reduce_70 kd I2 x0 x1 x2))))
def fDv_reduce_0 (kd : Nat → Nat) (I : ek_St) (x0 : Nat) (x1 : Nat) : Option (ek_St) :=
  ek_ck (kd x0 = 1) (ek_ck (kd x1 = 2) (ek_ck (kd (x0 + 5) = 3) (ek_bv (fNa_copy kd I (x0 + 5) (x1 + 1)) (fun I1 => ek_ck (kd x0 = 1) (ek_ck (kd x1 = 2) (ek_ck (kd (x0 + 7) = 3) (ek_bv (fNa_copy kd I1 (x0 + 7) (x1 + 3)) (fun I3 => ek_ck (kd x0 = 1) (ek_let (x0 + 5) (fun x2_5 => ek_ck (kd x0 = 1) (ek_let (x0 + 7) (fun x3_6 => ek_lp (fun (k : (ek_St × Nat × Nat × Nat × Nat × Int32) → Option (ek_St)) (q : (ek_St × Nat × Nat × Nat × Nat × Int32)) => fDv_reduce_35 kd k q.1 q.2.1 q.2.2.1 q.2.2.2.1 q.2.2.2.2.1 q.2.2.2.2.2) ek_N (I3, x0, x1, x2_5, x3_6, (0 : Int32))))))))))))))
def fDv_reduce (kd : Nat → Nat) (I : ek_St) (x0 : Nat) (x1 : Nat) : Option (ek_St) := fDv_reduce_0 kd I x0 x1
theorem dDv_reduce_0 : decode prog_2_method_3_code 0 = .ok (.aload_n 0, 1) := by decide +kernel
theorem dDv_reduce_1 : decode prog_2_method_3_code 1 = .ok (.getfield 19, 3) := by decide +kernel
theorem dDv_reduce_4 : decode prog_2_method_3_code 4 = .ok (.aload_n 1, 1) := by decide +kernel
theorem dDv_reduce_5 : decode prog_2_method_3_code 5 = .ok (.getfield 45, 3) := by decide +kernel
theorem dDv_reduce_8 : decode prog_2_method_3_code 8 = .ok (.invokevirtual 25, 3) := by decide +kernel
theorem dDv_reduce_11 : decode prog_2_method_3_code 11 = .ok (.aload_n 0, 1) := by decide +kernel
theorem dDv_reduce_12 : decode prog_2_method_3_code 12 = .ok (.getfield 22, 3) := by decide +kernel
theorem dDv_reduce_15 : decode prog_2_method_3_code 15 = .ok (.aload_n 1, 1) := by decide +kernel
theorem dDv_reduce_16 : decode prog_2_method_3_code 16 = .ok (.getfield 50, 3) := by decide +kernel
theorem dDv_reduce_19 : decode prog_2_method_3_code 19 = .ok (.invokevirtual 25, 3) := by decide +kernel
theorem dDv_reduce_22 : decode prog_2_method_3_code 22 = .ok (.aload_n 0, 1) := by decide +kernel
theorem dDv_reduce_23 : decode prog_2_method_3_code 23 = .ok (.getfield 19, 3) := by decide +kernel
theorem dDv_reduce_26 : decode prog_2_method_3_code 26 = .ok (.astore_n 2, 1) := by decide +kernel
theorem dDv_reduce_27 : decode prog_2_method_3_code 27 = .ok (.aload_n 0, 1) := by decide +kernel
theorem dDv_reduce_28 : decode prog_2_method_3_code 28 = .ok (.getfield 22, 3) := by decide +kernel
theorem dDv_reduce_31 : decode prog_2_method_3_code 31 = .ok (.astore_n 3, 1) := by decide +kernel
theorem dDv_reduce_32 : decode prog_2_method_3_code 32 = .ok (.iconst 0, 1) := by decide +kernel
theorem dDv_reduce_33 : decode prog_2_method_3_code 33 = .ok (.istore 4, 2) := by decide +kernel
theorem dDv_reduce_35 : decode prog_2_method_3_code 35 = .ok (.iload 4, 2) := by decide +kernel
theorem dDv_reduce_37 : decode prog_2_method_3_code 37 = .ok (.sipush 768, 3) := by decide +kernel
theorem dDv_reduce_40 : decode prog_2_method_3_code 40 = .ok (.if_icmp .ge 30, 3) := by decide +kernel
theorem dDv_reduce_43 : decode prog_2_method_3_code 43 = .ok (.aload_n 3, 1) := by decide +kernel
theorem dDv_reduce_44 : decode prog_2_method_3_code 44 = .ok (.invokevirtual 41, 3) := by decide +kernel
theorem dDv_reduce_47 : decode prog_2_method_3_code 47 = .ok (.ifCond .ne 23, 3) := by decide +kernel
theorem dDv_reduce_50 : decode prog_2_method_3_code 50 = .ok (.aload_n 0, 1) := by decide +kernel
theorem dDv_reduce_51 : decode prog_2_method_3_code 51 = .ok (.aload_n 2, 1) := by decide +kernel
theorem dDv_reduce_52 : decode prog_2_method_3_code 52 = .ok (.aload_n 3, 1) := by decide +kernel
theorem dDv_reduce_53 : decode prog_2_method_3_code 53 = .ok (.invokevirtual 33, 3) := by decide +kernel
theorem dDv_reduce_56 : decode prog_2_method_3_code 56 = .ok (.aload_n 2, 1) := by decide +kernel
theorem dDv_reduce_57 : decode prog_2_method_3_code 57 = .ok (.astore 5, 2) := by decide +kernel
theorem dDv_reduce_59 : decode prog_2_method_3_code 59 = .ok (.aload_n 3, 1) := by decide +kernel
theorem dDv_reduce_60 : decode prog_2_method_3_code 60 = .ok (.astore_n 2, 1) := by decide +kernel
theorem dDv_reduce_61 : decode prog_2_method_3_code 61 = .ok (.aload 5, 2) := by decide +kernel
theorem dDv_reduce_63 : decode prog_2_method_3_code 63 = .ok (.astore_n 3, 1) := by decide +kernel
theorem dDv_reduce_64 : decode prog_2_method_3_code 64 = .ok (.iinc 4 1, 3) := by decide +kernel
theorem dDv_reduce_67 : decode prog_2_method_3_code 67 = .ok (.goto (-32), 3) := by decide +kernel
theorem dDv_reduce_70 : decode prog_2_method_3_code 70 = .ok (.aload_n 0, 1) := by decide +kernel
theorem dDv_reduce_71 : decode prog_2_method_3_code 71 = .ok (.aload_n 1, 1) := by decide +kernel
theorem dDv_reduce_72 : decode prog_2_method_3_code 72 = .ok (.getfield 45, 3) := by decide +kernel
theorem dDv_reduce_75 : decode prog_2_method_3_code 75 = .ok (.aload_n 2, 1) := by decide +kernel
theorem dDv_reduce_76 : decode prog_2_method_3_code 76 = .ok (.invokevirtual 33, 3) := by decide +kernel
theorem dDv_reduce_79 : decode prog_2_method_3_code 79 = .ok (.aload_n 1, 1) := by decide +kernel
theorem dDv_reduce_80 : decode prog_2_method_3_code 80 = .ok (.getfield 45, 3) := by decide +kernel
theorem dDv_reduce_83 : decode prog_2_method_3_code 83 = .ok (.aload_n 0, 1) := by decide +kernel
theorem dDv_reduce_84 : decode prog_2_method_3_code 84 = .ok (.getfield 10, 3) := by decide +kernel
theorem dDv_reduce_87 : decode prog_2_method_3_code 87 = .ok (.invokevirtual 25, 3) := by decide +kernel
theorem dDv_reduce_90 : decode prog_2_method_3_code 90 = .ok (.aload_n 0, 1) := by decide +kernel
theorem dDv_reduce_91 : decode prog_2_method_3_code 91 = .ok (.aload_n 1, 1) := by decide +kernel
theorem dDv_reduce_92 : decode prog_2_method_3_code 92 = .ok (.getfield 50, 3) := by decide +kernel
theorem dDv_reduce_95 : decode prog_2_method_3_code 95 = .ok (.aload_n 2, 1) := by decide +kernel
theorem dDv_reduce_96 : decode prog_2_method_3_code 96 = .ok (.invokevirtual 33, 3) := by decide +kernel
theorem dDv_reduce_99 : decode prog_2_method_3_code 99 = .ok (.aload_n 1, 1) := by decide +kernel
theorem dDv_reduce_100 : decode prog_2_method_3_code 100 = .ok (.getfield 50, 3) := by decide +kernel
theorem dDv_reduce_103 : decode prog_2_method_3_code 103 = .ok (.aload_n 0, 1) := by decide +kernel
theorem dDv_reduce_104 : decode prog_2_method_3_code 104 = .ok (.getfield 10, 3) := by decide +kernel
theorem dDv_reduce_107 : decode prog_2_method_3_code 107 = .ok (.invokevirtual 25, 3) := by decide +kernel
theorem dDv_reduce_110 : decode prog_2_method_3_code 110 = .ok (.return_, 1) := by decide +kernel
set_option maxHeartbeats 4000000 in
set_option maxRecDepth 100000 in
theorem wDv_reduce_70 {l : Launch} {G : ek_G} {kd : Nat → Nat} {p : Program} {e : Env} {s : State} {m : MethodId} {args : Array Value} {below : List Frame} {meth : Method} {c : Code} (X : ek_X p s m meth c args G prog_2_method_3_code 6 "ElasticKernel$Divider" none) {q : ek_St} {I : ek_St} {x0 : Nat} {x1 : Nat} {x2 : Nat} (hf : fDv_reduce_70 kd I x0 x1 x2 = some q) {H : Heap} {locs : List Loc} {ls : Array Slot} (hw : ek_W G kd I H) (hS : va_S (ek_A G kd) s.heap H locs) (hl : lv_has ls 6 [(0, ek_r G x0), (1, ek_r G x1), (2, ek_r G x2)]) : W p l e ({ frames := 3, cells := 0, slots := 0, locals := 72 } : Room) s m args below meth c H locs 0 0 (MQ below (ek_Q G kd none q) args s 0 0 (ek_A G kd)) (F0 m 70 ls []) := by
  obtain ⟨hx, hb, hml, hown, hts, hr, hlocks, hK⟩ := id X
  have hA : ∀ q, ek_A G kd q → ek_A G kd q := fun _ h => h
  unfold fDv_reduce_70 at hf
  refine ek_aload_n hx hb dDv_reduce_70 rfl (lv_at hl 0 rfl) ?_
  refine ek_aload_n hx hb dDv_reduce_71 rfl (lv_at hl 1 rfl) ?_
  refine ek_getrN hx hb 2 hts (in_Fr) hown hK hw rfl (by decide) (by decide) 0 (by decide) (n := 0) rfl rfl (va_Nw.use rfl (hK.2 _ n_60)) hf dDv_reduce_72 (fun hf => ?_)
  refine ek_aload_n hx hb dDv_reduce_75 rfl (lv_at hl 2 rfl) ?_
  obtain ⟨hx2, hf⟩ := ek_ck_s hf
  refine ek_cv hf hS hA (fun I' hq => ek_rV (As := [ek_r G (x1 + 1), ek_r G x2]) ⟨hx, hb, hml, hown, hts⟩ hK hw 1 rfl (by decide) (by decide) hx2 (mDv_divide hq) (cwV 2 hts (lw_V q_372 q_374 p_7 q_7 q_375) rfl rfl rfl (by decide +kernel) ⟨Nat.le_of_ble_eq_true rfl, Nat.le_of_ble_eq_true rfl⟩) rfl hl.1 rfl (Nat.le_of_ble_eq_true rfl) dDv_reduce_76 ⟨Nat.zero_le _, Nat.zero_le _⟩) (fun I1 H locs hf hw hS => ?_)
  refine ek_aload_n hx hb dDv_reduce_79 rfl (lv_at hl 1 rfl) ?_
  refine ek_getrN hx hb 2 hts (in_Fr) hown hK hw rfl (by decide) (by decide) 0 (by decide) (n := 0) rfl rfl (va_Nw.use rfl (hK.2 _ n_60)) hf dDv_reduce_80 (fun hf => ?_)
  refine ek_aload_n hx hb dDv_reduce_83 rfl (lv_at hl 0 rfl) ?_
  refine ek_getr hx hb 1 hts (in_Dv) hown hK hw rfl (by decide) (by decide) 0 (by decide) (n := 0) rfl rfl (hts _ q_163) hf dDv_reduce_84 (fun hf => ?_)
  obtain ⟨hx4, hf⟩ := ek_ck_s hf
  refine ek_cv hf hS hA (fun I' hq => ek_rV (As := [ek_r G (x0 + 1)]) ⟨hx, hb, hml, hown, hts⟩ hK hw 3 rfl (by decide) (by decide) hx4 (mNa_copy hq) (cwV 1 hts (lw_V q_359 q_324 q_325 q_5 q_326) rfl rfl rfl (by decide +kernel) ⟨Nat.le_of_ble_eq_true rfl, Nat.le_of_ble_eq_true rfl⟩) rfl hl.1 rfl (Nat.le_of_ble_eq_true rfl) dDv_reduce_87 ⟨Nat.zero_le _, Nat.zero_le _⟩) (fun I3 H locs hf hw hS => ?_)
  refine ek_aload_n hx hb dDv_reduce_90 rfl (lv_at hl 0 rfl) ?_
  refine ek_aload_n hx hb dDv_reduce_91 rfl (lv_at hl 1 rfl) ?_
  refine ek_getrN hx hb 2 hts (in_Fr) hown hK hw rfl (by decide) (by decide) 1 (by decide) (n := 2) rfl rfl (va_Nw.use rfl (hK.2 _ n_64)) hf dDv_reduce_92 (fun hf => ?_)
  refine ek_aload_n hx hb dDv_reduce_95 rfl (lv_at hl 2 rfl) ?_
  obtain ⟨hx6, hf⟩ := ek_ck_s hf
  refine ek_cv hf hS hA (fun I' hq => ek_rV (As := [ek_r G (x1 + 3), ek_r G x2]) ⟨hx, hb, hml, hown, hts⟩ hK hw 1 rfl (by decide) (by decide) hx6 (mDv_divide hq) (cwV 2 hts (lw_V q_372 q_374 p_7 q_7 q_375) rfl rfl rfl (by decide +kernel) ⟨Nat.le_of_ble_eq_true rfl, Nat.le_of_ble_eq_true rfl⟩) rfl hl.1 rfl (Nat.le_of_ble_eq_true rfl) dDv_reduce_96 ⟨Nat.zero_le _, Nat.zero_le _⟩) (fun I5 H locs hf hw hS => ?_)
  refine ek_aload_n hx hb dDv_reduce_99 rfl (lv_at hl 1 rfl) ?_
  refine ek_getrN hx hb 2 hts (in_Fr) hown hK hw rfl (by decide) (by decide) 1 (by decide) (n := 2) rfl rfl (va_Nw.use rfl (hK.2 _ n_64)) hf dDv_reduce_100 (fun hf => ?_)
  refine ek_aload_n hx hb dDv_reduce_103 rfl (lv_at hl 0 rfl) ?_
  refine ek_getr hx hb 1 hts (in_Dv) hown hK hw rfl (by decide) (by decide) 0 (by decide) (n := 0) rfl rfl (hts _ q_163) hf dDv_reduce_104 (fun hf => ?_)
  obtain ⟨hx8, hf⟩ := ek_ck_s hf
  refine ek_cv hf hS hA (fun I' hq => ek_rV (As := [ek_r G (x0 + 1)]) ⟨hx, hb, hml, hown, hts⟩ hK hw 3 rfl (by decide) (by decide) hx8 (mNa_copy hq) (cwV 1 hts (lw_V q_359 q_324 q_325 q_5 q_326) rfl rfl rfl (by decide +kernel) ⟨Nat.le_of_ble_eq_true rfl, Nat.le_of_ble_eq_true rfl⟩) rfl hl.1 rfl (Nat.le_of_ble_eq_true rfl) dDv_reduce_107 ⟨Nat.zero_le _, Nat.zero_le _⟩) (fun I7 H locs hf hw hS => ?_)
  exact ek_vret hx hb hr hlocks hw hS hf dDv_reduce_110
set_option maxHeartbeats 4000000 in
set_option maxRecDepth 100000 in
theorem wDv_reduce_35 {l : Launch} {G : ek_G} {kd : Nat → Nat} {p : Program} {e : Env} {s : State} {m : MethodId} {args : Array Value} {below : List Frame} {meth : Method} {c : Code} (X : ek_X p s m meth c args G prog_2_method_3_code 6 "ElasticKernel$Divider" none) {q : ek_St} {k35 : (ek_St × Nat × Nat × Nat × Nat × Int32) → Option (ek_St)} (hk35 : ∀ q0 : ek_St × Nat × Nat × Nat × Nat × Int32, k35 q0 = some q → ∀ (H : Heap) (locs : List Loc) (ls : Array Slot), ek_W G kd q0.1 H → va_S (ek_A G kd) s.heap H locs → lv_has ls 6 [(0, ek_r G q0.2.1), (1, ek_r G q0.2.2.1), (2, ek_r G q0.2.2.2.1), (3, ek_r G q0.2.2.2.2.1), (4, .int q0.2.2.2.2.2)] → W p l e ({ frames := 3, cells := 0, slots := 0, locals := 72 } : Room) s m args below meth c H locs 0 0 (MQ below (ek_Q G kd none q) args s 0 0 (ek_A G kd)) (F0 m 35 ls [])) {I : ek_St} {x0 : Nat} {x1 : Nat} {x2 : Nat} {x3 : Nat} {i4 : Int32} (hf : fDv_reduce_35 kd k35 I x0 x1 x2 x3 i4 = some q) {H : Heap} {locs : List Loc} {ls : Array Slot} (hw : ek_W G kd I H) (hS : va_S (ek_A G kd) s.heap H locs) (hl : lv_has ls 6 [(0, ek_r G x0), (1, ek_r G x1), (2, ek_r G x2), (3, ek_r G x3), (4, .int i4)]) : W p l e ({ frames := 3, cells := 0, slots := 0, locals := 72 } : Room) s m args below meth c H locs 0 0 (MQ below (ek_Q G kd none q) args s 0 0 (ek_A G kd)) (F0 m 35 ls []) := by
  obtain ⟨hx, hb, hml, hown, hts, hr, hlocks, hK⟩ := id X
  have hA : ∀ q, ek_A G kd q → ek_A G kd q := fun _ h => h
  unfold fDv_reduce_35 at hf
  refine lv_iload hx hb dDv_reduce_35 (lv_at hl 4 rfl) ?_
  refine lv_sipush (v := (768 : Int32)) hx hb dDv_reduce_37 (by decide) ?_
  refine lv_icmp_ge (tgt := 70) hx hb dDv_reduce_40 (by decide) (fun c1 => ?_) (fun c1 => ?_)
  · have hf := ek_t c1 hf
    exact wDv_reduce_70 X hf hw hS (lv_sub hl [0, 1, 2] rfl)
  · have hf := ek_f c1 hf
    refine ek_aload_n hx hb dDv_reduce_43 rfl (lv_at hl 3 rfl) ?_
    obtain ⟨hx3, hf⟩ := ek_ck_s hf
    refine ek_ci hf hS hA (fun I' v hq => ek_rV (As := []) ⟨hx, hb, hml, hown, hts⟩ hK hw 3 rfl (by decide) (by decide) hx3 (mNa_isZero hq) (cwV 0 hts (lw_V q_360 q_361 q_362 q_5 q_363) rfl rfl rfl (by decide +kernel) ⟨Nat.le_of_ble_eq_true rfl, Nat.le_of_ble_eq_true rfl⟩) rfl hl.1 rfl (Nat.le_of_ble_eq_true rfl) dDv_reduce_44 ⟨Nat.zero_le _, Nat.zero_le _⟩) (fun I2 ir4 H locs hf hw hS => ?_)
    refine lv_if_ne (tgt := 70) hx hb dDv_reduce_47 (by decide) (fun c5 => ?_) (fun c5 => ?_)
    · have hf := ek_f c5 hf
      exact wDv_reduce_70 X hf hw hS (lv_sub hl [0, 1, 2] rfl)
    · have hf := ek_t c5 hf
      refine ek_aload_n hx hb dDv_reduce_50 rfl (lv_at hl 0 rfl) ?_
      refine ek_aload_n hx hb dDv_reduce_51 rfl (lv_at hl 2 rfl) ?_
      refine ek_aload_n hx hb dDv_reduce_52 rfl (lv_at hl 3 rfl) ?_
      obtain ⟨hx7, hf⟩ := ek_ck_s hf
      refine ek_cv hf hS hA (fun I' hq => ek_rV (As := [ek_r G x2, ek_r G x3]) ⟨hx, hb, hml, hown, hts⟩ hK hw 1 rfl (by decide) (by decide) hx7 (mDv_divide hq) (cwV 2 hts (lw_V q_372 q_374 p_7 q_7 q_375) rfl rfl rfl (by decide +kernel) ⟨Nat.le_of_ble_eq_true rfl, Nat.le_of_ble_eq_true rfl⟩) rfl hl.1 rfl (Nat.le_of_ble_eq_true rfl) dDv_reduce_53 ⟨Nat.zero_le _, Nat.zero_le _⟩) (fun I6 H locs hf hw hS => ?_)
      refine ek_aload_n hx hb dDv_reduce_56 rfl (lv_at hl 2 rfl) ?_
      refine ek_astore (lv' := [(5, ek_r G x2), (4, .int i4), (0, ek_r G x0), (1, ek_r G x1), (2, ek_r G x2), (3, ek_r G x3)]) hx hb dDv_reduce_57 hl (by decide) (ek_s1k 4 rfl rfl rfl ek_r_cat rfl) (fun ls hl => ?_)
      refine ek_aload_n hx hb dDv_reduce_59 rfl (lv_at hl 5 rfl) ?_
      refine ek_astore_n (lv' := [(2, ek_r G x3), (1, ek_r G x1), (5, ek_r G x2), (4, .int i4), (0, ek_r G x0), (3, ek_r G x3)]) hx hb dDv_reduce_60 rfl hl (by decide) (ek_s1k 3 rfl rfl ek_r_cat ek_r_cat rfl) (fun ls hl => ?_)
      refine ek_aload hx hb dDv_reduce_61 (lv_at hl 2 rfl) ?_
      refine ek_astore_n (lv' := [(3, ek_r G x2), (2, ek_r G x3), (1, ek_r G x1), (5, ek_r G x2), (4, .int i4), (0, ek_r G x0)]) hx hb dDv_reduce_63 rfl hl (by decide) (ek_s1k 0 rfl rfl ek_r_cat ek_r_cat rfl) (fun ls hl => ?_)
      refine ek_iinc hx hb 4 (fun i4_8 => [(4, .int i4_8), (3, ek_r G x2), (2, ek_r G x3), (1, ek_r G x1), (5, ek_r G x2), (0, ek_r G x0)]) dDv_reduce_64 hl rfl (v := i4 + (1 : Int32)) rfl hf (by decide) (fun i4_8 => ek_s1k 0 rfl rfl ek_r_cat rfl rfl) (fun i4_8 ls hf hl => ?_)
      refine lv_goto (tgt := 35) hx hb dDv_reduce_67 (by decide) ?_
      exact hk35 (I6, x0, x1, x3, x2, i4_8) hf _ _ _ hw hS (lv_sub hl [5, 3, 2, 1, 0] rfl)
set_option maxHeartbeats 4000000 in
set_option maxRecDepth 100000 in
theorem wDv_reduce_35_lp {l : Launch} {G : ek_G} {kd : Nat → Nat} {p : Program} {e : Env} {s : State} {m : MethodId} {args : Array Value} {below : List Frame} {meth : Method} {c : Code} (X : ek_X p s m meth c args G prog_2_method_3_code 6 "ElasticKernel$Divider" none) {q : ek_St} (n : Nat) : ∀ q0 : ek_St × Nat × Nat × Nat × Nat × Int32, ek_lp (fun (k : (ek_St × Nat × Nat × Nat × Nat × Int32) → Option (ek_St)) (q : (ek_St × Nat × Nat × Nat × Nat × Int32)) => fDv_reduce_35 kd k q.1 q.2.1 q.2.2.1 q.2.2.2.1 q.2.2.2.2.1 q.2.2.2.2.2) n q0 = some q → ∀ (H : Heap) (locs : List Loc) (ls : Array Slot), ek_W G kd q0.1 H → va_S (ek_A G kd) s.heap H locs → lv_has ls 6 [(0, ek_r G q0.2.1), (1, ek_r G q0.2.2.1), (2, ek_r G q0.2.2.2.1), (3, ek_r G q0.2.2.2.2.1), (4, .int q0.2.2.2.2.2)] → W p l e ({ frames := 3, cells := 0, slots := 0, locals := 72 } : Room) s m args below meth c H locs 0 0 (MQ below (ek_Q G kd none q) args s 0 0 (ek_A G kd)) (F0 m 35 ls []) :=
  ek_lp_ind (fun k hk q0 hf => fun H locs ls hw hS hl => wDv_reduce_35 X hk hf hw hS hl) n
set_option maxHeartbeats 4000000 in
set_option maxRecDepth 100000 in
theorem wDv_reduce_0 {l : Launch} {G : ek_G} {kd : Nat → Nat} {p : Program} {e : Env} {s : State} {m : MethodId} {args : Array Value} {below : List Frame} {meth : Method} {c : Code} (X : ek_X p s m meth c args G prog_2_method_3_code 6 "ElasticKernel$Divider" none) {q : ek_St} {I : ek_St} {x0 : Nat} {x1 : Nat} (hf : fDv_reduce_0 kd I x0 x1 = some q) {H : Heap} {locs : List Loc} {ls : Array Slot} (hw : ek_W G kd I H) (hS : va_S (ek_A G kd) s.heap H locs) (hl : lv_has ls 6 [(0, ek_r G x0), (1, ek_r G x1)]) : W p l e ({ frames := 3, cells := 0, slots := 0, locals := 72 } : Room) s m args below meth c H locs 0 0 (MQ below (ek_Q G kd none q) args s 0 0 (ek_A G kd)) (F0 m 0 ls []) := by
  obtain ⟨hx, hb, hml, hown, hts, hr, hlocks, hK⟩ := id X
  have hA : ∀ q, ek_A G kd q → ek_A G kd q := fun _ h => h
  unfold fDv_reduce_0 at hf
  refine ek_aload_n hx hb dDv_reduce_0 rfl (lv_at hl 0 rfl) ?_
  refine ek_getr hx hb 1 hts (in_Dv) hown hK hw rfl (by decide) (by decide) 2 (by decide) (n := 4) rfl rfl (hts _ q_165) hf dDv_reduce_1 (fun hf => ?_)
  refine ek_aload_n hx hb dDv_reduce_4 rfl (lv_at hl 1 rfl) ?_
  refine ek_getrN hx hb 2 hts (in_Fr) hown hK hw rfl (by decide) (by decide) 0 (by decide) (n := 0) rfl rfl (va_Nw.use rfl (hK.2 _ n_60)) hf dDv_reduce_5 (fun hf => ?_)
  obtain ⟨hx2, hf⟩ := ek_ck_s hf
  refine ek_cv hf hS hA (fun I' hq => ek_rV (As := [ek_r G (x1 + 1)]) ⟨hx, hb, hml, hown, hts⟩ hK hw 3 rfl (by decide) (by decide) hx2 (mNa_copy hq) (cwV 1 hts (lw_V q_359 q_324 q_325 q_5 q_326) rfl rfl rfl (by decide +kernel) ⟨Nat.le_of_ble_eq_true rfl, Nat.le_of_ble_eq_true rfl⟩) rfl hl.1 rfl (Nat.le_of_ble_eq_true rfl) dDv_reduce_8 ⟨Nat.zero_le _, Nat.zero_le _⟩) (fun I1 H locs hf hw hS => ?_)
  refine ek_aload_n hx hb dDv_reduce_11 rfl (lv_at hl 0 rfl) ?_
  refine ek_getr hx hb 1 hts (in_Dv) hown hK hw rfl (by decide) (by decide) 3 (by decide) (n := 6) rfl rfl (hts _ q_166) hf dDv_reduce_12 (fun hf => ?_)
  refine ek_aload_n hx hb dDv_reduce_15 rfl (lv_at hl 1 rfl) ?_
  refine ek_getrN hx hb 2 hts (in_Fr) hown hK hw rfl (by decide) (by decide) 1 (by decide) (n := 2) rfl rfl (va_Nw.use rfl (hK.2 _ n_64)) hf dDv_reduce_16 (fun hf => ?_)
  obtain ⟨hx4, hf⟩ := ek_ck_s hf
  refine ek_cv hf hS hA (fun I' hq => ek_rV (As := [ek_r G (x1 + 3)]) ⟨hx, hb, hml, hown, hts⟩ hK hw 3 rfl (by decide) (by decide) hx4 (mNa_copy hq) (cwV 1 hts (lw_V q_359 q_324 q_325 q_5 q_326) rfl rfl rfl (by decide +kernel) ⟨Nat.le_of_ble_eq_true rfl, Nat.le_of_ble_eq_true rfl⟩) rfl hl.1 rfl (Nat.le_of_ble_eq_true rfl) dDv_reduce_19 ⟨Nat.zero_le _, Nat.zero_le _⟩) (fun I3 H locs hf hw hS => ?_)
  refine ek_aload_n hx hb dDv_reduce_22 rfl (lv_at hl 0 rfl) ?_
  refine ek_getr hx hb 1 hts (in_Dv) hown hK hw rfl (by decide) (by decide) 2 (by decide) (n := 4) rfl rfl (hts _ q_165) hf dDv_reduce_23 (fun hf => ?_)
  refine ek_tr hf (fun x2_5 hf => ?_)
  refine ek_astore_n (lv' := [(2, ek_r G x2_5), (1, ek_r G x1), (0, ek_r G x0)]) hx hb dDv_reduce_26 rfl hl (by decide) (ek_s1k 1 rfl rfl ek_r_cat ek_r_cat rfl) (fun ls hl => ?_)
  refine ek_aload_n hx hb dDv_reduce_27 rfl (lv_at hl 2 rfl) ?_
  refine ek_getr hx hb 1 hts (in_Dv) hown hK hw rfl (by decide) (by decide) 3 (by decide) (n := 6) rfl rfl (hts _ q_166) hf dDv_reduce_28 (fun hf => ?_)
  refine ek_tr hf (fun x3_6 hf => ?_)
  refine ek_astore_n (lv' := [(3, ek_r G x3_6), (2, ek_r G x2_5), (1, ek_r G x1), (0, ek_r G x0)]) hx hb dDv_reduce_31 rfl hl (by decide) (ek_s1k 0 rfl rfl ek_r_cat ek_r_cat rfl) (fun ls hl => ?_)
  refine lv_iconst (v := (0 : Int32)) hx hb dDv_reduce_32 (by decide) ?_
  refine ek_istore (lv' := [(4, .int ((0 : Int32))), (3, ek_r G x3_6), (2, ek_r G x2_5), (1, ek_r G x1), (0, ek_r G x0)]) hx hb dDv_reduce_33 hl (by decide) (ek_s1k 0 rfl rfl ek_r_cat rfl rfl) (fun ls hl => ?_)
  exact wDv_reduce_35_lp X ek_N (I3, x0, x1, x2_5, x3_6, (0 : Int32)) hf _ _ _ hw hS (lv_sub hl [4, 3, 2, 1, 0] rfl)
set_option maxHeartbeats 4000000 in
set_option maxRecDepth 100000 in
theorem mDv_reduce {l : Launch} {G : ek_G} {kd : Nat → Nat} {I : ek_St} {x0 : Nat} {x1 : Nat} {q : ek_St} (hf : fDv_reduce kd I x0 x1 = some q) : ek_M l G kd y_Dv_reduce (.code y_Dv_reduce prog_2_method_3_code 6 none :: lw_g) ({ frames := 3, cells := 0, slots := 0, locals := 72 } : Room) [ek_r G x0, ek_r G x1] I none q :=
  ek_body [(0, ek_r G x0), (1, ek_r G x1)] (by decide) (by simp [lg_sl, ek_r_cat, ek_c_i, ek_c_l]) (by simp [lv_args, ek_r_cat, ek_c_i, ek_c_l]) (fun p e s m below meth c ls X hw hS hl => wDv_reduce_0 X hf hw hS hl)
/-! ElasticKernel$Divider.ratioUp(LElasticKernel$Natural;ILElasticKernel$Natural;)I -/
def fDv_ratioUp_48 (kd : Nat → Nat) (I : ek_St) (t0 : Int32) (t1 : Int32) : Option (ek_St × Int32) :=
  some (I, t0 + t1)
def fDv_ratioUp_0 (kd : Nat → Nat) (I : ek_St) (x0 : Nat) (x1 : Nat) (i2 : Int32) (x3 : Nat) : Option (ek_St × Int32) :=
  ek_ck (kd x0 = 1) (ek_ck (kd (x0 + 5) = 3) (ek_bv (fNa_copy kd I (x0 + 5) x1) (fun I1 => ek_ck (kd x0 = 1) (ek_ck (kd (x0 + 5) = 3) (ek_bv (fNa_multiply kd I1 (x0 + 5) i2) (fun I3 => ek_ck (kd x0 = 1) (ek_ck (kd x0 = 1) (ek_bv (fDv_divide kd I3 x0 (x0 + 5) x3) (fun I5 => ek_ck (kd x0 = 1) (ek_ck (kd (x0 + 1) = 3) (ek_bi (fNa_word kd I5 (x0 + 1) ((0 : Int32))) (fun I7 ir9 => ek_ck (kd x0 = 1) (ek_ck (kd (x0 + 5) = 3) (ek_bi (fNa_isZero kd I7 (x0 + 5)) (fun I10 ir12 => if ir12 = ((0 : Int32)) then (fDv_ratioUp_48 kd I10 ir9 ((1 : Int32))) else (fDv_ratioUp_48 kd I10 ir9 ((0 : Int32))))))))))))))))))
def fDv_ratioUp (kd : Nat → Nat) (I : ek_St) (x0 : Nat) (x1 : Nat) (i2 : Int32) (x3 : Nat) : Option (ek_St × Int32) := fDv_ratioUp_0 kd I x0 x1 i2 x3
theorem dDv_ratioUp_0 : decode prog_2_method_2_code 0 = .ok (.aload_n 0, 1) := by decide +kernel
theorem dDv_ratioUp_1 : decode prog_2_method_2_code 1 = .ok (.getfield 19, 3) := by decide +kernel
theorem dDv_ratioUp_4 : decode prog_2_method_2_code 4 = .ok (.aload_n 1, 1) := by decide +kernel
theorem dDv_ratioUp_5 : decode prog_2_method_2_code 5 = .ok (.invokevirtual 25, 3) := by decide +kernel
theorem dDv_ratioUp_8 : decode prog_2_method_2_code 8 = .ok (.aload_n 0, 1) := by decide +kernel
theorem dDv_ratioUp_9 : decode prog_2_method_2_code 9 = .ok (.getfield 19, 3) := by decide +kernel
theorem dDv_ratioUp_12 : decode prog_2_method_2_code 12 = .ok (.iload_n 2, 1) := by decide +kernel
theorem dDv_ratioUp_13 : decode prog_2_method_2_code 13 = .ok (.invokevirtual 29, 3) := by decide +kernel
theorem dDv_ratioUp_16 : decode prog_2_method_2_code 16 = .ok (.aload_n 0, 1) := by decide +kernel
theorem dDv_ratioUp_17 : decode prog_2_method_2_code 17 = .ok (.aload_n 0, 1) := by decide +kernel
theorem dDv_ratioUp_18 : decode prog_2_method_2_code 18 = .ok (.getfield 19, 3) := by decide +kernel
theorem dDv_ratioUp_21 : decode prog_2_method_2_code 21 = .ok (.aload_n 3, 1) := by decide +kernel
theorem dDv_ratioUp_22 : decode prog_2_method_2_code 22 = .ok (.invokevirtual 33, 3) := by decide +kernel
theorem dDv_ratioUp_25 : decode prog_2_method_2_code 25 = .ok (.aload_n 0, 1) := by decide +kernel
theorem dDv_ratioUp_26 : decode prog_2_method_2_code 26 = .ok (.getfield 10, 3) := by decide +kernel
theorem dDv_ratioUp_29 : decode prog_2_method_2_code 29 = .ok (.iconst 0, 1) := by decide +kernel
theorem dDv_ratioUp_30 : decode prog_2_method_2_code 30 = .ok (.invokevirtual 37, 3) := by decide +kernel
theorem dDv_ratioUp_33 : decode prog_2_method_2_code 33 = .ok (.aload_n 0, 1) := by decide +kernel
theorem dDv_ratioUp_34 : decode prog_2_method_2_code 34 = .ok (.getfield 19, 3) := by decide +kernel
theorem dDv_ratioUp_37 : decode prog_2_method_2_code 37 = .ok (.invokevirtual 41, 3) := by decide +kernel
theorem dDv_ratioUp_40 : decode prog_2_method_2_code 40 = .ok (.ifCond .eq 7, 3) := by decide +kernel
theorem dDv_ratioUp_43 : decode prog_2_method_2_code 43 = .ok (.iconst 0, 1) := by decide +kernel
theorem dDv_ratioUp_44 : decode prog_2_method_2_code 44 = .ok (.goto 4, 3) := by decide +kernel
theorem dDv_ratioUp_47 : decode prog_2_method_2_code 47 = .ok (.iconst 1, 1) := by decide +kernel
theorem dDv_ratioUp_48 : decode prog_2_method_2_code 48 = .ok (.iadd, 1) := by decide +kernel
theorem dDv_ratioUp_49 : decode prog_2_method_2_code 49 = .ok (.ireturn, 1) := by decide +kernel
set_option maxHeartbeats 4000000 in
set_option maxRecDepth 100000 in
theorem wDv_ratioUp_48 {l : Launch} {G : ek_G} {kd : Nat → Nat} {p : Program} {e : Env} {s : State} {m : MethodId} {args : Array Value} {below : List Frame} {meth : Method} {c : Code} (X : ek_X p s m meth c args G prog_2_method_2_code 4 "ElasticKernel$Divider" (some .int)) {q : ek_St × Int32} {I : ek_St} {t0 : Int32} {t1 : Int32} (hf : fDv_ratioUp_48 kd I t0 t1 = some q) {H : Heap} {locs : List Loc} {ls : Array Slot} (hw : ek_W G kd I H) (hS : va_S (ek_A G kd) s.heap H locs) (hl : lv_has ls 4 []) : W p l e ({ frames := 3, cells := 0, slots := 0, locals := 72 } : Room) s m args below meth c H locs 0 0 (MQ below (ek_Q G kd (some (.int q.2)) q.1) args s 0 0 (ek_A G kd)) (F0 m 48 ls [.int t1, .int t0]) := by
  obtain ⟨hx, hb, hml, hown, hts, hr, hlocks, hK⟩ := id X
  have hA : ∀ q, ek_A G kd q → ek_A G kd q := fun _ h => h
  unfold fDv_ratioUp_48 at hf
  refine lv_iadd hx hb dDv_ratioUp_48 ?_
  exact ek_iret hx hb hr hlocks hw hS hf dDv_ratioUp_49
set_option maxHeartbeats 4000000 in
set_option maxRecDepth 100000 in
theorem wDv_ratioUp_0 {l : Launch} {G : ek_G} {kd : Nat → Nat} {p : Program} {e : Env} {s : State} {m : MethodId} {args : Array Value} {below : List Frame} {meth : Method} {c : Code} (X : ek_X p s m meth c args G prog_2_method_2_code 4 "ElasticKernel$Divider" (some .int)) {q : ek_St × Int32} {I : ek_St} {x0 : Nat} {x1 : Nat} {i2 : Int32} {x3 : Nat} (hf : fDv_ratioUp_0 kd I x0 x1 i2 x3 = some q) {H : Heap} {locs : List Loc} {ls : Array Slot} (hw : ek_W G kd I H) (hS : va_S (ek_A G kd) s.heap H locs) (hl : lv_has ls 4 [(0, ek_r G x0), (1, ek_r G x1), (2, .int i2), (3, ek_r G x3)]) : W p l e ({ frames := 3, cells := 0, slots := 0, locals := 72 } : Room) s m args below meth c H locs 0 0 (MQ below (ek_Q G kd (some (.int q.2)) q.1) args s 0 0 (ek_A G kd)) (F0 m 0 ls []) := by
  obtain ⟨hx, hb, hml, hown, hts, hr, hlocks, hK⟩ := id X
  have hA : ∀ q, ek_A G kd q → ek_A G kd q := fun _ h => h
  unfold fDv_ratioUp_0 at hf
  refine ek_aload_n hx hb dDv_ratioUp_0 rfl (lv_at hl 0 rfl) ?_
  refine ek_getr hx hb 1 hts (in_Dv) hown hK hw rfl (by decide) (by decide) 2 (by decide) (n := 4) rfl rfl (hts _ q_165) hf dDv_ratioUp_1 (fun hf => ?_)
  refine ek_aload_n hx hb dDv_ratioUp_4 rfl (lv_at hl 1 rfl) ?_
  obtain ⟨hx2, hf⟩ := ek_ck_s hf
  refine ek_cv hf hS hA (fun I' hq => ek_rV (As := [ek_r G x1]) ⟨hx, hb, hml, hown, hts⟩ hK hw 3 rfl (by decide) (by decide) hx2 (mNa_copy hq) (cwV 1 hts (lw_V q_359 q_324 q_325 q_5 q_326) rfl rfl rfl (by decide +kernel) ⟨Nat.le_of_ble_eq_true rfl, Nat.le_of_ble_eq_true rfl⟩) rfl hl.1 rfl (Nat.le_of_ble_eq_true rfl) dDv_ratioUp_5 ⟨Nat.zero_le _, Nat.zero_le _⟩) (fun I1 H locs hf hw hS => ?_)
  refine ek_aload_n hx hb dDv_ratioUp_8 rfl (lv_at hl 0 rfl) ?_
  refine ek_getr hx hb 1 hts (in_Dv) hown hK hw rfl (by decide) (by decide) 2 (by decide) (n := 4) rfl rfl (hts _ q_165) hf dDv_ratioUp_9 (fun hf => ?_)
  refine lv_iload_n hx hb dDv_ratioUp_12 rfl (lv_at hl 2 rfl) ?_
  obtain ⟨hx4, hf⟩ := ek_ck_s hf
  refine ek_cv hf hS hA (fun I' hq => ek_rV (As := [.int i2]) ⟨hx, hb, hml, hown, hts⟩ hK hw 3 rfl (by decide) (by decide) hx4 (mNa_multiply hq) (cwV 1 hts (lw_V q_407 q_279 q_280 q_5 q_281) rfl rfl rfl (by decide +kernel) ⟨Nat.le_of_ble_eq_true rfl, Nat.le_of_ble_eq_true rfl⟩) rfl hl.1 rfl (Nat.le_of_ble_eq_true rfl) dDv_ratioUp_13 ⟨Nat.zero_le _, Nat.zero_le _⟩) (fun I3 H locs hf hw hS => ?_)
  refine ek_aload_n hx hb dDv_ratioUp_16 rfl (lv_at hl 0 rfl) ?_
  refine ek_aload_n hx hb dDv_ratioUp_17 rfl (lv_at hl 0 rfl) ?_
  refine ek_getr hx hb 1 hts (in_Dv) hown hK hw rfl (by decide) (by decide) 2 (by decide) (n := 4) rfl rfl (hts _ q_165) hf dDv_ratioUp_18 (fun hf => ?_)
  refine ek_aload_n hx hb dDv_ratioUp_21 rfl (lv_at hl 3 rfl) ?_
  obtain ⟨hx6, hf⟩ := ek_ck_s hf
  refine ek_cv hf hS hA (fun I' hq => ek_rV (As := [ek_r G (x0 + 5), ek_r G x3]) ⟨hx, hb, hml, hown, hts⟩ hK hw 1 rfl (by decide) (by decide) hx6 (mDv_divide hq) (cwV 2 hts (lw_V q_372 q_374 p_7 q_7 q_375) rfl rfl rfl (by decide +kernel) ⟨Nat.le_of_ble_eq_true rfl, Nat.le_of_ble_eq_true rfl⟩) rfl hl.1 rfl (Nat.le_of_ble_eq_true rfl) dDv_ratioUp_22 ⟨Nat.zero_le _, Nat.zero_le _⟩) (fun I5 H locs hf hw hS => ?_)
  refine ek_aload_n hx hb dDv_ratioUp_25 rfl (lv_at hl 0 rfl) ?_
  refine ek_getr hx hb 1 hts (in_Dv) hown hK hw rfl (by decide) (by decide) 0 (by decide) (n := 0) rfl rfl (hts _ q_163) hf dDv_ratioUp_26 (fun hf => ?_)
  refine lv_iconst (v := (0 : Int32)) hx hb dDv_ratioUp_29 (by decide) ?_
  obtain ⟨hx8, hf⟩ := ek_ck_s hf
  refine ek_ci hf hS hA (fun I' v hq => ek_rV (As := [.int ((0 : Int32))]) ⟨hx, hb, hml, hown, hts⟩ hK hw 3 rfl (by decide) (by decide) hx8 (mNa_word hq) (cwV 1 hts (lw_V q_408 q_383 q_384 q_5 q_385) rfl rfl rfl (by decide +kernel) ⟨Nat.le_of_ble_eq_true rfl, Nat.le_of_ble_eq_true rfl⟩) rfl hl.1 rfl (Nat.le_of_ble_eq_true rfl) dDv_ratioUp_30 ⟨Nat.zero_le _, Nat.zero_le _⟩) (fun I7 ir9 H locs hf hw hS => ?_)
  refine ek_aload_n hx hb dDv_ratioUp_33 rfl (lv_at hl 0 rfl) ?_
  refine ek_getr hx hb 1 hts (in_Dv) hown hK hw rfl (by decide) (by decide) 2 (by decide) (n := 4) rfl rfl (hts _ q_165) hf dDv_ratioUp_34 (fun hf => ?_)
  obtain ⟨hx11, hf⟩ := ek_ck_s hf
  refine ek_ci hf hS hA (fun I' v hq => ek_rV (As := []) ⟨hx, hb, hml, hown, hts⟩ hK hw 3 rfl (by decide) (by decide) hx11 (mNa_isZero hq) (cwV 0 hts (lw_V q_360 q_361 q_362 q_5 q_363) rfl rfl rfl (by decide +kernel) ⟨Nat.le_of_ble_eq_true rfl, Nat.le_of_ble_eq_true rfl⟩) rfl hl.1 rfl (Nat.le_of_ble_eq_true rfl) dDv_ratioUp_37 ⟨Nat.zero_le _, Nat.zero_le _⟩) (fun I10 ir12 H locs hf hw hS => ?_)
  refine lv_if_eq (tgt := 47) hx hb dDv_ratioUp_40 (by decide) (fun c13 => ?_) (fun c13 => ?_)
  · have hf := ek_t c13 hf
    refine lv_iconst (v := (1 : Int32)) hx hb dDv_ratioUp_47 (by decide) ?_
    exact wDv_ratioUp_48 X hf hw hS (lv_sub hl [] rfl)
  · have hf := ek_f c13 hf
    refine lv_iconst (v := (0 : Int32)) hx hb dDv_ratioUp_43 (by decide) ?_
    refine lv_goto (tgt := 48) hx hb dDv_ratioUp_44 (by decide) ?_
    exact wDv_ratioUp_48 X hf hw hS (lv_sub hl [] rfl)
set_option maxHeartbeats 4000000 in
set_option maxRecDepth 100000 in
theorem mDv_ratioUp {l : Launch} {G : ek_G} {kd : Nat → Nat} {I : ek_St} {x0 : Nat} {x1 : Nat} {i2 : Int32} {x3 : Nat} {q : ek_St × Int32} (hf : fDv_ratioUp kd I x0 x1 i2 x3 = some q) : ek_M l G kd y_Dv_ratioUp (.code y_Dv_ratioUp prog_2_method_2_code 4 (some .int) :: lw_g) ({ frames := 3, cells := 0, slots := 0, locals := 72 } : Room) [ek_r G x0, ek_r G x1, .int i2, ek_r G x3] I (some (.int q.2)) q.1 :=
  ek_body [(0, ek_r G x0), (1, ek_r G x1), (2, .int i2), (3, ek_r G x3)] (by decide) (by simp [lg_sl, ek_r_cat, ek_c_i, ek_c_l]) (by simp [lv_args, ek_r_cat, ek_c_i, ek_c_l]) (fun p e s m below meth c ls X hw hS hl => wDv_ratioUp_0 X hf hw hS hl)
