/-! ElasticKernel$Springs.firstTooMuch(LElasticKernel$Roster;I)I -/
def fSp_firstTooMuch_11 (kd : Nat → Nat) (k11 : (ek_St × Nat × Nat × Int32 × Int32) → Option (ek_St × Int32)) (I : ek_St) (x0 : Nat) (x1 : Nat) (i2 : Int32) (i3 : Int32) : Option (ek_St × Int32) :=
  ek_ck (kd x1 = 4) (if (I x1 1) ≤ i3 then (some (I, (0 : Int32))) else (ek_ck (kd x1 = 4) (ek_ck (kd (x1 + 1) = 60) (ek_ck (ek_in i3 12) (ek_let ((I (x1 + 1) i3.toNatClampNeg).toNatClampNeg) (fun x4_2 => ek_ck (kd x0 = 5) (ek_ck (kd x4_2 = 6) (ek_ck (kd x4_2 = 6) (ek_ck (kd (x0 + 6) = 2) (ek_bv (fFr_join kd I (x0 + 6) ((1 : Int32)) (I x4_2 1) (I x4_2 3)) (fun I3 => ek_ck (kd x0 = 5) (ek_ck (kd (x0 + 6) = 2) (ek_bi (fFr_compare kd I3 (x0 + 6) (Int32.toInt64 i2) ((1000 : Int64))) (fun I5 ir7 => if ir7 ≤ ((0 : Int32)) then (ek_let (i3 + (1 : Int32)) (fun i3_9 => k11 (I5, x0, x1, i2, i3_9))) else (ek_ck (kd x4_2 = 6) (some (I5, I5 x4_2 0)))))))))))))))))
def fSp_firstTooMuch_0 (kd : Nat → Nat) (I : ek_St) (x0 : Nat) (x1 : Nat) (i2 : Int32) : Option (ek_St × Int32) :=
  ek_ck (kd x0 = 5) (ek_ck (kd (x0 + 6) = 2) (ek_bv (fFr_set kd I (x0 + 6) ((0 : Int32)) ((1 : Int32))) (fun I1 => ek_lp (fun (k : (ek_St × Nat × Nat × Int32 × Int32) → Option (ek_St × Int32)) (q : (ek_St × Nat × Nat × Int32 × Int32)) => fSp_firstTooMuch_11 kd k q.1 q.2.1 q.2.2.1 q.2.2.2.1 q.2.2.2.2) ek_N (I1, x0, x1, i2, (0 : Int32)))))
def fSp_firstTooMuch (kd : Nat → Nat) (I : ek_St) (x0 : Nat) (x1 : Nat) (i2 : Int32) : Option (ek_St × Int32) := fSp_firstTooMuch_0 kd I x0 x1 i2
theorem dSp_firstTooMuch_0 : decode prog_6_method_2_code 0 = .ok (.aload_n 0, 1) := by decide +kernel
theorem dSp_firstTooMuch_1 : decode prog_6_method_2_code 1 = .ok (.getfield 18, 3) := by decide +kernel
theorem dSp_firstTooMuch_4 : decode prog_6_method_2_code 4 = .ok (.iconst 0, 1) := by decide +kernel
theorem dSp_firstTooMuch_5 : decode prog_6_method_2_code 5 = .ok (.iconst 1, 1) := by decide +kernel
theorem dSp_firstTooMuch_6 : decode prog_6_method_2_code 6 = .ok (.invokevirtual 34, 3) := by decide +kernel
theorem dSp_firstTooMuch_9 : decode prog_6_method_2_code 9 = .ok (.iconst 0, 1) := by decide +kernel
theorem dSp_firstTooMuch_10 : decode prog_6_method_2_code 10 = .ok (.istore_n 3, 1) := by decide +kernel
theorem dSp_firstTooMuch_11 : decode prog_6_method_2_code 11 = .ok (.iload_n 3, 1) := by decide +kernel
theorem dSp_firstTooMuch_12 : decode prog_6_method_2_code 12 = .ok (.aload_n 1, 1) := by decide +kernel
theorem dSp_firstTooMuch_13 : decode prog_6_method_2_code 13 = .ok (.getfield 38, 3) := by decide +kernel
theorem dSp_firstTooMuch_16 : decode prog_6_method_2_code 16 = .ok (.if_icmp .ge 56, 3) := by decide +kernel
theorem dSp_firstTooMuch_19 : decode prog_6_method_2_code 19 = .ok (.aload_n 1, 1) := by decide +kernel
theorem dSp_firstTooMuch_20 : decode prog_6_method_2_code 20 = .ok (.getfield 44, 3) := by decide +kernel
theorem dSp_firstTooMuch_23 : decode prog_6_method_2_code 23 = .ok (.iload_n 3, 1) := by decide +kernel
theorem dSp_firstTooMuch_24 : decode prog_6_method_2_code 24 = .ok (.aaload, 1) := by decide +kernel
theorem dSp_firstTooMuch_25 : decode prog_6_method_2_code 25 = .ok (.astore 4, 2) := by decide +kernel
theorem dSp_firstTooMuch_27 : decode prog_6_method_2_code 27 = .ok (.aload_n 0, 1) := by decide +kernel
theorem dSp_firstTooMuch_28 : decode prog_6_method_2_code 28 = .ok (.getfield 18, 3) := by decide +kernel
theorem dSp_firstTooMuch_31 : decode prog_6_method_2_code 31 = .ok (.iconst 1, 1) := by decide +kernel
theorem dSp_firstTooMuch_32 : decode prog_6_method_2_code 32 = .ok (.aload 4, 2) := by decide +kernel
theorem dSp_firstTooMuch_34 : decode prog_6_method_2_code 34 = .ok (.getfield 48, 3) := by decide +kernel
theorem dSp_firstTooMuch_37 : decode prog_6_method_2_code 37 = .ok (.aload 4, 2) := by decide +kernel
theorem dSp_firstTooMuch_39 : decode prog_6_method_2_code 39 = .ok (.getfield 53, 3) := by decide +kernel
theorem dSp_firstTooMuch_42 : decode prog_6_method_2_code 42 = .ok (.invokevirtual 56, 3) := by decide +kernel
theorem dSp_firstTooMuch_45 : decode prog_6_method_2_code 45 = .ok (.aload_n 0, 1) := by decide +kernel
theorem dSp_firstTooMuch_46 : decode prog_6_method_2_code 46 = .ok (.getfield 18, 3) := by decide +kernel
theorem dSp_firstTooMuch_49 : decode prog_6_method_2_code 49 = .ok (.iload_n 2, 1) := by decide +kernel
theorem dSp_firstTooMuch_50 : decode prog_6_method_2_code 50 = .ok (.i2l, 1) := by decide +kernel
theorem dSp_firstTooMuch_51 : decode prog_6_method_2_code 51 = .ok (.ldc2_w 60, 3) := by decide +kernel
theorem dSp_firstTooMuch_54 : decode prog_6_method_2_code 54 = .ok (.invokevirtual 62, 3) := by decide +kernel
theorem dSp_firstTooMuch_57 : decode prog_6_method_2_code 57 = .ok (.ifCond .le 9, 3) := by decide +kernel
theorem dSp_firstTooMuch_60 : decode prog_6_method_2_code 60 = .ok (.aload 4, 2) := by decide +kernel
theorem dSp_firstTooMuch_62 : decode prog_6_method_2_code 62 = .ok (.getfield 66, 3) := by decide +kernel
theorem dSp_firstTooMuch_65 : decode prog_6_method_2_code 65 = .ok (.ireturn, 1) := by decide +kernel
theorem dSp_firstTooMuch_66 : decode prog_6_method_2_code 66 = .ok (.iinc 3 1, 3) := by decide +kernel
theorem dSp_firstTooMuch_69 : decode prog_6_method_2_code 69 = .ok (.goto (-58), 3) := by decide +kernel
theorem dSp_firstTooMuch_72 : decode prog_6_method_2_code 72 = .ok (.iconst 0, 1) := by decide +kernel
theorem dSp_firstTooMuch_73 : decode prog_6_method_2_code 73 = .ok (.ireturn, 1) := by decide +kernel
set_option maxHeartbeats 4000000 in
set_option maxRecDepth 100000 in
theorem wSp_firstTooMuch_11 {l : Launch} {G : ek_G} {kd : Nat → Nat} {p : Program} {e : Env} {s : State} {m : MethodId} {args : Array Value} {below : List Frame} {meth : Method} {c : Code} (X : ek_X p s m meth c args G prog_6_method_2_code 5 "ElasticKernel$Springs" (some .int)) {q : ek_St × Int32} {k11 : (ek_St × Nat × Nat × Int32 × Int32) → Option (ek_St × Int32)} (hk11 : ∀ q0 : ek_St × Nat × Nat × Int32 × Int32, k11 q0 = some q → ∀ (H : Heap) (locs : List Loc) (ls : Array Slot), ek_W G kd q0.1 H → va_S (ek_A G kd) s.heap H locs → lv_has ls 5 [(0, ek_r G q0.2.1), (1, ek_r G q0.2.2.1), (2, .int q0.2.2.2.1), (3, .int q0.2.2.2.2)] → W p l e ({ frames := 3, cells := 0, slots := 0, locals := 79 } : Room) s m args below meth c H locs 0 0 (MQ below (ek_Q G kd (some (.int q.2)) q.1) args s 0 0 (ek_A G kd)) (F0 m 11 ls [])) {I : ek_St} {x0 : Nat} {x1 : Nat} {i2 : Int32} {i3 : Int32} (hf : fSp_firstTooMuch_11 kd k11 I x0 x1 i2 i3 = some q) {H : Heap} {locs : List Loc} {ls : Array Slot} (hw : ek_W G kd I H) (hS : va_S (ek_A G kd) s.heap H locs) (hl : lv_has ls 5 [(0, ek_r G x0), (1, ek_r G x1), (2, .int i2), (3, .int i3)]) : W p l e ({ frames := 3, cells := 0, slots := 0, locals := 79 } : Room) s m args below meth c H locs 0 0 (MQ below (ek_Q G kd (some (.int q.2)) q.1) args s 0 0 (ek_A G kd)) (F0 m 11 ls []) := by
  obtain ⟨hx, hb, hml, hown, hts, hr, hlocks, hK⟩ := id X
  have hA : ∀ q, ek_A G kd q → ek_A G kd q := fun _ h => h
  unfold fSp_firstTooMuch_11 at hf
  refine lv_iload_n hx hb dSp_firstTooMuch_11 rfl (lv_at hl 3 rfl) ?_
  refine ek_aload_n hx hb dSp_firstTooMuch_12 rfl (lv_at hl 1 rfl) ?_
  refine ek_getiN hx hb 4 hts (in_Ro) hown hK hw rfl (by decide) (by decide) 1 (by decide) rfl (va_Nw.use rfl (hK.2 _ n_140)) hf dSp_firstTooMuch_13 (fun hf => ?_)
  refine lv_icmp_ge (tgt := 72) hx hb dSp_firstTooMuch_16 (by decide) (fun c1 => ?_) (fun c1 => ?_)
  · have hf := ek_t c1 hf
    refine lv_iconst (v := (0 : Int32)) hx hb dSp_firstTooMuch_72 (by decide) ?_
    exact ek_iret hx hb hr hlocks hw hS hf dSp_firstTooMuch_73
  · have hf := ek_f c1 hf
    refine ek_aload_n hx hb dSp_firstTooMuch_19 rfl (lv_at hl 1 rfl) ?_
    refine ek_getrN hx hb 4 hts (in_Ro) hown hK hw rfl (by decide) (by decide) 0 (by decide) (n := 0) rfl rfl (va_Nw.use rfl (hK.2 _ n_137)) hf dSp_firstTooMuch_20 (fun hf => ?_)
    refine lv_iload_n hx hb dSp_firstTooMuch_23 rfl (lv_at hl 3 rfl) ?_
    refine ek_aald hx hb hK hw hf dSp_firstTooMuch_24 (fun hf => ?_)
    refine ek_tr hf (fun x4_2 hf => ?_)
    refine ek_astore (lv' := [(4, ek_r G x4_2), (3, .int i3), (0, ek_r G x0), (1, ek_r G x1), (2, .int i2)]) hx hb dSp_firstTooMuch_25 hl (by decide) (ek_s1k 3 rfl rfl rfl ek_r_cat rfl) (fun ls hl => ?_)
    refine ek_aload_n hx hb dSp_firstTooMuch_27 rfl (lv_at hl 2 rfl) ?_
    refine ek_getr hx hb 5 hts (in_Sp) hown hK hw rfl (by decide) (by decide) 1 (by decide) (n := 5) rfl rfl (hts _ q_178) hf dSp_firstTooMuch_28 (fun hf => ?_)
    refine lv_iconst (v := (1 : Int32)) hx hb dSp_firstTooMuch_31 (by decide) ?_
    refine ek_aload hx hb dSp_firstTooMuch_32 (lv_at hl 0 rfl) ?_
    refine ek_getiN hx hb 6 hts (in_Ta) hown hK hw rfl (by decide) (by decide) 1 (by decide) rfl (va_Nw.use rfl (hK.2 _ n_76)) hf dSp_firstTooMuch_34 (fun hf => ?_)
    refine ek_aload hx hb dSp_firstTooMuch_37 (lv_at hl 0 rfl) ?_
    refine ek_getiN hx hb 6 hts (in_Ta) hown hK hw rfl (by decide) (by decide) 3 (by decide) rfl (va_Nw.use rfl (hK.2 _ n_81)) hf dSp_firstTooMuch_39 (fun hf => ?_)
    obtain ⟨hx4, hf⟩ := ek_ck_s hf
    refine ek_cv hf hS hA (fun I' hq => ek_rV (As := [.int ((1 : Int32)), .int (I x4_2 1), .int (I x4_2 3)]) ⟨hx, hb, hml, hown, hts⟩ hK hw 2 rfl (by decide) (by decide) hx4 (mFr_join hq) (cwV 3 hts (lw_V q_258 q_259 q_260 q_4 q_261) rfl rfl rfl (by decide +kernel) ⟨Nat.le_of_ble_eq_true rfl, Nat.le_of_ble_eq_true rfl⟩) rfl hl.1 rfl (Nat.le_of_ble_eq_true rfl) dSp_firstTooMuch_42 ⟨Nat.zero_le _, Nat.zero_le _⟩) (fun I3 H locs hf hw hS => ?_)
    refine ek_aload_n hx hb dSp_firstTooMuch_45 rfl (lv_at hl 2 rfl) ?_
    refine ek_getr hx hb 5 hts (in_Sp) hown hK hw rfl (by decide) (by decide) 1 (by decide) (n := 5) rfl rfl (hts _ q_178) hf dSp_firstTooMuch_46 (fun hf => ?_)
    refine lv_iload_n hx hb dSp_firstTooMuch_49 rfl (lv_at hl 4 rfl) ?_
    refine lv_i2l hx hb dSp_firstTooMuch_50 rfl ?_
    refine lv_ldc2 hx hb hown (hts _ q_283) dSp_firstTooMuch_51 ?_
    obtain ⟨hx6, hf⟩ := ek_ck_s hf
    refine ek_ci hf hS hA (fun I' v hq => ek_rV (As := [.long (Int32.toInt64 i2), .long ((1000 : Int64))]) ⟨hx, hb, hml, hown, hts⟩ hK hw 2 rfl (by decide) (by decide) hx6 (mFr_compare hq) (cwV 2 hts (lw_V q_284 q_285 q_286 q_4 q_287) rfl rfl rfl (by decide +kernel) ⟨Nat.le_of_ble_eq_true rfl, Nat.le_of_ble_eq_true rfl⟩) rfl hl.1 rfl (Nat.le_of_ble_eq_true rfl) dSp_firstTooMuch_54 ⟨Nat.zero_le _, Nat.zero_le _⟩) (fun I5 ir7 H locs hf hw hS => ?_)
    refine lv_if_le (tgt := 66) hx hb dSp_firstTooMuch_57 (by decide) (fun c8 => ?_) (fun c8 => ?_)
    · have hf := ek_t c8 hf
      refine ek_iinc hx hb 1 (fun i3_9 => [(3, .int i3_9), (2, .int i2), (4, ek_r G x4_2), (0, ek_r G x0), (1, ek_r G x1)]) dSp_firstTooMuch_66 hl rfl (v := i3 + (1 : Int32)) rfl hf (by decide) (fun i3_9 => ek_s1k 4 rfl rfl rfl rfl rfl) (fun i3_9 ls hf hl => ?_)
      refine lv_goto (tgt := 11) hx hb dSp_firstTooMuch_69 (by decide) ?_
      exact hk11 (I5, x0, x1, i2, i3_9) hf _ _ _ hw hS (lv_sub hl [3, 4, 1, 0] rfl)
    · have hf := ek_f c8 hf
      refine ek_aload hx hb dSp_firstTooMuch_60 (lv_at hl 0 rfl) ?_
      refine ek_getiN hx hb 6 hts (in_Ta) hown hK hw rfl (by decide) (by decide) 0 (by decide) rfl (va_Nw.use rfl (hK.2 _ n_73)) hf dSp_firstTooMuch_62 (fun hf => ?_)
      exact ek_iret hx hb hr hlocks hw hS hf dSp_firstTooMuch_65
set_option maxHeartbeats 4000000 in
set_option maxRecDepth 100000 in
theorem wSp_firstTooMuch_11_lp {l : Launch} {G : ek_G} {kd : Nat → Nat} {p : Program} {e : Env} {s : State} {m : MethodId} {args : Array Value} {below : List Frame} {meth : Method} {c : Code} (X : ek_X p s m meth c args G prog_6_method_2_code 5 "ElasticKernel$Springs" (some .int)) {q : ek_St × Int32} (n : Nat) : ∀ q0 : ek_St × Nat × Nat × Int32 × Int32, ek_lp (fun (k : (ek_St × Nat × Nat × Int32 × Int32) → Option (ek_St × Int32)) (q : (ek_St × Nat × Nat × Int32 × Int32)) => fSp_firstTooMuch_11 kd k q.1 q.2.1 q.2.2.1 q.2.2.2.1 q.2.2.2.2) n q0 = some q → ∀ (H : Heap) (locs : List Loc) (ls : Array Slot), ek_W G kd q0.1 H → va_S (ek_A G kd) s.heap H locs → lv_has ls 5 [(0, ek_r G q0.2.1), (1, ek_r G q0.2.2.1), (2, .int q0.2.2.2.1), (3, .int q0.2.2.2.2)] → W p l e ({ frames := 3, cells := 0, slots := 0, locals := 79 } : Room) s m args below meth c H locs 0 0 (MQ below (ek_Q G kd (some (.int q.2)) q.1) args s 0 0 (ek_A G kd)) (F0 m 11 ls []) :=
  ek_lp_ind (fun k hk q0 hf => fun H locs ls hw hS hl => wSp_firstTooMuch_11 X hk hf hw hS hl) n
set_option maxHeartbeats 4000000 in
set_option maxRecDepth 100000 in
theorem wSp_firstTooMuch_0 {l : Launch} {G : ek_G} {kd : Nat → Nat} {p : Program} {e : Env} {s : State} {m : MethodId} {args : Array Value} {below : List Frame} {meth : Method} {c : Code} (X : ek_X p s m meth c args G prog_6_method_2_code 5 "ElasticKernel$Springs" (some .int)) {q : ek_St × Int32} {I : ek_St} {x0 : Nat} {x1 : Nat} {i2 : Int32} (hf : fSp_firstTooMuch_0 kd I x0 x1 i2 = some q) {H : Heap} {locs : List Loc} {ls : Array Slot} (hw : ek_W G kd I H) (hS : va_S (ek_A G kd) s.heap H locs) (hl : lv_has ls 5 [(0, ek_r G x0), (1, ek_r G x1), (2, .int i2)]) : W p l e ({ frames := 3, cells := 0, slots := 0, locals := 79 } : Room) s m args below meth c H locs 0 0 (MQ below (ek_Q G kd (some (.int q.2)) q.1) args s 0 0 (ek_A G kd)) (F0 m 0 ls []) := by
  obtain ⟨hx, hb, hml, hown, hts, hr, hlocks, hK⟩ := id X
  have hA : ∀ q, ek_A G kd q → ek_A G kd q := fun _ h => h
  unfold fSp_firstTooMuch_0 at hf
  refine ek_aload_n hx hb dSp_firstTooMuch_0 rfl (lv_at hl 0 rfl) ?_
  refine ek_getr hx hb 5 hts (in_Sp) hown hK hw rfl (by decide) (by decide) 1 (by decide) (n := 5) rfl rfl (hts _ q_178) hf dSp_firstTooMuch_1 (fun hf => ?_)
  refine lv_iconst (v := (0 : Int32)) hx hb dSp_firstTooMuch_4 (by decide) ?_
  refine lv_iconst (v := (1 : Int32)) hx hb dSp_firstTooMuch_5 (by decide) ?_
  obtain ⟨hx2, hf⟩ := ek_ck_s hf
  refine ek_cv hf hS hA (fun I' hq => ek_rV (As := [.int ((0 : Int32)), .int ((1 : Int32))]) ⟨hx, hb, hml, hown, hts⟩ hK hw 2 rfl (by decide) (by decide) hx2 (mFr_set hq) (cwV 2 hts (lw_V q_248 q_249 q_250 q_4 q_251) rfl rfl rfl (by decide +kernel) ⟨Nat.le_of_ble_eq_true rfl, Nat.le_of_ble_eq_true rfl⟩) rfl hl.1 rfl (Nat.le_of_ble_eq_true rfl) dSp_firstTooMuch_6 ⟨Nat.zero_le _, Nat.zero_le _⟩) (fun I1 H locs hf hw hS => ?_)
  refine lv_iconst (v := (0 : Int32)) hx hb dSp_firstTooMuch_9 (by decide) ?_
  refine ek_istore_n (lv' := [(3, .int ((0 : Int32))), (2, .int i2), (0, ek_r G x0), (1, ek_r G x1)]) hx hb dSp_firstTooMuch_10 rfl hl (by decide) (ek_s1k 2 rfl rfl rfl rfl rfl) (fun ls hl => ?_)
  exact wSp_firstTooMuch_11_lp X ek_N (I1, x0, x1, i2, (0 : Int32)) hf _ _ _ hw hS (lv_sub hl [2, 3, 1, 0] rfl)
set_option maxHeartbeats 4000000 in
set_option maxRecDepth 100000 in
theorem mSp_firstTooMuch {l : Launch} {G : ek_G} {kd : Nat → Nat} {I : ek_St} {x0 : Nat} {x1 : Nat} {i2 : Int32} {q : ek_St × Int32} (hf : fSp_firstTooMuch kd I x0 x1 i2 = some q) : ek_M l G kd y_Sp_firstTooMuch (.code y_Sp_firstTooMuch prog_6_method_2_code 5 (some .int) :: lw_g) ({ frames := 3, cells := 0, slots := 0, locals := 79 } : Room) [ek_r G x0, ek_r G x1, .int i2] I (some (.int q.2)) q.1 :=
  ek_body [(0, ek_r G x0), (1, ek_r G x1), (2, .int i2)] (by decide) (by simp [lg_sl, ek_r_cat, ek_c_i, ek_c_l]) (by simp [lv_args, ek_r_cat, ek_c_i, ek_c_l]) (fun p e s m below meth c ls X hw hS hl => wSp_firstTooMuch_0 X hf hw hS hl)
/-! ElasticKernel$Springs.addUp(LElasticKernel$Roster;)V -/
def fSp_addUp_63 (kd : Nat → Nat) (k11 : (ek_St × Nat × Nat × Int32) → Option (ek_St)) (I : ek_St) (x0 : Nat) (x1 : Nat) (i2 : Int32) : Option (ek_St) :=
  ek_let (i2 + (1 : Int32)) (fun i2_1 => k11 (I, x0, x1, i2_1))
def fSp_addUp_60 (kd : Nat → Nat) (k11 : (ek_St × Nat × Nat × Int32) → Option (ek_St)) (I : ek_St) (x0 : Nat) (x1 : Nat) (i2 : Int32) (t0 : Nat) (t1 : Int32) (t2 : Int32) (t3 : Int32) : Option (ek_St) :=
  ek_ck (kd t0 = 2) (ek_bv (fFr_join kd I t0 t1 t2 t3) (fun I1 => fSp_addUp_63 kd k11 I1 x0 x1 i2))
def fSp_addUp_11 (kd : Nat → Nat) (k11 : (ek_St × Nat × Nat × Int32) → Option (ek_St)) (I : ek_St) (x0 : Nat) (x1 : Nat) (i2 : Int32) : Option (ek_St) :=
  ek_ck (kd x1 = 4) (if (I x1 1) ≤ i2 then (some I) else (ek_ck (kd x1 = 4) (ek_ck (kd (x1 + 1) = 60) (ek_ck (ek_in i2 12) (ek_let ((I (x1 + 1) i2.toNatClampNeg).toNatClampNeg) (fun x3_2 => ek_ck (kd x3_2 = 6) (ek_bi (fTa_isSolved kd I x3_2) (fun I3 ir5 => if ir5 = ((0 : Int32)) then (fSp_addUp_63 kd k11 I3 x0 x1 i2) else (ek_ck (kd x0 = 5) (ek_ck (kd x3_2 = 6) (ek_ck (kd x3_2 = 6) (if (I3 x3_2 13) = ((0 : Int32)) then (ek_ck (kd x3_2 = 6) (fSp_addUp_60 kd k11 I3 x0 x1 i2 (x0 + 6) ((1 : Int32)) (I3 x3_2 1) (I3 x3_2 2))) else (ek_ck (kd x3_2 = 6) (fSp_addUp_60 kd k11 I3 x0 x1 i2 (x0 + 6) ((1 : Int32)) (I3 x3_2 1) (I3 x3_2 3)))))))))))))))
def fSp_addUp_0 (kd : Nat → Nat) (I : ek_St) (x0 : Nat) (x1 : Nat) : Option (ek_St) :=
  ek_ck (kd x0 = 5) (ek_ck (kd (x0 + 6) = 2) (ek_bv (fFr_set kd I (x0 + 6) ((0 : Int32)) ((1 : Int32))) (fun I1 => ek_lp (fun (k : (ek_St × Nat × Nat × Int32) → Option (ek_St)) (q : (ek_St × Nat × Nat × Int32)) => fSp_addUp_11 kd k q.1 q.2.1 q.2.2.1 q.2.2.2) ek_N (I1, x0, x1, (0 : Int32)))))
def fSp_addUp (kd : Nat → Nat) (I : ek_St) (x0 : Nat) (x1 : Nat) : Option (ek_St) := fSp_addUp_0 kd I x0 x1
theorem dSp_addUp_0 : decode prog_6_method_8_code 0 = .ok (.aload_n 0, 1) := by decide +kernel
theorem dSp_addUp_1 : decode prog_6_method_8_code 1 = .ok (.getfield 18, 3) := by decide +kernel
theorem dSp_addUp_4 : decode prog_6_method_8_code 4 = .ok (.iconst 0, 1) := by decide +kernel
theorem dSp_addUp_5 : decode prog_6_method_8_code 5 = .ok (.iconst 1, 1) := by decide +kernel
theorem dSp_addUp_6 : decode prog_6_method_8_code 6 = .ok (.invokevirtual 34, 3) := by decide +kernel
theorem dSp_addUp_9 : decode prog_6_method_8_code 9 = .ok (.iconst 0, 1) := by decide +kernel
theorem dSp_addUp_10 : decode prog_6_method_8_code 10 = .ok (.istore_n 2, 1) := by decide +kernel
theorem dSp_addUp_11 : decode prog_6_method_8_code 11 = .ok (.iload_n 2, 1) := by decide +kernel
theorem dSp_addUp_12 : decode prog_6_method_8_code 12 = .ok (.aload_n 1, 1) := by decide +kernel
theorem dSp_addUp_13 : decode prog_6_method_8_code 13 = .ok (.getfield 38, 3) := by decide +kernel
theorem dSp_addUp_16 : decode prog_6_method_8_code 16 = .ok (.if_icmp .ge 53, 3) := by decide +kernel
theorem dSp_addUp_19 : decode prog_6_method_8_code 19 = .ok (.aload_n 1, 1) := by decide +kernel
theorem dSp_addUp_20 : decode prog_6_method_8_code 20 = .ok (.getfield 44, 3) := by decide +kernel
theorem dSp_addUp_23 : decode prog_6_method_8_code 23 = .ok (.iload_n 2, 1) := by decide +kernel
theorem dSp_addUp_24 : decode prog_6_method_8_code 24 = .ok (.aaload, 1) := by decide +kernel
theorem dSp_addUp_25 : decode prog_6_method_8_code 25 = .ok (.astore_n 3, 1) := by decide +kernel
theorem dSp_addUp_26 : decode prog_6_method_8_code 26 = .ok (.aload_n 3, 1) := by decide +kernel
theorem dSp_addUp_27 : decode prog_6_method_8_code 27 = .ok (.invokevirtual 109, 3) := by decide +kernel
theorem dSp_addUp_30 : decode prog_6_method_8_code 30 = .ok (.ifCond .eq 33, 3) := by decide +kernel
theorem dSp_addUp_33 : decode prog_6_method_8_code 33 = .ok (.aload_n 0, 1) := by decide +kernel
theorem dSp_addUp_34 : decode prog_6_method_8_code 34 = .ok (.getfield 18, 3) := by decide +kernel
theorem dSp_addUp_37 : decode prog_6_method_8_code 37 = .ok (.iconst 1, 1) := by decide +kernel
theorem dSp_addUp_38 : decode prog_6_method_8_code 38 = .ok (.aload_n 3, 1) := by decide +kernel
theorem dSp_addUp_39 : decode prog_6_method_8_code 39 = .ok (.getfield 48, 3) := by decide +kernel
theorem dSp_addUp_42 : decode prog_6_method_8_code 42 = .ok (.aload_n 3, 1) := by decide +kernel
theorem dSp_addUp_43 : decode prog_6_method_8_code 43 = .ok (.getfield 105, 3) := by decide +kernel
theorem dSp_addUp_46 : decode prog_6_method_8_code 46 = .ok (.ifCond .eq 10, 3) := by decide +kernel
theorem dSp_addUp_49 : decode prog_6_method_8_code 49 = .ok (.aload_n 3, 1) := by decide +kernel
theorem dSp_addUp_50 : decode prog_6_method_8_code 50 = .ok (.getfield 53, 3) := by decide +kernel
theorem dSp_addUp_53 : decode prog_6_method_8_code 53 = .ok (.goto 7, 3) := by decide +kernel
theorem dSp_addUp_56 : decode prog_6_method_8_code 56 = .ok (.aload_n 3, 1) := by decide +kernel
theorem dSp_addUp_57 : decode prog_6_method_8_code 57 = .ok (.getfield 113, 3) := by decide +kernel
theorem dSp_addUp_60 : decode prog_6_method_8_code 60 = .ok (.invokevirtual 56, 3) := by decide +kernel
theorem dSp_addUp_63 : decode prog_6_method_8_code 63 = .ok (.iinc 2 1, 3) := by decide +kernel
theorem dSp_addUp_66 : decode prog_6_method_8_code 66 = .ok (.goto (-55), 3) := by decide +kernel
theorem dSp_addUp_69 : decode prog_6_method_8_code 69 = .ok (.return_, 1) := by decide +kernel
set_option maxHeartbeats 4000000 in
set_option maxRecDepth 100000 in
theorem wSp_addUp_63 {l : Launch} {G : ek_G} {kd : Nat → Nat} {p : Program} {e : Env} {s : State} {m : MethodId} {args : Array Value} {below : List Frame} {meth : Method} {c : Code} (X : ek_X p s m meth c args G prog_6_method_8_code 4 "ElasticKernel$Springs" none) {q : ek_St} {k11 : (ek_St × Nat × Nat × Int32) → Option (ek_St)} (hk11 : ∀ q0 : ek_St × Nat × Nat × Int32, k11 q0 = some q → ∀ (H : Heap) (locs : List Loc) (ls : Array Slot), ek_W G kd q0.1 H → va_S (ek_A G kd) s.heap H locs → lv_has ls 4 [(0, ek_r G q0.2.1), (1, ek_r G q0.2.2.1), (2, .int q0.2.2.2)] → W p l e ({ frames := 3, cells := 0, slots := 0, locals := 79 } : Room) s m args below meth c H locs 0 0 (MQ below (ek_Q G kd none q) args s 0 0 (ek_A G kd)) (F0 m 11 ls [])) {I : ek_St} {x0 : Nat} {x1 : Nat} {i2 : Int32} (hf : fSp_addUp_63 kd k11 I x0 x1 i2 = some q) {H : Heap} {locs : List Loc} {ls : Array Slot} (hw : ek_W G kd I H) (hS : va_S (ek_A G kd) s.heap H locs) (hl : lv_has ls 4 [(0, ek_r G x0), (1, ek_r G x1), (2, .int i2)]) : W p l e ({ frames := 3, cells := 0, slots := 0, locals := 79 } : Room) s m args below meth c H locs 0 0 (MQ below (ek_Q G kd none q) args s 0 0 (ek_A G kd)) (F0 m 63 ls []) := by
  obtain ⟨hx, hb, hml, hown, hts, hr, hlocks, hK⟩ := id X
  have hA : ∀ q, ek_A G kd q → ek_A G kd q := fun _ h => h
  unfold fSp_addUp_63 at hf
  refine ek_iinc hx hb 2 (fun i2_1 => [(2, .int i2_1), (1, ek_r G x1), (0, ek_r G x0)]) dSp_addUp_63 hl rfl (v := i2 + (1 : Int32)) rfl hf (by decide) (fun i2_1 => ek_s1k 1 rfl rfl ek_r_cat rfl rfl) (fun i2_1 ls hf hl => ?_)
  refine lv_goto (tgt := 11) hx hb dSp_addUp_66 (by decide) ?_
  exact hk11 (I, x0, x1, i2_1) hf _ _ _ hw hS (lv_sub hl [2, 1, 0] rfl)
set_option maxHeartbeats 4000000 in
set_option maxRecDepth 100000 in
theorem wSp_addUp_60 {l : Launch} {G : ek_G} {kd : Nat → Nat} {p : Program} {e : Env} {s : State} {m : MethodId} {args : Array Value} {below : List Frame} {meth : Method} {c : Code} (X : ek_X p s m meth c args G prog_6_method_8_code 4 "ElasticKernel$Springs" none) {q : ek_St} {k11 : (ek_St × Nat × Nat × Int32) → Option (ek_St)} (hk11 : ∀ q0 : ek_St × Nat × Nat × Int32, k11 q0 = some q → ∀ (H : Heap) (locs : List Loc) (ls : Array Slot), ek_W G kd q0.1 H → va_S (ek_A G kd) s.heap H locs → lv_has ls 4 [(0, ek_r G q0.2.1), (1, ek_r G q0.2.2.1), (2, .int q0.2.2.2)] → W p l e ({ frames := 3, cells := 0, slots := 0, locals := 79 } : Room) s m args below meth c H locs 0 0 (MQ below (ek_Q G kd none q) args s 0 0 (ek_A G kd)) (F0 m 11 ls [])) {I : ek_St} {x0 : Nat} {x1 : Nat} {i2 : Int32} {t0 : Nat} {t1 : Int32} {t2 : Int32} {t3 : Int32} (hf : fSp_addUp_60 kd k11 I x0 x1 i2 t0 t1 t2 t3 = some q) {H : Heap} {locs : List Loc} {ls : Array Slot} (hw : ek_W G kd I H) (hS : va_S (ek_A G kd) s.heap H locs) (hl : lv_has ls 4 [(0, ek_r G x0), (1, ek_r G x1), (2, .int i2)]) : W p l e ({ frames := 3, cells := 0, slots := 0, locals := 79 } : Room) s m args below meth c H locs 0 0 (MQ below (ek_Q G kd none q) args s 0 0 (ek_A G kd)) (F0 m 60 ls [.int t3, .int t2, .int t1, ek_r G t0]) := by
  obtain ⟨hx, hb, hml, hown, hts, hr, hlocks, hK⟩ := id X
  have hA : ∀ q, ek_A G kd q → ek_A G kd q := fun _ h => h
  unfold fSp_addUp_60 at hf
  obtain ⟨hx2, hf⟩ := ek_ck_s hf
  refine ek_cv hf hS hA (fun I' hq => ek_rV (As := [.int t1, .int t2, .int t3]) ⟨hx, hb, hml, hown, hts⟩ hK hw 2 rfl (by decide) (by decide) hx2 (mFr_join hq) (cwV 3 hts (lw_V q_258 q_259 q_260 q_4 q_261) rfl rfl rfl (by decide +kernel) ⟨Nat.le_of_ble_eq_true rfl, Nat.le_of_ble_eq_true rfl⟩) rfl hl.1 rfl (Nat.le_of_ble_eq_true rfl) dSp_addUp_60 ⟨Nat.zero_le _, Nat.zero_le _⟩) (fun I1 H locs hf hw hS => ?_)
  exact wSp_addUp_63 X hk11 hf hw hS (lv_sub hl [0, 1, 2] rfl)
set_option maxHeartbeats 4000000 in
set_option maxRecDepth 100000 in
theorem wSp_addUp_11 {l : Launch} {G : ek_G} {kd : Nat → Nat} {p : Program} {e : Env} {s : State} {m : MethodId} {args : Array Value} {below : List Frame} {meth : Method} {c : Code} (X : ek_X p s m meth c args G prog_6_method_8_code 4 "ElasticKernel$Springs" none) {q : ek_St} {k11 : (ek_St × Nat × Nat × Int32) → Option (ek_St)} (hk11 : ∀ q0 : ek_St × Nat × Nat × Int32, k11 q0 = some q → ∀ (H : Heap) (locs : List Loc) (ls : Array Slot), ek_W G kd q0.1 H → va_S (ek_A G kd) s.heap H locs → lv_has ls 4 [(0, ek_r G q0.2.1), (1, ek_r G q0.2.2.1), (2, .int q0.2.2.2)] → W p l e ({ frames := 3, cells := 0, slots := 0, locals := 79 } : Room) s m args below meth c H locs 0 0 (MQ below (ek_Q G kd none q) args s 0 0 (ek_A G kd)) (F0 m 11 ls [])) {I : ek_St} {x0 : Nat} {x1 : Nat} {i2 : Int32} (hf : fSp_addUp_11 kd k11 I x0 x1 i2 = some q) {H : Heap} {locs : List Loc} {ls : Array Slot} (hw : ek_W G kd I H) (hS : va_S (ek_A G kd) s.heap H locs) (hl : lv_has ls 4 [(0, ek_r G x0), (1, ek_r G x1), (2, .int i2)]) : W p l e ({ frames := 3, cells := 0, slots := 0, locals := 79 } : Room) s m args below meth c H locs 0 0 (MQ below (ek_Q G kd none q) args s 0 0 (ek_A G kd)) (F0 m 11 ls []) := by
  obtain ⟨hx, hb, hml, hown, hts, hr, hlocks, hK⟩ := id X
  have hA : ∀ q, ek_A G kd q → ek_A G kd q := fun _ h => h
  unfold fSp_addUp_11 at hf
  refine lv_iload_n hx hb dSp_addUp_11 rfl (lv_at hl 2 rfl) ?_
  refine ek_aload_n hx hb dSp_addUp_12 rfl (lv_at hl 1 rfl) ?_
  refine ek_getiN hx hb 4 hts (in_Ro) hown hK hw rfl (by decide) (by decide) 1 (by decide) rfl (va_Nw.use rfl (hK.2 _ n_140)) hf dSp_addUp_13 (fun hf => ?_)
  refine lv_icmp_ge (tgt := 69) hx hb dSp_addUp_16 (by decide) (fun c1 => ?_) (fun c1 => ?_)
  · have hf := ek_t c1 hf
    exact ek_vret hx hb hr hlocks hw hS hf dSp_addUp_69
  · have hf := ek_f c1 hf
    refine ek_aload_n hx hb dSp_addUp_19 rfl (lv_at hl 1 rfl) ?_
    refine ek_getrN hx hb 4 hts (in_Ro) hown hK hw rfl (by decide) (by decide) 0 (by decide) (n := 0) rfl rfl (va_Nw.use rfl (hK.2 _ n_137)) hf dSp_addUp_20 (fun hf => ?_)
    refine lv_iload_n hx hb dSp_addUp_23 rfl (lv_at hl 2 rfl) ?_
    refine ek_aald hx hb hK hw hf dSp_addUp_24 (fun hf => ?_)
    refine ek_tr hf (fun x3_2 hf => ?_)
    refine ek_astore_n (lv' := [(3, ek_r G x3_2), (2, .int i2), (0, ek_r G x0), (1, ek_r G x1)]) hx hb dSp_addUp_25 rfl hl (by decide) (ek_s1k 2 rfl rfl rfl ek_r_cat rfl) (fun ls hl => ?_)
    refine ek_aload_n hx hb dSp_addUp_26 rfl (lv_at hl 0 rfl) ?_
    obtain ⟨hx4, hf⟩ := ek_ck_s hf
    refine ek_ci hf hS hA (fun I' v hq => ek_rV (As := []) ⟨hx, hb, hml, hown, hts⟩ hK hw 6 rfl (by decide) (by decide) hx4 (mTa_isSolved hq) (cwV 0 hts (lw_V q_311 q_312 q_313 q_3 q_314) rfl rfl rfl (by decide +kernel) ⟨Nat.le_of_ble_eq_true rfl, Nat.le_of_ble_eq_true rfl⟩) rfl hl.1 rfl (Nat.le_of_ble_eq_true rfl) dSp_addUp_27 ⟨Nat.zero_le _, Nat.zero_le _⟩) (fun I3 ir5 H locs hf hw hS => ?_)
    refine lv_if_eq (tgt := 63) hx hb dSp_addUp_30 (by decide) (fun c6 => ?_) (fun c6 => ?_)
    · have hf := ek_t c6 hf
      exact wSp_addUp_63 X hk11 hf hw hS (lv_sub hl [2, 3, 1] rfl)
    · have hf := ek_f c6 hf
      refine ek_aload_n hx hb dSp_addUp_33 rfl (lv_at hl 2 rfl) ?_
      refine ek_getr hx hb 5 hts (in_Sp) hown hK hw rfl (by decide) (by decide) 1 (by decide) (n := 5) rfl rfl (hts _ q_178) hf dSp_addUp_34 (fun hf => ?_)
      refine lv_iconst (v := (1 : Int32)) hx hb dSp_addUp_37 (by decide) ?_
      refine ek_aload_n hx hb dSp_addUp_38 rfl (lv_at hl 0 rfl) ?_
      refine ek_getiN hx hb 6 hts (in_Ta) hown hK hw rfl (by decide) (by decide) 1 (by decide) rfl (va_Nw.use rfl (hK.2 _ n_76)) hf dSp_addUp_39 (fun hf => ?_)
      refine ek_aload_n hx hb dSp_addUp_42 rfl (lv_at hl 0 rfl) ?_
      refine ek_getiN hx hb 6 hts (in_Ta) hown hK hw rfl (by decide) (by decide) 13 (by decide) rfl (va_Nw.use rfl (hK.2 _ n_101)) hf dSp_addUp_43 (fun hf => ?_)
      refine lv_if_eq (tgt := 56) hx hb dSp_addUp_46 (by decide) (fun c7 => ?_) (fun c7 => ?_)
      · have hf := ek_t c7 hf
        refine ek_aload_n hx hb dSp_addUp_56 rfl (lv_at hl 0 rfl) ?_
        refine ek_getiN hx hb 6 hts (in_Ta) hown hK hw rfl (by decide) (by decide) 2 (by decide) rfl (va_Nw.use rfl (hK.2 _ n_79)) hf dSp_addUp_57 (fun hf => ?_)
        exact wSp_addUp_60 X hk11 hf hw hS (lv_sub hl [2, 3, 1] rfl)
      · have hf := ek_f c7 hf
        refine ek_aload_n hx hb dSp_addUp_49 rfl (lv_at hl 0 rfl) ?_
        refine ek_getiN hx hb 6 hts (in_Ta) hown hK hw rfl (by decide) (by decide) 3 (by decide) rfl (va_Nw.use rfl (hK.2 _ n_81)) hf dSp_addUp_50 (fun hf => ?_)
        refine lv_goto (tgt := 60) hx hb dSp_addUp_53 (by decide) ?_
        exact wSp_addUp_60 X hk11 hf hw hS (lv_sub hl [2, 3, 1] rfl)
set_option maxHeartbeats 4000000 in
set_option maxRecDepth 100000 in
theorem wSp_addUp_11_lp {l : Launch} {G : ek_G} {kd : Nat → Nat} {p : Program} {e : Env} {s : State} {m : MethodId} {args : Array Value} {below : List Frame} {meth : Method} {c : Code} (X : ek_X p s m meth c args G prog_6_method_8_code 4 "ElasticKernel$Springs" none) {q : ek_St} (n : Nat) : ∀ q0 : ek_St × Nat × Nat × Int32, ek_lp (fun (k : (ek_St × Nat × Nat × Int32) → Option (ek_St)) (q : (ek_St × Nat × Nat × Int32)) => fSp_addUp_11 kd k q.1 q.2.1 q.2.2.1 q.2.2.2) n q0 = some q → ∀ (H : Heap) (locs : List Loc) (ls : Array Slot), ek_W G kd q0.1 H → va_S (ek_A G kd) s.heap H locs → lv_has ls 4 [(0, ek_r G q0.2.1), (1, ek_r G q0.2.2.1), (2, .int q0.2.2.2)] → W p l e ({ frames := 3, cells := 0, slots := 0, locals := 79 } : Room) s m args below meth c H locs 0 0 (MQ below (ek_Q G kd none q) args s 0 0 (ek_A G kd)) (F0 m 11 ls []) :=
  ek_lp_ind (fun k hk q0 hf => fun H locs ls hw hS hl => wSp_addUp_11 X hk hf hw hS hl) n
set_option maxHeartbeats 4000000 in
set_option maxRecDepth 100000 in
theorem wSp_addUp_0 {l : Launch} {G : ek_G} {kd : Nat → Nat} {p : Program} {e : Env} {s : State} {m : MethodId} {args : Array Value} {below : List Frame} {meth : Method} {c : Code} (X : ek_X p s m meth c args G prog_6_method_8_code 4 "ElasticKernel$Springs" none) {q : ek_St} {I : ek_St} {x0 : Nat} {x1 : Nat} (hf : fSp_addUp_0 kd I x0 x1 = some q) {H : Heap} {locs : List Loc} {ls : Array Slot} (hw : ek_W G kd I H) (hS : va_S (ek_A G kd) s.heap H locs) (hl : lv_has ls 4 [(0, ek_r G x0), (1, ek_r G x1)]) : W p l e ({ frames := 3, cells := 0, slots := 0, locals := 79 } : Room) s m args below meth c H locs 0 0 (MQ below (ek_Q G kd none q) args s 0 0 (ek_A G kd)) (F0 m 0 ls []) := by
  obtain ⟨hx, hb, hml, hown, hts, hr, hlocks, hK⟩ := id X
  have hA : ∀ q, ek_A G kd q → ek_A G kd q := fun _ h => h
  unfold fSp_addUp_0 at hf
  refine ek_aload_n hx hb dSp_addUp_0 rfl (lv_at hl 0 rfl) ?_
  refine ek_getr hx hb 5 hts (in_Sp) hown hK hw rfl (by decide) (by decide) 1 (by decide) (n := 5) rfl rfl (hts _ q_178) hf dSp_addUp_1 (fun hf => ?_)
  refine lv_iconst (v := (0 : Int32)) hx hb dSp_addUp_4 (by decide) ?_
  refine lv_iconst (v := (1 : Int32)) hx hb dSp_addUp_5 (by decide) ?_
  obtain ⟨hx2, hf⟩ := ek_ck_s hf
  refine ek_cv hf hS hA (fun I' hq => ek_rV (As := [.int ((0 : Int32)), .int ((1 : Int32))]) ⟨hx, hb, hml, hown, hts⟩ hK hw 2 rfl (by decide) (by decide) hx2 (mFr_set hq) (cwV 2 hts (lw_V q_248 q_249 q_250 q_4 q_251) rfl rfl rfl (by decide +kernel) ⟨Nat.le_of_ble_eq_true rfl, Nat.le_of_ble_eq_true rfl⟩) rfl hl.1 rfl (Nat.le_of_ble_eq_true rfl) dSp_addUp_6 ⟨Nat.zero_le _, Nat.zero_le _⟩) (fun I1 H locs hf hw hS => ?_)
  refine lv_iconst (v := (0 : Int32)) hx hb dSp_addUp_9 (by decide) ?_
  refine ek_istore_n (lv' := [(2, .int ((0 : Int32))), (1, ek_r G x1), (0, ek_r G x0)]) hx hb dSp_addUp_10 rfl hl (by decide) (ek_s1k 1 rfl rfl ek_r_cat rfl rfl) (fun ls hl => ?_)
  exact wSp_addUp_11_lp X ek_N (I1, x0, x1, (0 : Int32)) hf _ _ _ hw hS (lv_sub hl [2, 1, 0] rfl)
set_option maxHeartbeats 4000000 in
set_option maxRecDepth 100000 in
theorem mSp_addUp {l : Launch} {G : ek_G} {kd : Nat → Nat} {I : ek_St} {x0 : Nat} {x1 : Nat} {q : ek_St} (hf : fSp_addUp kd I x0 x1 = some q) : ek_M l G kd y_Sp_addUp (.code y_Sp_addUp prog_6_method_8_code 4 none :: lw_g) ({ frames := 3, cells := 0, slots := 0, locals := 79 } : Room) [ek_r G x0, ek_r G x1] I none q :=
  ek_body [(0, ek_r G x0), (1, ek_r G x1)] (by decide) (by simp [lg_sl, ek_r_cat, ek_c_i, ek_c_l]) (by simp [lv_args, ek_r_cat, ek_c_i, ek_c_l]) (fun p e s m below meth c ls X hw hS hl => wSp_addUp_0 X hf hw hS hl)
/-! ElasticKernel$Springs.unpin(LElasticKernel$Roster;)V -/
def fSp_unpin_2 (kd : Nat → Nat) (k2 : (ek_St × Nat × Int32) → Option (ek_St)) (I : ek_St) (x1 : Nat) (i2 : Int32) : Option (ek_St) :=
  ek_ck (kd x1 = 4) (if (I x1 1) ≤ i2 then (some I) else (ek_ck (kd x1 = 4) (ek_ck (kd (x1 + 1) = 60) (ek_ck (ek_in i2 12) (ek_ck (kd ((I (x1 + 1) i2.toNatClampNeg).toNatClampNeg) = 6) (ek_let (ek_up I ((I (x1 + 1) i2.toNatClampNeg).toNatClampNeg) 13 ((0 : Int32))) (fun I2 => ek_let (i2 + (1 : Int32)) (fun i2_3 => k2 (I2, x1, i2_3)))))))))
def fSp_unpin_0 (kd : Nat → Nat) (I : ek_St) (x0 : Nat) (x1 : Nat) : Option (ek_St) :=
  ek_lp (fun (k : (ek_St × Nat × Int32) → Option (ek_St)) (q : (ek_St × Nat × Int32)) => fSp_unpin_2 kd k q.1 q.2.1 q.2.2) ek_N (I, x1, (0 : Int32))
def fSp_unpin (kd : Nat → Nat) (I : ek_St) (x0 : Nat) (x1 : Nat) : Option (ek_St) := fSp_unpin_0 kd I x0 x1
theorem dSp_unpin_0 : decode prog_6_method_7_code 0 = .ok (.iconst 0, 1) := by decide +kernel
theorem dSp_unpin_1 : decode prog_6_method_7_code 1 = .ok (.istore_n 2, 1) := by decide +kernel
theorem dSp_unpin_2 : decode prog_6_method_7_code 2 = .ok (.iload_n 2, 1) := by decide +kernel
theorem dSp_unpin_3 : decode prog_6_method_7_code 3 = .ok (.aload_n 1, 1) := by decide +kernel
theorem dSp_unpin_4 : decode prog_6_method_7_code 4 = .ok (.getfield 38, 3) := by decide +kernel
theorem dSp_unpin_7 : decode prog_6_method_7_code 7 = .ok (.if_icmp .ge 19, 3) := by decide +kernel
theorem dSp_unpin_10 : decode prog_6_method_7_code 10 = .ok (.aload_n 1, 1) := by decide +kernel
theorem dSp_unpin_11 : decode prog_6_method_7_code 11 = .ok (.getfield 44, 3) := by decide +kernel
theorem dSp_unpin_14 : decode prog_6_method_7_code 14 = .ok (.iload_n 2, 1) := by decide +kernel
theorem dSp_unpin_15 : decode prog_6_method_7_code 15 = .ok (.aaload, 1) := by decide +kernel
theorem dSp_unpin_16 : decode prog_6_method_7_code 16 = .ok (.iconst 0, 1) := by decide +kernel
theorem dSp_unpin_17 : decode prog_6_method_7_code 17 = .ok (.putfield 105, 3) := by decide +kernel
theorem dSp_unpin_20 : decode prog_6_method_7_code 20 = .ok (.iinc 2 1, 3) := by decide +kernel
theorem dSp_unpin_23 : decode prog_6_method_7_code 23 = .ok (.goto (-21), 3) := by decide +kernel
theorem dSp_unpin_26 : decode prog_6_method_7_code 26 = .ok (.return_, 1) := by decide +kernel
set_option maxHeartbeats 4000000 in
set_option maxRecDepth 100000 in
theorem wSp_unpin_2 {l : Launch} {G : ek_G} {kd : Nat → Nat} {p : Program} {e : Env} {s : State} {m : MethodId} {args : Array Value} {below : List Frame} {meth : Method} {c : Code} (X : ek_X p s m meth c args G prog_6_method_7_code 3 "ElasticKernel$Springs" none) {q : ek_St} {k2 : (ek_St × Nat × Int32) → Option (ek_St)} (hk2 : ∀ q0 : ek_St × Nat × Int32, k2 q0 = some q → ∀ (H : Heap) (locs : List Loc) (ls : Array Slot), ek_W G kd q0.1 H → va_S (ek_A G kd) s.heap H locs → lv_has ls 3 [(1, ek_r G q0.2.1), (2, .int q0.2.2)] → W p l e ({ frames := 0, cells := 0, slots := 0, locals := 0 } : Room) s m args below meth c H locs 0 0 (MQ below (ek_Q G kd none q) args s 0 0 (ek_A G kd)) (F0 m 2 ls [])) {I : ek_St} {x1 : Nat} {i2 : Int32} (hf : fSp_unpin_2 kd k2 I x1 i2 = some q) {H : Heap} {locs : List Loc} {ls : Array Slot} (hw : ek_W G kd I H) (hS : va_S (ek_A G kd) s.heap H locs) (hl : lv_has ls 3 [(1, ek_r G x1), (2, .int i2)]) : W p l e ({ frames := 0, cells := 0, slots := 0, locals := 0 } : Room) s m args below meth c H locs 0 0 (MQ below (ek_Q G kd none q) args s 0 0 (ek_A G kd)) (F0 m 2 ls []) := by
  obtain ⟨hx, hb, hml, hown, hts, hr, hlocks, hK⟩ := id X
  have hA : ∀ q, ek_A G kd q → ek_A G kd q := fun _ h => h
  unfold fSp_unpin_2 at hf
  refine lv_iload_n hx hb dSp_unpin_2 rfl (lv_at hl 1 rfl) ?_
  refine ek_aload_n hx hb dSp_unpin_3 rfl (lv_at hl 0 rfl) ?_
  refine ek_getiN hx hb 4 hts (in_Ro) hown hK hw rfl (by decide) (by decide) 1 (by decide) rfl (va_Nw.use rfl (hK.2 _ n_140)) hf dSp_unpin_4 (fun hf => ?_)
  refine lv_icmp_ge (tgt := 26) hx hb dSp_unpin_7 (by decide) (fun c1 => ?_) (fun c1 => ?_)
  · have hf := ek_t c1 hf
    exact ek_vret hx hb hr hlocks hw hS hf dSp_unpin_26
  · have hf := ek_f c1 hf
    refine ek_aload_n hx hb dSp_unpin_10 rfl (lv_at hl 0 rfl) ?_
    refine ek_getrN hx hb 4 hts (in_Ro) hown hK hw rfl (by decide) (by decide) 0 (by decide) (n := 0) rfl rfl (va_Nw.use rfl (hK.2 _ n_137)) hf dSp_unpin_11 (fun hf => ?_)
    refine lv_iload_n hx hb dSp_unpin_14 rfl (lv_at hl 1 rfl) ?_
    refine ek_aald hx hb hK hw hf dSp_unpin_15 (fun hf => ?_)
    refine lv_iconst (v := (0 : Int32)) hx hb dSp_unpin_16 (by decide) ?_
    refine ek_putiN hx hb 6 hts (in_Ta) ty_Ta ty_Ta_ok nm_Ta hown hK hw hS hA rfl (by decide) (by decide) 13 (by decide) rfl (va_Nw.use rfl (hK.2 _ n_101)) rfl rfl rfl hf dSp_unpin_17 (fun I2 H locs hf hw hS => ?_)
    refine ek_iinc hx hb 1 (fun i2_3 => [(2, .int i2_3), (1, ek_r G x1)]) dSp_unpin_20 hl rfl (v := i2 + (1 : Int32)) rfl hf (by decide) (fun i2_3 => ek_s1k 0 rfl rfl ek_r_cat rfl rfl) (fun i2_3 ls hf hl => ?_)
    refine lv_goto (tgt := 2) hx hb dSp_unpin_23 (by decide) ?_
    exact hk2 (I2, x1, i2_3) hf _ _ _ hw hS (lv_sub hl [1, 0] rfl)
set_option maxHeartbeats 4000000 in
set_option maxRecDepth 100000 in
theorem wSp_unpin_2_lp {l : Launch} {G : ek_G} {kd : Nat → Nat} {p : Program} {e : Env} {s : State} {m : MethodId} {args : Array Value} {below : List Frame} {meth : Method} {c : Code} (X : ek_X p s m meth c args G prog_6_method_7_code 3 "ElasticKernel$Springs" none) {q : ek_St} (n : Nat) : ∀ q0 : ek_St × Nat × Int32, ek_lp (fun (k : (ek_St × Nat × Int32) → Option (ek_St)) (q : (ek_St × Nat × Int32)) => fSp_unpin_2 kd k q.1 q.2.1 q.2.2) n q0 = some q → ∀ (H : Heap) (locs : List Loc) (ls : Array Slot), ek_W G kd q0.1 H → va_S (ek_A G kd) s.heap H locs → lv_has ls 3 [(1, ek_r G q0.2.1), (2, .int q0.2.2)] → W p l e ({ frames := 0, cells := 0, slots := 0, locals := 0 } : Room) s m args below meth c H locs 0 0 (MQ below (ek_Q G kd none q) args s 0 0 (ek_A G kd)) (F0 m 2 ls []) :=
  ek_lp_ind (fun k hk q0 hf => fun H locs ls hw hS hl => wSp_unpin_2 X hk hf hw hS hl) n
set_option maxHeartbeats 4000000 in
set_option maxRecDepth 100000 in
theorem wSp_unpin_0 {l : Launch} {G : ek_G} {kd : Nat → Nat} {p : Program} {e : Env} {s : State} {m : MethodId} {args : Array Value} {below : List Frame} {meth : Method} {c : Code} (X : ek_X p s m meth c args G prog_6_method_7_code 3 "ElasticKernel$Springs" none) {q : ek_St} {I : ek_St} {x0 : Nat} {x1 : Nat} (hf : fSp_unpin_0 kd I x0 x1 = some q) {H : Heap} {locs : List Loc} {ls : Array Slot} (hw : ek_W G kd I H) (hS : va_S (ek_A G kd) s.heap H locs) (hl : lv_has ls 3 [(0, ek_r G x0), (1, ek_r G x1)]) : W p l e ({ frames := 0, cells := 0, slots := 0, locals := 0 } : Room) s m args below meth c H locs 0 0 (MQ below (ek_Q G kd none q) args s 0 0 (ek_A G kd)) (F0 m 0 ls []) := by
  obtain ⟨hx, hb, hml, hown, hts, hr, hlocks, hK⟩ := id X
  have hA : ∀ q, ek_A G kd q → ek_A G kd q := fun _ h => h
  unfold fSp_unpin_0 at hf
  refine lv_iconst (v := (0 : Int32)) hx hb dSp_unpin_0 (by decide) ?_
  refine ek_istore_n (lv' := [(2, .int ((0 : Int32))), (1, ek_r G x1), (0, ek_r G x0)]) hx hb dSp_unpin_1 rfl hl (by decide) (ek_s1k 1 rfl rfl ek_r_cat rfl rfl) (fun ls hl => ?_)
  exact wSp_unpin_2_lp X ek_N (I, x1, (0 : Int32)) hf _ _ _ hw hS (lv_sub hl [1, 0] rfl)
set_option maxHeartbeats 4000000 in
set_option maxRecDepth 100000 in
theorem mSp_unpin {l : Launch} {G : ek_G} {kd : Nat → Nat} {I : ek_St} {x0 : Nat} {x1 : Nat} {q : ek_St} (hf : fSp_unpin kd I x0 x1 = some q) : ek_M l G kd y_Sp_unpin (.code y_Sp_unpin prog_6_method_7_code 3 none :: lw_g) ({ frames := 0, cells := 0, slots := 0, locals := 0 } : Room) [ek_r G x0, ek_r G x1] I none q :=
  ek_body [(0, ek_r G x0), (1, ek_r G x1)] (by decide) (by simp [lg_sl, ek_r_cat, ek_c_i, ek_c_l]) (by simp [lv_args, ek_r_cat, ek_c_i, ek_c_l]) (fun p e s m below meth c ls X hw hS hl => wSp_unpin_0 X hf hw hS hl)
/-! ElasticKernel$Springs.haveRoom(LElasticKernel$Roster;I)Z -/
def fSp_haveRoom_0 (kd : Nat → Nat) (I : ek_St) (x0 : Nat) (x1 : Nat) (i2 : Int32) : Option (ek_St × Int32) :=
  ek_ck (kd x0 = 5) (ek_bv (fSp_unpin kd I x0 x1) (fun I1 => ek_ck (kd x0 = 5) (ek_bv (fSp_addUp kd I1 x0 x1) (fun I3 => ek_ck (kd x0 = 5) (ek_ck (kd (x0 + 6) = 2) (ek_bi (fFr_compare kd I3 (x0 + 6) (Int32.toInt64 i2) ((1000 : Int64))) (fun I5 ir7 => if ((0 : Int32)) < ir7 then (ek_ck (((0 : Int32)) = (0 : Int32) ∨ ((0 : Int32)) = (1 : Int32)) (some (I5, (0 : Int32)))) else (ek_ck (((1 : Int32)) = (0 : Int32) ∨ ((1 : Int32)) = (1 : Int32)) (some (I5, (1 : Int32)))))))))))
def fSp_haveRoom (kd : Nat → Nat) (I : ek_St) (x0 : Nat) (x1 : Nat) (i2 : Int32) : Option (ek_St × Int32) := fSp_haveRoom_0 kd I x0 x1 i2
theorem dSp_haveRoom_0 : decode prog_6_method_4_code 0 = .ok (.aload_n 0, 1) := by decide +kernel
theorem dSp_haveRoom_1 : decode prog_6_method_4_code 1 = .ok (.aload_n 1, 1) := by decide +kernel
theorem dSp_haveRoom_2 : decode prog_6_method_4_code 2 = .ok (.invokevirtual 80, 3) := by decide +kernel
theorem dSp_haveRoom_5 : decode prog_6_method_4_code 5 = .ok (.aload_n 0, 1) := by decide +kernel
theorem dSp_haveRoom_6 : decode prog_6_method_4_code 6 = .ok (.aload_n 1, 1) := by decide +kernel
theorem dSp_haveRoom_7 : decode prog_6_method_4_code 7 = .ok (.invokevirtual 84, 3) := by decide +kernel
theorem dSp_haveRoom_10 : decode prog_6_method_4_code 10 = .ok (.aload_n 0, 1) := by decide +kernel
theorem dSp_haveRoom_11 : decode prog_6_method_4_code 11 = .ok (.getfield 18, 3) := by decide +kernel
theorem dSp_haveRoom_14 : decode prog_6_method_4_code 14 = .ok (.iload_n 2, 1) := by decide +kernel
theorem dSp_haveRoom_15 : decode prog_6_method_4_code 15 = .ok (.i2l, 1) := by decide +kernel
theorem dSp_haveRoom_16 : decode prog_6_method_4_code 16 = .ok (.ldc2_w 60, 3) := by decide +kernel
theorem dSp_haveRoom_19 : decode prog_6_method_4_code 19 = .ok (.invokevirtual 62, 3) := by decide +kernel
theorem dSp_haveRoom_22 : decode prog_6_method_4_code 22 = .ok (.ifCond .gt 7, 3) := by decide +kernel
theorem dSp_haveRoom_25 : decode prog_6_method_4_code 25 = .ok (.iconst 1, 1) := by decide +kernel
theorem dSp_haveRoom_26 : decode prog_6_method_4_code 26 = .ok (.goto 4, 3) := by decide +kernel
theorem dSp_haveRoom_29 : decode prog_6_method_4_code 29 = .ok (.iconst 0, 1) := by decide +kernel
theorem dSp_haveRoom_30 : decode prog_6_method_4_code 30 = .ok (.ireturn, 1) := by decide +kernel
set_option maxHeartbeats 4000000 in
set_option maxRecDepth 100000 in
theorem wSp_haveRoom_0 {l : Launch} {G : ek_G} {kd : Nat → Nat} {p : Program} {e : Env} {s : State} {m : MethodId} {args : Array Value} {below : List Frame} {meth : Method} {c : Code} (X : ek_X p s m meth c args G prog_6_method_4_code 3 "ElasticKernel$Springs" (some .boolean)) {q : ek_St × Int32} {I : ek_St} {x0 : Nat} {x1 : Nat} {i2 : Int32} (hf : fSp_haveRoom_0 kd I x0 x1 i2 = some q) {H : Heap} {locs : List Loc} {ls : Array Slot} (hw : ek_W G kd I H) (hS : va_S (ek_A G kd) s.heap H locs) (hl : lv_has ls 3 [(0, ek_r G x0), (1, ek_r G x1), (2, .int i2)]) : W p l e ({ frames := 4, cells := 0, slots := 0, locals := 102 } : Room) s m args below meth c H locs 0 0 (MQ below (ek_Q G kd (some (.int q.2)) q.1) args s 0 0 (ek_A G kd)) (F0 m 0 ls []) := by
  obtain ⟨hx, hb, hml, hown, hts, hr, hlocks, hK⟩ := id X
  have hA : ∀ q, ek_A G kd q → ek_A G kd q := fun _ h => h
  unfold fSp_haveRoom_0 at hf
  refine ek_aload_n hx hb dSp_haveRoom_0 rfl (lv_at hl 0 rfl) ?_
  refine ek_aload_n hx hb dSp_haveRoom_1 rfl (lv_at hl 1 rfl) ?_
  obtain ⟨hx2, hf⟩ := ek_ck_s hf
  refine ek_cv hf hS hA (fun I' hq => ek_rV (As := [ek_r G x1]) ⟨hx, hb, hml, hown, hts⟩ hK hw 5 rfl (by decide) (by decide) hx2 (mSp_unpin hq) (cwV 1 hts (lw_V q_303 q_305 p_2 q_6 q_306) rfl rfl rfl (by decide +kernel) ⟨Nat.le_of_ble_eq_true rfl, Nat.le_of_ble_eq_true rfl⟩) rfl hl.1 rfl (Nat.le_of_ble_eq_true rfl) dSp_haveRoom_2 ⟨Nat.zero_le _, Nat.zero_le _⟩) (fun I1 H locs hf hw hS => ?_)
  refine ek_aload_n hx hb dSp_haveRoom_5 rfl (lv_at hl 0 rfl) ?_
  refine ek_aload_n hx hb dSp_haveRoom_6 rfl (lv_at hl 1 rfl) ?_
  obtain ⟨hx4, hf⟩ := ek_ck_s hf
  refine ek_cv hf hS hA (fun I' hq => ek_rV (As := [ek_r G x1]) ⟨hx, hb, hml, hown, hts⟩ hK hw 5 rfl (by decide) (by decide) hx4 (mSp_addUp hq) (cwV 1 hts (lw_V q_307 q_309 p_3 q_6 q_310) rfl rfl rfl (by decide +kernel) ⟨Nat.le_of_ble_eq_true rfl, Nat.le_of_ble_eq_true rfl⟩) rfl hl.1 rfl (Nat.le_of_ble_eq_true rfl) dSp_haveRoom_7 ⟨Nat.zero_le _, Nat.zero_le _⟩) (fun I3 H locs hf hw hS => ?_)
  refine ek_aload_n hx hb dSp_haveRoom_10 rfl (lv_at hl 0 rfl) ?_
  refine ek_getr hx hb 5 hts (in_Sp) hown hK hw rfl (by decide) (by decide) 1 (by decide) (n := 5) rfl rfl (hts _ q_178) hf dSp_haveRoom_11 (fun hf => ?_)
  refine lv_iload_n hx hb dSp_haveRoom_14 rfl (lv_at hl 2 rfl) ?_
  refine lv_i2l hx hb dSp_haveRoom_15 rfl ?_
  refine lv_ldc2 hx hb hown (hts _ q_283) dSp_haveRoom_16 ?_
  obtain ⟨hx6, hf⟩ := ek_ck_s hf
  refine ek_ci hf hS hA (fun I' v hq => ek_rV (As := [.long (Int32.toInt64 i2), .long ((1000 : Int64))]) ⟨hx, hb, hml, hown, hts⟩ hK hw 2 rfl (by decide) (by decide) hx6 (mFr_compare hq) (cwV 2 hts (lw_V q_284 q_285 q_286 q_4 q_287) rfl rfl rfl (by decide +kernel) ⟨Nat.le_of_ble_eq_true rfl, Nat.le_of_ble_eq_true rfl⟩) rfl hl.1 rfl (Nat.le_of_ble_eq_true rfl) dSp_haveRoom_19 ⟨Nat.zero_le _, Nat.zero_le _⟩) (fun I5 ir7 H locs hf hw hS => ?_)
  refine lv_if_gt (tgt := 29) hx hb dSp_haveRoom_22 (by decide) (fun c8 => ?_) (fun c8 => ?_)
  · have hf := ek_t c8 hf
    refine lv_iconst (v := (0 : Int32)) hx hb dSp_haveRoom_29 (by decide) ?_
    exact ek_zret hx hb hr hlocks hw hS hf dSp_haveRoom_30
  · have hf := ek_f c8 hf
    refine lv_iconst (v := (1 : Int32)) hx hb dSp_haveRoom_25 (by decide) ?_
    refine lv_goto (tgt := 30) hx hb dSp_haveRoom_26 (by decide) ?_
    exact ek_zret hx hb hr hlocks hw hS hf dSp_haveRoom_30
set_option maxHeartbeats 4000000 in
set_option maxRecDepth 100000 in
theorem mSp_haveRoom {l : Launch} {G : ek_G} {kd : Nat → Nat} {I : ek_St} {x0 : Nat} {x1 : Nat} {i2 : Int32} {q : ek_St × Int32} (hf : fSp_haveRoom kd I x0 x1 i2 = some q) : ek_M l G kd y_Sp_haveRoom (.code y_Sp_haveRoom prog_6_method_4_code 3 (some .boolean) :: lw_g) ({ frames := 4, cells := 0, slots := 0, locals := 102 } : Room) [ek_r G x0, ek_r G x1, .int i2] I (some (.int q.2)) q.1 :=
  ek_body [(0, ek_r G x0), (1, ek_r G x1), (2, .int i2)] (by decide) (by simp [lg_sl, ek_r_cat, ek_c_i, ek_c_l]) (by simp [lv_args, ek_r_cat, ek_c_i, ek_c_l]) (fun p e s m below meth c ls X hw hS hl => wSp_haveRoom_0 X hf hw hS hl)
/-! ElasticKernel$Springs.addUpSoftness(LElasticKernel$Roster;)V -/
def fSp_addUpSoftness_53 (kd : Nat → Nat) (k11 : (ek_St × Nat × Nat × Int32) → Option (ek_St)) (I : ek_St) (x0 : Nat) (x1 : Nat) (i2 : Int32) : Option (ek_St) :=
  ek_let (i2 + (1 : Int32)) (fun i2_1 => k11 (I, x0, x1, i2_1))
def fSp_addUpSoftness_11 (kd : Nat → Nat) (k11 : (ek_St × Nat × Nat × Int32) → Option (ek_St)) (I : ek_St) (x0 : Nat) (x1 : Nat) (i2 : Int32) : Option (ek_St) :=
  ek_ck (kd x1 = 4) (if (I x1 1) ≤ i2 then (some I) else (ek_ck (kd x1 = 4) (ek_ck (kd (x1 + 1) = 60) (ek_ck (ek_in i2 12) (ek_let ((I (x1 + 1) i2.toNatClampNeg).toNatClampNeg) (fun x3_2 => ek_ck (kd x3_2 = 6) (ek_bi (fTa_isSolved kd I x3_2) (fun I3 ir5 => if ir5 = ((0 : Int32)) then (fSp_addUpSoftness_53 kd k11 I3 x0 x1 i2) else (ek_ck (kd x3_2 = 6) (if (I3 x3_2 13) = ((0 : Int32)) then (ek_ck (kd x0 = 5) (ek_ck (kd x3_2 = 6) (ek_ck (kd (x0 + 11) = 2) (ek_bv (fFr_join kd I3 (x0 + 11) ((1 : Int32)) ((1 : Int32)) (I3 x3_2 4)) (fun I8 => fSp_addUpSoftness_53 kd k11 I8 x0 x1 i2))))) else (fSp_addUpSoftness_53 kd k11 I3 x0 x1 i2)))))))))))
def fSp_addUpSoftness_0 (kd : Nat → Nat) (I : ek_St) (x0 : Nat) (x1 : Nat) : Option (ek_St) :=
  ek_ck (kd x0 = 5) (ek_ck (kd (x0 + 11) = 2) (ek_bv (fFr_set kd I (x0 + 11) ((0 : Int32)) ((1 : Int32))) (fun I1 => ek_lp (fun (k : (ek_St × Nat × Nat × Int32) → Option (ek_St)) (q : (ek_St × Nat × Nat × Int32)) => fSp_addUpSoftness_11 kd k q.1 q.2.1 q.2.2.1 q.2.2.2) ek_N (I1, x0, x1, (0 : Int32)))))
def fSp_addUpSoftness (kd : Nat → Nat) (I : ek_St) (x0 : Nat) (x1 : Nat) : Option (ek_St) := fSp_addUpSoftness_0 kd I x0 x1
theorem dSp_addUpSoftness_0 : decode prog_6_method_9_code 0 = .ok (.aload_n 0, 1) := by decide +kernel
theorem dSp_addUpSoftness_1 : decode prog_6_method_9_code 1 = .ok (.getfield 21, 3) := by decide +kernel
theorem dSp_addUpSoftness_4 : decode prog_6_method_9_code 4 = .ok (.iconst 0, 1) := by decide +kernel
theorem dSp_addUpSoftness_5 : decode prog_6_method_9_code 5 = .ok (.iconst 1, 1) := by decide +kernel
theorem dSp_addUpSoftness_6 : decode prog_6_method_9_code 6 = .ok (.invokevirtual 34, 3) := by decide +kernel
theorem dSp_addUpSoftness_9 : decode prog_6_method_9_code 9 = .ok (.iconst 0, 1) := by decide +kernel
theorem dSp_addUpSoftness_10 : decode prog_6_method_9_code 10 = .ok (.istore_n 2, 1) := by decide +kernel
theorem dSp_addUpSoftness_11 : decode prog_6_method_9_code 11 = .ok (.iload_n 2, 1) := by decide +kernel
theorem dSp_addUpSoftness_12 : decode prog_6_method_9_code 12 = .ok (.aload_n 1, 1) := by decide +kernel
theorem dSp_addUpSoftness_13 : decode prog_6_method_9_code 13 = .ok (.getfield 38, 3) := by decide +kernel
theorem dSp_addUpSoftness_16 : decode prog_6_method_9_code 16 = .ok (.if_icmp .ge 43, 3) := by decide +kernel
theorem dSp_addUpSoftness_19 : decode prog_6_method_9_code 19 = .ok (.aload_n 1, 1) := by decide +kernel
theorem dSp_addUpSoftness_20 : decode prog_6_method_9_code 20 = .ok (.getfield 44, 3) := by decide +kernel
theorem dSp_addUpSoftness_23 : decode prog_6_method_9_code 23 = .ok (.iload_n 2, 1) := by decide +kernel
theorem dSp_addUpSoftness_24 : decode prog_6_method_9_code 24 = .ok (.aaload, 1) := by decide +kernel
theorem dSp_addUpSoftness_25 : decode prog_6_method_9_code 25 = .ok (.astore_n 3, 1) := by decide +kernel
theorem dSp_addUpSoftness_26 : decode prog_6_method_9_code 26 = .ok (.aload_n 3, 1) := by decide +kernel
theorem dSp_addUpSoftness_27 : decode prog_6_method_9_code 27 = .ok (.invokevirtual 109, 3) := by decide +kernel
theorem dSp_addUpSoftness_30 : decode prog_6_method_9_code 30 = .ok (.ifCond .eq 23, 3) := by decide +kernel
theorem dSp_addUpSoftness_33 : decode prog_6_method_9_code 33 = .ok (.aload_n 3, 1) := by decide +kernel
theorem dSp_addUpSoftness_34 : decode prog_6_method_9_code 34 = .ok (.getfield 105, 3) := by decide +kernel
theorem dSp_addUpSoftness_37 : decode prog_6_method_9_code 37 = .ok (.ifCond .ne 16, 3) := by decide +kernel
theorem dSp_addUpSoftness_40 : decode prog_6_method_9_code 40 = .ok (.aload_n 0, 1) := by decide +kernel
theorem dSp_addUpSoftness_41 : decode prog_6_method_9_code 41 = .ok (.getfield 21, 3) := by decide +kernel
theorem dSp_addUpSoftness_44 : decode prog_6_method_9_code 44 = .ok (.iconst 1, 1) := by decide +kernel
theorem dSp_addUpSoftness_45 : decode prog_6_method_9_code 45 = .ok (.iconst 1, 1) := by decide +kernel
theorem dSp_addUpSoftness_46 : decode prog_6_method_9_code 46 = .ok (.aload_n 3, 1) := by decide +kernel
theorem dSp_addUpSoftness_47 : decode prog_6_method_9_code 47 = .ok (.getfield 116, 3) := by decide +kernel
theorem dSp_addUpSoftness_50 : decode prog_6_method_9_code 50 = .ok (.invokevirtual 56, 3) := by decide +kernel
theorem dSp_addUpSoftness_53 : decode prog_6_method_9_code 53 = .ok (.iinc 2 1, 3) := by decide +kernel
theorem dSp_addUpSoftness_56 : decode prog_6_method_9_code 56 = .ok (.goto (-45), 3) := by decide +kernel
theorem dSp_addUpSoftness_59 : decode prog_6_method_9_code 59 = .ok (.return_, 1) := by decide +kernel
set_option maxHeartbeats 4000000 in
set_option maxRecDepth 100000 in
theorem wSp_addUpSoftness_53 {l : Launch} {G : ek_G} {kd : Nat → Nat} {p : Program} {e : Env} {s : State} {m : MethodId} {args : Array Value} {below : List Frame} {meth : Method} {c : Code} (X : ek_X p s m meth c args G prog_6_method_9_code 4 "ElasticKernel$Springs" none) {q : ek_St} {k11 : (ek_St × Nat × Nat × Int32) → Option (ek_St)} (hk11 : ∀ q0 : ek_St × Nat × Nat × Int32, k11 q0 = some q → ∀ (H : Heap) (locs : List Loc) (ls : Array Slot), ek_W G kd q0.1 H → va_S (ek_A G kd) s.heap H locs → lv_has ls 4 [(0, ek_r G q0.2.1), (1, ek_r G q0.2.2.1), (2, .int q0.2.2.2)] → W p l e ({ frames := 3, cells := 0, slots := 0, locals := 79 } : Room) s m args below meth c H locs 0 0 (MQ below (ek_Q G kd none q) args s 0 0 (ek_A G kd)) (F0 m 11 ls [])) {I : ek_St} {x0 : Nat} {x1 : Nat} {i2 : Int32} (hf : fSp_addUpSoftness_53 kd k11 I x0 x1 i2 = some q) {H : Heap} {locs : List Loc} {ls : Array Slot} (hw : ek_W G kd I H) (hS : va_S (ek_A G kd) s.heap H locs) (hl : lv_has ls 4 [(0, ek_r G x0), (1, ek_r G x1), (2, .int i2)]) : W p l e ({ frames := 3, cells := 0, slots := 0, locals := 79 } : Room) s m args below meth c H locs 0 0 (MQ below (ek_Q G kd none q) args s 0 0 (ek_A G kd)) (F0 m 53 ls []) := by
  obtain ⟨hx, hb, hml, hown, hts, hr, hlocks, hK⟩ := id X
  have hA : ∀ q, ek_A G kd q → ek_A G kd q := fun _ h => h
  unfold fSp_addUpSoftness_53 at hf
  refine ek_iinc hx hb 2 (fun i2_1 => [(2, .int i2_1), (1, ek_r G x1), (0, ek_r G x0)]) dSp_addUpSoftness_53 hl rfl (v := i2 + (1 : Int32)) rfl hf (by decide) (fun i2_1 => ek_s1k 1 rfl rfl ek_r_cat rfl rfl) (fun i2_1 ls hf hl => ?_)
  refine lv_goto (tgt := 11) hx hb dSp_addUpSoftness_56 (by decide) ?_
  exact hk11 (I, x0, x1, i2_1) hf _ _ _ hw hS (lv_sub hl [2, 1, 0] rfl)
set_option maxHeartbeats 4000000 in
set_option maxRecDepth 100000 in
theorem wSp_addUpSoftness_11 {l : Launch} {G : ek_G} {kd : Nat → Nat} {p : Program} {e : Env} {s : State} {m : MethodId} {args : Array Value} {below : List Frame} {meth : Method} {c : Code} (X : ek_X p s m meth c args G prog_6_method_9_code 4 "ElasticKernel$Springs" none) {q : ek_St} {k11 : (ek_St × Nat × Nat × Int32) → Option (ek_St)} (hk11 : ∀ q0 : ek_St × Nat × Nat × Int32, k11 q0 = some q → ∀ (H : Heap) (locs : List Loc) (ls : Array Slot), ek_W G kd q0.1 H → va_S (ek_A G kd) s.heap H locs → lv_has ls 4 [(0, ek_r G q0.2.1), (1, ek_r G q0.2.2.1), (2, .int q0.2.2.2)] → W p l e ({ frames := 3, cells := 0, slots := 0, locals := 79 } : Room) s m args below meth c H locs 0 0 (MQ below (ek_Q G kd none q) args s 0 0 (ek_A G kd)) (F0 m 11 ls [])) {I : ek_St} {x0 : Nat} {x1 : Nat} {i2 : Int32} (hf : fSp_addUpSoftness_11 kd k11 I x0 x1 i2 = some q) {H : Heap} {locs : List Loc} {ls : Array Slot} (hw : ek_W G kd I H) (hS : va_S (ek_A G kd) s.heap H locs) (hl : lv_has ls 4 [(0, ek_r G x0), (1, ek_r G x1), (2, .int i2)]) : W p l e ({ frames := 3, cells := 0, slots := 0, locals := 79 } : Room) s m args below meth c H locs 0 0 (MQ below (ek_Q G kd none q) args s 0 0 (ek_A G kd)) (F0 m 11 ls []) := by
  obtain ⟨hx, hb, hml, hown, hts, hr, hlocks, hK⟩ := id X
  have hA : ∀ q, ek_A G kd q → ek_A G kd q := fun _ h => h
  unfold fSp_addUpSoftness_11 at hf
  refine lv_iload_n hx hb dSp_addUpSoftness_11 rfl (lv_at hl 2 rfl) ?_
  refine ek_aload_n hx hb dSp_addUpSoftness_12 rfl (lv_at hl 1 rfl) ?_
  refine ek_getiN hx hb 4 hts (in_Ro) hown hK hw rfl (by decide) (by decide) 1 (by decide) rfl (va_Nw.use rfl (hK.2 _ n_140)) hf dSp_addUpSoftness_13 (fun hf => ?_)
  refine lv_icmp_ge (tgt := 59) hx hb dSp_addUpSoftness_16 (by decide) (fun c1 => ?_) (fun c1 => ?_)
  · have hf := ek_t c1 hf
    exact ek_vret hx hb hr hlocks hw hS hf dSp_addUpSoftness_59
  · have hf := ek_f c1 hf
    refine ek_aload_n hx hb dSp_addUpSoftness_19 rfl (lv_at hl 1 rfl) ?_
    refine ek_getrN hx hb 4 hts (in_Ro) hown hK hw rfl (by decide) (by decide) 0 (by decide) (n := 0) rfl rfl (va_Nw.use rfl (hK.2 _ n_137)) hf dSp_addUpSoftness_20 (fun hf => ?_)
    refine lv_iload_n hx hb dSp_addUpSoftness_23 rfl (lv_at hl 2 rfl) ?_
    refine ek_aald hx hb hK hw hf dSp_addUpSoftness_24 (fun hf => ?_)
    refine ek_tr hf (fun x3_2 hf => ?_)
    refine ek_astore_n (lv' := [(3, ek_r G x3_2), (2, .int i2), (0, ek_r G x0), (1, ek_r G x1)]) hx hb dSp_addUpSoftness_25 rfl hl (by decide) (ek_s1k 2 rfl rfl rfl ek_r_cat rfl) (fun ls hl => ?_)
    refine ek_aload_n hx hb dSp_addUpSoftness_26 rfl (lv_at hl 0 rfl) ?_
    obtain ⟨hx4, hf⟩ := ek_ck_s hf
    refine ek_ci hf hS hA (fun I' v hq => ek_rV (As := []) ⟨hx, hb, hml, hown, hts⟩ hK hw 6 rfl (by decide) (by decide) hx4 (mTa_isSolved hq) (cwV 0 hts (lw_V q_311 q_312 q_313 q_3 q_314) rfl rfl rfl (by decide +kernel) ⟨Nat.le_of_ble_eq_true rfl, Nat.le_of_ble_eq_true rfl⟩) rfl hl.1 rfl (Nat.le_of_ble_eq_true rfl) dSp_addUpSoftness_27 ⟨Nat.zero_le _, Nat.zero_le _⟩) (fun I3 ir5 H locs hf hw hS => ?_)
    refine lv_if_eq (tgt := 53) hx hb dSp_addUpSoftness_30 (by decide) (fun c6 => ?_) (fun c6 => ?_)
    · have hf := ek_t c6 hf
      exact wSp_addUpSoftness_53 X hk11 hf hw hS (lv_sub hl [2, 3, 1] rfl)
    · have hf := ek_f c6 hf
      refine ek_aload_n hx hb dSp_addUpSoftness_33 rfl (lv_at hl 0 rfl) ?_
      refine ek_getiN hx hb 6 hts (in_Ta) hown hK hw rfl (by decide) (by decide) 13 (by decide) rfl (va_Nw.use rfl (hK.2 _ n_101)) hf dSp_addUpSoftness_34 (fun hf => ?_)
      refine lv_if_ne (tgt := 53) hx hb dSp_addUpSoftness_37 (by decide) (fun c7 => ?_) (fun c7 => ?_)
      · have hf := ek_f c7 hf
        exact wSp_addUpSoftness_53 X hk11 hf hw hS (lv_sub hl [2, 3, 1] rfl)
      · have hf := ek_t c7 hf
        refine ek_aload_n hx hb dSp_addUpSoftness_40 rfl (lv_at hl 2 rfl) ?_
        refine ek_getr hx hb 5 hts (in_Sp) hown hK hw rfl (by decide) (by decide) 2 (by decide) (n := 10) rfl rfl (hts _ q_179) hf dSp_addUpSoftness_41 (fun hf => ?_)
        refine lv_iconst (v := (1 : Int32)) hx hb dSp_addUpSoftness_44 (by decide) ?_
        refine lv_iconst (v := (1 : Int32)) hx hb dSp_addUpSoftness_45 (by decide) ?_
        refine ek_aload_n hx hb dSp_addUpSoftness_46 rfl (lv_at hl 0 rfl) ?_
        refine ek_getiN hx hb 6 hts (in_Ta) hown hK hw rfl (by decide) (by decide) 4 (by decide) rfl (va_Nw.use rfl (hK.2 _ n_83)) hf dSp_addUpSoftness_47 (fun hf => ?_)
        obtain ⟨hx9, hf⟩ := ek_ck_s hf
        refine ek_cv hf hS hA (fun I' hq => ek_rV (As := [.int ((1 : Int32)), .int ((1 : Int32)), .int (I3 x3_2 4)]) ⟨hx, hb, hml, hown, hts⟩ hK hw 2 rfl (by decide) (by decide) hx9 (mFr_join hq) (cwV 3 hts (lw_V q_258 q_259 q_260 q_4 q_261) rfl rfl rfl (by decide +kernel) ⟨Nat.le_of_ble_eq_true rfl, Nat.le_of_ble_eq_true rfl⟩) rfl hl.1 rfl (Nat.le_of_ble_eq_true rfl) dSp_addUpSoftness_50 ⟨Nat.zero_le _, Nat.zero_le _⟩) (fun I8 H locs hf hw hS => ?_)
        exact wSp_addUpSoftness_53 X hk11 hf hw hS (lv_sub hl [2, 3, 1] rfl)
set_option maxHeartbeats 4000000 in
set_option maxRecDepth 100000 in
theorem wSp_addUpSoftness_11_lp {l : Launch} {G : ek_G} {kd : Nat → Nat} {p : Program} {e : Env} {s : State} {m : MethodId} {args : Array Value} {below : List Frame} {meth : Method} {c : Code} (X : ek_X p s m meth c args G prog_6_method_9_code 4 "ElasticKernel$Springs" none) {q : ek_St} (n : Nat) : ∀ q0 : ek_St × Nat × Nat × Int32, ek_lp (fun (k : (ek_St × Nat × Nat × Int32) → Option (ek_St)) (q : (ek_St × Nat × Nat × Int32)) => fSp_addUpSoftness_11 kd k q.1 q.2.1 q.2.2.1 q.2.2.2) n q0 = some q → ∀ (H : Heap) (locs : List Loc) (ls : Array Slot), ek_W G kd q0.1 H → va_S (ek_A G kd) s.heap H locs → lv_has ls 4 [(0, ek_r G q0.2.1), (1, ek_r G q0.2.2.1), (2, .int q0.2.2.2)] → W p l e ({ frames := 3, cells := 0, slots := 0, locals := 79 } : Room) s m args below meth c H locs 0 0 (MQ below (ek_Q G kd none q) args s 0 0 (ek_A G kd)) (F0 m 11 ls []) :=
  ek_lp_ind (fun k hk q0 hf => fun H locs ls hw hS hl => wSp_addUpSoftness_11 X hk hf hw hS hl) n
set_option maxHeartbeats 4000000 in
set_option maxRecDepth 100000 in
theorem wSp_addUpSoftness_0 {l : Launch} {G : ek_G} {kd : Nat → Nat} {p : Program} {e : Env} {s : State} {m : MethodId} {args : Array Value} {below : List Frame} {meth : Method} {c : Code} (X : ek_X p s m meth c args G prog_6_method_9_code 4 "ElasticKernel$Springs" none) {q : ek_St} {I : ek_St} {x0 : Nat} {x1 : Nat} (hf : fSp_addUpSoftness_0 kd I x0 x1 = some q) {H : Heap} {locs : List Loc} {ls : Array Slot} (hw : ek_W G kd I H) (hS : va_S (ek_A G kd) s.heap H locs) (hl : lv_has ls 4 [(0, ek_r G x0), (1, ek_r G x1)]) : W p l e ({ frames := 3, cells := 0, slots := 0, locals := 79 } : Room) s m args below meth c H locs 0 0 (MQ below (ek_Q G kd none q) args s 0 0 (ek_A G kd)) (F0 m 0 ls []) := by
  obtain ⟨hx, hb, hml, hown, hts, hr, hlocks, hK⟩ := id X
  have hA : ∀ q, ek_A G kd q → ek_A G kd q := fun _ h => h
  unfold fSp_addUpSoftness_0 at hf
  refine ek_aload_n hx hb dSp_addUpSoftness_0 rfl (lv_at hl 0 rfl) ?_
  refine ek_getr hx hb 5 hts (in_Sp) hown hK hw rfl (by decide) (by decide) 2 (by decide) (n := 10) rfl rfl (hts _ q_179) hf dSp_addUpSoftness_1 (fun hf => ?_)
  refine lv_iconst (v := (0 : Int32)) hx hb dSp_addUpSoftness_4 (by decide) ?_
  refine lv_iconst (v := (1 : Int32)) hx hb dSp_addUpSoftness_5 (by decide) ?_
  obtain ⟨hx2, hf⟩ := ek_ck_s hf
  refine ek_cv hf hS hA (fun I' hq => ek_rV (As := [.int ((0 : Int32)), .int ((1 : Int32))]) ⟨hx, hb, hml, hown, hts⟩ hK hw 2 rfl (by decide) (by decide) hx2 (mFr_set hq) (cwV 2 hts (lw_V q_248 q_249 q_250 q_4 q_251) rfl rfl rfl (by decide +kernel) ⟨Nat.le_of_ble_eq_true rfl, Nat.le_of_ble_eq_true rfl⟩) rfl hl.1 rfl (Nat.le_of_ble_eq_true rfl) dSp_addUpSoftness_6 ⟨Nat.zero_le _, Nat.zero_le _⟩) (fun I1 H locs hf hw hS => ?_)
  refine lv_iconst (v := (0 : Int32)) hx hb dSp_addUpSoftness_9 (by decide) ?_
  refine ek_istore_n (lv' := [(2, .int ((0 : Int32))), (1, ek_r G x1), (0, ek_r G x0)]) hx hb dSp_addUpSoftness_10 rfl hl (by decide) (ek_s1k 1 rfl rfl ek_r_cat rfl rfl) (fun ls hl => ?_)
  exact wSp_addUpSoftness_11_lp X ek_N (I1, x0, x1, (0 : Int32)) hf _ _ _ hw hS (lv_sub hl [2, 1, 0] rfl)
set_option maxHeartbeats 4000000 in
set_option maxRecDepth 100000 in
theorem mSp_addUpSoftness {l : Launch} {G : ek_G} {kd : Nat → Nat} {I : ek_St} {x0 : Nat} {x1 : Nat} {q : ek_St} (hf : fSp_addUpSoftness kd I x0 x1 = some q) : ek_M l G kd y_Sp_addUpSoftness (.code y_Sp_addUpSoftness prog_6_method_9_code 4 none :: lw_g) ({ frames := 3, cells := 0, slots := 0, locals := 79 } : Room) [ek_r G x0, ek_r G x1] I none q :=
  ek_body [(0, ek_r G x0), (1, ek_r G x1)] (by decide) (by simp [lg_sl, ek_r_cat, ek_c_i, ek_c_l]) (by simp [lv_args, ek_r_cat, ek_c_i, ek_c_l]) (fun p e s m below meth c ls X hw hS hl => wSp_addUpSoftness_0 X hf hw hS hl)
/-! ElasticKernel$Springs.isTooMuchFor(LElasticKernel$Task;)Z -/
def fSp_isTooMuchFor_0 (kd : Nat → Nat) (I : ek_St) (x0 : Nat) (x1 : Nat) : Option (ek_St × Int32) :=
  ek_ck (kd x1 = 6) (ek_ck (kd x1 = 6) (ek_ck (kd x1 = 6) (ek_ck (kd x1 = 6) (ek_let (((Int32.toInt64 (I x1 1)) * (Int32.toInt64 ((I x1 3) - (I x1 2)))) * (Int32.toInt64 (I x1 4))) (fun j2_1 => ek_ck (kd x0 = 5) (ek_ck (kd x1 = 6) (ek_ck (kd x1 = 6) (ek_ck (kd (x0 + 16) = 2) (ek_bi (fFr_compare kd I (x0 + 16) j2_1 ((Int32.toInt64 (I x1 2)) * (Int32.toInt64 (I x1 3)))) (fun I2 ir4 => if ir4 ≤ ((0 : Int32)) then (ek_ck (((0 : Int32)) = (0 : Int32) ∨ ((0 : Int32)) = (1 : Int32)) (some (I2, (0 : Int32)))) else (ek_ck (((1 : Int32)) = (0 : Int32) ∨ ((1 : Int32)) = (1 : Int32)) (some (I2, (1 : Int32))))))))))))))
def fSp_isTooMuchFor (kd : Nat → Nat) (I : ek_St) (x0 : Nat) (x1 : Nat) : Option (ek_St × Int32) := fSp_isTooMuchFor_0 kd I x0 x1
theorem dSp_isTooMuchFor_0 : decode prog_6_method_11_code 0 = .ok (.aload_n 1, 1) := by decide +kernel
theorem dSp_isTooMuchFor_1 : decode prog_6_method_11_code 1 = .ok (.getfield 48, 3) := by decide +kernel
theorem dSp_isTooMuchFor_4 : decode prog_6_method_11_code 4 = .ok (.i2l, 1) := by decide +kernel
theorem dSp_isTooMuchFor_5 : decode prog_6_method_11_code 5 = .ok (.aload_n 1, 1) := by decide +kernel
theorem dSp_isTooMuchFor_6 : decode prog_6_method_11_code 6 = .ok (.getfield 53, 3) := by decide +kernel
theorem dSp_isTooMuchFor_9 : decode prog_6_method_11_code 9 = .ok (.aload_n 1, 1) := by decide +kernel
theorem dSp_isTooMuchFor_10 : decode prog_6_method_11_code 10 = .ok (.getfield 113, 3) := by decide +kernel
theorem dSp_isTooMuchFor_13 : decode prog_6_method_11_code 13 = .ok (.isub, 1) := by decide +kernel
theorem dSp_isTooMuchFor_14 : decode prog_6_method_11_code 14 = .ok (.i2l, 1) := by decide +kernel
theorem dSp_isTooMuchFor_15 : decode prog_6_method_11_code 15 = .ok (.lmul, 1) := by decide +kernel
theorem dSp_isTooMuchFor_16 : decode prog_6_method_11_code 16 = .ok (.aload_n 1, 1) := by decide +kernel
theorem dSp_isTooMuchFor_17 : decode prog_6_method_11_code 17 = .ok (.getfield 116, 3) := by decide +kernel
theorem dSp_isTooMuchFor_20 : decode prog_6_method_11_code 20 = .ok (.i2l, 1) := by decide +kernel
theorem dSp_isTooMuchFor_21 : decode prog_6_method_11_code 21 = .ok (.lmul, 1) := by decide +kernel
theorem dSp_isTooMuchFor_22 : decode prog_6_method_11_code 22 = .ok (.lstore_n 2, 1) := by decide +kernel
theorem dSp_isTooMuchFor_23 : decode prog_6_method_11_code 23 = .ok (.aload_n 0, 1) := by decide +kernel
theorem dSp_isTooMuchFor_24 : decode prog_6_method_11_code 24 = .ok (.getfield 24, 3) := by decide +kernel
theorem dSp_isTooMuchFor_27 : decode prog_6_method_11_code 27 = .ok (.lload_n 2, 1) := by decide +kernel
theorem dSp_isTooMuchFor_28 : decode prog_6_method_11_code 28 = .ok (.aload_n 1, 1) := by decide +kernel
theorem dSp_isTooMuchFor_29 : decode prog_6_method_11_code 29 = .ok (.getfield 113, 3) := by decide +kernel
theorem dSp_isTooMuchFor_32 : decode prog_6_method_11_code 32 = .ok (.i2l, 1) := by decide +kernel
theorem dSp_isTooMuchFor_33 : decode prog_6_method_11_code 33 = .ok (.aload_n 1, 1) := by decide +kernel
theorem dSp_isTooMuchFor_34 : decode prog_6_method_11_code 34 = .ok (.getfield 53, 3) := by decide +kernel
theorem dSp_isTooMuchFor_37 : decode prog_6_method_11_code 37 = .ok (.i2l, 1) := by decide +kernel
theorem dSp_isTooMuchFor_38 : decode prog_6_method_11_code 38 = .ok (.lmul, 1) := by decide +kernel
theorem dSp_isTooMuchFor_39 : decode prog_6_method_11_code 39 = .ok (.invokevirtual 62, 3) := by decide +kernel
theorem dSp_isTooMuchFor_42 : decode prog_6_method_11_code 42 = .ok (.ifCond .le 7, 3) := by decide +kernel
theorem dSp_isTooMuchFor_45 : decode prog_6_method_11_code 45 = .ok (.iconst 1, 1) := by decide +kernel
theorem dSp_isTooMuchFor_46 : decode prog_6_method_11_code 46 = .ok (.goto 4, 3) := by decide +kernel
theorem dSp_isTooMuchFor_49 : decode prog_6_method_11_code 49 = .ok (.iconst 0, 1) := by decide +kernel
theorem dSp_isTooMuchFor_50 : decode prog_6_method_11_code 50 = .ok (.ireturn, 1) := by decide +kernel
set_option maxHeartbeats 4000000 in
set_option maxRecDepth 100000 in
theorem wSp_isTooMuchFor_0 {l : Launch} {G : ek_G} {kd : Nat → Nat} {p : Program} {e : Env} {s : State} {m : MethodId} {args : Array Value} {below : List Frame} {meth : Method} {c : Code} (X : ek_X p s m meth c args G prog_6_method_11_code 4 "ElasticKernel$Springs" (some .boolean)) {q : ek_St × Int32} {I : ek_St} {x0 : Nat} {x1 : Nat} (hf : fSp_isTooMuchFor_0 kd I x0 x1 = some q) {H : Heap} {locs : List Loc} {ls : Array Slot} (hw : ek_W G kd I H) (hS : va_S (ek_A G kd) s.heap H locs) (hl : lv_has ls 4 [(0, ek_r G x0), (1, ek_r G x1)]) : W p l e ({ frames := 2, cells := 0, slots := 0, locals := 56 } : Room) s m args below meth c H locs 0 0 (MQ below (ek_Q G kd (some (.int q.2)) q.1) args s 0 0 (ek_A G kd)) (F0 m 0 ls []) := by
  obtain ⟨hx, hb, hml, hown, hts, hr, hlocks, hK⟩ := id X
  have hA : ∀ q, ek_A G kd q → ek_A G kd q := fun _ h => h
  unfold fSp_isTooMuchFor_0 at hf
  refine ek_aload_n hx hb dSp_isTooMuchFor_0 rfl (lv_at hl 1 rfl) ?_
  refine ek_getiN hx hb 6 hts (in_Ta) hown hK hw rfl (by decide) (by decide) 1 (by decide) rfl (va_Nw.use rfl (hK.2 _ n_76)) hf dSp_isTooMuchFor_1 (fun hf => ?_)
  refine lv_i2l hx hb dSp_isTooMuchFor_4 rfl ?_
  refine ek_aload_n hx hb dSp_isTooMuchFor_5 rfl (lv_at hl 1 rfl) ?_
  refine ek_getiN hx hb 6 hts (in_Ta) hown hK hw rfl (by decide) (by decide) 3 (by decide) rfl (va_Nw.use rfl (hK.2 _ n_81)) hf dSp_isTooMuchFor_6 (fun hf => ?_)
  refine ek_aload_n hx hb dSp_isTooMuchFor_9 rfl (lv_at hl 1 rfl) ?_
  refine ek_getiN hx hb 6 hts (in_Ta) hown hK hw rfl (by decide) (by decide) 2 (by decide) rfl (va_Nw.use rfl (hK.2 _ n_79)) hf dSp_isTooMuchFor_10 (fun hf => ?_)
  refine lv_isub hx hb dSp_isTooMuchFor_13 ?_
  refine lv_i2l hx hb dSp_isTooMuchFor_14 rfl ?_
  refine lv_lmul hx hb dSp_isTooMuchFor_15 ?_
  refine ek_aload_n hx hb dSp_isTooMuchFor_16 rfl (lv_at hl 1 rfl) ?_
  refine ek_getiN hx hb 6 hts (in_Ta) hown hK hw rfl (by decide) (by decide) 4 (by decide) rfl (va_Nw.use rfl (hK.2 _ n_83)) hf dSp_isTooMuchFor_17 (fun hf => ?_)
  refine lv_i2l hx hb dSp_isTooMuchFor_20 rfl ?_
  refine lv_lmul hx hb dSp_isTooMuchFor_21 ?_
  refine ek_tl hf (fun j2_1 hf => ?_)
  refine ek_lstore_n (lv' := [(2, .long j2_1), (1, ek_r G x1), (0, ek_r G x0)]) hx hb dSp_isTooMuchFor_22 rfl hl (by decide) (ek_s2k 1 rfl rfl ek_r_cat rfl rfl) (fun ls hl => ?_)
  refine ek_aload_n hx hb dSp_isTooMuchFor_23 rfl (lv_at hl 2 rfl) ?_
  refine ek_getr hx hb 5 hts (in_Sp) hown hK hw rfl (by decide) (by decide) 3 (by decide) (n := 15) rfl rfl (hts _ q_180) hf dSp_isTooMuchFor_24 (fun hf => ?_)
  refine lv_lload_n hx hb dSp_isTooMuchFor_27 rfl (lv_at hl 0 rfl) ?_
  refine ek_aload_n hx hb dSp_isTooMuchFor_28 rfl (lv_at hl 1 rfl) ?_
  refine ek_getiN hx hb 6 hts (in_Ta) hown hK hw rfl (by decide) (by decide) 2 (by decide) rfl (va_Nw.use rfl (hK.2 _ n_79)) hf dSp_isTooMuchFor_29 (fun hf => ?_)
  refine lv_i2l hx hb dSp_isTooMuchFor_32 rfl ?_
  refine ek_aload_n hx hb dSp_isTooMuchFor_33 rfl (lv_at hl 1 rfl) ?_
  refine ek_getiN hx hb 6 hts (in_Ta) hown hK hw rfl (by decide) (by decide) 3 (by decide) rfl (va_Nw.use rfl (hK.2 _ n_81)) hf dSp_isTooMuchFor_34 (fun hf => ?_)
  refine lv_i2l hx hb dSp_isTooMuchFor_37 rfl ?_
  refine lv_lmul hx hb dSp_isTooMuchFor_38 ?_
  obtain ⟨hx3, hf⟩ := ek_ck_s hf
  refine ek_ci hf hS hA (fun I' v hq => ek_rV (As := [.long j2_1, .long ((Int32.toInt64 (I x1 2)) * (Int32.toInt64 (I x1 3)))]) ⟨hx, hb, hml, hown, hts⟩ hK hw 2 rfl (by decide) (by decide) hx3 (mFr_compare hq) (cwV 2 hts (lw_V q_284 q_285 q_286 q_4 q_287) rfl rfl rfl (by decide +kernel) ⟨Nat.le_of_ble_eq_true rfl, Nat.le_of_ble_eq_true rfl⟩) rfl hl.1 rfl (Nat.le_of_ble_eq_true rfl) dSp_isTooMuchFor_39 ⟨Nat.zero_le _, Nat.zero_le _⟩) (fun I2 ir4 H locs hf hw hS => ?_)
  refine lv_if_le (tgt := 49) hx hb dSp_isTooMuchFor_42 (by decide) (fun c5 => ?_) (fun c5 => ?_)
  · have hf := ek_t c5 hf
    refine lv_iconst (v := (0 : Int32)) hx hb dSp_isTooMuchFor_49 (by decide) ?_
    exact ek_zret hx hb hr hlocks hw hS hf dSp_isTooMuchFor_50
  · have hf := ek_f c5 hf
    refine lv_iconst (v := (1 : Int32)) hx hb dSp_isTooMuchFor_45 (by decide) ?_
    refine lv_goto (tgt := 50) hx hb dSp_isTooMuchFor_46 (by decide) ?_
    exact ek_zret hx hb hr hlocks hw hS hf dSp_isTooMuchFor_50
set_option maxHeartbeats 4000000 in
set_option maxRecDepth 100000 in
theorem mSp_isTooMuchFor {l : Launch} {G : ek_G} {kd : Nat → Nat} {I : ek_St} {x0 : Nat} {x1 : Nat} {q : ek_St × Int32} (hf : fSp_isTooMuchFor kd I x0 x1 = some q) : ek_M l G kd y_Sp_isTooMuchFor (.code y_Sp_isTooMuchFor prog_6_method_11_code 4 (some .boolean) :: lw_g) ({ frames := 2, cells := 0, slots := 0, locals := 56 } : Room) [ek_r G x0, ek_r G x1] I (some (.int q.2)) q.1 :=
  ek_body [(0, ek_r G x0), (1, ek_r G x1)] (by decide) (by simp [lg_sl, ek_r_cat, ek_c_i, ek_c_l]) (by simp [lv_args, ek_r_cat, ek_c_i, ek_c_l]) (fun p e s m below meth c ls X hw hS hl => wSp_isTooMuchFor_0 X hf hw hS hl)
/-! ElasticKernel$Springs.pinPressed(LElasticKernel$Roster;)Z -/
def fSp_pinPressed_53 (kd : Nat → Nat) (k4 : (ek_St × Nat × Nat × Int32 × Int32) → Option (ek_St × Int32)) (I : ek_St) (x0 : Nat) (x1 : Nat) (i2 : Int32) (i3 : Int32) : Option (ek_St × Int32) :=
  ek_let (i3 + (1 : Int32)) (fun i3_1 => k4 (I, x0, x1, i2, i3_1))
def fSp_pinPressed_4 (kd : Nat → Nat) (k4 : (ek_St × Nat × Nat × Int32 × Int32) → Option (ek_St × Int32)) (I : ek_St) (x0 : Nat) (x1 : Nat) (i2 : Int32) (i3 : Int32) : Option (ek_St × Int32) :=
  ek_ck (kd x1 = 4) (if (I x1 1) ≤ i3 then (ek_ck (i2 = (0 : Int32) ∨ i2 = (1 : Int32)) (some (I, i2))) else (ek_ck (kd x1 = 4) (ek_ck (kd (x1 + 1) = 60) (ek_ck (ek_in i3 12) (ek_let ((I (x1 + 1) i3.toNatClampNeg).toNatClampNeg) (fun x4_2 => ek_ck (kd x4_2 = 6) (ek_bi (fTa_isSolved kd I x4_2) (fun I3 ir5 => if ir5 = ((0 : Int32)) then (fSp_pinPressed_53 kd k4 I3 x0 x1 i2 i3) else (ek_ck (kd x4_2 = 6) (if (I3 x4_2 13) = ((0 : Int32)) then (ek_ck (kd x0 = 5) (ek_bi (fSp_isTooMuchFor kd I3 x0 x4_2) (fun I8 ir10 => if ir10 = ((0 : Int32)) then (fSp_pinPressed_53 kd k4 I8 x0 x1 i2 i3) else (ek_ck (kd x4_2 = 6) (ek_let (ek_up I8 x4_2 13 ((1 : Int32))) (fun I12 => fSp_pinPressed_53 kd k4 I12 x0 x1 ((1 : Int32)) i3)))))) else (fSp_pinPressed_53 kd k4 I3 x0 x1 i2 i3)))))))))))
def fSp_pinPressed_0 (kd : Nat → Nat) (I : ek_St) (x0 : Nat) (x1 : Nat) : Option (ek_St × Int32) :=
  ek_lp (fun (k : (ek_St × Nat × Nat × Int32 × Int32) → Option (ek_St × Int32)) (q : (ek_St × Nat × Nat × Int32 × Int32)) => fSp_pinPressed_4 kd k q.1 q.2.1 q.2.2.1 q.2.2.2.1 q.2.2.2.2) ek_N (I, x0, x1, (0 : Int32), (0 : Int32))
def fSp_pinPressed (kd : Nat → Nat) (I : ek_St) (x0 : Nat) (x1 : Nat) : Option (ek_St × Int32) := fSp_pinPressed_0 kd I x0 x1
theorem dSp_pinPressed_0 : decode prog_6_method_10_code 0 = .ok (.iconst 0, 1) := by decide +kernel
theorem dSp_pinPressed_1 : decode prog_6_method_10_code 1 = .ok (.istore_n 2, 1) := by decide +kernel
theorem dSp_pinPressed_2 : decode prog_6_method_10_code 2 = .ok (.iconst 0, 1) := by decide +kernel
theorem dSp_pinPressed_3 : decode prog_6_method_10_code 3 = .ok (.istore_n 3, 1) := by decide +kernel
theorem dSp_pinPressed_4 : decode prog_6_method_10_code 4 = .ok (.iload_n 3, 1) := by decide +kernel
theorem dSp_pinPressed_5 : decode prog_6_method_10_code 5 = .ok (.aload_n 1, 1) := by decide +kernel
theorem dSp_pinPressed_6 : decode prog_6_method_10_code 6 = .ok (.getfield 38, 3) := by decide +kernel
theorem dSp_pinPressed_9 : decode prog_6_method_10_code 9 = .ok (.if_icmp .ge 50, 3) := by decide +kernel
theorem dSp_pinPressed_12 : decode prog_6_method_10_code 12 = .ok (.aload_n 1, 1) := by decide +kernel
theorem dSp_pinPressed_13 : decode prog_6_method_10_code 13 = .ok (.getfield 44, 3) := by decide +kernel
theorem dSp_pinPressed_16 : decode prog_6_method_10_code 16 = .ok (.iload_n 3, 1) := by decide +kernel
theorem dSp_pinPressed_17 : decode prog_6_method_10_code 17 = .ok (.aaload, 1) := by decide +kernel
theorem dSp_pinPressed_18 : decode prog_6_method_10_code 18 = .ok (.astore 4, 2) := by decide +kernel
theorem dSp_pinPressed_20 : decode prog_6_method_10_code 20 = .ok (.aload 4, 2) := by decide +kernel
theorem dSp_pinPressed_22 : decode prog_6_method_10_code 22 = .ok (.invokevirtual 109, 3) := by decide +kernel
theorem dSp_pinPressed_25 : decode prog_6_method_10_code 25 = .ok (.ifCond .eq 28, 3) := by decide +kernel
theorem dSp_pinPressed_28 : decode prog_6_method_10_code 28 = .ok (.aload 4, 2) := by decide +kernel
theorem dSp_pinPressed_30 : decode prog_6_method_10_code 30 = .ok (.getfield 105, 3) := by decide +kernel
theorem dSp_pinPressed_33 : decode prog_6_method_10_code 33 = .ok (.ifCond .ne 20, 3) := by decide +kernel
theorem dSp_pinPressed_36 : decode prog_6_method_10_code 36 = .ok (.aload_n 0, 1) := by decide +kernel
theorem dSp_pinPressed_37 : decode prog_6_method_10_code 37 = .ok (.aload 4, 2) := by decide +kernel
theorem dSp_pinPressed_39 : decode prog_6_method_10_code 39 = .ok (.invokevirtual 119, 3) := by decide +kernel
theorem dSp_pinPressed_42 : decode prog_6_method_10_code 42 = .ok (.ifCond .eq 11, 3) := by decide +kernel
theorem dSp_pinPressed_45 : decode prog_6_method_10_code 45 = .ok (.aload 4, 2) := by decide +kernel
theorem dSp_pinPressed_47 : decode prog_6_method_10_code 47 = .ok (.iconst 1, 1) := by decide +kernel
theorem dSp_pinPressed_48 : decode prog_6_method_10_code 48 = .ok (.putfield 105, 3) := by decide +kernel
theorem dSp_pinPressed_51 : decode prog_6_method_10_code 51 = .ok (.iconst 1, 1) := by decide +kernel
theorem dSp_pinPressed_52 : decode prog_6_method_10_code 52 = .ok (.istore_n 2, 1) := by decide +kernel
theorem dSp_pinPressed_53 : decode prog_6_method_10_code 53 = .ok (.iinc 3 1, 3) := by decide +kernel
theorem dSp_pinPressed_56 : decode prog_6_method_10_code 56 = .ok (.goto (-52), 3) := by decide +kernel
theorem dSp_pinPressed_59 : decode prog_6_method_10_code 59 = .ok (.iload_n 2, 1) := by decide +kernel
theorem dSp_pinPressed_60 : decode prog_6_method_10_code 60 = .ok (.ireturn, 1) := by decide +kernel
set_option maxHeartbeats 4000000 in
set_option maxRecDepth 100000 in
theorem wSp_pinPressed_53 {l : Launch} {G : ek_G} {kd : Nat → Nat} {p : Program} {e : Env} {s : State} {m : MethodId} {args : Array Value} {below : List Frame} {meth : Method} {c : Code} (X : ek_X p s m meth c args G prog_6_method_10_code 5 "ElasticKernel$Springs" (some .boolean)) {q : ek_St × Int32} {k4 : (ek_St × Nat × Nat × Int32 × Int32) → Option (ek_St × Int32)} (hk4 : ∀ q0 : ek_St × Nat × Nat × Int32 × Int32, k4 q0 = some q → ∀ (H : Heap) (locs : List Loc) (ls : Array Slot), ek_W G kd q0.1 H → va_S (ek_A G kd) s.heap H locs → lv_has ls 5 [(0, ek_r G q0.2.1), (1, ek_r G q0.2.2.1), (2, .int q0.2.2.2.1), (3, .int q0.2.2.2.2)] → W p l e ({ frames := 3, cells := 0, slots := 0, locals := 79 } : Room) s m args below meth c H locs 0 0 (MQ below (ek_Q G kd (some (.int q.2)) q.1) args s 0 0 (ek_A G kd)) (F0 m 4 ls [])) {I : ek_St} {x0 : Nat} {x1 : Nat} {i2 : Int32} {i3 : Int32} (hf : fSp_pinPressed_53 kd k4 I x0 x1 i2 i3 = some q) {H : Heap} {locs : List Loc} {ls : Array Slot} (hw : ek_W G kd I H) (hS : va_S (ek_A G kd) s.heap H locs) (hl : lv_has ls 5 [(0, ek_r G x0), (1, ek_r G x1), (2, .int i2), (3, .int i3)]) : W p l e ({ frames := 3, cells := 0, slots := 0, locals := 79 } : Room) s m args below meth c H locs 0 0 (MQ below (ek_Q G kd (some (.int q.2)) q.1) args s 0 0 (ek_A G kd)) (F0 m 53 ls []) := by
  obtain ⟨hx, hb, hml, hown, hts, hr, hlocks, hK⟩ := id X
  have hA : ∀ q, ek_A G kd q → ek_A G kd q := fun _ h => h
  unfold fSp_pinPressed_53 at hf
  refine ek_iinc hx hb 3 (fun i3_1 => [(3, .int i3_1), (2, .int i2), (0, ek_r G x0), (1, ek_r G x1)]) dSp_pinPressed_53 hl rfl (v := i3 + (1 : Int32)) rfl hf (by decide) (fun i3_1 => ek_s1k 2 rfl rfl rfl rfl rfl) (fun i3_1 ls hf hl => ?_)
  refine lv_goto (tgt := 4) hx hb dSp_pinPressed_56 (by decide) ?_
  exact hk4 (I, x0, x1, i2, i3_1) hf _ _ _ hw hS (lv_sub hl [2, 3, 1, 0] rfl)
set_option maxHeartbeats 4000000 in
set_option maxRecDepth 100000 in
theorem wSp_pinPressed_4 {l : Launch} {G : ek_G} {kd : Nat → Nat} {p : Program} {e : Env} {s : State} {m : MethodId} {args : Array Value} {below : List Frame} {meth : Method} {c : Code} (X : ek_X p s m meth c args G prog_6_method_10_code 5 "ElasticKernel$Springs" (some .boolean)) {q : ek_St × Int32} {k4 : (ek_St × Nat × Nat × Int32 × Int32) → Option (ek_St × Int32)} (hk4 : ∀ q0 : ek_St × Nat × Nat × Int32 × Int32, k4 q0 = some q → ∀ (H : Heap) (locs : List Loc) (ls : Array Slot), ek_W G kd q0.1 H → va_S (ek_A G kd) s.heap H locs → lv_has ls 5 [(0, ek_r G q0.2.1), (1, ek_r G q0.2.2.1), (2, .int q0.2.2.2.1), (3, .int q0.2.2.2.2)] → W p l e ({ frames := 3, cells := 0, slots := 0, locals := 79 } : Room) s m args below meth c H locs 0 0 (MQ below (ek_Q G kd (some (.int q.2)) q.1) args s 0 0 (ek_A G kd)) (F0 m 4 ls [])) {I : ek_St} {x0 : Nat} {x1 : Nat} {i2 : Int32} {i3 : Int32} (hf : fSp_pinPressed_4 kd k4 I x0 x1 i2 i3 = some q) {H : Heap} {locs : List Loc} {ls : Array Slot} (hw : ek_W G kd I H) (hS : va_S (ek_A G kd) s.heap H locs) (hl : lv_has ls 5 [(0, ek_r G x0), (1, ek_r G x1), (2, .int i2), (3, .int i3)]) : W p l e ({ frames := 3, cells := 0, slots := 0, locals := 79 } : Room) s m args below meth c H locs 0 0 (MQ below (ek_Q G kd (some (.int q.2)) q.1) args s 0 0 (ek_A G kd)) (F0 m 4 ls []) := by
  obtain ⟨hx, hb, hml, hown, hts, hr, hlocks, hK⟩ := id X
  have hA : ∀ q, ek_A G kd q → ek_A G kd q := fun _ h => h
  unfold fSp_pinPressed_4 at hf
  refine lv_iload_n hx hb dSp_pinPressed_4 rfl (lv_at hl 3 rfl) ?_
  refine ek_aload_n hx hb dSp_pinPressed_5 rfl (lv_at hl 1 rfl) ?_
  refine ek_getiN hx hb 4 hts (in_Ro) hown hK hw rfl (by decide) (by decide) 1 (by decide) rfl (va_Nw.use rfl (hK.2 _ n_140)) hf dSp_pinPressed_6 (fun hf => ?_)
  refine lv_icmp_ge (tgt := 59) hx hb dSp_pinPressed_9 (by decide) (fun c1 => ?_) (fun c1 => ?_)
  · have hf := ek_t c1 hf
    refine lv_iload_n hx hb dSp_pinPressed_59 rfl (lv_at hl 2 rfl) ?_
    exact ek_zret hx hb hr hlocks hw hS hf dSp_pinPressed_60
  · have hf := ek_f c1 hf
    refine ek_aload_n hx hb dSp_pinPressed_12 rfl (lv_at hl 1 rfl) ?_
    refine ek_getrN hx hb 4 hts (in_Ro) hown hK hw rfl (by decide) (by decide) 0 (by decide) (n := 0) rfl rfl (va_Nw.use rfl (hK.2 _ n_137)) hf dSp_pinPressed_13 (fun hf => ?_)
    refine lv_iload_n hx hb dSp_pinPressed_16 rfl (lv_at hl 3 rfl) ?_
    refine ek_aald hx hb hK hw hf dSp_pinPressed_17 (fun hf => ?_)
    refine ek_tr hf (fun x4_2 hf => ?_)
    refine ek_astore (lv' := [(4, ek_r G x4_2), (3, .int i3), (0, ek_r G x0), (1, ek_r G x1), (2, .int i2)]) hx hb dSp_pinPressed_18 hl (by decide) (ek_s1k 3 rfl rfl rfl ek_r_cat rfl) (fun ls hl => ?_)
    refine ek_aload hx hb dSp_pinPressed_20 (lv_at hl 0 rfl) ?_
    obtain ⟨hx4, hf⟩ := ek_ck_s hf
    refine ek_ci hf hS hA (fun I' v hq => ek_rV (As := []) ⟨hx, hb, hml, hown, hts⟩ hK hw 6 rfl (by decide) (by decide) hx4 (mTa_isSolved hq) (cwV 0 hts (lw_V q_311 q_312 q_313 q_3 q_314) rfl rfl rfl (by decide +kernel) ⟨Nat.le_of_ble_eq_true rfl, Nat.le_of_ble_eq_true rfl⟩) rfl hl.1 rfl (Nat.le_of_ble_eq_true rfl) dSp_pinPressed_22 ⟨Nat.zero_le _, Nat.zero_le _⟩) (fun I3 ir5 H locs hf hw hS => ?_)
    refine lv_if_eq (tgt := 53) hx hb dSp_pinPressed_25 (by decide) (fun c6 => ?_) (fun c6 => ?_)
    · have hf := ek_t c6 hf
      exact wSp_pinPressed_53 X hk4 hf hw hS (lv_sub hl [2, 3, 4, 1] rfl)
    · have hf := ek_f c6 hf
      refine ek_aload hx hb dSp_pinPressed_28 (lv_at hl 0 rfl) ?_
      refine ek_getiN hx hb 6 hts (in_Ta) hown hK hw rfl (by decide) (by decide) 13 (by decide) rfl (va_Nw.use rfl (hK.2 _ n_101)) hf dSp_pinPressed_30 (fun hf => ?_)
      refine lv_if_ne (tgt := 53) hx hb dSp_pinPressed_33 (by decide) (fun c7 => ?_) (fun c7 => ?_)
      · have hf := ek_f c7 hf
        exact wSp_pinPressed_53 X hk4 hf hw hS (lv_sub hl [2, 3, 4, 1] rfl)
      · have hf := ek_t c7 hf
        refine ek_aload_n hx hb dSp_pinPressed_36 rfl (lv_at hl 2 rfl) ?_
        refine ek_aload hx hb dSp_pinPressed_37 (lv_at hl 0 rfl) ?_
        obtain ⟨hx9, hf⟩ := ek_ck_s hf
        refine ek_ci hf hS hA (fun I' v hq => ek_rV (As := [ek_r G x4_2]) ⟨hx, hb, hml, hown, hts⟩ hK hw 5 rfl (by decide) (by decide) hx9 (mSp_isTooMuchFor hq) (cwV 1 hts (lw_V q_351 q_353 p_6 q_6 q_354) rfl rfl rfl (by decide +kernel) ⟨Nat.le_of_ble_eq_true rfl, Nat.le_of_ble_eq_true rfl⟩) rfl hl.1 rfl (Nat.le_of_ble_eq_true rfl) dSp_pinPressed_39 ⟨Nat.zero_le _, Nat.zero_le _⟩) (fun I8 ir10 H locs hf hw hS => ?_)
        refine lv_if_eq (tgt := 53) hx hb dSp_pinPressed_42 (by decide) (fun c11 => ?_) (fun c11 => ?_)
        · have hf := ek_t c11 hf
          exact wSp_pinPressed_53 X hk4 hf hw hS (lv_sub hl [2, 3, 4, 1] rfl)
        · have hf := ek_f c11 hf
          refine ek_aload hx hb dSp_pinPressed_45 (lv_at hl 0 rfl) ?_
          refine lv_iconst (v := (1 : Int32)) hx hb dSp_pinPressed_47 (by decide) ?_
          refine ek_putiN hx hb 6 hts (in_Ta) ty_Ta ty_Ta_ok nm_Ta hown hK hw hS hA rfl (by decide) (by decide) 13 (by decide) rfl (va_Nw.use rfl (hK.2 _ n_101)) rfl rfl rfl hf dSp_pinPressed_48 (fun I12 H locs hf hw hS => ?_)
          refine lv_iconst (v := (1 : Int32)) hx hb dSp_pinPressed_51 (by decide) ?_
          refine ek_istore_n (lv' := [(2, .int ((1 : Int32))), (1, ek_r G x1), (4, ek_r G x4_2), (3, .int i3), (0, ek_r G x0)]) hx hb dSp_pinPressed_52 rfl hl (by decide) (ek_s1k 3 rfl rfl ek_r_cat rfl rfl) (fun ls hl => ?_)
          exact wSp_pinPressed_53 X hk4 hf hw hS (lv_sub hl [4, 1, 0, 3] rfl)
set_option maxHeartbeats 4000000 in
set_option maxRecDepth 100000 in
theorem wSp_pinPressed_4_lp {l : Launch} {G : ek_G} {kd : Nat → Nat} {p : Program} {e : Env} {s : State} {m : MethodId} {args : Array Value} {below : List Frame} {meth : Method} {c : Code} (X : ek_X p s m meth c args G prog_6_method_10_code 5 "ElasticKernel$Springs" (some .boolean)) {q : ek_St × Int32} (n : Nat) : ∀ q0 : ek_St × Nat × Nat × Int32 × Int32, ek_lp (fun (k : (ek_St × Nat × Nat × Int32 × Int32) → Option (ek_St × Int32)) (q : (ek_St × Nat × Nat × Int32 × Int32)) => fSp_pinPressed_4 kd k q.1 q.2.1 q.2.2.1 q.2.2.2.1 q.2.2.2.2) n q0 = some q → ∀ (H : Heap) (locs : List Loc) (ls : Array Slot), ek_W G kd q0.1 H → va_S (ek_A G kd) s.heap H locs → lv_has ls 5 [(0, ek_r G q0.2.1), (1, ek_r G q0.2.2.1), (2, .int q0.2.2.2.1), (3, .int q0.2.2.2.2)] → W p l e ({ frames := 3, cells := 0, slots := 0, locals := 79 } : Room) s m args below meth c H locs 0 0 (MQ below (ek_Q G kd (some (.int q.2)) q.1) args s 0 0 (ek_A G kd)) (F0 m 4 ls []) :=
  ek_lp_ind (fun k hk q0 hf => fun H locs ls hw hS hl => wSp_pinPressed_4 X hk hf hw hS hl) n
set_option maxHeartbeats 4000000 in
set_option maxRecDepth 100000 in
theorem wSp_pinPressed_0 {l : Launch} {G : ek_G} {kd : Nat → Nat} {p : Program} {e : Env} {s : State} {m : MethodId} {args : Array Value} {below : List Frame} {meth : Method} {c : Code} (X : ek_X p s m meth c args G prog_6_method_10_code 5 "ElasticKernel$Springs" (some .boolean)) {q : ek_St × Int32} {I : ek_St} {x0 : Nat} {x1 : Nat} (hf : fSp_pinPressed_0 kd I x0 x1 = some q) {H : Heap} {locs : List Loc} {ls : Array Slot} (hw : ek_W G kd I H) (hS : va_S (ek_A G kd) s.heap H locs) (hl : lv_has ls 5 [(0, ek_r G x0), (1, ek_r G x1)]) : W p l e ({ frames := 3, cells := 0, slots := 0, locals := 79 } : Room) s m args below meth c H locs 0 0 (MQ below (ek_Q G kd (some (.int q.2)) q.1) args s 0 0 (ek_A G kd)) (F0 m 0 ls []) := by
  obtain ⟨hx, hb, hml, hown, hts, hr, hlocks, hK⟩ := id X
  have hA : ∀ q, ek_A G kd q → ek_A G kd q := fun _ h => h
  unfold fSp_pinPressed_0 at hf
  refine lv_iconst (v := (0 : Int32)) hx hb dSp_pinPressed_0 (by decide) ?_
  refine ek_istore_n (lv' := [(2, .int ((0 : Int32))), (1, ek_r G x1), (0, ek_r G x0)]) hx hb dSp_pinPressed_1 rfl hl (by decide) (ek_s1k 1 rfl rfl ek_r_cat rfl rfl) (fun ls hl => ?_)
  refine lv_iconst (v := (0 : Int32)) hx hb dSp_pinPressed_2 (by decide) ?_
  refine ek_istore_n (lv' := [(3, .int ((0 : Int32))), (2, .int ((0 : Int32))), (1, ek_r G x1), (0, ek_r G x0)]) hx hb dSp_pinPressed_3 rfl hl (by decide) (ek_s1k 0 rfl rfl rfl rfl rfl) (fun ls hl => ?_)
  exact wSp_pinPressed_4_lp X ek_N (I, x0, x1, (0 : Int32), (0 : Int32)) hf _ _ _ hw hS (lv_sub hl [3, 2, 1, 0] rfl)
set_option maxHeartbeats 4000000 in
set_option maxRecDepth 100000 in
theorem mSp_pinPressed {l : Launch} {G : ek_G} {kd : Nat → Nat} {I : ek_St} {x0 : Nat} {x1 : Nat} {q : ek_St × Int32} (hf : fSp_pinPressed kd I x0 x1 = some q) : ek_M l G kd y_Sp_pinPressed (.code y_Sp_pinPressed prog_6_method_10_code 5 (some .boolean) :: lw_g) ({ frames := 3, cells := 0, slots := 0, locals := 79 } : Room) [ek_r G x0, ek_r G x1] I (some (.int q.2)) q.1 :=
  ek_body [(0, ek_r G x0), (1, ek_r G x1)] (by decide) (by simp [lg_sl, ek_r_cat, ek_c_i, ek_c_l]) (by simp [lv_args, ek_r_cat, ek_c_i, ek_c_l]) (fun p e s m below meth c ls X hw hS hl => wSp_pinPressed_0 X hf hw hS hl)
/-! ElasticKernel$Springs.press(LElasticKernel$Roster;I)V -/
def fSp_press_85 (kd : Nat → Nat) (I : ek_St) (x0 : Nat) : Option (ek_St) :=
  ek_ck (kd x0 = 5) (ek_ck (kd x0 = 5) (ek_ck (kd (x0 + 21) = 1) (ek_bv (fDv_reduce kd I (x0 + 21) (x0 + 16)) (fun I1 => some I1))))
def fSp_press_78 (kd : Nat → Nat) (k16 : (ek_St × Nat × Nat × Int32 × Int32 × Int32) → Option (ek_St)) (I : ek_St) (x0 : Nat) (x1 : Nat) (i2 : Int32) (i4 : Int32) (t0 : Int32) : Option (ek_St) :=
  ek_let (i4 + (1 : Int32)) (fun i4_1 => k16 (I, x0, x1, i2, t0, i4_1))
def fSp_press_16 (kd : Nat → Nat) (k16 : (ek_St × Nat × Nat × Int32 × Int32 × Int32) → Option (ek_St)) (I : ek_St) (x0 : Nat) (x1 : Nat) (i2 : Int32) (i3 : Int32) (i4 : Int32) : Option (ek_St) :=
  if ((12 : Int32)) ≤ i4 then (fSp_press_85 kd I x0) else (if i3 = ((0 : Int32)) then (ek_ck (kd x0 = 5) (ek_bv (fSp_addUp kd I x0 x1) (fun I3 => ek_ck (kd x0 = 5) (ek_ck (kd (x0 + 6) = 2) (ek_bv (fFr_join kd I3 (x0 + 6) ((1 : Int32)) (-i2) ((1000 : Int32))) (fun I5 => ek_ck (kd x0 = 5) (ek_bv (fSp_addUpSoftness kd I5 x0 x1) (fun I7 => ek_ck (kd x0 = 5) (ek_ck (kd x0 = 5) (ek_ck (kd x0 = 5) (ek_ck (kd (x0 + 16) = 2) (ek_bv (fFr_setRatio kd I7 (x0 + 16) (x0 + 6) (x0 + 11)) (fun I9 => ek_ck (kd x0 = 5) (ek_bi (fSp_pinPressed kd I9 x0 x1) (fun I11 ir13 => if ir13 = ((0 : Int32)) then (fSp_press_78 kd k16 I11 x0 x1 i2 i4 ((1 : Int32))) else (fSp_press_78 kd k16 I11 x0 x1 i2 i4 ((0 : Int32)))))))))))))))))) else (fSp_press_85 kd I x0))
def fSp_press_0 (kd : Nat → Nat) (I : ek_St) (x0 : Nat) (x1 : Nat) (i2 : Int32) : Option (ek_St) :=
  ek_ck (kd x0 = 5) (ek_ck (kd (x0 + 1) = 2) (ek_bv (fFr_set kd I (x0 + 1) i2 ((1000 : Int32))) (fun I1 => ek_lp (fun (k : (ek_St × Nat × Nat × Int32 × Int32 × Int32) → Option (ek_St)) (q : (ek_St × Nat × Nat × Int32 × Int32 × Int32)) => fSp_press_16 kd k q.1 q.2.1 q.2.2.1 q.2.2.2.1 q.2.2.2.2.1 q.2.2.2.2.2) ek_N (I1, x0, x1, i2, (0 : Int32), (0 : Int32)))))
def fSp_press (kd : Nat → Nat) (I : ek_St) (x0 : Nat) (x1 : Nat) (i2 : Int32) : Option (ek_St) := fSp_press_0 kd I x0 x1 i2
theorem dSp_press_0 : decode prog_6_method_6_code 0 = .ok (.aload_n 0, 1) := by decide +kernel
theorem dSp_press_1 : decode prog_6_method_6_code 1 = .ok (.getfield 12, 3) := by decide +kernel
theorem dSp_press_4 : decode prog_6_method_6_code 4 = .ok (.iload_n 2, 1) := by decide +kernel
theorem dSp_press_5 : decode prog_6_method_6_code 5 = .ok (.sipush 1000, 3) := by decide +kernel
theorem dSp_press_8 : decode prog_6_method_6_code 8 = .ok (.invokevirtual 34, 3) := by decide +kernel
theorem dSp_press_11 : decode prog_6_method_6_code 11 = .ok (.iconst 0, 1) := by decide +kernel
theorem dSp_press_12 : decode prog_6_method_6_code 12 = .ok (.istore_n 3, 1) := by decide +kernel
theorem dSp_press_13 : decode prog_6_method_6_code 13 = .ok (.iconst 0, 1) := by decide +kernel
theorem dSp_press_14 : decode prog_6_method_6_code 14 = .ok (.istore 4, 2) := by decide +kernel
theorem dSp_press_16 : decode prog_6_method_6_code 16 = .ok (.iload 4, 2) := by decide +kernel
theorem dSp_press_18 : decode prog_6_method_6_code 18 = .ok (.bipush 12, 2) := by decide +kernel
theorem dSp_press_20 : decode prog_6_method_6_code 20 = .ok (.if_icmp .ge 65, 3) := by decide +kernel
theorem dSp_press_23 : decode prog_6_method_6_code 23 = .ok (.iload_n 3, 1) := by decide +kernel
theorem dSp_press_24 : decode prog_6_method_6_code 24 = .ok (.ifCond .ne 61, 3) := by decide +kernel
theorem dSp_press_27 : decode prog_6_method_6_code 27 = .ok (.aload_n 0, 1) := by decide +kernel
theorem dSp_press_28 : decode prog_6_method_6_code 28 = .ok (.aload_n 1, 1) := by decide +kernel
theorem dSp_press_29 : decode prog_6_method_6_code 29 = .ok (.invokevirtual 84, 3) := by decide +kernel
theorem dSp_press_32 : decode prog_6_method_6_code 32 = .ok (.aload_n 0, 1) := by decide +kernel
theorem dSp_press_33 : decode prog_6_method_6_code 33 = .ok (.getfield 18, 3) := by decide +kernel
theorem dSp_press_36 : decode prog_6_method_6_code 36 = .ok (.iconst 1, 1) := by decide +kernel
theorem dSp_press_37 : decode prog_6_method_6_code 37 = .ok (.iload_n 2, 1) := by decide +kernel
theorem dSp_press_38 : decode prog_6_method_6_code 38 = .ok (.ineg, 1) := by decide +kernel
theorem dSp_press_39 : decode prog_6_method_6_code 39 = .ok (.sipush 1000, 3) := by decide +kernel
theorem dSp_press_42 : decode prog_6_method_6_code 42 = .ok (.invokevirtual 56, 3) := by decide +kernel
theorem dSp_press_45 : decode prog_6_method_6_code 45 = .ok (.aload_n 0, 1) := by decide +kernel
theorem dSp_press_46 : decode prog_6_method_6_code 46 = .ok (.aload_n 1, 1) := by decide +kernel
theorem dSp_press_47 : decode prog_6_method_6_code 47 = .ok (.invokevirtual 91, 3) := by decide +kernel
theorem dSp_press_50 : decode prog_6_method_6_code 50 = .ok (.aload_n 0, 1) := by decide +kernel
theorem dSp_press_51 : decode prog_6_method_6_code 51 = .ok (.getfield 24, 3) := by decide +kernel
theorem dSp_press_54 : decode prog_6_method_6_code 54 = .ok (.aload_n 0, 1) := by decide +kernel
theorem dSp_press_55 : decode prog_6_method_6_code 55 = .ok (.getfield 18, 3) := by decide +kernel
theorem dSp_press_58 : decode prog_6_method_6_code 58 = .ok (.aload_n 0, 1) := by decide +kernel
theorem dSp_press_59 : decode prog_6_method_6_code 59 = .ok (.getfield 21, 3) := by decide +kernel
theorem dSp_press_62 : decode prog_6_method_6_code 62 = .ok (.invokevirtual 94, 3) := by decide +kernel
theorem dSp_press_65 : decode prog_6_method_6_code 65 = .ok (.aload_n 0, 1) := by decide +kernel
theorem dSp_press_66 : decode prog_6_method_6_code 66 = .ok (.aload_n 1, 1) := by decide +kernel
theorem dSp_press_67 : decode prog_6_method_6_code 67 = .ok (.invokevirtual 98, 3) := by decide +kernel
theorem dSp_press_70 : decode prog_6_method_6_code 70 = .ok (.ifCond .ne 7, 3) := by decide +kernel
theorem dSp_press_73 : decode prog_6_method_6_code 73 = .ok (.iconst 1, 1) := by decide +kernel
theorem dSp_press_74 : decode prog_6_method_6_code 74 = .ok (.goto 4, 3) := by decide +kernel
theorem dSp_press_77 : decode prog_6_method_6_code 77 = .ok (.iconst 0, 1) := by decide +kernel
theorem dSp_press_78 : decode prog_6_method_6_code 78 = .ok (.istore_n 3, 1) := by decide +kernel
theorem dSp_press_79 : decode prog_6_method_6_code 79 = .ok (.iinc 4 1, 3) := by decide +kernel
theorem dSp_press_82 : decode prog_6_method_6_code 82 = .ok (.goto (-66), 3) := by decide +kernel
theorem dSp_press_85 : decode prog_6_method_6_code 85 = .ok (.aload_n 0, 1) := by decide +kernel
theorem dSp_press_86 : decode prog_6_method_6_code 86 = .ok (.getfield 30, 3) := by decide +kernel
theorem dSp_press_89 : decode prog_6_method_6_code 89 = .ok (.aload_n 0, 1) := by decide +kernel
theorem dSp_press_90 : decode prog_6_method_6_code 90 = .ok (.getfield 24, 3) := by decide +kernel
theorem dSp_press_93 : decode prog_6_method_6_code 93 = .ok (.invokevirtual 102, 3) := by decide +kernel
theorem dSp_press_96 : decode prog_6_method_6_code 96 = .ok (.return_, 1) := by decide +kernel
set_option maxHeartbeats 4000000 in
set_option maxRecDepth 100000 in
theorem wSp_press_85 {l : Launch} {G : ek_G} {kd : Nat → Nat} {p : Program} {e : Env} {s : State} {m : MethodId} {args : Array Value} {below : List Frame} {meth : Method} {c : Code} (X : ek_X p s m meth c args G prog_6_method_6_code 5 "ElasticKernel$Springs" none) {q : ek_St} {I : ek_St} {x0 : Nat} (hf : fSp_press_85 kd I x0 = some q) {H : Heap} {locs : List Loc} {ls : Array Slot} (hw : ek_W G kd I H) (hS : va_S (ek_A G kd) s.heap H locs) (hl : lv_has ls 5 [(0, ek_r G x0)]) : W p l e ({ frames := 4, cells := 0, slots := 0, locals := 103 } : Room) s m args below meth c H locs 0 0 (MQ below (ek_Q G kd none q) args s 0 0 (ek_A G kd)) (F0 m 85 ls []) := by
  obtain ⟨hx, hb, hml, hown, hts, hr, hlocks, hK⟩ := id X
  have hA : ∀ q, ek_A G kd q → ek_A G kd q := fun _ h => h
  unfold fSp_press_85 at hf
  refine ek_aload_n hx hb dSp_press_85 rfl (lv_at hl 0 rfl) ?_
  refine ek_getr hx hb 5 hts (in_Sp) hown hK hw rfl (by decide) (by decide) 4 (by decide) (n := 20) rfl rfl (hts _ q_181) hf dSp_press_86 (fun hf => ?_)
  refine ek_aload_n hx hb dSp_press_89 rfl (lv_at hl 0 rfl) ?_
  refine ek_getr hx hb 5 hts (in_Sp) hown hK hw rfl (by decide) (by decide) 3 (by decide) (n := 15) rfl rfl (hts _ q_180) hf dSp_press_90 (fun hf => ?_)
  obtain ⟨hx2, hf⟩ := ek_ck_s hf
  refine ek_cv hf hS hA (fun I' hq => ek_rV (As := [ek_r G (x0 + 16)]) ⟨hx, hb, hml, hown, hts⟩ hK hw 1 rfl (by decide) (by decide) hx2 (mDv_reduce hq) (cwV 1 hts (lw_V q_355 q_356 q_357 q_7 q_358) rfl rfl rfl (by decide +kernel) ⟨Nat.le_of_ble_eq_true rfl, Nat.le_of_ble_eq_true rfl⟩) rfl hl.1 rfl (Nat.le_of_ble_eq_true rfl) dSp_press_93 ⟨Nat.zero_le _, Nat.zero_le _⟩) (fun I1 H locs hf hw hS => ?_)
  exact ek_vret hx hb hr hlocks hw hS hf dSp_press_96
set_option maxHeartbeats 4000000 in
set_option maxRecDepth 100000 in
theorem wSp_press_78 {l : Launch} {G : ek_G} {kd : Nat → Nat} {p : Program} {e : Env} {s : State} {m : MethodId} {args : Array Value} {below : List Frame} {meth : Method} {c : Code} (X : ek_X p s m meth c args G prog_6_method_6_code 5 "ElasticKernel$Springs" none) {q : ek_St} {k16 : (ek_St × Nat × Nat × Int32 × Int32 × Int32) → Option (ek_St)} (hk16 : ∀ q0 : ek_St × Nat × Nat × Int32 × Int32 × Int32, k16 q0 = some q → ∀ (H : Heap) (locs : List Loc) (ls : Array Slot), ek_W G kd q0.1 H → va_S (ek_A G kd) s.heap H locs → lv_has ls 5 [(0, ek_r G q0.2.1), (1, ek_r G q0.2.2.1), (2, .int q0.2.2.2.1), (3, .int q0.2.2.2.2.1), (4, .int q0.2.2.2.2.2)] → W p l e ({ frames := 4, cells := 0, slots := 0, locals := 103 } : Room) s m args below meth c H locs 0 0 (MQ below (ek_Q G kd none q) args s 0 0 (ek_A G kd)) (F0 m 16 ls [])) {I : ek_St} {x0 : Nat} {x1 : Nat} {i2 : Int32} {i4 : Int32} {t0 : Int32} (hf : fSp_press_78 kd k16 I x0 x1 i2 i4 t0 = some q) {H : Heap} {locs : List Loc} {ls : Array Slot} (hw : ek_W G kd I H) (hS : va_S (ek_A G kd) s.heap H locs) (hl : lv_has ls 5 [(0, ek_r G x0), (1, ek_r G x1), (2, .int i2), (4, .int i4)]) : W p l e ({ frames := 4, cells := 0, slots := 0, locals := 103 } : Room) s m args below meth c H locs 0 0 (MQ below (ek_Q G kd none q) args s 0 0 (ek_A G kd)) (F0 m 78 ls [.int t0]) := by
  obtain ⟨hx, hb, hml, hown, hts, hr, hlocks, hK⟩ := id X
  have hA : ∀ q, ek_A G kd q → ek_A G kd q := fun _ h => h
  unfold fSp_press_78 at hf
  refine ek_istore_n (lv' := [(3, .int t0), (2, .int i2), (0, ek_r G x0), (1, ek_r G x1), (4, .int i4)]) hx hb dSp_press_78 rfl hl (by decide) (ek_s1k 2 rfl rfl rfl rfl rfl) (fun ls hl => ?_)
  refine ek_iinc hx hb 4 (fun i4_1 => [(4, .int i4_1), (3, .int t0), (2, .int i2), (0, ek_r G x0), (1, ek_r G x1)]) dSp_press_79 hl rfl (v := i4 + (1 : Int32)) rfl hf (by decide) (fun i4_1 => ek_s1k 0 rfl rfl rfl rfl rfl) (fun i4_1 ls hf hl => ?_)
  refine lv_goto (tgt := 16) hx hb dSp_press_82 (by decide) ?_
  exact hk16 (I, x0, x1, i2, t0, i4_1) hf _ _ _ hw hS (lv_sub hl [3, 4, 2, 1, 0] rfl)
set_option maxHeartbeats 4000000 in
set_option maxRecDepth 100000 in
theorem wSp_press_16 {l : Launch} {G : ek_G} {kd : Nat → Nat} {p : Program} {e : Env} {s : State} {m : MethodId} {args : Array Value} {below : List Frame} {meth : Method} {c : Code} (X : ek_X p s m meth c args G prog_6_method_6_code 5 "ElasticKernel$Springs" none) {q : ek_St} {k16 : (ek_St × Nat × Nat × Int32 × Int32 × Int32) → Option (ek_St)} (hk16 : ∀ q0 : ek_St × Nat × Nat × Int32 × Int32 × Int32, k16 q0 = some q → ∀ (H : Heap) (locs : List Loc) (ls : Array Slot), ek_W G kd q0.1 H → va_S (ek_A G kd) s.heap H locs → lv_has ls 5 [(0, ek_r G q0.2.1), (1, ek_r G q0.2.2.1), (2, .int q0.2.2.2.1), (3, .int q0.2.2.2.2.1), (4, .int q0.2.2.2.2.2)] → W p l e ({ frames := 4, cells := 0, slots := 0, locals := 103 } : Room) s m args below meth c H locs 0 0 (MQ below (ek_Q G kd none q) args s 0 0 (ek_A G kd)) (F0 m 16 ls [])) {I : ek_St} {x0 : Nat} {x1 : Nat} {i2 : Int32} {i3 : Int32} {i4 : Int32} (hf : fSp_press_16 kd k16 I x0 x1 i2 i3 i4 = some q) {H : Heap} {locs : List Loc} {ls : Array Slot} (hw : ek_W G kd I H) (hS : va_S (ek_A G kd) s.heap H locs) (hl : lv_has ls 5 [(0, ek_r G x0), (1, ek_r G x1), (2, .int i2), (3, .int i3), (4, .int i4)]) : W p l e ({ frames := 4, cells := 0, slots := 0, locals := 103 } : Room) s m args below meth c H locs 0 0 (MQ below (ek_Q G kd none q) args s 0 0 (ek_A G kd)) (F0 m 16 ls []) := by
  obtain ⟨hx, hb, hml, hown, hts, hr, hlocks, hK⟩ := id X
  have hA : ∀ q, ek_A G kd q → ek_A G kd q := fun _ h => h
  unfold fSp_press_16 at hf
  refine lv_iload hx hb dSp_press_16 (lv_at hl 4 rfl) ?_
  refine lv_bipush (v := (12 : Int32)) hx hb dSp_press_18 (by decide) ?_
  refine lv_icmp_ge (tgt := 85) hx hb dSp_press_20 (by decide) (fun c1 => ?_) (fun c1 => ?_)
  · have hf := ek_t c1 hf
    exact wSp_press_85 X hf hw hS (lv_sub hl [0] rfl)
  · have hf := ek_f c1 hf
    refine lv_iload_n hx hb dSp_press_23 rfl (lv_at hl 3 rfl) ?_
    refine lv_if_ne (tgt := 85) hx hb dSp_press_24 (by decide) (fun c2 => ?_) (fun c2 => ?_)
    · have hf := ek_f c2 hf
      exact wSp_press_85 X hf hw hS (lv_sub hl [0] rfl)
    · have hf := ek_t c2 hf
      refine ek_aload_n hx hb dSp_press_27 rfl (lv_at hl 0 rfl) ?_
      refine ek_aload_n hx hb dSp_press_28 rfl (lv_at hl 1 rfl) ?_
      obtain ⟨hx4, hf⟩ := ek_ck_s hf
      refine ek_cv hf hS hA (fun I' hq => ek_rV (As := [ek_r G x1]) ⟨hx, hb, hml, hown, hts⟩ hK hw 5 rfl (by decide) (by decide) hx4 (mSp_addUp hq) (cwV 1 hts (lw_V q_307 q_309 p_3 q_6 q_310) rfl rfl rfl (by decide +kernel) ⟨Nat.le_of_ble_eq_true rfl, Nat.le_of_ble_eq_true rfl⟩) rfl hl.1 rfl (Nat.le_of_ble_eq_true rfl) dSp_press_29 ⟨Nat.zero_le _, Nat.zero_le _⟩) (fun I3 H locs hf hw hS => ?_)
      refine ek_aload_n hx hb dSp_press_32 rfl (lv_at hl 0 rfl) ?_
      refine ek_getr hx hb 5 hts (in_Sp) hown hK hw rfl (by decide) (by decide) 1 (by decide) (n := 5) rfl rfl (hts _ q_178) hf dSp_press_33 (fun hf => ?_)
      refine lv_iconst (v := (1 : Int32)) hx hb dSp_press_36 (by decide) ?_
      refine lv_iload_n hx hb dSp_press_37 rfl (lv_at hl 2 rfl) ?_
      refine lv_ineg hx hb dSp_press_38 ?_
      refine lv_sipush (v := (1000 : Int32)) hx hb dSp_press_39 (by decide) ?_
      obtain ⟨hx6, hf⟩ := ek_ck_s hf
      refine ek_cv hf hS hA (fun I' hq => ek_rV (As := [.int ((1 : Int32)), .int (-i2), .int ((1000 : Int32))]) ⟨hx, hb, hml, hown, hts⟩ hK hw 2 rfl (by decide) (by decide) hx6 (mFr_join hq) (cwV 3 hts (lw_V q_258 q_259 q_260 q_4 q_261) rfl rfl rfl (by decide +kernel) ⟨Nat.le_of_ble_eq_true rfl, Nat.le_of_ble_eq_true rfl⟩) rfl hl.1 rfl (Nat.le_of_ble_eq_true rfl) dSp_press_42 ⟨Nat.zero_le _, Nat.zero_le _⟩) (fun I5 H locs hf hw hS => ?_)
      refine ek_aload_n hx hb dSp_press_45 rfl (lv_at hl 0 rfl) ?_
      refine ek_aload_n hx hb dSp_press_46 rfl (lv_at hl 1 rfl) ?_
      obtain ⟨hx8, hf⟩ := ek_ck_s hf
      refine ek_cv hf hS hA (fun I' hq => ek_rV (As := [ek_r G x1]) ⟨hx, hb, hml, hown, hts⟩ hK hw 5 rfl (by decide) (by decide) hx8 (mSp_addUpSoftness hq) (cwV 1 hts (lw_V q_334 q_336 p_4 q_6 q_337) rfl rfl rfl (by decide +kernel) ⟨Nat.le_of_ble_eq_true rfl, Nat.le_of_ble_eq_true rfl⟩) rfl hl.1 rfl (Nat.le_of_ble_eq_true rfl) dSp_press_47 ⟨Nat.zero_le _, Nat.zero_le _⟩) (fun I7 H locs hf hw hS => ?_)
      refine ek_aload_n hx hb dSp_press_50 rfl (lv_at hl 0 rfl) ?_
      refine ek_getr hx hb 5 hts (in_Sp) hown hK hw rfl (by decide) (by decide) 3 (by decide) (n := 15) rfl rfl (hts _ q_180) hf dSp_press_51 (fun hf => ?_)
      refine ek_aload_n hx hb dSp_press_54 rfl (lv_at hl 0 rfl) ?_
      refine ek_getr hx hb 5 hts (in_Sp) hown hK hw rfl (by decide) (by decide) 1 (by decide) (n := 5) rfl rfl (hts _ q_178) hf dSp_press_55 (fun hf => ?_)
      refine ek_aload_n hx hb dSp_press_58 rfl (lv_at hl 0 rfl) ?_
      refine ek_getr hx hb 5 hts (in_Sp) hown hK hw rfl (by decide) (by decide) 2 (by decide) (n := 10) rfl rfl (hts _ q_179) hf dSp_press_59 (fun hf => ?_)
      obtain ⟨hx10, hf⟩ := ek_ck_s hf
      refine ek_cv hf hS hA (fun I' hq => ek_rV (As := [ek_r G (x0 + 6), ek_r G (x0 + 11)]) ⟨hx, hb, hml, hown, hts⟩ hK hw 2 rfl (by decide) (by decide) hx10 (mFr_setRatio hq) (cwV 2 hts (lw_V q_338 q_339 q_340 q_4 q_341) rfl rfl rfl (by decide +kernel) ⟨Nat.le_of_ble_eq_true rfl, Nat.le_of_ble_eq_true rfl⟩) rfl hl.1 rfl (Nat.le_of_ble_eq_true rfl) dSp_press_62 ⟨Nat.zero_le _, Nat.zero_le _⟩) (fun I9 H locs hf hw hS => ?_)
      refine ek_aload_n hx hb dSp_press_65 rfl (lv_at hl 0 rfl) ?_
      refine ek_aload_n hx hb dSp_press_66 rfl (lv_at hl 1 rfl) ?_
      obtain ⟨hx12, hf⟩ := ek_ck_s hf
      refine ek_ci hf hS hA (fun I' v hq => ek_rV (As := [ek_r G x1]) ⟨hx, hb, hml, hown, hts⟩ hK hw 5 rfl (by decide) (by decide) hx12 (mSp_pinPressed hq) (cwV 1 hts (lw_V q_347 q_349 p_5 q_6 q_350) rfl rfl rfl (by decide +kernel) ⟨Nat.le_of_ble_eq_true rfl, Nat.le_of_ble_eq_true rfl⟩) rfl hl.1 rfl (Nat.le_of_ble_eq_true rfl) dSp_press_67 ⟨Nat.zero_le _, Nat.zero_le _⟩) (fun I11 ir13 H locs hf hw hS => ?_)
      refine lv_if_ne (tgt := 77) hx hb dSp_press_70 (by decide) (fun c14 => ?_) (fun c14 => ?_)
      · have hf := ek_f c14 hf
        refine lv_iconst (v := (0 : Int32)) hx hb dSp_press_77 (by decide) ?_
        exact wSp_press_78 X hk16 hf hw hS (lv_sub hl [0, 1, 2, 4] rfl)
      · have hf := ek_t c14 hf
        refine lv_iconst (v := (1 : Int32)) hx hb dSp_press_73 (by decide) ?_
        refine lv_goto (tgt := 78) hx hb dSp_press_74 (by decide) ?_
        exact wSp_press_78 X hk16 hf hw hS (lv_sub hl [0, 1, 2, 4] rfl)
set_option maxHeartbeats 4000000 in
set_option maxRecDepth 100000 in
theorem wSp_press_16_lp {l : Launch} {G : ek_G} {kd : Nat → Nat} {p : Program} {e : Env} {s : State} {m : MethodId} {args : Array Value} {below : List Frame} {meth : Method} {c : Code} (X : ek_X p s m meth c args G prog_6_method_6_code 5 "ElasticKernel$Springs" none) {q : ek_St} (n : Nat) : ∀ q0 : ek_St × Nat × Nat × Int32 × Int32 × Int32, ek_lp (fun (k : (ek_St × Nat × Nat × Int32 × Int32 × Int32) → Option (ek_St)) (q : (ek_St × Nat × Nat × Int32 × Int32 × Int32)) => fSp_press_16 kd k q.1 q.2.1 q.2.2.1 q.2.2.2.1 q.2.2.2.2.1 q.2.2.2.2.2) n q0 = some q → ∀ (H : Heap) (locs : List Loc) (ls : Array Slot), ek_W G kd q0.1 H → va_S (ek_A G kd) s.heap H locs → lv_has ls 5 [(0, ek_r G q0.2.1), (1, ek_r G q0.2.2.1), (2, .int q0.2.2.2.1), (3, .int q0.2.2.2.2.1), (4, .int q0.2.2.2.2.2)] → W p l e ({ frames := 4, cells := 0, slots := 0, locals := 103 } : Room) s m args below meth c H locs 0 0 (MQ below (ek_Q G kd none q) args s 0 0 (ek_A G kd)) (F0 m 16 ls []) :=
  ek_lp_ind (fun k hk q0 hf => fun H locs ls hw hS hl => wSp_press_16 X hk hf hw hS hl) n
set_option maxHeartbeats 4000000 in
set_option maxRecDepth 100000 in
theorem wSp_press_0 {l : Launch} {G : ek_G} {kd : Nat → Nat} {p : Program} {e : Env} {s : State} {m : MethodId} {args : Array Value} {below : List Frame} {meth : Method} {c : Code} (X : ek_X p s m meth c args G prog_6_method_6_code 5 "ElasticKernel$Springs" none) {q : ek_St} {I : ek_St} {x0 : Nat} {x1 : Nat} {i2 : Int32} (hf : fSp_press_0 kd I x0 x1 i2 = some q) {H : Heap} {locs : List Loc} {ls : Array Slot} (hw : ek_W G kd I H) (hS : va_S (ek_A G kd) s.heap H locs) (hl : lv_has ls 5 [(0, ek_r G x0), (1, ek_r G x1), (2, .int i2)]) : W p l e ({ frames := 4, cells := 0, slots := 0, locals := 103 } : Room) s m args below meth c H locs 0 0 (MQ below (ek_Q G kd none q) args s 0 0 (ek_A G kd)) (F0 m 0 ls []) := by
  obtain ⟨hx, hb, hml, hown, hts, hr, hlocks, hK⟩ := id X
  have hA : ∀ q, ek_A G kd q → ek_A G kd q := fun _ h => h
  unfold fSp_press_0 at hf
  refine ek_aload_n hx hb dSp_press_0 rfl (lv_at hl 0 rfl) ?_
  refine ek_getr hx hb 5 hts (in_Sp) hown hK hw rfl (by decide) (by decide) 0 (by decide) (n := 0) rfl rfl (hts _ q_176) hf dSp_press_1 (fun hf => ?_)
  refine lv_iload_n hx hb dSp_press_4 rfl (lv_at hl 2 rfl) ?_
  refine lv_sipush (v := (1000 : Int32)) hx hb dSp_press_5 (by decide) ?_
  obtain ⟨hx2, hf⟩ := ek_ck_s hf
  refine ek_cv hf hS hA (fun I' hq => ek_rV (As := [.int i2, .int ((1000 : Int32))]) ⟨hx, hb, hml, hown, hts⟩ hK hw 2 rfl (by decide) (by decide) hx2 (mFr_set hq) (cwV 2 hts (lw_V q_248 q_249 q_250 q_4 q_251) rfl rfl rfl (by decide +kernel) ⟨Nat.le_of_ble_eq_true rfl, Nat.le_of_ble_eq_true rfl⟩) rfl hl.1 rfl (Nat.le_of_ble_eq_true rfl) dSp_press_8 ⟨Nat.zero_le _, Nat.zero_le _⟩) (fun I1 H locs hf hw hS => ?_)
  refine lv_iconst (v := (0 : Int32)) hx hb dSp_press_11 (by decide) ?_
  refine ek_istore_n (lv' := [(3, .int ((0 : Int32))), (2, .int i2), (0, ek_r G x0), (1, ek_r G x1)]) hx hb dSp_press_12 rfl hl (by decide) (ek_s1k 2 rfl rfl rfl rfl rfl) (fun ls hl => ?_)
  refine lv_iconst (v := (0 : Int32)) hx hb dSp_press_13 (by decide) ?_
  refine ek_istore (lv' := [(4, .int ((0 : Int32))), (3, .int ((0 : Int32))), (2, .int i2), (0, ek_r G x0), (1, ek_r G x1)]) hx hb dSp_press_14 hl (by decide) (ek_s1k 0 rfl rfl rfl rfl rfl) (fun ls hl => ?_)
  exact wSp_press_16_lp X ek_N (I1, x0, x1, i2, (0 : Int32), (0 : Int32)) hf _ _ _ hw hS (lv_sub hl [3, 4, 2, 1, 0] rfl)
set_option maxHeartbeats 4000000 in
set_option maxRecDepth 100000 in
theorem mSp_press {l : Launch} {G : ek_G} {kd : Nat → Nat} {I : ek_St} {x0 : Nat} {x1 : Nat} {i2 : Int32} {q : ek_St} (hf : fSp_press kd I x0 x1 i2 = some q) : ek_M l G kd y_Sp_press (.code y_Sp_press prog_6_method_6_code 5 none :: lw_g) ({ frames := 4, cells := 0, slots := 0, locals := 103 } : Room) [ek_r G x0, ek_r G x1, .int i2] I none q :=
  ek_body [(0, ek_r G x0), (1, ek_r G x1), (2, .int i2)] (by decide) (by simp [lg_sl, ek_r_cat, ek_c_i, ek_c_l]) (by simp [lv_args, ek_r_cat, ek_c_i, ek_c_l]) (fun p e s m below meth c ls X hw hS hl => wSp_press_0 X hf hw hS hl)
/-! ElasticKernel$Springs.relax()V -/
def fSp_relax_0 (kd : Nat → Nat) (I : ek_St) (x0 : Nat) : Option (ek_St) :=
  ek_ck (kd x0 = 5) (ek_ck (kd x0 = 5) (ek_ck (kd (x0 + 1) = 2) (ek_bv (fFr_copy kd I (x0 + 1) (x0 + 6)) (fun I1 => ek_ck (kd x0 = 5) (ek_ck (kd (x0 + 16) = 2) (ek_bv (fFr_set kd I1 (x0 + 16) ((0 : Int32)) ((1 : Int32))) (fun I3 => some I3)))))))
def fSp_relax (kd : Nat → Nat) (I : ek_St) (x0 : Nat) : Option (ek_St) := fSp_relax_0 kd I x0
theorem dSp_relax_0 : decode prog_6_method_5_code 0 = .ok (.aload_n 0, 1) := by decide +kernel
theorem dSp_relax_1 : decode prog_6_method_5_code 1 = .ok (.getfield 12, 3) := by decide +kernel
theorem dSp_relax_4 : decode prog_6_method_5_code 4 = .ok (.aload_n 0, 1) := by decide +kernel
theorem dSp_relax_5 : decode prog_6_method_5_code 5 = .ok (.getfield 18, 3) := by decide +kernel
theorem dSp_relax_8 : decode prog_6_method_5_code 8 = .ok (.invokevirtual 87, 3) := by decide +kernel
theorem dSp_relax_11 : decode prog_6_method_5_code 11 = .ok (.aload_n 0, 1) := by decide +kernel
theorem dSp_relax_12 : decode prog_6_method_5_code 12 = .ok (.getfield 24, 3) := by decide +kernel
theorem dSp_relax_15 : decode prog_6_method_5_code 15 = .ok (.iconst 0, 1) := by decide +kernel
theorem dSp_relax_16 : decode prog_6_method_5_code 16 = .ok (.iconst 1, 1) := by decide +kernel
theorem dSp_relax_17 : decode prog_6_method_5_code 17 = .ok (.invokevirtual 34, 3) := by decide +kernel
theorem dSp_relax_20 : decode prog_6_method_5_code 20 = .ok (.return_, 1) := by decide +kernel
set_option maxHeartbeats 4000000 in
set_option maxRecDepth 100000 in
theorem wSp_relax_0 {l : Launch} {G : ek_G} {kd : Nat → Nat} {p : Program} {e : Env} {s : State} {m : MethodId} {args : Array Value} {below : List Frame} {meth : Method} {c : Code} (X : ek_X p s m meth c args G prog_6_method_5_code 1 "ElasticKernel$Springs" none) {q : ek_St} {I : ek_St} {x0 : Nat} (hf : fSp_relax_0 kd I x0 = some q) {H : Heap} {locs : List Loc} {ls : Array Slot} (hw : ek_W G kd I H) (hS : va_S (ek_A G kd) s.heap H locs) (hl : lv_has ls 1 [(0, ek_r G x0)]) : W p l e ({ frames := 3, cells := 0, slots := 0, locals := 80 } : Room) s m args below meth c H locs 0 0 (MQ below (ek_Q G kd none q) args s 0 0 (ek_A G kd)) (F0 m 0 ls []) := by
  obtain ⟨hx, hb, hml, hown, hts, hr, hlocks, hK⟩ := id X
  have hA : ∀ q, ek_A G kd q → ek_A G kd q := fun _ h => h
  unfold fSp_relax_0 at hf
  refine ek_aload_n hx hb dSp_relax_0 rfl (lv_at hl 0 rfl) ?_
  refine ek_getr hx hb 5 hts (in_Sp) hown hK hw rfl (by decide) (by decide) 0 (by decide) (n := 0) rfl rfl (hts _ q_176) hf dSp_relax_1 (fun hf => ?_)
  refine ek_aload_n hx hb dSp_relax_4 rfl (lv_at hl 0 rfl) ?_
  refine ek_getr hx hb 5 hts (in_Sp) hown hK hw rfl (by decide) (by decide) 1 (by decide) (n := 5) rfl rfl (hts _ q_178) hf dSp_relax_5 (fun hf => ?_)
  obtain ⟨hx2, hf⟩ := ek_ck_s hf
  refine ek_cv hf hS hA (fun I' hq => ek_rV (As := [ek_r G (x0 + 6)]) ⟨hx, hb, hml, hown, hts⟩ hK hw 2 rfl (by decide) (by decide) hx2 (mFr_copy hq) (cwV 1 hts (lw_V q_319 q_320 q_321 q_4 q_322) rfl rfl rfl (by decide +kernel) ⟨Nat.le_of_ble_eq_true rfl, Nat.le_of_ble_eq_true rfl⟩) rfl hl.1 rfl (Nat.le_of_ble_eq_true rfl) dSp_relax_8 ⟨Nat.zero_le _, Nat.zero_le _⟩) (fun I1 H locs hf hw hS => ?_)
  refine ek_aload_n hx hb dSp_relax_11 rfl (lv_at hl 0 rfl) ?_
  refine ek_getr hx hb 5 hts (in_Sp) hown hK hw rfl (by decide) (by decide) 3 (by decide) (n := 15) rfl rfl (hts _ q_180) hf dSp_relax_12 (fun hf => ?_)
  refine lv_iconst (v := (0 : Int32)) hx hb dSp_relax_15 (by decide) ?_
  refine lv_iconst (v := (1 : Int32)) hx hb dSp_relax_16 (by decide) ?_
  obtain ⟨hx4, hf⟩ := ek_ck_s hf
  refine ek_cv hf hS hA (fun I' hq => ek_rV (As := [.int ((0 : Int32)), .int ((1 : Int32))]) ⟨hx, hb, hml, hown, hts⟩ hK hw 2 rfl (by decide) (by decide) hx4 (mFr_set hq) (cwV 2 hts (lw_V q_248 q_249 q_250 q_4 q_251) rfl rfl rfl (by decide +kernel) ⟨Nat.le_of_ble_eq_true rfl, Nat.le_of_ble_eq_true rfl⟩) rfl hl.1 rfl (Nat.le_of_ble_eq_true rfl) dSp_relax_17 ⟨Nat.zero_le _, Nat.zero_le _⟩) (fun I3 H locs hf hw hS => ?_)
  exact ek_vret hx hb hr hlocks hw hS hf dSp_relax_20
set_option maxHeartbeats 4000000 in
set_option maxRecDepth 100000 in
theorem mSp_relax {l : Launch} {G : ek_G} {kd : Nat → Nat} {I : ek_St} {x0 : Nat} {q : ek_St} (hf : fSp_relax kd I x0 = some q) : ek_M l G kd y_Sp_relax (.code y_Sp_relax prog_6_method_5_code 1 none :: lw_g) ({ frames := 3, cells := 0, slots := 0, locals := 80 } : Room) [ek_r G x0] I none q :=
  ek_body [(0, ek_r G x0)] (by decide) (by simp [lg_sl, ek_r_cat, ek_c_i, ek_c_l]) (by simp [lv_args, ek_r_cat, ek_c_i, ek_c_l]) (fun p e s m below meth c ls X hw hS hl => wSp_relax_0 X hf hw hS hl)
/-! ElasticKernel$Springs.setLoad(LElasticKernel$Task;)V -/
def fSp_setLoad_56 (kd : Nat → Nat) (I : ek_St) (x0 : Nat) (x1 : Nat) (x2 : Nat) : Option (ek_St) :=
  ek_ck (kd x0 = 5) (ek_ck (kd x2 = 2) (ek_ck (kd x1 = 6) (ek_ck (kd x2 = 2) (ek_ck (kd (x0 + 21) = 1) (ek_bi (fDv_ratioUp kd I (x0 + 21) (x2 + 3) (I x1 1) (x2 + 1)) (fun I1 ir3 => ek_ck (kd x1 = 6) (ek_let (ek_up I1 x1 7 ir3) (fun I4 => some I4))))))))
def fSp_setLoad_0 (kd : Nat → Nat) (I : ek_St) (x0 : Nat) (x1 : Nat) : Option (ek_St) :=
  ek_ck (kd x1 = 6) (ek_let (x1 + 1) (fun x2_1 => ek_ck (kd x1 = 6) (if (I x1 13) = ((0 : Int32)) then (ek_ck (kd x0 = 5) (ek_ck (kd x2_1 = 2) (ek_bv (fFr_copy kd I x2_1 (x0 + 16)) (fun I3 => ek_ck (kd x1 = 6) (ek_ck (kd x2_1 = 2) (ek_bv (fFr_divideBy kd I3 x2_1 (I3 x1 4)) (fun I5 => ek_ck (kd x1 = 6) (ek_ck (kd x1 = 6) (ek_ck (kd x2_1 = 2) (ek_bv (fFr_join kd I5 x2_1 ((-1 : Int32)) (I5 x1 1) (I5 x1 2)) (fun I7 => fSp_setLoad_56 kd I7 x0 x1 x2_1))))))))))) else (ek_ck (kd x1 = 6) (ek_ck (kd x1 = 6) (ek_ck (kd x2_1 = 2) (ek_bv (fFr_set kd I x2_1 (I x1 1) (I x1 3)) (fun I9 => fSp_setLoad_56 kd I9 x0 x1 x2_1))))))))
def fSp_setLoad (kd : Nat → Nat) (I : ek_St) (x0 : Nat) (x1 : Nat) : Option (ek_St) := fSp_setLoad_0 kd I x0 x1
theorem dSp_setLoad_0 : decode prog_6_method_12_code 0 = .ok (.aload_n 1, 1) := by decide +kernel
theorem dSp_setLoad_1 : decode prog_6_method_12_code 1 = .ok (.getfield 123, 3) := by decide +kernel
theorem dSp_setLoad_4 : decode prog_6_method_12_code 4 = .ok (.astore_n 2, 1) := by decide +kernel
theorem dSp_setLoad_5 : decode prog_6_method_12_code 5 = .ok (.aload_n 1, 1) := by decide +kernel
theorem dSp_setLoad_6 : decode prog_6_method_12_code 6 = .ok (.getfield 105, 3) := by decide +kernel
theorem dSp_setLoad_9 : decode prog_6_method_12_code 9 = .ok (.ifCond .eq 18, 3) := by decide +kernel
theorem dSp_setLoad_12 : decode prog_6_method_12_code 12 = .ok (.aload_n 2, 1) := by decide +kernel
theorem dSp_setLoad_13 : decode prog_6_method_12_code 13 = .ok (.aload_n 1, 1) := by decide +kernel
theorem dSp_setLoad_14 : decode prog_6_method_12_code 14 = .ok (.getfield 48, 3) := by decide +kernel
theorem dSp_setLoad_17 : decode prog_6_method_12_code 17 = .ok (.aload_n 1, 1) := by decide +kernel
theorem dSp_setLoad_18 : decode prog_6_method_12_code 18 = .ok (.getfield 53, 3) := by decide +kernel
theorem dSp_setLoad_21 : decode prog_6_method_12_code 21 = .ok (.invokevirtual 34, 3) := by decide +kernel
theorem dSp_setLoad_24 : decode prog_6_method_12_code 24 = .ok (.goto 32, 3) := by decide +kernel
theorem dSp_setLoad_27 : decode prog_6_method_12_code 27 = .ok (.aload_n 2, 1) := by decide +kernel
theorem dSp_setLoad_28 : decode prog_6_method_12_code 28 = .ok (.aload_n 0, 1) := by decide +kernel
theorem dSp_setLoad_29 : decode prog_6_method_12_code 29 = .ok (.getfield 24, 3) := by decide +kernel
theorem dSp_setLoad_32 : decode prog_6_method_12_code 32 = .ok (.invokevirtual 87, 3) := by decide +kernel
theorem dSp_setLoad_35 : decode prog_6_method_12_code 35 = .ok (.aload_n 2, 1) := by decide +kernel
theorem dSp_setLoad_36 : decode prog_6_method_12_code 36 = .ok (.aload_n 1, 1) := by decide +kernel
theorem dSp_setLoad_37 : decode prog_6_method_12_code 37 = .ok (.getfield 116, 3) := by decide +kernel
theorem dSp_setLoad_40 : decode prog_6_method_12_code 40 = .ok (.invokevirtual 126, 3) := by decide +kernel
theorem dSp_setLoad_43 : decode prog_6_method_12_code 43 = .ok (.aload_n 2, 1) := by decide +kernel
theorem dSp_setLoad_44 : decode prog_6_method_12_code 44 = .ok (.iconst (-1), 1) := by decide +kernel
theorem dSp_setLoad_45 : decode prog_6_method_12_code 45 = .ok (.aload_n 1, 1) := by decide +kernel
theorem dSp_setLoad_46 : decode prog_6_method_12_code 46 = .ok (.getfield 48, 3) := by decide +kernel
theorem dSp_setLoad_49 : decode prog_6_method_12_code 49 = .ok (.aload_n 1, 1) := by decide +kernel
theorem dSp_setLoad_50 : decode prog_6_method_12_code 50 = .ok (.getfield 113, 3) := by decide +kernel
theorem dSp_setLoad_53 : decode prog_6_method_12_code 53 = .ok (.invokevirtual 56, 3) := by decide +kernel
theorem dSp_setLoad_56 : decode prog_6_method_12_code 56 = .ok (.aload_n 1, 1) := by decide +kernel
theorem dSp_setLoad_57 : decode prog_6_method_12_code 57 = .ok (.aload_n 0, 1) := by decide +kernel
theorem dSp_setLoad_58 : decode prog_6_method_12_code 58 = .ok (.getfield 30, 3) := by decide +kernel
theorem dSp_setLoad_61 : decode prog_6_method_12_code 61 = .ok (.aload_n 2, 1) := by decide +kernel
theorem dSp_setLoad_62 : decode prog_6_method_12_code 62 = .ok (.getfield 73, 3) := by decide +kernel
theorem dSp_setLoad_65 : decode prog_6_method_12_code 65 = .ok (.aload_n 1, 1) := by decide +kernel
theorem dSp_setLoad_66 : decode prog_6_method_12_code 66 = .ok (.getfield 48, 3) := by decide +kernel
theorem dSp_setLoad_69 : decode prog_6_method_12_code 69 = .ok (.aload_n 2, 1) := by decide +kernel
theorem dSp_setLoad_70 : decode prog_6_method_12_code 70 = .ok (.getfield 69, 3) := by decide +kernel
theorem dSp_setLoad_73 : decode prog_6_method_12_code 73 = .ok (.invokevirtual 76, 3) := by decide +kernel
theorem dSp_setLoad_76 : decode prog_6_method_12_code 76 = .ok (.putfield 130, 3) := by decide +kernel
theorem dSp_setLoad_79 : decode prog_6_method_12_code 79 = .ok (.return_, 1) := by decide +kernel
set_option maxHeartbeats 4000000 in
set_option maxRecDepth 100000 in
theorem wSp_setLoad_56 {l : Launch} {G : ek_G} {kd : Nat → Nat} {p : Program} {e : Env} {s : State} {m : MethodId} {args : Array Value} {below : List Frame} {meth : Method} {c : Code} (X : ek_X p s m meth c args G prog_6_method_12_code 3 "ElasticKernel$Springs" none) {q : ek_St} {I : ek_St} {x0 : Nat} {x1 : Nat} {x2 : Nat} (hf : fSp_setLoad_56 kd I x0 x1 x2 = some q) {H : Heap} {locs : List Loc} {ls : Array Slot} (hw : ek_W G kd I H) (hS : va_S (ek_A G kd) s.heap H locs) (hl : lv_has ls 3 [(0, ek_r G x0), (1, ek_r G x1), (2, ek_r G x2)]) : W p l e ({ frames := 4, cells := 0, slots := 0, locals := 95 } : Room) s m args below meth c H locs 0 0 (MQ below (ek_Q G kd none q) args s 0 0 (ek_A G kd)) (F0 m 56 ls []) := by
  obtain ⟨hx, hb, hml, hown, hts, hr, hlocks, hK⟩ := id X
  have hA : ∀ q, ek_A G kd q → ek_A G kd q := fun _ h => h
  unfold fSp_setLoad_56 at hf
  refine ek_aload_n hx hb dSp_setLoad_56 rfl (lv_at hl 1 rfl) ?_
  refine ek_aload_n hx hb dSp_setLoad_57 rfl (lv_at hl 0 rfl) ?_
  refine ek_getr hx hb 5 hts (in_Sp) hown hK hw rfl (by decide) (by decide) 4 (by decide) (n := 20) rfl rfl (hts _ q_181) hf dSp_setLoad_58 (fun hf => ?_)
  refine ek_aload_n hx hb dSp_setLoad_61 rfl (lv_at hl 2 rfl) ?_
  refine ek_getrN hx hb 2 hts (in_Fr) hown hK hw rfl (by decide) (by decide) 1 (by decide) (n := 2) rfl rfl (va_Nw.use rfl (hK.2 _ n_65)) hf dSp_setLoad_62 (fun hf => ?_)
  refine ek_aload_n hx hb dSp_setLoad_65 rfl (lv_at hl 1 rfl) ?_
  refine ek_getiN hx hb 6 hts (in_Ta) hown hK hw rfl (by decide) (by decide) 1 (by decide) rfl (va_Nw.use rfl (hK.2 _ n_76)) hf dSp_setLoad_66 (fun hf => ?_)
  refine ek_aload_n hx hb dSp_setLoad_69 rfl (lv_at hl 2 rfl) ?_
  refine ek_getrN hx hb 2 hts (in_Fr) hown hK hw rfl (by decide) (by decide) 0 (by decide) (n := 0) rfl rfl (va_Nw.use rfl (hK.2 _ n_61)) hf dSp_setLoad_70 (fun hf => ?_)
  obtain ⟨hx2, hf⟩ := ek_ck_s hf
  refine ek_ci hf hS hA (fun I' v hq => ek_rV (As := [ek_r G (x2 + 3), .int (I x1 1), ek_r G (x2 + 1)]) ⟨hx, hb, hml, hown, hts⟩ hK hw 1 rfl (by decide) (by decide) hx2 (mDv_ratioUp hq) (cwV 3 hts (lw_V q_403 q_404 q_405 q_7 q_406) rfl rfl rfl (by decide +kernel) ⟨Nat.le_of_ble_eq_true rfl, Nat.le_of_ble_eq_true rfl⟩) rfl hl.1 rfl (Nat.le_of_ble_eq_true rfl) dSp_setLoad_73 ⟨Nat.zero_le _, Nat.zero_le _⟩) (fun I1 ir3 H locs hf hw hS => ?_)
  refine ek_putiN hx hb 6 hts (in_Ta) ty_Ta ty_Ta_ok nm_Ta hown hK hw hS hA rfl (by decide) (by decide) 7 (by decide) rfl (va_Nw.use rfl (hK.2 _ n_90)) rfl rfl rfl hf dSp_setLoad_76 (fun I4 H locs hf hw hS => ?_)
  exact ek_vret hx hb hr hlocks hw hS hf dSp_setLoad_79
set_option maxHeartbeats 4000000 in
set_option maxRecDepth 100000 in
theorem wSp_setLoad_0 {l : Launch} {G : ek_G} {kd : Nat → Nat} {p : Program} {e : Env} {s : State} {m : MethodId} {args : Array Value} {below : List Frame} {meth : Method} {c : Code} (X : ek_X p s m meth c args G prog_6_method_12_code 3 "ElasticKernel$Springs" none) {q : ek_St} {I : ek_St} {x0 : Nat} {x1 : Nat} (hf : fSp_setLoad_0 kd I x0 x1 = some q) {H : Heap} {locs : List Loc} {ls : Array Slot} (hw : ek_W G kd I H) (hS : va_S (ek_A G kd) s.heap H locs) (hl : lv_has ls 3 [(0, ek_r G x0), (1, ek_r G x1)]) : W p l e ({ frames := 4, cells := 0, slots := 0, locals := 95 } : Room) s m args below meth c H locs 0 0 (MQ below (ek_Q G kd none q) args s 0 0 (ek_A G kd)) (F0 m 0 ls []) := by
  obtain ⟨hx, hb, hml, hown, hts, hr, hlocks, hK⟩ := id X
  have hA : ∀ q, ek_A G kd q → ek_A G kd q := fun _ h => h
  unfold fSp_setLoad_0 at hf
  refine ek_aload_n hx hb dSp_setLoad_0 rfl (lv_at hl 1 rfl) ?_
  refine ek_getrN hx hb 6 hts (in_Ta) hown hK hw rfl (by decide) (by decide) 14 (by decide) (n := 0) rfl rfl (va_Nw.use rfl (hK.2 _ n_104)) hf dSp_setLoad_1 (fun hf => ?_)
  refine ek_tr hf (fun x2_1 hf => ?_)
  refine ek_astore_n (lv' := [(2, ek_r G x2_1), (1, ek_r G x1), (0, ek_r G x0)]) hx hb dSp_setLoad_4 rfl hl (by decide) (ek_s1k 1 rfl rfl ek_r_cat ek_r_cat rfl) (fun ls hl => ?_)
  refine ek_aload_n hx hb dSp_setLoad_5 rfl (lv_at hl 1 rfl) ?_
  refine ek_getiN hx hb 6 hts (in_Ta) hown hK hw rfl (by decide) (by decide) 13 (by decide) rfl (va_Nw.use rfl (hK.2 _ n_101)) hf dSp_setLoad_6 (fun hf => ?_)
  refine lv_if_eq (tgt := 27) hx hb dSp_setLoad_9 (by decide) (fun c2 => ?_) (fun c2 => ?_)
  · have hf := ek_t c2 hf
    refine ek_aload_n hx hb dSp_setLoad_27 rfl (lv_at hl 0 rfl) ?_
    refine ek_aload_n hx hb dSp_setLoad_28 rfl (lv_at hl 2 rfl) ?_
    refine ek_getr hx hb 5 hts (in_Sp) hown hK hw rfl (by decide) (by decide) 3 (by decide) (n := 15) rfl rfl (hts _ q_180) hf dSp_setLoad_29 (fun hf => ?_)
    obtain ⟨hx4, hf⟩ := ek_ck_s hf
    refine ek_cv hf hS hA (fun I' hq => ek_rV (As := [ek_r G (x0 + 16)]) ⟨hx, hb, hml, hown, hts⟩ hK hw 2 rfl (by decide) (by decide) hx4 (mFr_copy hq) (cwV 1 hts (lw_V q_319 q_320 q_321 q_4 q_322) rfl rfl rfl (by decide +kernel) ⟨Nat.le_of_ble_eq_true rfl, Nat.le_of_ble_eq_true rfl⟩) rfl hl.1 rfl (Nat.le_of_ble_eq_true rfl) dSp_setLoad_32 ⟨Nat.zero_le _, Nat.zero_le _⟩) (fun I3 H locs hf hw hS => ?_)
    refine ek_aload_n hx hb dSp_setLoad_35 rfl (lv_at hl 0 rfl) ?_
    refine ek_aload_n hx hb dSp_setLoad_36 rfl (lv_at hl 1 rfl) ?_
    refine ek_getiN hx hb 6 hts (in_Ta) hown hK hw rfl (by decide) (by decide) 4 (by decide) rfl (va_Nw.use rfl (hK.2 _ n_83)) hf dSp_setLoad_37 (fun hf => ?_)
    obtain ⟨hx6, hf⟩ := ek_ck_s hf
    refine ek_cv hf hS hA (fun I' hq => ek_rV (As := [.int (I3 x1 4)]) ⟨hx, hb, hml, hown, hts⟩ hK hw 2 rfl (by decide) (by decide) hx6 (mFr_divideBy hq) (cwV 1 hts (lw_V q_399 q_400 q_401 q_4 q_402) rfl rfl rfl (by decide +kernel) ⟨Nat.le_of_ble_eq_true rfl, Nat.le_of_ble_eq_true rfl⟩) rfl hl.1 rfl (Nat.le_of_ble_eq_true rfl) dSp_setLoad_40 ⟨Nat.zero_le _, Nat.zero_le _⟩) (fun I5 H locs hf hw hS => ?_)
    refine ek_aload_n hx hb dSp_setLoad_43 rfl (lv_at hl 0 rfl) ?_
    refine lv_iconst (v := (-1 : Int32)) hx hb dSp_setLoad_44 (by decide) ?_
    refine ek_aload_n hx hb dSp_setLoad_45 rfl (lv_at hl 1 rfl) ?_
    refine ek_getiN hx hb 6 hts (in_Ta) hown hK hw rfl (by decide) (by decide) 1 (by decide) rfl (va_Nw.use rfl (hK.2 _ n_76)) hf dSp_setLoad_46 (fun hf => ?_)
    refine ek_aload_n hx hb dSp_setLoad_49 rfl (lv_at hl 1 rfl) ?_
    refine ek_getiN hx hb 6 hts (in_Ta) hown hK hw rfl (by decide) (by decide) 2 (by decide) rfl (va_Nw.use rfl (hK.2 _ n_79)) hf dSp_setLoad_50 (fun hf => ?_)
    obtain ⟨hx8, hf⟩ := ek_ck_s hf
    refine ek_cv hf hS hA (fun I' hq => ek_rV (As := [.int ((-1 : Int32)), .int (I5 x1 1), .int (I5 x1 2)]) ⟨hx, hb, hml, hown, hts⟩ hK hw 2 rfl (by decide) (by decide) hx8 (mFr_join hq) (cwV 3 hts (lw_V q_258 q_259 q_260 q_4 q_261) rfl rfl rfl (by decide +kernel) ⟨Nat.le_of_ble_eq_true rfl, Nat.le_of_ble_eq_true rfl⟩) rfl hl.1 rfl (Nat.le_of_ble_eq_true rfl) dSp_setLoad_53 ⟨Nat.zero_le _, Nat.zero_le _⟩) (fun I7 H locs hf hw hS => ?_)
    exact wSp_setLoad_56 X hf hw hS (lv_sub hl [2, 1, 0] rfl)
  · have hf := ek_f c2 hf
    refine ek_aload_n hx hb dSp_setLoad_12 rfl (lv_at hl 0 rfl) ?_
    refine ek_aload_n hx hb dSp_setLoad_13 rfl (lv_at hl 1 rfl) ?_
    refine ek_getiN hx hb 6 hts (in_Ta) hown hK hw rfl (by decide) (by decide) 1 (by decide) rfl (va_Nw.use rfl (hK.2 _ n_76)) hf dSp_setLoad_14 (fun hf => ?_)
    refine ek_aload_n hx hb dSp_setLoad_17 rfl (lv_at hl 1 rfl) ?_
    refine ek_getiN hx hb 6 hts (in_Ta) hown hK hw rfl (by decide) (by decide) 3 (by decide) rfl (va_Nw.use rfl (hK.2 _ n_81)) hf dSp_setLoad_18 (fun hf => ?_)
    obtain ⟨hx10, hf⟩ := ek_ck_s hf
    refine ek_cv hf hS hA (fun I' hq => ek_rV (As := [.int (I x1 1), .int (I x1 3)]) ⟨hx, hb, hml, hown, hts⟩ hK hw 2 rfl (by decide) (by decide) hx10 (mFr_set hq) (cwV 2 hts (lw_V q_248 q_249 q_250 q_4 q_251) rfl rfl rfl (by decide +kernel) ⟨Nat.le_of_ble_eq_true rfl, Nat.le_of_ble_eq_true rfl⟩) rfl hl.1 rfl (Nat.le_of_ble_eq_true rfl) dSp_setLoad_21 ⟨Nat.zero_le _, Nat.zero_le _⟩) (fun I9 H locs hf hw hS => ?_)
    refine lv_goto (tgt := 56) hx hb dSp_setLoad_24 (by decide) ?_
    exact wSp_setLoad_56 X hf hw hS (lv_sub hl [2, 1, 0] rfl)
set_option maxHeartbeats 4000000 in
set_option maxRecDepth 100000 in
theorem mSp_setLoad {l : Launch} {G : ek_G} {kd : Nat → Nat} {I : ek_St} {x0 : Nat} {x1 : Nat} {q : ek_St} (hf : fSp_setLoad kd I x0 x1 = some q) : ek_M l G kd y_Sp_setLoad (.code y_Sp_setLoad prog_6_method_12_code 3 none :: lw_g) ({ frames := 4, cells := 0, slots := 0, locals := 95 } : Room) [ek_r G x0, ek_r G x1] I none q :=
  ek_body [(0, ek_r G x0), (1, ek_r G x1)] (by decide) (by simp [lg_sl, ek_r_cat, ek_c_i, ek_c_l]) (by simp [lv_args, ek_r_cat, ek_c_i, ek_c_l]) (fun p e s m below meth c ls X hw hS hl => wSp_setLoad_0 X hf hw hS hl)
/-! ElasticKernel$Springs.thousandthsInUse()I -/
def fSp_thousandthsInUse_0 (kd : Nat → Nat) (I : ek_St) (x0 : Nat) : Option (ek_St × Int32) :=
  ek_ck (kd x0 = 5) (ek_ck (kd x0 = 5) (ek_ck (kd (x0 + 1) = 2) (ek_ck (kd x0 = 5) (ek_ck (kd (x0 + 1) = 2) (ek_ck (kd (x0 + 21) = 1) (ek_bi (fDv_ratioUp kd I (x0 + 21) ((x0 + 1) + 1) ((1000 : Int32)) ((x0 + 1) + 3)) (fun I1 ir3 => some (I1, ir3))))))))
def fSp_thousandthsInUse (kd : Nat → Nat) (I : ek_St) (x0 : Nat) : Option (ek_St × Int32) := fSp_thousandthsInUse_0 kd I x0
theorem dSp_thousandthsInUse_0 : decode prog_6_method_3_code 0 = .ok (.aload_n 0, 1) := by decide +kernel
theorem dSp_thousandthsInUse_1 : decode prog_6_method_3_code 1 = .ok (.getfield 30, 3) := by decide +kernel
theorem dSp_thousandthsInUse_4 : decode prog_6_method_3_code 4 = .ok (.aload_n 0, 1) := by decide +kernel
theorem dSp_thousandthsInUse_5 : decode prog_6_method_3_code 5 = .ok (.getfield 12, 3) := by decide +kernel
theorem dSp_thousandthsInUse_8 : decode prog_6_method_3_code 8 = .ok (.getfield 69, 3) := by decide +kernel
theorem dSp_thousandthsInUse_11 : decode prog_6_method_3_code 11 = .ok (.sipush 1000, 3) := by decide +kernel
theorem dSp_thousandthsInUse_14 : decode prog_6_method_3_code 14 = .ok (.aload_n 0, 1) := by decide +kernel
theorem dSp_thousandthsInUse_15 : decode prog_6_method_3_code 15 = .ok (.getfield 12, 3) := by decide +kernel
theorem dSp_thousandthsInUse_18 : decode prog_6_method_3_code 18 = .ok (.getfield 73, 3) := by decide +kernel
theorem dSp_thousandthsInUse_21 : decode prog_6_method_3_code 21 = .ok (.invokevirtual 76, 3) := by decide +kernel
theorem dSp_thousandthsInUse_24 : decode prog_6_method_3_code 24 = .ok (.ireturn, 1) := by decide +kernel
set_option maxHeartbeats 4000000 in
set_option maxRecDepth 100000 in
theorem wSp_thousandthsInUse_0 {l : Launch} {G : ek_G} {kd : Nat → Nat} {p : Program} {e : Env} {s : State} {m : MethodId} {args : Array Value} {below : List Frame} {meth : Method} {c : Code} (X : ek_X p s m meth c args G prog_6_method_3_code 1 "ElasticKernel$Springs" (some .int)) {q : ek_St × Int32} {I : ek_St} {x0 : Nat} (hf : fSp_thousandthsInUse_0 kd I x0 = some q) {H : Heap} {locs : List Loc} {ls : Array Slot} (hw : ek_W G kd I H) (hS : va_S (ek_A G kd) s.heap H locs) (hl : lv_has ls 1 [(0, ek_r G x0)]) : W p l e ({ frames := 4, cells := 0, slots := 0, locals := 95 } : Room) s m args below meth c H locs 0 0 (MQ below (ek_Q G kd (some (.int q.2)) q.1) args s 0 0 (ek_A G kd)) (F0 m 0 ls []) := by
  obtain ⟨hx, hb, hml, hown, hts, hr, hlocks, hK⟩ := id X
  have hA : ∀ q, ek_A G kd q → ek_A G kd q := fun _ h => h
  unfold fSp_thousandthsInUse_0 at hf
  refine ek_aload_n hx hb dSp_thousandthsInUse_0 rfl (lv_at hl 0 rfl) ?_
  refine ek_getr hx hb 5 hts (in_Sp) hown hK hw rfl (by decide) (by decide) 4 (by decide) (n := 20) rfl rfl (hts _ q_181) hf dSp_thousandthsInUse_1 (fun hf => ?_)
  refine ek_aload_n hx hb dSp_thousandthsInUse_4 rfl (lv_at hl 0 rfl) ?_
  refine ek_getr hx hb 5 hts (in_Sp) hown hK hw rfl (by decide) (by decide) 0 (by decide) (n := 0) rfl rfl (hts _ q_176) hf dSp_thousandthsInUse_5 (fun hf => ?_)
  refine ek_getrN hx hb 2 hts (in_Fr) hown hK hw rfl (by decide) (by decide) 0 (by decide) (n := 0) rfl rfl (va_Nw.use rfl (hK.2 _ n_61)) hf dSp_thousandthsInUse_8 (fun hf => ?_)
  refine lv_sipush (v := (1000 : Int32)) hx hb dSp_thousandthsInUse_11 (by decide) ?_
  refine ek_aload_n hx hb dSp_thousandthsInUse_14 rfl (lv_at hl 0 rfl) ?_
  refine ek_getr hx hb 5 hts (in_Sp) hown hK hw rfl (by decide) (by decide) 0 (by decide) (n := 0) rfl rfl (hts _ q_176) hf dSp_thousandthsInUse_15 (fun hf => ?_)
  refine ek_getrN hx hb 2 hts (in_Fr) hown hK hw rfl (by decide) (by decide) 1 (by decide) (n := 2) rfl rfl (va_Nw.use rfl (hK.2 _ n_65)) hf dSp_thousandthsInUse_18 (fun hf => ?_)
  obtain ⟨hx2, hf⟩ := ek_ck_s hf
  refine ek_ci hf hS hA (fun I' v hq => ek_rV (As := [ek_r G ((x0 + 1) + 1), .int ((1000 : Int32)), ek_r G ((x0 + 1) + 3)]) ⟨hx, hb, hml, hown, hts⟩ hK hw 1 rfl (by decide) (by decide) hx2 (mDv_ratioUp hq) (cwV 3 hts (lw_V q_403 q_404 q_405 q_7 q_406) rfl rfl rfl (by decide +kernel) ⟨Nat.le_of_ble_eq_true rfl, Nat.le_of_ble_eq_true rfl⟩) rfl hl.1 rfl (Nat.le_of_ble_eq_true rfl) dSp_thousandthsInUse_21 ⟨Nat.zero_le _, Nat.zero_le _⟩) (fun I1 ir3 H locs hf hw hS => ?_)
  exact ek_iret hx hb hr hlocks hw hS hf dSp_thousandthsInUse_24
set_option maxHeartbeats 4000000 in
set_option maxRecDepth 100000 in
theorem mSp_thousandthsInUse {l : Launch} {G : ek_G} {kd : Nat → Nat} {I : ek_St} {x0 : Nat} {q : ek_St × Int32} (hf : fSp_thousandthsInUse kd I x0 = some q) : ek_M l G kd y_Sp_thousandthsInUse (.code y_Sp_thousandthsInUse prog_6_method_3_code 1 (some .int) :: lw_g) ({ frames := 4, cells := 0, slots := 0, locals := 95 } : Room) [ek_r G x0] I (some (.int q.2)) q.1 :=
  ek_body [(0, ek_r G x0)] (by decide) (by simp [lg_sl, ek_r_cat, ek_c_i, ek_c_l]) (by simp [lv_args, ek_r_cat, ek_c_i, ek_c_l]) (fun p e s m below meth c ls X hw hS hl => wSp_thousandthsInUse_0 X hf hw hS hl)
