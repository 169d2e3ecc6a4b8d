/-! ElasticKernel$Roster.drop(LElasticKernel$Task;)V -/
def fRo_drop_37 (kd : Nat → Nat) (k4 : (ek_St × Nat × Nat × Int32 × Int32) → Option (ek_St)) (I : ek_St) (x0 : Nat) (x1 : Nat) (i2 : Int32) (i3 : Int32) : Option (ek_St) :=
  ek_let (i3 + (1 : Int32)) (fun i3_1 => k4 (I, x0, x1, i2, i3_1))
def fRo_drop_4 (kd : Nat → Nat) (k4 : (ek_St × Nat × Nat × Int32 × Int32) → Option (ek_St)) (I : ek_St) (x0 : Nat) (x1 : Nat) (i2 : Int32) (i3 : Int32) : Option (ek_St) :=
  ek_ck (kd x0 = 4) (if (I x0 1) ≤ i3 then (ek_ck (kd x0 = 4) (if (I x0 1) ≤ i2 then (some I) else (ek_ck (kd x0 = 4) (ek_ck (kd (x0 + 1) = 60) (ek_ck (ek_in i2 12) (ek_ck (kd x1 = 6 ∧ x1 < 2147483648) (ek_let (ek_up I (x0 + 1) i2.toNatClampNeg (nI x1)) (fun I3 => ek_ck (kd x0 = 4) (ek_let (ek_up I3 x0 1 i2) (fun I4 => some I4)))))))))) else (ek_ck (kd x0 = 4) (ek_ck (kd (x0 + 1) = 60) (ek_ck (ek_in i3 12) (if ((I (x0 + 1) i3.toNatClampNeg).toNatClampNeg) = x1 then (fRo_drop_37 kd k4 I x0 x1 i2 i3) else (ek_ck (kd x0 = 4) (ek_ck (kd x0 = 4) (ek_ck (kd (x0 + 1) = 60) (ek_ck (ek_in i3 12) (ek_ck (kd (x0 + 1) = 60) (ek_ck (ek_in i2 12) (ek_ck (kd ((I (x0 + 1) i3.toNatClampNeg).toNatClampNeg) = 6 ∧ ((I (x0 + 1) i3.toNatClampNeg).toNatClampNeg) < 2147483648) (ek_let (ek_up I (x0 + 1) i2.toNatClampNeg (nI ((I (x0 + 1) i3.toNatClampNeg).toNatClampNeg))) (fun I6 => ek_let (i2 + (1 : Int32)) (fun i2_7 => fRo_drop_37 kd k4 I6 x0 x1 i2_7 i3)))))))))))))))
def fRo_drop_0 (kd : Nat → Nat) (I : ek_St) (x0 : Nat) (x1 : Nat) : Option (ek_St) :=
  ek_lp (fun (k : (ek_St × Nat × Nat × Int32 × Int32) → Option (ek_St)) (q : (ek_St × Nat × Nat × Int32 × Int32)) => fRo_drop_4 kd k q.1 q.2.1 q.2.2.1 q.2.2.2.1 q.2.2.2.2) ek_N (I, x0, x1, (0 : Int32), (0 : Int32))
def fRo_drop (kd : Nat → Nat) (I : ek_St) (x0 : Nat) (x1 : Nat) : Option (ek_St) := fRo_drop_0 kd I x0 x1
theorem dRo_drop_0 : decode prog_5_method_4_code 0 = .ok (.iconst 0, 1) := by decide +kernel
theorem dRo_drop_1 : decode prog_5_method_4_code 1 = .ok (.istore_n 2, 1) := by decide +kernel
theorem dRo_drop_2 : decode prog_5_method_4_code 2 = .ok (.iconst 0, 1) := by decide +kernel
theorem dRo_drop_3 : decode prog_5_method_4_code 3 = .ok (.istore_n 3, 1) := by decide +kernel
theorem dRo_drop_4 : decode prog_5_method_4_code 4 = .ok (.iload_n 3, 1) := by decide +kernel
theorem dRo_drop_5 : decode prog_5_method_4_code 5 = .ok (.aload_n 0, 1) := by decide +kernel
theorem dRo_drop_6 : decode prog_5_method_4_code 6 = .ok (.getfield 18, 3) := by decide +kernel
theorem dRo_drop_9 : decode prog_5_method_4_code 9 = .ok (.if_icmp .ge 34, 3) := by decide +kernel
theorem dRo_drop_12 : decode prog_5_method_4_code 12 = .ok (.aload_n 0, 1) := by decide +kernel
theorem dRo_drop_13 : decode prog_5_method_4_code 13 = .ok (.getfield 11, 3) := by decide +kernel
theorem dRo_drop_16 : decode prog_5_method_4_code 16 = .ok (.iload_n 3, 1) := by decide +kernel
theorem dRo_drop_17 : decode prog_5_method_4_code 17 = .ok (.aaload, 1) := by decide +kernel
theorem dRo_drop_18 : decode prog_5_method_4_code 18 = .ok (.aload_n 1, 1) := by decide +kernel
theorem dRo_drop_19 : decode prog_5_method_4_code 19 = .ok (.if_acmp .eq 18, 3) := by decide +kernel
theorem dRo_drop_22 : decode prog_5_method_4_code 22 = .ok (.aload_n 0, 1) := by decide +kernel
theorem dRo_drop_23 : decode prog_5_method_4_code 23 = .ok (.getfield 11, 3) := by decide +kernel
theorem dRo_drop_26 : decode prog_5_method_4_code 26 = .ok (.iload_n 2, 1) := by decide +kernel
theorem dRo_drop_27 : decode prog_5_method_4_code 27 = .ok (.aload_n 0, 1) := by decide +kernel
theorem dRo_drop_28 : decode prog_5_method_4_code 28 = .ok (.getfield 11, 3) := by decide +kernel
theorem dRo_drop_31 : decode prog_5_method_4_code 31 = .ok (.iload_n 3, 1) := by decide +kernel
theorem dRo_drop_32 : decode prog_5_method_4_code 32 = .ok (.aaload, 1) := by decide +kernel
theorem dRo_drop_33 : decode prog_5_method_4_code 33 = .ok (.aastore, 1) := by decide +kernel
theorem dRo_drop_34 : decode prog_5_method_4_code 34 = .ok (.iinc 2 1, 3) := by decide +kernel
theorem dRo_drop_37 : decode prog_5_method_4_code 37 = .ok (.iinc 3 1, 3) := by decide +kernel
theorem dRo_drop_40 : decode prog_5_method_4_code 40 = .ok (.goto (-36), 3) := by decide +kernel
theorem dRo_drop_43 : decode prog_5_method_4_code 43 = .ok (.iload_n 2, 1) := by decide +kernel
theorem dRo_drop_44 : decode prog_5_method_4_code 44 = .ok (.aload_n 0, 1) := by decide +kernel
theorem dRo_drop_45 : decode prog_5_method_4_code 45 = .ok (.getfield 18, 3) := by decide +kernel
theorem dRo_drop_48 : decode prog_5_method_4_code 48 = .ok (.if_icmp .ge 15, 3) := by decide +kernel
theorem dRo_drop_51 : decode prog_5_method_4_code 51 = .ok (.aload_n 0, 1) := by decide +kernel
theorem dRo_drop_52 : decode prog_5_method_4_code 52 = .ok (.getfield 11, 3) := by decide +kernel
theorem dRo_drop_55 : decode prog_5_method_4_code 55 = .ok (.iload_n 2, 1) := by decide +kernel
theorem dRo_drop_56 : decode prog_5_method_4_code 56 = .ok (.aload_n 1, 1) := by decide +kernel
theorem dRo_drop_57 : decode prog_5_method_4_code 57 = .ok (.aastore, 1) := by decide +kernel
theorem dRo_drop_58 : decode prog_5_method_4_code 58 = .ok (.aload_n 0, 1) := by decide +kernel
theorem dRo_drop_59 : decode prog_5_method_4_code 59 = .ok (.iload_n 2, 1) := by decide +kernel
theorem dRo_drop_60 : decode prog_5_method_4_code 60 = .ok (.putfield 18, 3) := by decide +kernel
theorem dRo_drop_63 : decode prog_5_method_4_code 63 = .ok (.return_, 1) := by decide +kernel
set_option maxHeartbeats 4000000 in
set_option maxRecDepth 100000 in
theorem wRo_drop_37 {l : Launch} {G : ek_G} {kd : Nat → Nat} {p : Program} {e : Env} {s : State} {m : MethodId} {args : Array Value} {below : List Frame} {meth : Method} {c : Code} (X : ek_X p s m meth c args G prog_5_method_4_code 4 "ElasticKernel$Roster" none) {q : ek_St} {k4 : (ek_St × Nat × Nat × Int32 × Int32) → Option (ek_St)} (hk4 : ∀ q0 : ek_St × Nat × Nat × Int32 × Int32, k4 q0 = some q → ∀ (H : Heap) (locs : List Loc) (ls : Array Slot), ek_W G kd q0.1 H → va_S (ek_A G kd) s.heap H locs → lv_has ls 4 [(0, ek_r G q0.2.1), (1, ek_r G q0.2.2.1), (2, .int q0.2.2.2.1), (3, .int q0.2.2.2.2)] → W p l e ({ frames := 0, cells := 0, slots := 0, locals := 0 } : Room) s m args below meth c H locs 0 0 (MQ below (ek_Q G kd none q) args s 0 0 (ek_A G kd)) (F0 m 4 ls [])) {I : ek_St} {x0 : Nat} {x1 : Nat} {i2 : Int32} {i3 : Int32} (hf : fRo_drop_37 kd k4 I x0 x1 i2 i3 = some q) {H : Heap} {locs : List Loc} {ls : Array Slot} (hw : ek_W G kd I H) (hS : va_S (ek_A G kd) s.heap H locs) (hl : lv_has ls 4 [(0, ek_r G x0), (1, ek_r G x1), (2, .int i2), (3, .int i3)]) : W p l e ({ frames := 0, cells := 0, slots := 0, locals := 0 } : Room) s m args below meth c H locs 0 0 (MQ below (ek_Q G kd none q) args s 0 0 (ek_A G kd)) (F0 m 37 ls []) := by
  obtain ⟨hx, hb, hml, hown, hts, hr, hlocks, hK⟩ := id X
  have hA : ∀ q, ek_A G kd q → ek_A G kd q := fun _ h => h
  unfold fRo_drop_37 at hf
  refine ek_iinc hx hb 3 (fun i3_1 => [(3, .int i3_1), (2, .int i2), (0, ek_r G x0), (1, ek_r G x1)]) dRo_drop_37 hl rfl (v := i3 + (1 : Int32)) rfl hf (by decide) (fun i3_1 => ek_s1k 2 rfl rfl rfl rfl rfl) (fun i3_1 ls hf hl => ?_)
  refine lv_goto (tgt := 4) hx hb dRo_drop_40 (by decide) ?_
  exact hk4 (I, x0, x1, i2, i3_1) hf _ _ _ hw hS (lv_sub hl [2, 3, 1, 0] rfl)
set_option maxHeartbeats 4000000 in
set_option maxRecDepth 100000 in
theorem wRo_drop_4 {l : Launch} {G : ek_G} {kd : Nat → Nat} {p : Program} {e : Env} {s : State} {m : MethodId} {args : Array Value} {below : List Frame} {meth : Method} {c : Code} (X : ek_X p s m meth c args G prog_5_method_4_code 4 "ElasticKernel$Roster" none) {q : ek_St} {k4 : (ek_St × Nat × Nat × Int32 × Int32) → Option (ek_St)} (hk4 : ∀ q0 : ek_St × Nat × Nat × Int32 × Int32, k4 q0 = some q → ∀ (H : Heap) (locs : List Loc) (ls : Array Slot), ek_W G kd q0.1 H → va_S (ek_A G kd) s.heap H locs → lv_has ls 4 [(0, ek_r G q0.2.1), (1, ek_r G q0.2.2.1), (2, .int q0.2.2.2.1), (3, .int q0.2.2.2.2)] → W p l e ({ frames := 0, cells := 0, slots := 0, locals := 0 } : Room) s m args below meth c H locs 0 0 (MQ below (ek_Q G kd none q) args s 0 0 (ek_A G kd)) (F0 m 4 ls [])) {I : ek_St} {x0 : Nat} {x1 : Nat} {i2 : Int32} {i3 : Int32} (hf : fRo_drop_4 kd k4 I x0 x1 i2 i3 = some q) {H : Heap} {locs : List Loc} {ls : Array Slot} (hw : ek_W G kd I H) (hS : va_S (ek_A G kd) s.heap H locs) (hl : lv_has ls 4 [(0, ek_r G x0), (1, ek_r G x1), (2, .int i2), (3, .int i3)]) : W p l e ({ frames := 0, cells := 0, slots := 0, locals := 0 } : Room) s m args below meth c H locs 0 0 (MQ below (ek_Q G kd none q) args s 0 0 (ek_A G kd)) (F0 m 4 ls []) := by
  obtain ⟨hx, hb, hml, hown, hts, hr, hlocks, hK⟩ := id X
  have hA : ∀ q, ek_A G kd q → ek_A G kd q := fun _ h => h
  unfold fRo_drop_4 at hf
  refine lv_iload_n hx hb dRo_drop_4 rfl (lv_at hl 3 rfl) ?_
  refine ek_aload_n hx hb dRo_drop_5 rfl (lv_at hl 0 rfl) ?_
  refine ek_geti hx hb 4 hts (in_Ro) hown hK hw rfl (by decide) (by decide) 1 (by decide) rfl (hts _ q_139) hf dRo_drop_6 (fun hf => ?_)
  refine lv_icmp_ge (tgt := 43) hx hb dRo_drop_9 (by decide) (fun c1 => ?_) (fun c1 => ?_)
  · have hf := ek_t c1 hf
    refine lv_iload_n hx hb dRo_drop_43 rfl (lv_at hl 2 rfl) ?_
    refine ek_aload_n hx hb dRo_drop_44 rfl (lv_at hl 0 rfl) ?_
    refine ek_geti hx hb 4 hts (in_Ro) hown hK hw rfl (by decide) (by decide) 1 (by decide) rfl (hts _ q_139) hf dRo_drop_45 (fun hf => ?_)
    refine lv_icmp_ge (tgt := 63) hx hb dRo_drop_48 (by decide) (fun c2 => ?_) (fun c2 => ?_)
    · have hf := ek_t c2 hf
      exact ek_vret hx hb hr hlocks hw hS hf dRo_drop_63
    · have hf := ek_f c2 hf
      refine ek_aload_n hx hb dRo_drop_51 rfl (lv_at hl 0 rfl) ?_
      refine ek_getr hx hb 4 hts (in_Ro) hown hK hw rfl (by decide) (by decide) 0 (by decide) (n := 0) rfl rfl (hts _ q_136) hf dRo_drop_52 (fun hf => ?_)
      refine lv_iload_n hx hb dRo_drop_55 rfl (lv_at hl 2 rfl) ?_
      refine ek_aload_n hx hb dRo_drop_56 rfl (lv_at hl 1 rfl) ?_
      refine ek_aast hx hb hK hw hS hA 6 rfl (by decide) (by decide) hf dRo_drop_57 (fun I3 H locs hf hw hS => ?_)
      refine ek_aload_n hx hb dRo_drop_58 rfl (lv_at hl 0 rfl) ?_
      refine lv_iload_n hx hb dRo_drop_59 rfl (lv_at hl 2 rfl) ?_
      refine ek_puti hx hb 4 hts (in_Ro) ty_Ro ty_Ro_ok nm_Ro hown hK hw hS hA rfl (by decide) (by decide) 1 (by decide) rfl (hts _ q_139) rfl rfl rfl hf dRo_drop_60 (fun I4 H locs hf hw hS => ?_)
      exact ek_vret hx hb hr hlocks hw hS hf dRo_drop_63
  · have hf := ek_f c1 hf
    refine ek_aload_n hx hb dRo_drop_12 rfl (lv_at hl 0 rfl) ?_
    refine ek_getr hx hb 4 hts (in_Ro) hown hK hw rfl (by decide) (by decide) 0 (by decide) (n := 0) rfl rfl (hts _ q_136) hf dRo_drop_13 (fun hf => ?_)
    refine lv_iload_n hx hb dRo_drop_16 rfl (lv_at hl 3 rfl) ?_
    refine ek_aald hx hb hK hw hf dRo_drop_17 (fun hf => ?_)
    refine ek_aload_n hx hb dRo_drop_18 rfl (lv_at hl 1 rfl) ?_
    refine ek_acmp_eq (tgt := 37) hx hb dRo_drop_19 (by decide) (fun c5 => ?_) (fun c5 => ?_)
    · have hf := ek_t c5 hf
      exact wRo_drop_37 X hk4 hf hw hS (lv_sub hl [0, 1, 2, 3] rfl)
    · have hf := ek_f c5 hf
      refine ek_aload_n hx hb dRo_drop_22 rfl (lv_at hl 0 rfl) ?_
      refine ek_getr hx hb 4 hts (in_Ro) hown hK hw rfl (by decide) (by decide) 0 (by decide) (n := 0) rfl rfl (hts _ q_136) hf dRo_drop_23 (fun hf => ?_)
      refine lv_iload_n hx hb dRo_drop_26 rfl (lv_at hl 2 rfl) ?_
      refine ek_aload_n hx hb dRo_drop_27 rfl (lv_at hl 0 rfl) ?_
      refine ek_getr hx hb 4 hts (in_Ro) hown hK hw rfl (by decide) (by decide) 0 (by decide) (n := 0) rfl rfl (hts _ q_136) hf dRo_drop_28 (fun hf => ?_)
      refine lv_iload_n hx hb dRo_drop_31 rfl (lv_at hl 3 rfl) ?_
      refine ek_aald hx hb hK hw hf dRo_drop_32 (fun hf => ?_)
      refine ek_aast hx hb hK hw hS hA 6 rfl (by decide) (by decide) hf dRo_drop_33 (fun I6 H locs hf hw hS => ?_)
      refine ek_iinc hx hb 2 (fun i2_7 => [(2, .int i2_7), (1, ek_r G x1), (0, ek_r G x0), (3, .int i3)]) dRo_drop_34 hl rfl (v := i2 + (1 : Int32)) rfl hf (by decide) (fun i2_7 => ek_s1k 1 rfl rfl ek_r_cat rfl rfl) (fun i2_7 ls hf hl => ?_)
      exact wRo_drop_37 X hk4 hf hw hS (lv_sub hl [2, 1, 0, 3] rfl)
set_option maxHeartbeats 4000000 in
set_option maxRecDepth 100000 in
theorem wRo_drop_4_lp {l : Launch} {G : ek_G} {kd : Nat → Nat} {p : Program} {e : Env} {s : State} {m : MethodId} {args : Array Value} {below : List Frame} {meth : Method} {c : Code} (X : ek_X p s m meth c args G prog_5_method_4_code 4 "ElasticKernel$Roster" none) {q : ek_St} (n : Nat) : ∀ q0 : ek_St × Nat × Nat × Int32 × Int32, ek_lp (fun (k : (ek_St × Nat × Nat × Int32 × Int32) → Option (ek_St)) (q : (ek_St × Nat × Nat × Int32 × Int32)) => fRo_drop_4 kd k q.1 q.2.1 q.2.2.1 q.2.2.2.1 q.2.2.2.2) n q0 = some q → ∀ (H : Heap) (locs : List Loc) (ls : Array Slot), ek_W G kd q0.1 H → va_S (ek_A G kd) s.heap H locs → lv_has ls 4 [(0, ek_r G q0.2.1), (1, ek_r G q0.2.2.1), (2, .int q0.2.2.2.1), (3, .int q0.2.2.2.2)] → W p l e ({ frames := 0, cells := 0, slots := 0, locals := 0 } : Room) s m args below meth c H locs 0 0 (MQ below (ek_Q G kd none q) args s 0 0 (ek_A G kd)) (F0 m 4 ls []) :=
  ek_lp_ind (fun k hk q0 hf => fun H locs ls hw hS hl => wRo_drop_4 X hk hf hw hS hl) n
set_option maxHeartbeats 4000000 in
set_option maxRecDepth 100000 in
theorem wRo_drop_0 {l : Launch} {G : ek_G} {kd : Nat → Nat} {p : Program} {e : Env} {s : State} {m : MethodId} {args : Array Value} {below : List Frame} {meth : Method} {c : Code} (X : ek_X p s m meth c args G prog_5_method_4_code 4 "ElasticKernel$Roster" none) {q : ek_St} {I : ek_St} {x0 : Nat} {x1 : Nat} (hf : fRo_drop_0 kd I x0 x1 = some q) {H : Heap} {locs : List Loc} {ls : Array Slot} (hw : ek_W G kd I H) (hS : va_S (ek_A G kd) s.heap H locs) (hl : lv_has ls 4 [(0, ek_r G x0), (1, ek_r G x1)]) : W p l e ({ frames := 0, cells := 0, slots := 0, locals := 0 } : Room) s m args below meth c H locs 0 0 (MQ below (ek_Q G kd none q) args s 0 0 (ek_A G kd)) (F0 m 0 ls []) := by
  obtain ⟨hx, hb, hml, hown, hts, hr, hlocks, hK⟩ := id X
  have hA : ∀ q, ek_A G kd q → ek_A G kd q := fun _ h => h
  unfold fRo_drop_0 at hf
  refine lv_iconst (v := (0 : Int32)) hx hb dRo_drop_0 (by decide) ?_
  refine ek_istore_n (lv' := [(2, .int ((0 : Int32))), (1, ek_r G x1), (0, ek_r G x0)]) hx hb dRo_drop_1 rfl hl (by decide) (ek_s1k 1 rfl rfl ek_r_cat rfl rfl) (fun ls hl => ?_)
  refine lv_iconst (v := (0 : Int32)) hx hb dRo_drop_2 (by decide) ?_
  refine ek_istore_n (lv' := [(3, .int ((0 : Int32))), (2, .int ((0 : Int32))), (1, ek_r G x1), (0, ek_r G x0)]) hx hb dRo_drop_3 rfl hl (by decide) (ek_s1k 0 rfl rfl rfl rfl rfl) (fun ls hl => ?_)
  exact wRo_drop_4_lp X ek_N (I, x0, x1, (0 : Int32), (0 : Int32)) hf _ _ _ hw hS (lv_sub hl [3, 2, 1, 0] rfl)
set_option maxHeartbeats 4000000 in
set_option maxRecDepth 100000 in
theorem mRo_drop {l : Launch} {G : ek_G} {kd : Nat → Nat} {I : ek_St} {x0 : Nat} {x1 : Nat} {q : ek_St} (hf : fRo_drop kd I x0 x1 = some q) : ek_M l G kd y_Ro_drop (.code y_Ro_drop prog_5_method_4_code 4 none :: lw_g) ({ frames := 0, cells := 0, slots := 0, locals := 0 } : Room) [ek_r G x0, ek_r G x1] I none q :=
  ek_body [(0, ek_r G x0), (1, ek_r G x1)] (by decide) (by simp [lg_sl, ek_r_cat, ek_c_i, ek_c_l]) (by simp [lv_args, ek_r_cat, ek_c_i, ek_c_l]) (fun p e s m below meth c ls X hw hS hl => wRo_drop_0 X hf hw hS hl)
/-! ElasticKernel$Roster.find(I)LElasticKernel$Task; -/
def fRo_find_2 (kd : Nat → Nat) (k2 : (ek_St × Nat × Int32 × Int32) → Option (ek_St × Nat)) (I : ek_St) (x0 : Nat) (i1 : Int32) (i2 : Int32) : Option (ek_St × Nat) :=
  ek_ck (kd x0 = 4) (if (I x0 1) ≤ i2 then (some (I, (0 : Nat))) else (ek_ck (kd x0 = 4) (ek_ck (kd (x0 + 1) = 60) (ek_ck (ek_in i2 12) (ek_ck (kd ((I (x0 + 1) i2.toNatClampNeg).toNatClampNeg) = 6) (if (I ((I (x0 + 1) i2.toNatClampNeg).toNatClampNeg) 0) = i1 then (ek_ck (kd x0 = 4) (ek_ck (kd (x0 + 1) = 60) (ek_ck (ek_in i2 12) (some (I, (I (x0 + 1) i2.toNatClampNeg).toNatClampNeg))))) else (ek_let (i2 + (1 : Int32)) (fun i2_3 => k2 (I, x0, i1, i2_3)))))))))
def fRo_find_0 (kd : Nat → Nat) (I : ek_St) (x0 : Nat) (i1 : Int32) : Option (ek_St × Nat) :=
  ek_lp (fun (k : (ek_St × Nat × Int32 × Int32) → Option (ek_St × Nat)) (q : (ek_St × Nat × Int32 × Int32)) => fRo_find_2 kd k q.1 q.2.1 q.2.2.1 q.2.2.2) ek_N (I, x0, i1, (0 : Int32))
def fRo_find (kd : Nat → Nat) (I : ek_St) (x0 : Nat) (i1 : Int32) : Option (ek_St × Nat) := fRo_find_0 kd I x0 i1
theorem dRo_find_0 : decode prog_5_method_2_code 0 = .ok (.iconst 0, 1) := by decide +kernel
theorem dRo_find_1 : decode prog_5_method_2_code 1 = .ok (.istore_n 2, 1) := by decide +kernel
theorem dRo_find_2 : decode prog_5_method_2_code 2 = .ok (.iload_n 2, 1) := by decide +kernel
theorem dRo_find_3 : decode prog_5_method_2_code 3 = .ok (.aload_n 0, 1) := by decide +kernel
theorem dRo_find_4 : decode prog_5_method_2_code 4 = .ok (.getfield 18, 3) := by decide +kernel
theorem dRo_find_7 : decode prog_5_method_2_code 7 = .ok (.if_icmp .ge 29, 3) := by decide +kernel
theorem dRo_find_10 : decode prog_5_method_2_code 10 = .ok (.aload_n 0, 1) := by decide +kernel
theorem dRo_find_11 : decode prog_5_method_2_code 11 = .ok (.getfield 11, 3) := by decide +kernel
theorem dRo_find_14 : decode prog_5_method_2_code 14 = .ok (.iload_n 2, 1) := by decide +kernel
theorem dRo_find_15 : decode prog_5_method_2_code 15 = .ok (.aaload, 1) := by decide +kernel
theorem dRo_find_16 : decode prog_5_method_2_code 16 = .ok (.getfield 22, 3) := by decide +kernel
theorem dRo_find_19 : decode prog_5_method_2_code 19 = .ok (.iload_n 1, 1) := by decide +kernel
theorem dRo_find_20 : decode prog_5_method_2_code 20 = .ok (.if_icmp .ne 10, 3) := by decide +kernel
theorem dRo_find_23 : decode prog_5_method_2_code 23 = .ok (.aload_n 0, 1) := by decide +kernel
theorem dRo_find_24 : decode prog_5_method_2_code 24 = .ok (.getfield 11, 3) := by decide +kernel
theorem dRo_find_27 : decode prog_5_method_2_code 27 = .ok (.iload_n 2, 1) := by decide +kernel
theorem dRo_find_28 : decode prog_5_method_2_code 28 = .ok (.aaload, 1) := by decide +kernel
theorem dRo_find_29 : decode prog_5_method_2_code 29 = .ok (.areturn, 1) := by decide +kernel
theorem dRo_find_30 : decode prog_5_method_2_code 30 = .ok (.iinc 2 1, 3) := by decide +kernel
theorem dRo_find_33 : decode prog_5_method_2_code 33 = .ok (.goto (-31), 3) := by decide +kernel
theorem dRo_find_36 : decode prog_5_method_2_code 36 = .ok (.aconst_null, 1) := by decide +kernel
theorem dRo_find_37 : decode prog_5_method_2_code 37 = .ok (.areturn, 1) := by decide +kernel
set_option maxHeartbeats 4000000 in
set_option maxRecDepth 100000 in
theorem wRo_find_2 {l : Launch} {G : ek_G} {kd : Nat → Nat} {p : Program} {e : Env} {s : State} {m : MethodId} {args : Array Value} {below : List Frame} {meth : Method} {c : Code} (X : ek_X p s m meth c args G prog_5_method_2_code 3 "ElasticKernel$Roster" (some (.object "ElasticKernel$Task"))) {q : ek_St × Nat} {k2 : (ek_St × Nat × Int32 × Int32) → Option (ek_St × Nat)} (hk2 : ∀ q0 : ek_St × Nat × Int32 × Int32, k2 q0 = some q → ∀ (H : Heap) (locs : List Loc) (ls : Array Slot), ek_W G kd q0.1 H → va_S (ek_A G kd) s.heap H locs → lv_has ls 3 [(0, ek_r G q0.2.1), (1, .int q0.2.2.1), (2, .int q0.2.2.2)] → W p l e ({ frames := 0, cells := 0, slots := 0, locals := 0 } : Room) s m args below meth c H locs 0 0 (MQ below (ek_Q G kd (some (ek_r G q.2)) q.1) args s 0 0 (ek_A G kd)) (F0 m 2 ls [])) {I : ek_St} {x0 : Nat} {i1 : Int32} {i2 : Int32} (hf : fRo_find_2 kd k2 I x0 i1 i2 = some q) {H : Heap} {locs : List Loc} {ls : Array Slot} (hw : ek_W G kd I H) (hS : va_S (ek_A G kd) s.heap H locs) (hl : lv_has ls 3 [(0, ek_r G x0), (1, .int i1), (2, .int i2)]) : W p l e ({ frames := 0, cells := 0, slots := 0, locals := 0 } : Room) s m args below meth c H locs 0 0 (MQ below (ek_Q G kd (some (ek_r G q.2)) q.1) args s 0 0 (ek_A G kd)) (F0 m 2 ls []) := by
  obtain ⟨hx, hb, hml, hown, hts, hr, hlocks, hK⟩ := id X
  have hA : ∀ q, ek_A G kd q → ek_A G kd q := fun _ h => h
  unfold fRo_find_2 at hf
  refine lv_iload_n hx hb dRo_find_2 rfl (lv_at hl 2 rfl) ?_
  refine ek_aload_n hx hb dRo_find_3 rfl (lv_at hl 0 rfl) ?_
  refine ek_geti hx hb 4 hts (in_Ro) hown hK hw rfl (by decide) (by decide) 1 (by decide) rfl (hts _ q_139) hf dRo_find_4 (fun hf => ?_)
  refine lv_icmp_ge (tgt := 36) hx hb dRo_find_7 (by decide) (fun c1 => ?_) (fun c1 => ?_)
  · have hf := ek_t c1 hf
    refine ek_null (G := G) hx hb dRo_find_36 ?_
    exact ek_aret hx hb hr hlocks hw hS hf dRo_find_37
  · have hf := ek_f c1 hf
    refine ek_aload_n hx hb dRo_find_10 rfl (lv_at hl 0 rfl) ?_
    refine ek_getr hx hb 4 hts (in_Ro) hown hK hw rfl (by decide) (by decide) 0 (by decide) (n := 0) rfl rfl (hts _ q_136) hf dRo_find_11 (fun hf => ?_)
    refine lv_iload_n hx hb dRo_find_14 rfl (lv_at hl 2 rfl) ?_
    refine ek_aald hx hb hK hw hf dRo_find_15 (fun hf => ?_)
    refine ek_getiN hx hb 6 hts (in_Ta) hown hK hw rfl (by decide) (by decide) 0 (by decide) rfl (va_Nw.use rfl (hK.2 _ n_72)) hf dRo_find_16 (fun hf => ?_)
    refine lv_iload_n hx hb dRo_find_19 rfl (lv_at hl 1 rfl) ?_
    refine lv_icmp_ne (tgt := 30) hx hb dRo_find_20 (by decide) (fun c2 => ?_) (fun c2 => ?_)
    · have hf := ek_f c2 hf
      refine ek_iinc hx hb 2 (fun i2_3 => [(2, .int i2_3), (1, .int i1), (0, ek_r G x0)]) dRo_find_30 hl rfl (v := i2 + (1 : Int32)) rfl hf (by decide) (fun i2_3 => ek_s1k 1 rfl rfl rfl rfl rfl) (fun i2_3 ls hf hl => ?_)
      refine lv_goto (tgt := 2) hx hb dRo_find_33 (by decide) ?_
      exact hk2 (I, x0, i1, i2_3) hf _ _ _ hw hS (lv_sub hl [2, 1, 0] rfl)
    · have hf := ek_t c2 hf
      refine ek_aload_n hx hb dRo_find_23 rfl (lv_at hl 0 rfl) ?_
      refine ek_getr hx hb 4 hts (in_Ro) hown hK hw rfl (by decide) (by decide) 0 (by decide) (n := 0) rfl rfl (hts _ q_136) hf dRo_find_24 (fun hf => ?_)
      refine lv_iload_n hx hb dRo_find_27 rfl (lv_at hl 2 rfl) ?_
      refine ek_aald hx hb hK hw hf dRo_find_28 (fun hf => ?_)
      exact ek_aret hx hb hr hlocks hw hS hf dRo_find_29
set_option maxHeartbeats 4000000 in
set_option maxRecDepth 100000 in
theorem wRo_find_2_lp {l : Launch} {G : ek_G} {kd : Nat → Nat} {p : Program} {e : Env} {s : State} {m : MethodId} {args : Array Value} {below : List Frame} {meth : Method} {c : Code} (X : ek_X p s m meth c args G prog_5_method_2_code 3 "ElasticKernel$Roster" (some (.object "ElasticKernel$Task"))) {q : ek_St × Nat} (n : Nat) : ∀ q0 : ek_St × Nat × Int32 × Int32, ek_lp (fun (k : (ek_St × Nat × Int32 × Int32) → Option (ek_St × Nat)) (q : (ek_St × Nat × Int32 × Int32)) => fRo_find_2 kd k q.1 q.2.1 q.2.2.1 q.2.2.2) n q0 = some q → ∀ (H : Heap) (locs : List Loc) (ls : Array Slot), ek_W G kd q0.1 H → va_S (ek_A G kd) s.heap H locs → lv_has ls 3 [(0, ek_r G q0.2.1), (1, .int q0.2.2.1), (2, .int q0.2.2.2)] → W p l e ({ frames := 0, cells := 0, slots := 0, locals := 0 } : Room) s m args below meth c H locs 0 0 (MQ below (ek_Q G kd (some (ek_r G q.2)) q.1) args s 0 0 (ek_A G kd)) (F0 m 2 ls []) :=
  ek_lp_ind (fun k hk q0 hf => fun H locs ls hw hS hl => wRo_find_2 X hk hf hw hS hl) n
set_option maxHeartbeats 4000000 in
set_option maxRecDepth 100000 in
theorem wRo_find_0 {l : Launch} {G : ek_G} {kd : Nat → Nat} {p : Program} {e : Env} {s : State} {m : MethodId} {args : Array Value} {below : List Frame} {meth : Method} {c : Code} (X : ek_X p s m meth c args G prog_5_method_2_code 3 "ElasticKernel$Roster" (some (.object "ElasticKernel$Task"))) {q : ek_St × Nat} {I : ek_St} {x0 : Nat} {i1 : Int32} (hf : fRo_find_0 kd I x0 i1 = some q) {H : Heap} {locs : List Loc} {ls : Array Slot} (hw : ek_W G kd I H) (hS : va_S (ek_A G kd) s.heap H locs) (hl : lv_has ls 3 [(0, ek_r G x0), (1, .int i1)]) : W p l e ({ frames := 0, cells := 0, slots := 0, locals := 0 } : Room) s m args below meth c H locs 0 0 (MQ below (ek_Q G kd (some (ek_r G q.2)) q.1) args s 0 0 (ek_A G kd)) (F0 m 0 ls []) := by
  obtain ⟨hx, hb, hml, hown, hts, hr, hlocks, hK⟩ := id X
  have hA : ∀ q, ek_A G kd q → ek_A G kd q := fun _ h => h
  unfold fRo_find_0 at hf
  refine lv_iconst (v := (0 : Int32)) hx hb dRo_find_0 (by decide) ?_
  refine ek_istore_n (lv' := [(2, .int ((0 : Int32))), (1, .int i1), (0, ek_r G x0)]) hx hb dRo_find_1 rfl hl (by decide) (ek_s1k 1 rfl rfl rfl rfl rfl) (fun ls hl => ?_)
  exact wRo_find_2_lp X ek_N (I, x0, i1, (0 : Int32)) hf _ _ _ hw hS (lv_sub hl [2, 1, 0] rfl)
set_option maxHeartbeats 4000000 in
set_option maxRecDepth 100000 in
theorem mRo_find {l : Launch} {G : ek_G} {kd : Nat → Nat} {I : ek_St} {x0 : Nat} {i1 : Int32} {q : ek_St × Nat} (hf : fRo_find kd I x0 i1 = some q) : ek_M l G kd y_Ro_find (.code y_Ro_find prog_5_method_2_code 3 (some (.object "ElasticKernel$Task")) :: lw_g) ({ frames := 0, cells := 0, slots := 0, locals := 0 } : Room) [ek_r G x0, .int i1] I (some (ek_r G q.2)) q.1 :=
  ek_body [(0, ek_r G x0), (1, .int i1)] (by decide) (by simp [lg_sl, ek_r_cat, ek_c_i, ek_c_l]) (by simp [lv_args, ek_r_cat, ek_c_i, ek_c_l]) (fun p e s m below meth c ls X hw hS hl => wRo_find_0 X hf hw hS hl)
/-! ElasticKernel$Roster.enter(I)LElasticKernel$Task; -/
def fRo_enter_17 (kd : Nat → Nat) (I : ek_St) : Option (ek_St × Nat) :=
  some (I, (0 : Nat))
def fRo_enter_73 (kd : Nat → Nat) (I : ek_St) (x0 : Nat) (i1 : Int32) (x2 : Nat) (i3 : Int32) : Option (ek_St × Nat) :=
  ek_ck (kd x0 = 4) (ek_ck (kd (x0 + 1) = 60) (ek_ck (ek_in i3 12) (ek_ck (kd x2 = 6 ∧ x2 < 2147483648) (ek_let (ek_up I (x0 + 1) i3.toNatClampNeg (nI x2)) (fun I1 => ek_ck (kd x2 = 6) (ek_let (ek_up I1 x2 0 i1) (fun I2 => ek_ck (kd x0 = 4) (ek_ck (kd x0 = 4) (ek_let (ek_up I2 x0 1 ((I2 x0 1) + ((1 : Int32)))) (fun I3 => some (I3, x2)))))))))))
def fRo_enter_34 (kd : Nat → Nat) (k34 : (ek_St × Nat × Int32 × Nat × Int32) → Option (ek_St × Nat)) (I : ek_St) (x0 : Nat) (i1 : Int32) (x2 : Nat) (i3 : Int32) : Option (ek_St × Nat) :=
  if i3 ≤ ((0 : Int32)) then (fRo_enter_73 kd I x0 i1 x2 i3) else (ek_ck (kd x0 = 4) (ek_ck (kd (x0 + 1) = 60) (ek_ck (ek_in (i3 - ((1 : Int32))) 12) (ek_ck (kd ((I (x0 + 1) (i3 - ((1 : Int32))).toNatClampNeg).toNatClampNeg) = 6) (if (I ((I (x0 + 1) (i3 - ((1 : Int32))).toNatClampNeg).toNatClampNeg) 0) ≤ i1 then (fRo_enter_73 kd I x0 i1 x2 i3) else (ek_ck (kd x0 = 4) (ek_ck (kd x0 = 4) (ek_ck (kd (x0 + 1) = 60) (ek_ck (ek_in (i3 - ((1 : Int32))) 12) (ek_ck (kd (x0 + 1) = 60) (ek_ck (ek_in i3 12) (ek_ck (kd ((I (x0 + 1) (i3 - ((1 : Int32))).toNatClampNeg).toNatClampNeg) = 6 ∧ ((I (x0 + 1) (i3 - ((1 : Int32))).toNatClampNeg).toNatClampNeg) < 2147483648) (ek_let (ek_up I (x0 + 1) i3.toNatClampNeg (nI ((I (x0 + 1) (i3 - ((1 : Int32))).toNatClampNeg).toNatClampNeg))) (fun I3 => ek_let (i3 + (-1 : Int32)) (fun i3_4 => k34 (I3, x0, i1, x2, i3_4))))))))))))))))
def fRo_enter_0 (kd : Nat → Nat) (I : ek_St) (x0 : Nat) (i1 : Int32) : Option (ek_St × Nat) :=
  ek_ck (kd x0 = 4) (if ((12 : Int32)) ≤ (I x0 1) then (fRo_enter_17 kd I) else (ek_ck (kd x0 = 4) (ek_bi (fRo_find kd I x0 i1) (fun I2 xr4 => if xr4 = ((0 : Nat)) then (ek_ck (kd x0 = 4) (ek_ck (kd x0 = 4) (ek_ck (kd (x0 + 1) = 60) (ek_ck (ek_in (I2 x0 1) 12) (ek_let ((I2 (x0 + 1) (I2 x0 1).toNatClampNeg).toNatClampNeg) (fun x2_6 => ek_ck (kd x0 = 4) (ek_let (I2 x0 1) (fun i3_7 => ek_lp (fun (k : (ek_St × Nat × Int32 × Nat × Int32) → Option (ek_St × Nat)) (q : (ek_St × Nat × Int32 × Nat × Int32)) => fRo_enter_34 kd k q.1 q.2.1 q.2.2.1 q.2.2.2.1 q.2.2.2.2) ek_N (I2, x0, i1, x2_6, i3_7))))))))) else (fRo_enter_17 kd I2)))))
def fRo_enter (kd : Nat → Nat) (I : ek_St) (x0 : Nat) (i1 : Int32) : Option (ek_St × Nat) := fRo_enter_0 kd I x0 i1
theorem dRo_enter_0 : decode prog_5_method_3_code 0 = .ok (.aload_n 0, 1) := by decide +kernel
theorem dRo_enter_1 : decode prog_5_method_3_code 1 = .ok (.getfield 18, 3) := by decide +kernel
theorem dRo_enter_4 : decode prog_5_method_3_code 4 = .ok (.bipush 12, 2) := by decide +kernel
theorem dRo_enter_6 : decode prog_5_method_3_code 6 = .ok (.if_icmp .ge 11, 3) := by decide +kernel
theorem dRo_enter_9 : decode prog_5_method_3_code 9 = .ok (.aload_n 0, 1) := by decide +kernel
theorem dRo_enter_10 : decode prog_5_method_3_code 10 = .ok (.iload_n 1, 1) := by decide +kernel
theorem dRo_enter_11 : decode prog_5_method_3_code 11 = .ok (.invokevirtual 25, 3) := by decide +kernel
theorem dRo_enter_14 : decode prog_5_method_3_code 14 = .ok (.ifnull 5, 3) := by decide +kernel
theorem dRo_enter_17 : decode prog_5_method_3_code 17 = .ok (.aconst_null, 1) := by decide +kernel
theorem dRo_enter_18 : decode prog_5_method_3_code 18 = .ok (.areturn, 1) := by decide +kernel
theorem dRo_enter_19 : decode prog_5_method_3_code 19 = .ok (.aload_n 0, 1) := by decide +kernel
theorem dRo_enter_20 : decode prog_5_method_3_code 20 = .ok (.getfield 11, 3) := by decide +kernel
theorem dRo_enter_23 : decode prog_5_method_3_code 23 = .ok (.aload_n 0, 1) := by decide +kernel
theorem dRo_enter_24 : decode prog_5_method_3_code 24 = .ok (.getfield 18, 3) := by decide +kernel
theorem dRo_enter_27 : decode prog_5_method_3_code 27 = .ok (.aaload, 1) := by decide +kernel
theorem dRo_enter_28 : decode prog_5_method_3_code 28 = .ok (.astore_n 2, 1) := by decide +kernel
theorem dRo_enter_29 : decode prog_5_method_3_code 29 = .ok (.aload_n 0, 1) := by decide +kernel
theorem dRo_enter_30 : decode prog_5_method_3_code 30 = .ok (.getfield 18, 3) := by decide +kernel
theorem dRo_enter_33 : decode prog_5_method_3_code 33 = .ok (.istore_n 3, 1) := by decide +kernel
theorem dRo_enter_34 : decode prog_5_method_3_code 34 = .ok (.iload_n 3, 1) := by decide +kernel
theorem dRo_enter_35 : decode prog_5_method_3_code 35 = .ok (.ifCond .le 38, 3) := by decide +kernel
theorem dRo_enter_38 : decode prog_5_method_3_code 38 = .ok (.aload_n 0, 1) := by decide +kernel
theorem dRo_enter_39 : decode prog_5_method_3_code 39 = .ok (.getfield 11, 3) := by decide +kernel
theorem dRo_enter_42 : decode prog_5_method_3_code 42 = .ok (.iload_n 3, 1) := by decide +kernel
theorem dRo_enter_43 : decode prog_5_method_3_code 43 = .ok (.iconst 1, 1) := by decide +kernel
theorem dRo_enter_44 : decode prog_5_method_3_code 44 = .ok (.isub, 1) := by decide +kernel
theorem dRo_enter_45 : decode prog_5_method_3_code 45 = .ok (.aaload, 1) := by decide +kernel
theorem dRo_enter_46 : decode prog_5_method_3_code 46 = .ok (.getfield 22, 3) := by decide +kernel
theorem dRo_enter_49 : decode prog_5_method_3_code 49 = .ok (.iload_n 1, 1) := by decide +kernel
theorem dRo_enter_50 : decode prog_5_method_3_code 50 = .ok (.if_icmp .le 23, 3) := by decide +kernel
theorem dRo_enter_53 : decode prog_5_method_3_code 53 = .ok (.aload_n 0, 1) := by decide +kernel
theorem dRo_enter_54 : decode prog_5_method_3_code 54 = .ok (.getfield 11, 3) := by decide +kernel
theorem dRo_enter_57 : decode prog_5_method_3_code 57 = .ok (.iload_n 3, 1) := by decide +kernel
theorem dRo_enter_58 : decode prog_5_method_3_code 58 = .ok (.aload_n 0, 1) := by decide +kernel
theorem dRo_enter_59 : decode prog_5_method_3_code 59 = .ok (.getfield 11, 3) := by decide +kernel
theorem dRo_enter_62 : decode prog_5_method_3_code 62 = .ok (.iload_n 3, 1) := by decide +kernel
theorem dRo_enter_63 : decode prog_5_method_3_code 63 = .ok (.iconst 1, 1) := by decide +kernel
theorem dRo_enter_64 : decode prog_5_method_3_code 64 = .ok (.isub, 1) := by decide +kernel
theorem dRo_enter_65 : decode prog_5_method_3_code 65 = .ok (.aaload, 1) := by decide +kernel
theorem dRo_enter_66 : decode prog_5_method_3_code 66 = .ok (.aastore, 1) := by decide +kernel
theorem dRo_enter_67 : decode prog_5_method_3_code 67 = .ok (.iinc 3 (-1), 3) := by decide +kernel
theorem dRo_enter_70 : decode prog_5_method_3_code 70 = .ok (.goto (-36), 3) := by decide +kernel
theorem dRo_enter_73 : decode prog_5_method_3_code 73 = .ok (.aload_n 0, 1) := by decide +kernel
theorem dRo_enter_74 : decode prog_5_method_3_code 74 = .ok (.getfield 11, 3) := by decide +kernel
theorem dRo_enter_77 : decode prog_5_method_3_code 77 = .ok (.iload_n 3, 1) := by decide +kernel
theorem dRo_enter_78 : decode prog_5_method_3_code 78 = .ok (.aload_n 2, 1) := by decide +kernel
theorem dRo_enter_79 : decode prog_5_method_3_code 79 = .ok (.aastore, 1) := by decide +kernel
theorem dRo_enter_80 : decode prog_5_method_3_code 80 = .ok (.aload_n 2, 1) := by decide +kernel
theorem dRo_enter_81 : decode prog_5_method_3_code 81 = .ok (.iload_n 1, 1) := by decide +kernel
theorem dRo_enter_82 : decode prog_5_method_3_code 82 = .ok (.putfield 22, 3) := by decide +kernel
theorem dRo_enter_85 : decode prog_5_method_3_code 85 = .ok (.aload_n 0, 1) := by decide +kernel
theorem dRo_enter_86 : decode prog_5_method_3_code 86 = .ok (.dup, 1) := by decide +kernel
theorem dRo_enter_87 : decode prog_5_method_3_code 87 = .ok (.getfield 18, 3) := by decide +kernel
theorem dRo_enter_90 : decode prog_5_method_3_code 90 = .ok (.iconst 1, 1) := by decide +kernel
theorem dRo_enter_91 : decode prog_5_method_3_code 91 = .ok (.iadd, 1) := by decide +kernel
theorem dRo_enter_92 : decode prog_5_method_3_code 92 = .ok (.putfield 18, 3) := by decide +kernel
theorem dRo_enter_95 : decode prog_5_method_3_code 95 = .ok (.aload_n 2, 1) := by decide +kernel
theorem dRo_enter_96 : decode prog_5_method_3_code 96 = .ok (.areturn, 1) := by decide +kernel
set_option maxHeartbeats 4000000 in
set_option maxRecDepth 100000 in
theorem wRo_enter_17 {l : Launch} {G : ek_G} {kd : Nat → Nat} {p : Program} {e : Env} {s : State} {m : MethodId} {args : Array Value} {below : List Frame} {meth : Method} {c : Code} (X : ek_X p s m meth c args G prog_5_method_3_code 4 "ElasticKernel$Roster" (some (.object "ElasticKernel$Task"))) {q : ek_St × Nat} {I : ek_St} (hf : fRo_enter_17 kd I = some q) {H : Heap} {locs : List Loc} {ls : Array Slot} (hw : ek_W G kd I H) (hS : va_S (ek_A G kd) s.heap H locs) (hl : lv_has ls 4 []) : W p l e ({ frames := 1, cells := 0, slots := 0, locals := 22 } : Room) s m args below meth c H locs 0 0 (MQ below (ek_Q G kd (some (ek_r G q.2)) q.1) args s 0 0 (ek_A G kd)) (F0 m 17 ls []) := by
  obtain ⟨hx, hb, hml, hown, hts, hr, hlocks, hK⟩ := id X
  have hA : ∀ q, ek_A G kd q → ek_A G kd q := fun _ h => h
  unfold fRo_enter_17 at hf
  refine ek_null (G := G) hx hb dRo_enter_17 ?_
  exact ek_aret hx hb hr hlocks hw hS hf dRo_enter_18
set_option maxHeartbeats 4000000 in
set_option maxRecDepth 100000 in
theorem wRo_enter_73 {l : Launch} {G : ek_G} {kd : Nat → Nat} {p : Program} {e : Env} {s : State} {m : MethodId} {args : Array Value} {below : List Frame} {meth : Method} {c : Code} (X : ek_X p s m meth c args G prog_5_method_3_code 4 "ElasticKernel$Roster" (some (.object "ElasticKernel$Task"))) {q : ek_St × Nat} {I : ek_St} {x0 : Nat} {i1 : Int32} {x2 : Nat} {i3 : Int32} (hf : fRo_enter_73 kd I x0 i1 x2 i3 = some q) {H : Heap} {locs : List Loc} {ls : Array Slot} (hw : ek_W G kd I H) (hS : va_S (ek_A G kd) s.heap H locs) (hl : lv_has ls 4 [(0, ek_r G x0), (1, .int i1), (2, ek_r G x2), (3, .int i3)]) : W p l e ({ frames := 1, cells := 0, slots := 0, locals := 22 } : Room) s m args below meth c H locs 0 0 (MQ below (ek_Q G kd (some (ek_r G q.2)) q.1) args s 0 0 (ek_A G kd)) (F0 m 73 ls []) := by
  obtain ⟨hx, hb, hml, hown, hts, hr, hlocks, hK⟩ := id X
  have hA : ∀ q, ek_A G kd q → ek_A G kd q := fun _ h => h
  unfold fRo_enter_73 at hf
  refine ek_aload_n hx hb dRo_enter_73 rfl (lv_at hl 0 rfl) ?_
  refine ek_getr hx hb 4 hts (in_Ro) hown hK hw rfl (by decide) (by decide) 0 (by decide) (n := 0) rfl rfl (hts _ q_136) hf dRo_enter_74 (fun hf => ?_)
  refine lv_iload_n hx hb dRo_enter_77 rfl (lv_at hl 3 rfl) ?_
  refine ek_aload_n hx hb dRo_enter_78 rfl (lv_at hl 2 rfl) ?_
  refine ek_aast hx hb hK hw hS hA 6 rfl (by decide) (by decide) hf dRo_enter_79 (fun I1 H locs hf hw hS => ?_)
  refine ek_aload_n hx hb dRo_enter_80 rfl (lv_at hl 2 rfl) ?_
  refine lv_iload_n hx hb dRo_enter_81 rfl (lv_at hl 1 rfl) ?_
  refine ek_putiN hx hb 6 hts (in_Ta) ty_Ta ty_Ta_ok nm_Ta hown hK hw hS hA rfl (by decide) (by decide) 0 (by decide) rfl (va_Nw.use rfl (hK.2 _ n_72)) rfl rfl rfl hf dRo_enter_82 (fun I2 H locs hf hw hS => ?_)
  refine ek_aload_n hx hb dRo_enter_85 rfl (lv_at hl 0 rfl) ?_
  refine lv_dup hx hb dRo_enter_86 ek_r_cat ?_
  refine ek_geti hx hb 4 hts (in_Ro) hown hK hw rfl (by decide) (by decide) 1 (by decide) rfl (hts _ q_139) hf dRo_enter_87 (fun hf => ?_)
  refine lv_iconst (v := (1 : Int32)) hx hb dRo_enter_90 (by decide) ?_
  refine lv_iadd hx hb dRo_enter_91 ?_
  refine ek_puti hx hb 4 hts (in_Ro) ty_Ro ty_Ro_ok nm_Ro hown hK hw hS hA rfl (by decide) (by decide) 1 (by decide) rfl (hts _ q_139) rfl rfl rfl hf dRo_enter_92 (fun I3 H locs hf hw hS => ?_)
  refine ek_aload_n hx hb dRo_enter_95 rfl (lv_at hl 2 rfl) ?_
  exact ek_aret hx hb hr hlocks hw hS hf dRo_enter_96
set_option maxHeartbeats 4000000 in
set_option maxRecDepth 100000 in
theorem wRo_enter_34 {l : Launch} {G : ek_G} {kd : Nat → Nat} {p : Program} {e : Env} {s : State} {m : MethodId} {args : Array Value} {below : List Frame} {meth : Method} {c : Code} (X : ek_X p s m meth c args G prog_5_method_3_code 4 "ElasticKernel$Roster" (some (.object "ElasticKernel$Task"))) {q : ek_St × Nat} {k34 : (ek_St × Nat × Int32 × Nat × Int32) → Option (ek_St × Nat)} (hk34 : ∀ q0 : ek_St × Nat × Int32 × Nat × Int32, k34 q0 = some q → ∀ (H : Heap) (locs : List Loc) (ls : Array Slot), ek_W G kd q0.1 H → va_S (ek_A G kd) s.heap H locs → lv_has ls 4 [(0, ek_r G q0.2.1), (1, .int q0.2.2.1), (2, ek_r G q0.2.2.2.1), (3, .int q0.2.2.2.2)] → W p l e ({ frames := 1, cells := 0, slots := 0, locals := 22 } : Room) s m args below meth c H locs 0 0 (MQ below (ek_Q G kd (some (ek_r G q.2)) q.1) args s 0 0 (ek_A G kd)) (F0 m 34 ls [])) {I : ek_St} {x0 : Nat} {i1 : Int32} {x2 : Nat} {i3 : Int32} (hf : fRo_enter_34 kd k34 I x0 i1 x2 i3 = some q) {H : Heap} {locs : List Loc} {ls : Array Slot} (hw : ek_W G kd I H) (hS : va_S (ek_A G kd) s.heap H locs) (hl : lv_has ls 4 [(0, ek_r G x0), (1, .int i1), (2, ek_r G x2), (3, .int i3)]) : W p l e ({ frames := 1, cells := 0, slots := 0, locals := 22 } : Room) s m args below meth c H locs 0 0 (MQ below (ek_Q G kd (some (ek_r G q.2)) q.1) args s 0 0 (ek_A G kd)) (F0 m 34 ls []) := by
  obtain ⟨hx, hb, hml, hown, hts, hr, hlocks, hK⟩ := id X
  have hA : ∀ q, ek_A G kd q → ek_A G kd q := fun _ h => h
  unfold fRo_enter_34 at hf
  refine lv_iload_n hx hb dRo_enter_34 rfl (lv_at hl 3 rfl) ?_
  refine lv_if_le (tgt := 73) hx hb dRo_enter_35 (by decide) (fun c1 => ?_) (fun c1 => ?_)
  · have hf := ek_t c1 hf
    exact wRo_enter_73 X hf hw hS (lv_sub hl [0, 1, 2, 3] rfl)
  · have hf := ek_f c1 hf
    refine ek_aload_n hx hb dRo_enter_38 rfl (lv_at hl 0 rfl) ?_
    refine ek_getr hx hb 4 hts (in_Ro) hown hK hw rfl (by decide) (by decide) 0 (by decide) (n := 0) rfl rfl (hts _ q_136) hf dRo_enter_39 (fun hf => ?_)
    refine lv_iload_n hx hb dRo_enter_42 rfl (lv_at hl 3 rfl) ?_
    refine lv_iconst (v := (1 : Int32)) hx hb dRo_enter_43 (by decide) ?_
    refine lv_isub hx hb dRo_enter_44 ?_
    refine ek_aald hx hb hK hw hf dRo_enter_45 (fun hf => ?_)
    refine ek_getiN hx hb 6 hts (in_Ta) hown hK hw rfl (by decide) (by decide) 0 (by decide) rfl (va_Nw.use rfl (hK.2 _ n_72)) hf dRo_enter_46 (fun hf => ?_)
    refine lv_iload_n hx hb dRo_enter_49 rfl (lv_at hl 1 rfl) ?_
    refine lv_icmp_le (tgt := 73) hx hb dRo_enter_50 (by decide) (fun c2 => ?_) (fun c2 => ?_)
    · have hf := ek_t c2 hf
      exact wRo_enter_73 X hf hw hS (lv_sub hl [0, 1, 2, 3] rfl)
    · have hf := ek_f c2 hf
      refine ek_aload_n hx hb dRo_enter_53 rfl (lv_at hl 0 rfl) ?_
      refine ek_getr hx hb 4 hts (in_Ro) hown hK hw rfl (by decide) (by decide) 0 (by decide) (n := 0) rfl rfl (hts _ q_136) hf dRo_enter_54 (fun hf => ?_)
      refine lv_iload_n hx hb dRo_enter_57 rfl (lv_at hl 3 rfl) ?_
      refine ek_aload_n hx hb dRo_enter_58 rfl (lv_at hl 0 rfl) ?_
      refine ek_getr hx hb 4 hts (in_Ro) hown hK hw rfl (by decide) (by decide) 0 (by decide) (n := 0) rfl rfl (hts _ q_136) hf dRo_enter_59 (fun hf => ?_)
      refine lv_iload_n hx hb dRo_enter_62 rfl (lv_at hl 3 rfl) ?_
      refine lv_iconst (v := (1 : Int32)) hx hb dRo_enter_63 (by decide) ?_
      refine lv_isub hx hb dRo_enter_64 ?_
      refine ek_aald hx hb hK hw hf dRo_enter_65 (fun hf => ?_)
      refine ek_aast hx hb hK hw hS hA 6 rfl (by decide) (by decide) hf dRo_enter_66 (fun I3 H locs hf hw hS => ?_)
      refine ek_iinc hx hb 3 (fun i3_4 => [(3, .int i3_4), (2, ek_r G x2), (0, ek_r G x0), (1, .int i1)]) dRo_enter_67 hl rfl (v := i3 + (-1 : Int32)) rfl hf (by decide) (fun i3_4 => ek_s1k 2 rfl rfl ek_r_cat rfl rfl) (fun i3_4 ls hf hl => ?_)
      refine lv_goto (tgt := 34) hx hb dRo_enter_70 (by decide) ?_
      exact hk34 (I3, x0, i1, x2, i3_4) hf _ _ _ hw hS (lv_sub hl [2, 3, 1, 0] rfl)
set_option maxHeartbeats 4000000 in
set_option maxRecDepth 100000 in
theorem wRo_enter_34_lp {l : Launch} {G : ek_G} {kd : Nat → Nat} {p : Program} {e : Env} {s : State} {m : MethodId} {args : Array Value} {below : List Frame} {meth : Method} {c : Code} (X : ek_X p s m meth c args G prog_5_method_3_code 4 "ElasticKernel$Roster" (some (.object "ElasticKernel$Task"))) {q : ek_St × Nat} (n : Nat) : ∀ q0 : ek_St × Nat × Int32 × Nat × Int32, ek_lp (fun (k : (ek_St × Nat × Int32 × Nat × Int32) → Option (ek_St × Nat)) (q : (ek_St × Nat × Int32 × Nat × Int32)) => fRo_enter_34 kd k q.1 q.2.1 q.2.2.1 q.2.2.2.1 q.2.2.2.2) n q0 = some q → ∀ (H : Heap) (locs : List Loc) (ls : Array Slot), ek_W G kd q0.1 H → va_S (ek_A G kd) s.heap H locs → lv_has ls 4 [(0, ek_r G q0.2.1), (1, .int q0.2.2.1), (2, ek_r G q0.2.2.2.1), (3, .int q0.2.2.2.2)] → W p l e ({ frames := 1, cells := 0, slots := 0, locals := 22 } : Room) s m args below meth c H locs 0 0 (MQ below (ek_Q G kd (some (ek_r G q.2)) q.1) args s 0 0 (ek_A G kd)) (F0 m 34 ls []) :=
  ek_lp_ind (fun k hk q0 hf => fun H locs ls hw hS hl => wRo_enter_34 X hk hf hw hS hl) n
set_option maxHeartbeats 4000000 in
set_option maxRecDepth 100000 in
theorem wRo_enter_0 {l : Launch} {G : ek_G} {kd : Nat → Nat} {p : Program} {e : Env} {s : State} {m : MethodId} {args : Array Value} {below : List Frame} {meth : Method} {c : Code} (X : ek_X p s m meth c args G prog_5_method_3_code 4 "ElasticKernel$Roster" (some (.object "ElasticKernel$Task"))) {q : ek_St × Nat} {I : ek_St} {x0 : Nat} {i1 : Int32} (hf : fRo_enter_0 kd I x0 i1 = some q) {H : Heap} {locs : List Loc} {ls : Array Slot} (hw : ek_W G kd I H) (hS : va_S (ek_A G kd) s.heap H locs) (hl : lv_has ls 4 [(0, ek_r G x0), (1, .int i1)]) : W p l e ({ frames := 1, cells := 0, slots := 0, locals := 22 } : Room) s m args below meth c H locs 0 0 (MQ below (ek_Q G kd (some (ek_r G q.2)) q.1) args s 0 0 (ek_A G kd)) (F0 m 0 ls []) := by
  obtain ⟨hx, hb, hml, hown, hts, hr, hlocks, hK⟩ := id X
  have hA : ∀ q, ek_A G kd q → ek_A G kd q := fun _ h => h
  unfold fRo_enter_0 at hf
  refine ek_aload_n hx hb dRo_enter_0 rfl (lv_at hl 0 rfl) ?_
  refine ek_geti hx hb 4 hts (in_Ro) hown hK hw rfl (by decide) (by decide) 1 (by decide) rfl (hts _ q_139) hf dRo_enter_1 (fun hf => ?_)
  refine lv_bipush (v := (12 : Int32)) hx hb dRo_enter_4 (by decide) ?_
  refine lv_icmp_ge (tgt := 17) hx hb dRo_enter_6 (by decide) (fun c1 => ?_) (fun c1 => ?_)
  · have hf := ek_t c1 hf
    exact wRo_enter_17 X hf hw hS (lv_sub hl [] rfl)
  · have hf := ek_f c1 hf
    refine ek_aload_n hx hb dRo_enter_9 rfl (lv_at hl 0 rfl) ?_
    refine lv_iload_n hx hb dRo_enter_10 rfl (lv_at hl 1 rfl) ?_
    obtain ⟨hx3, hf⟩ := ek_ck_s hf
    refine ek_cr hf hS hA (fun I' v hq => ek_rV (As := [.int i1]) ⟨hx, hb, hml, hown, hts⟩ hK hw 4 rfl (by decide) (by decide) hx3 (mRo_find hq) (cwV 1 hts (lw_V q_232 q_233 q_234 q_2 q_235) rfl rfl rfl (by decide +kernel) ⟨Nat.le_of_ble_eq_true rfl, Nat.le_of_ble_eq_true rfl⟩) rfl hl.1 rfl (Nat.le_of_ble_eq_true rfl) dRo_enter_11 ⟨Nat.zero_le _, Nat.zero_le _⟩) (fun I2 xr4 H locs hf hw hS => ?_)
    refine ek_ifnull (tgt := 19) hx hb dRo_enter_14 (by decide) (fun c5 => ?_) (fun c5 => ?_)
    · have hf := ek_t c5 hf
      refine ek_aload_n hx hb dRo_enter_19 rfl (lv_at hl 0 rfl) ?_
      refine ek_getr hx hb 4 hts (in_Ro) hown hK hw rfl (by decide) (by decide) 0 (by decide) (n := 0) rfl rfl (hts _ q_136) hf dRo_enter_20 (fun hf => ?_)
      refine ek_aload_n hx hb dRo_enter_23 rfl (lv_at hl 0 rfl) ?_
      refine ek_geti hx hb 4 hts (in_Ro) hown hK hw rfl (by decide) (by decide) 1 (by decide) rfl (hts _ q_139) hf dRo_enter_24 (fun hf => ?_)
      refine ek_aald hx hb hK hw hf dRo_enter_27 (fun hf => ?_)
      refine ek_tr hf (fun x2_6 hf => ?_)
      refine ek_astore_n (lv' := [(2, ek_r G x2_6), (1, .int i1), (0, ek_r G x0)]) hx hb dRo_enter_28 rfl hl (by decide) (ek_s1k 1 rfl rfl rfl ek_r_cat rfl) (fun ls hl => ?_)
      refine ek_aload_n hx hb dRo_enter_29 rfl (lv_at hl 2 rfl) ?_
      refine ek_geti hx hb 4 hts (in_Ro) hown hK hw rfl (by decide) (by decide) 1 (by decide) rfl (hts _ q_139) hf dRo_enter_30 (fun hf => ?_)
      refine ek_ti hf (fun i3_7 hf => ?_)
      refine ek_istore_n (lv' := [(3, .int i3_7), (2, ek_r G x2_6), (1, .int i1), (0, ek_r G x0)]) hx hb dRo_enter_33 rfl hl (by decide) (ek_s1k 0 rfl rfl ek_r_cat rfl rfl) (fun ls hl => ?_)
      exact wRo_enter_34_lp X ek_N (I2, x0, i1, x2_6, i3_7) hf _ _ _ hw hS (lv_sub hl [3, 2, 1, 0] rfl)
    · have hf := ek_f c5 hf
      exact wRo_enter_17 X hf hw hS (lv_sub hl [] rfl)
set_option maxHeartbeats 4000000 in
set_option maxRecDepth 100000 in
theorem mRo_enter {l : Launch} {G : ek_G} {kd : Nat → Nat} {I : ek_St} {x0 : Nat} {i1 : Int32} {q : ek_St × Nat} (hf : fRo_enter kd I x0 i1 = some q) : ek_M l G kd y_Ro_enter (.code y_Ro_enter prog_5_method_3_code 4 (some (.object "ElasticKernel$Task")) :: lw_g) ({ frames := 1, cells := 0, slots := 0, locals := 22 } : Room) [ek_r G x0, .int i1] I (some (ek_r G q.2)) q.1 :=
  ek_body [(0, ek_r G x0), (1, .int i1)] (by decide) (by simp [lg_sl, ek_r_cat, ek_c_i, ek_c_l]) (by simp [lv_args, ek_r_cat, ek_c_i, ek_c_l]) (fun p e s m below meth c ls X hw hS hl => wRo_enter_0 X hf hw hS hl)
