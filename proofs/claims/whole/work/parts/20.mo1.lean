/-! ElasticKernelModel.thrown()I -/
def fMo_thrown_0 (kd : Nat → Nat) (I : ek_St) (x0 : Nat) : Option (ek_St × Int32) :=
  ek_ck (kd x0 = 8) (some (I, I x0 0))
def fMo_thrown (kd : Nat → Nat) (I : ek_St) (x0 : Nat) : Option (ek_St × Int32) := fMo_thrown_0 kd I x0
theorem dMo_thrown_0 : decode prog_9_method_2_code 0 = .ok (.aload_n 0, 1) := by decide +kernel
theorem dMo_thrown_1 : decode prog_9_method_2_code 1 = .ok (.getfield 70, 3) := by decide +kernel
theorem dMo_thrown_4 : decode prog_9_method_2_code 4 = .ok (.ireturn, 1) := by decide +kernel
set_option maxHeartbeats 4000000 in
set_option maxRecDepth 100000 in
theorem wMo_thrown_0 {l : Launch} {G : ek_G} {kd : Nat → Nat} {p : Program} {e : Env} {s : State} {m : MethodId} {args : Array Value} {below : List Frame} {meth : Method} {c : Code} (X : ek_X p s m meth c args G prog_9_method_2_code 1 "ElasticKernelModel" (some .int)) {q : ek_St × Int32} {I : ek_St} {x0 : Nat} (hf : fMo_thrown_0 kd I x0 = some q) {H : Heap} {locs : List Loc} {ls : Array Slot} (hw : ek_W G kd I H) (hS : va_S (ek_A G kd) s.heap H locs) (hl : lv_has ls 1 [(0, ek_r G x0)]) : W p l e ({ frames := 0, cells := 0, slots := 0, locals := 0 } : Room) s m args below meth c H locs 0 0 (MQ below (ek_Q G kd (some (.int q.2)) q.1) args s 0 0 (ek_A G kd)) (F0 m 0 ls []) := by
  obtain ⟨hx, hb, hml, hown, hts, hr, hlocks, hK⟩ := id X
  have hA : ∀ q, ek_A G kd q → ek_A G kd q := fun _ h => h
  unfold fMo_thrown_0 at hf
  refine ek_aload_n hx hb dMo_thrown_0 rfl (lv_at hl 0 rfl) ?_
  refine ek_geti hx hb 8 hts (in_Mo) hown hK hw rfl (by decide) (by decide) 0 (by decide) rfl (hts _ q_576) hf dMo_thrown_1 (fun hf => ?_)
  exact ek_iret hx hb hr hlocks hw hS hf dMo_thrown_4
set_option maxHeartbeats 4000000 in
set_option maxRecDepth 100000 in
theorem mMo_thrown {l : Launch} {G : ek_G} {kd : Nat → Nat} {I : ek_St} {x0 : Nat} {q : ek_St × Int32} (hf : fMo_thrown kd I x0 = some q) : ek_M l G kd y_Mo_thrown (.code y_Mo_thrown prog_9_method_2_code 1 (some .int) :: lw_g) ({ frames := 0, cells := 0, slots := 0, locals := 0 } : Room) [ek_r G x0] I (some (.int q.2)) q.1 :=
  ek_body [(0, ek_r G x0)] (by decide) (by simp [lg_sl, ek_r_cat, ek_c_i, ek_c_l]) (by simp [lv_args, ek_r_cat, ek_c_i, ek_c_l]) (fun p e s m below meth c ls X hw hS hl => wMo_thrown_0 X hf hw hS hl)
/-! ElasticKernelModel.be(IJ)V -/
def fMo_be_43 (kd : Nat → Nat) (k3 : (ek_St × Nat × Int32 × Int64 × Int32) → Option (ek_St)) (I : ek_St) (x0 : Nat) (i1 : Int32) (j2 : Int64) (i4 : Int32) (t0 : Nat) (t1 : Int32) (t2 : Int32) : Option (ek_St) :=
  ek_ck (kd t0 = 964) (ek_ck (ek_in t1 864) (ek_let (ek_up I t0 t1.toNatClampNeg t2) (fun I1 => ek_let (i4 + (1 : Int32)) (fun i4_2 => k3 (I1, x0, i1, j2, i4_2)))))
def fMo_be_3 (kd : Nat → Nat) (k3 : (ek_St × Nat × Int32 × Int64 × Int32) → Option (ek_St)) (I : ek_St) (x0 : Nat) (i1 : Int32) (j2 : Int64) (i4 : Int32) : Option (ek_St) :=
  if ((24 : Int32)) ≤ i4 then (some I) else (ek_ck (kd x0 = 8) (if i4 ≤ ((2 : Int32)) then (fMo_be_43 kd k3 I x0 i1 j2 i4 (x0 + 16) ((((24 : Int32)) * i1) + i4) (Int64.toInt32 ((j2 >>> (Int32.toInt64 (((24 : Int32)) * i4) &&& 63)) &&& ((16777215 : Int64))))) else (fMo_be_43 kd k3 I x0 i1 j2 i4 (x0 + 16) ((((24 : Int32)) * i1) + i4) ((0 : Int32)))))
def fMo_be_0 (kd : Nat → Nat) (I : ek_St) (x0 : Nat) (i1 : Int32) (j2 : Int64) : Option (ek_St) :=
  ek_lp (fun (k : (ek_St × Nat × Int32 × Int64 × Int32) → Option (ek_St)) (q : (ek_St × Nat × Int32 × Int64 × Int32)) => fMo_be_3 kd k q.1 q.2.1 q.2.2.1 q.2.2.2.1 q.2.2.2.2) ek_N (I, x0, i1, j2, (0 : Int32))
def fMo_be (kd : Nat → Nat) (I : ek_St) (x0 : Nat) (i1 : Int32) (j2 : Int64) : Option (ek_St) := fMo_be_0 kd I x0 i1 j2
theorem dMo_be_0 : decode prog_9_method_3_code 0 = .ok (.iconst 0, 1) := by decide +kernel
theorem dMo_be_1 : decode prog_9_method_3_code 1 = .ok (.istore 4, 2) := by decide +kernel
theorem dMo_be_3 : decode prog_9_method_3_code 3 = .ok (.iload 4, 2) := by decide +kernel
theorem dMo_be_5 : decode prog_9_method_3_code 5 = .ok (.bipush 24, 2) := by decide +kernel
theorem dMo_be_7 : decode prog_9_method_3_code 7 = .ok (.if_icmp .ge 43, 3) := by decide +kernel
theorem dMo_be_10 : decode prog_9_method_3_code 10 = .ok (.aload_n 0, 1) := by decide +kernel
theorem dMo_be_11 : decode prog_9_method_3_code 11 = .ok (.getfield 60, 3) := by decide +kernel
theorem dMo_be_14 : decode prog_9_method_3_code 14 = .ok (.bipush 24, 2) := by decide +kernel
theorem dMo_be_16 : decode prog_9_method_3_code 16 = .ok (.iload_n 1, 1) := by decide +kernel
theorem dMo_be_17 : decode prog_9_method_3_code 17 = .ok (.imul, 1) := by decide +kernel
theorem dMo_be_18 : decode prog_9_method_3_code 18 = .ok (.iload 4, 2) := by decide +kernel
theorem dMo_be_20 : decode prog_9_method_3_code 20 = .ok (.iadd, 1) := by decide +kernel
theorem dMo_be_21 : decode prog_9_method_3_code 21 = .ok (.iload 4, 2) := by decide +kernel
theorem dMo_be_23 : decode prog_9_method_3_code 23 = .ok (.iconst 2, 1) := by decide +kernel
theorem dMo_be_24 : decode prog_9_method_3_code 24 = .ok (.if_icmp .le 7, 3) := by decide +kernel
theorem dMo_be_27 : decode prog_9_method_3_code 27 = .ok (.iconst 0, 1) := by decide +kernel
theorem dMo_be_28 : decode prog_9_method_3_code 28 = .ok (.goto 15, 3) := by decide +kernel
theorem dMo_be_31 : decode prog_9_method_3_code 31 = .ok (.lload_n 2, 1) := by decide +kernel
theorem dMo_be_32 : decode prog_9_method_3_code 32 = .ok (.bipush 24, 2) := by decide +kernel
theorem dMo_be_34 : decode prog_9_method_3_code 34 = .ok (.iload 4, 2) := by decide +kernel
theorem dMo_be_36 : decode prog_9_method_3_code 36 = .ok (.imul, 1) := by decide +kernel
theorem dMo_be_37 : decode prog_9_method_3_code 37 = .ok (.lshr, 1) := by decide +kernel
theorem dMo_be_38 : decode prog_9_method_3_code 38 = .ok (.ldc2_w 73, 3) := by decide +kernel
theorem dMo_be_41 : decode prog_9_method_3_code 41 = .ok (.land, 1) := by decide +kernel
theorem dMo_be_42 : decode prog_9_method_3_code 42 = .ok (.l2i, 1) := by decide +kernel
theorem dMo_be_43 : decode prog_9_method_3_code 43 = .ok (.iastore, 1) := by decide +kernel
theorem dMo_be_44 : decode prog_9_method_3_code 44 = .ok (.iinc 4 1, 3) := by decide +kernel
theorem dMo_be_47 : decode prog_9_method_3_code 47 = .ok (.goto (-44), 3) := by decide +kernel
theorem dMo_be_50 : decode prog_9_method_3_code 50 = .ok (.return_, 1) := by decide +kernel
set_option maxHeartbeats 4000000 in
set_option maxRecDepth 100000 in
theorem wMo_be_43 {l : Launch} {G : ek_G} {kd : Nat → Nat} {p : Program} {e : Env} {s : State} {m : MethodId} {args : Array Value} {below : List Frame} {meth : Method} {c : Code} (X : ek_X p s m meth c args G prog_9_method_3_code 5 "ElasticKernelModel" none) {q : ek_St} {k3 : (ek_St × Nat × Int32 × Int64 × Int32) → Option (ek_St)} (hk3 : ∀ q0 : ek_St × Nat × Int32 × Int64 × Int32, k3 q0 = some q → ∀ (H : Heap) (locs : List Loc) (ls : Array Slot), ek_W G kd q0.1 H → va_S (ek_A G kd) s.heap H locs → lv_has ls 5 [(0, ek_r G q0.2.1), (1, .int q0.2.2.1), (2, .long q0.2.2.2.1), (4, .int q0.2.2.2.2)] → W p l e ({ frames := 0, cells := 0, slots := 0, locals := 0 } : Room) s m args below meth c H locs 0 0 (MQ below (ek_Q G kd none q) args s 0 0 (ek_A G kd)) (F0 m 3 ls [])) {I : ek_St} {x0 : Nat} {i1 : Int32} {j2 : Int64} {i4 : Int32} {t0 : Nat} {t1 : Int32} {t2 : Int32} (hf : fMo_be_43 kd k3 I x0 i1 j2 i4 t0 t1 t2 = some q) {H : Heap} {locs : List Loc} {ls : Array Slot} (hw : ek_W G kd I H) (hS : va_S (ek_A G kd) s.heap H locs) (hl : lv_has ls 5 [(0, ek_r G x0), (1, .int i1), (2, .long j2), (4, .int i4)]) : W p l e ({ frames := 0, cells := 0, slots := 0, locals := 0 } : Room) s m args below meth c H locs 0 0 (MQ below (ek_Q G kd none q) args s 0 0 (ek_A G kd)) (F0 m 43 ls [.int t2, .int t1, ek_r G t0]) := by
  obtain ⟨hx, hb, hml, hown, hts, hr, hlocks, hK⟩ := id X
  have hA : ∀ q, ek_A G kd q → ek_A G kd q := fun _ h => h
  unfold fMo_be_43 at hf
  refine ek_iast hx hb hK hw hS hA 864 rfl hf dMo_be_43 (fun I1 H locs hf hw hS => ?_)
  refine ek_iinc hx hb 3 (fun i4_2 => [(4, .int i4_2), (0, ek_r G x0), (1, .int i1), (2, .long j2)]) dMo_be_44 hl rfl (v := i4 + (1 : Int32)) rfl hf (by decide) (fun i4_2 => ek_s1 rfl rfl) (fun i4_2 ls hf hl => ?_)
  refine lv_goto (tgt := 3) hx hb dMo_be_47 (by decide) ?_
  exact hk3 (I1, x0, i1, j2, i4_2) hf _ _ _ hw hS (lv_sub hl [1, 2, 3, 0] rfl)
set_option maxHeartbeats 4000000 in
set_option maxRecDepth 100000 in
theorem wMo_be_3 {l : Launch} {G : ek_G} {kd : Nat → Nat} {p : Program} {e : Env} {s : State} {m : MethodId} {args : Array Value} {below : List Frame} {meth : Method} {c : Code} (X : ek_X p s m meth c args G prog_9_method_3_code 5 "ElasticKernelModel" none) {q : ek_St} {k3 : (ek_St × Nat × Int32 × Int64 × Int32) → Option (ek_St)} (hk3 : ∀ q0 : ek_St × Nat × Int32 × Int64 × Int32, k3 q0 = some q → ∀ (H : Heap) (locs : List Loc) (ls : Array Slot), ek_W G kd q0.1 H → va_S (ek_A G kd) s.heap H locs → lv_has ls 5 [(0, ek_r G q0.2.1), (1, .int q0.2.2.1), (2, .long q0.2.2.2.1), (4, .int q0.2.2.2.2)] → W p l e ({ frames := 0, cells := 0, slots := 0, locals := 0 } : Room) s m args below meth c H locs 0 0 (MQ below (ek_Q G kd none q) args s 0 0 (ek_A G kd)) (F0 m 3 ls [])) {I : ek_St} {x0 : Nat} {i1 : Int32} {j2 : Int64} {i4 : Int32} (hf : fMo_be_3 kd k3 I x0 i1 j2 i4 = some q) {H : Heap} {locs : List Loc} {ls : Array Slot} (hw : ek_W G kd I H) (hS : va_S (ek_A G kd) s.heap H locs) (hl : lv_has ls 5 [(0, ek_r G x0), (1, .int i1), (2, .long j2), (4, .int i4)]) : W p l e ({ frames := 0, cells := 0, slots := 0, locals := 0 } : Room) s m args below meth c H locs 0 0 (MQ below (ek_Q G kd none q) args s 0 0 (ek_A G kd)) (F0 m 3 ls []) := by
  obtain ⟨hx, hb, hml, hown, hts, hr, hlocks, hK⟩ := id X
  have hA : ∀ q, ek_A G kd q → ek_A G kd q := fun _ h => h
  unfold fMo_be_3 at hf
  refine lv_iload hx hb dMo_be_3 (lv_at hl 3 rfl) ?_
  refine lv_bipush (v := (24 : Int32)) hx hb dMo_be_5 (by decide) ?_
  refine lv_icmp_ge (tgt := 50) hx hb dMo_be_7 (by decide) (fun c1 => ?_) (fun c1 => ?_)
  · have hf := ek_t c1 hf
    exact ek_vret hx hb hr hlocks hw hS hf dMo_be_50
  · have hf := ek_f c1 hf
    refine ek_aload_n hx hb dMo_be_10 rfl (lv_at hl 0 rfl) ?_
    refine ek_getr hx hb 8 hts (in_Mo) hown hK hw rfl (by decide) (by decide) 23 (by decide) (n := 15) rfl rfl (hts _ q_599) hf dMo_be_11 (fun hf => ?_)
    refine lv_bipush (v := (24 : Int32)) hx hb dMo_be_14 (by decide) ?_
    refine lv_iload_n hx hb dMo_be_16 rfl (lv_at hl 1 rfl) ?_
    refine lv_imul hx hb dMo_be_17 ?_
    refine lv_iload hx hb dMo_be_18 (lv_at hl 3 rfl) ?_
    refine lv_iadd hx hb dMo_be_20 ?_
    refine lv_iload hx hb dMo_be_21 (lv_at hl 3 rfl) ?_
    refine lv_iconst (v := (2 : Int32)) hx hb dMo_be_23 (by decide) ?_
    refine lv_icmp_le (tgt := 31) hx hb dMo_be_24 (by decide) (fun c2 => ?_) (fun c2 => ?_)
    · have hf := ek_t c2 hf
      refine lv_lload_n hx hb dMo_be_31 rfl (lv_at hl 2 rfl) ?_
      refine lv_bipush (v := (24 : Int32)) hx hb dMo_be_32 (by decide) ?_
      refine lv_iload hx hb dMo_be_34 (lv_at hl 3 rfl) ?_
      refine lv_imul hx hb dMo_be_36 ?_
      refine lv_lshr hx hb dMo_be_37 rfl ?_
      refine lv_ldc2 hx hb hown (hts _ q_575) dMo_be_38 ?_
      refine lv_land hx hb dMo_be_41 ?_
      refine lv_l2i hx hb dMo_be_42 rfl ?_
      exact wMo_be_43 X hk3 hf hw hS (lv_sub hl [0, 1, 2, 3] rfl)
    · have hf := ek_f c2 hf
      refine lv_iconst (v := (0 : Int32)) hx hb dMo_be_27 (by decide) ?_
      refine lv_goto (tgt := 43) hx hb dMo_be_28 (by decide) ?_
      exact wMo_be_43 X hk3 hf hw hS (lv_sub hl [0, 1, 2, 3] rfl)
set_option maxHeartbeats 4000000 in
set_option maxRecDepth 100000 in
theorem wMo_be_3_lp {l : Launch} {G : ek_G} {kd : Nat → Nat} {p : Program} {e : Env} {s : State} {m : MethodId} {args : Array Value} {below : List Frame} {meth : Method} {c : Code} (X : ek_X p s m meth c args G prog_9_method_3_code 5 "ElasticKernelModel" none) {q : ek_St} (n : Nat) : ∀ q0 : ek_St × Nat × Int32 × Int64 × Int32, ek_lp (fun (k : (ek_St × Nat × Int32 × Int64 × Int32) → Option (ek_St)) (q : (ek_St × Nat × Int32 × Int64 × Int32)) => fMo_be_3 kd k q.1 q.2.1 q.2.2.1 q.2.2.2.1 q.2.2.2.2) n q0 = some q → ∀ (H : Heap) (locs : List Loc) (ls : Array Slot), ek_W G kd q0.1 H → va_S (ek_A G kd) s.heap H locs → lv_has ls 5 [(0, ek_r G q0.2.1), (1, .int q0.2.2.1), (2, .long q0.2.2.2.1), (4, .int q0.2.2.2.2)] → W p l e ({ frames := 0, cells := 0, slots := 0, locals := 0 } : Room) s m args below meth c H locs 0 0 (MQ below (ek_Q G kd none q) args s 0 0 (ek_A G kd)) (F0 m 3 ls []) :=
  ek_lp_ind (fun k hk q0 hf => fun H locs ls hw hS hl => wMo_be_3 X hk hf hw hS hl) n
set_option maxHeartbeats 4000000 in
set_option maxRecDepth 100000 in
theorem wMo_be_0 {l : Launch} {G : ek_G} {kd : Nat → Nat} {p : Program} {e : Env} {s : State} {m : MethodId} {args : Array Value} {below : List Frame} {meth : Method} {c : Code} (X : ek_X p s m meth c args G prog_9_method_3_code 5 "ElasticKernelModel" none) {q : ek_St} {I : ek_St} {x0 : Nat} {i1 : Int32} {j2 : Int64} (hf : fMo_be_0 kd I x0 i1 j2 = some q) {H : Heap} {locs : List Loc} {ls : Array Slot} (hw : ek_W G kd I H) (hS : va_S (ek_A G kd) s.heap H locs) (hl : lv_has ls 5 [(0, ek_r G x0), (1, .int i1), (2, .long j2)]) : W p l e ({ frames := 0, cells := 0, slots := 0, locals := 0 } : Room) s m args below meth c H locs 0 0 (MQ below (ek_Q G kd none q) args s 0 0 (ek_A G kd)) (F0 m 0 ls []) := by
  obtain ⟨hx, hb, hml, hown, hts, hr, hlocks, hK⟩ := id X
  have hA : ∀ q, ek_A G kd q → ek_A G kd q := fun _ h => h
  unfold fMo_be_0 at hf
  refine lv_iconst (v := (0 : Int32)) hx hb dMo_be_0 (by decide) ?_
  refine ek_istore (lv' := [(4, .int ((0 : Int32))), (0, ek_r G x0), (1, .int i1), (2, .long j2)]) hx hb dMo_be_1 hl (by decide) (ek_s1 rfl rfl) (fun ls hl => ?_)
  exact wMo_be_3_lp X ek_N (I, x0, i1, j2, (0 : Int32)) hf _ _ _ hw hS (lv_sub hl [1, 2, 3, 0] rfl)
set_option maxHeartbeats 4000000 in
set_option maxRecDepth 100000 in
theorem mMo_be {l : Launch} {G : ek_G} {kd : Nat → Nat} {I : ek_St} {x0 : Nat} {i1 : Int32} {j2 : Int64} {q : ek_St} (hf : fMo_be kd I x0 i1 j2 = some q) : ek_M l G kd y_Mo_be (.code y_Mo_be prog_9_method_3_code 5 none :: lw_g) ({ frames := 0, cells := 0, slots := 0, locals := 0 } : Room) [ek_r G x0, .int i1, .long j2] I none q :=
  ek_body [(0, ek_r G x0), (1, .int i1), (2, .long j2)] (by decide) (by simp [lg_sl, ek_r_cat, ek_c_i, ek_c_l]) (by simp [lv_args, ek_r_cat, ek_c_i, ek_c_l]) (fun p e s m below meth c ls X hw hS hl => wMo_be_0 X hf hw hS hl)
/-! ElasticKernelModel.copy(II)V -/
def fMo_copy_2 (kd : Nat → Nat) (k2 : (ek_St × Nat × Int32 × Int32 × Int32) → Option (ek_St)) (I : ek_St) (x0 : Nat) (i1 : Int32) (i2 : Int32) (i3 : Int32) : Option (ek_St) :=
  if ((24 : Int32)) ≤ i3 then (some I) else (ek_ck (kd x0 = 8) (ek_ck (kd x0 = 8) (ek_ck (kd (x0 + 16) = 964) (ek_ck (ek_in ((((24 : Int32)) * i2) + i3) 864) (ek_ck (kd (x0 + 16) = 964) (ek_ck (ek_in ((((24 : Int32)) * i1) + i3) 864) (ek_let (ek_up I (x0 + 16) ((((24 : Int32)) * i1) + i3).toNatClampNeg (I (x0 + 16) ((((24 : Int32)) * i2) + i3).toNatClampNeg)) (fun I2 => ek_let (i3 + (1 : Int32)) (fun i3_3 => k2 (I2, x0, i1, i2, i3_3))))))))))
def fMo_copy_0 (kd : Nat → Nat) (I : ek_St) (x0 : Nat) (i1 : Int32) (i2 : Int32) : Option (ek_St) :=
  ek_lp (fun (k : (ek_St × Nat × Int32 × Int32 × Int32) → Option (ek_St)) (q : (ek_St × Nat × Int32 × Int32 × Int32)) => fMo_copy_2 kd k q.1 q.2.1 q.2.2.1 q.2.2.2.1 q.2.2.2.2) ek_N (I, x0, i1, i2, (0 : Int32))
def fMo_copy (kd : Nat → Nat) (I : ek_St) (x0 : Nat) (i1 : Int32) (i2 : Int32) : Option (ek_St) := fMo_copy_0 kd I x0 i1 i2
theorem dMo_copy_0 : decode prog_9_method_4_code 0 = .ok (.iconst 0, 1) := by decide +kernel
theorem dMo_copy_1 : decode prog_9_method_4_code 1 = .ok (.istore_n 3, 1) := by decide +kernel
theorem dMo_copy_2 : decode prog_9_method_4_code 2 = .ok (.iload_n 3, 1) := by decide +kernel
theorem dMo_copy_3 : decode prog_9_method_4_code 3 = .ok (.bipush 24, 2) := by decide +kernel
theorem dMo_copy_5 : decode prog_9_method_4_code 5 = .ok (.if_icmp .ge 31, 3) := by decide +kernel
theorem dMo_copy_8 : decode prog_9_method_4_code 8 = .ok (.aload_n 0, 1) := by decide +kernel
theorem dMo_copy_9 : decode prog_9_method_4_code 9 = .ok (.getfield 60, 3) := by decide +kernel
theorem dMo_copy_12 : decode prog_9_method_4_code 12 = .ok (.bipush 24, 2) := by decide +kernel
theorem dMo_copy_14 : decode prog_9_method_4_code 14 = .ok (.iload_n 1, 1) := by decide +kernel
theorem dMo_copy_15 : decode prog_9_method_4_code 15 = .ok (.imul, 1) := by decide +kernel
theorem dMo_copy_16 : decode prog_9_method_4_code 16 = .ok (.iload_n 3, 1) := by decide +kernel
theorem dMo_copy_17 : decode prog_9_method_4_code 17 = .ok (.iadd, 1) := by decide +kernel
theorem dMo_copy_18 : decode prog_9_method_4_code 18 = .ok (.aload_n 0, 1) := by decide +kernel
theorem dMo_copy_19 : decode prog_9_method_4_code 19 = .ok (.getfield 60, 3) := by decide +kernel
theorem dMo_copy_22 : decode prog_9_method_4_code 22 = .ok (.bipush 24, 2) := by decide +kernel
theorem dMo_copy_24 : decode prog_9_method_4_code 24 = .ok (.iload_n 2, 1) := by decide +kernel
theorem dMo_copy_25 : decode prog_9_method_4_code 25 = .ok (.imul, 1) := by decide +kernel
theorem dMo_copy_26 : decode prog_9_method_4_code 26 = .ok (.iload_n 3, 1) := by decide +kernel
theorem dMo_copy_27 : decode prog_9_method_4_code 27 = .ok (.iadd, 1) := by decide +kernel
theorem dMo_copy_28 : decode prog_9_method_4_code 28 = .ok (.iaload, 1) := by decide +kernel
theorem dMo_copy_29 : decode prog_9_method_4_code 29 = .ok (.iastore, 1) := by decide +kernel
theorem dMo_copy_30 : decode prog_9_method_4_code 30 = .ok (.iinc 3 1, 3) := by decide +kernel
theorem dMo_copy_33 : decode prog_9_method_4_code 33 = .ok (.goto (-31), 3) := by decide +kernel
theorem dMo_copy_36 : decode prog_9_method_4_code 36 = .ok (.return_, 1) := by decide +kernel
set_option maxHeartbeats 4000000 in
set_option maxRecDepth 100000 in
theorem wMo_copy_2 {l : Launch} {G : ek_G} {kd : Nat → Nat} {p : Program} {e : Env} {s : State} {m : MethodId} {args : Array Value} {below : List Frame} {meth : Method} {c : Code} (X : ek_X p s m meth c args G prog_9_method_4_code 4 "ElasticKernelModel" none) {q : ek_St} {k2 : (ek_St × Nat × Int32 × Int32 × Int32) → Option (ek_St)} (hk2 : ∀ q0 : ek_St × Nat × Int32 × Int32 × Int32, k2 q0 = some q → ∀ (H : Heap) (locs : List Loc) (ls : Array Slot), ek_W G kd q0.1 H → va_S (ek_A G kd) s.heap H locs → lv_has ls 4 [(0, ek_r G q0.2.1), (1, .int q0.2.2.1), (2, .int q0.2.2.2.1), (3, .int q0.2.2.2.2)] → W p l e ({ frames := 0, cells := 0, slots := 0, locals := 0 } : Room) s m args below meth c H locs 0 0 (MQ below (ek_Q G kd none q) args s 0 0 (ek_A G kd)) (F0 m 2 ls [])) {I : ek_St} {x0 : Nat} {i1 : Int32} {i2 : Int32} {i3 : Int32} (hf : fMo_copy_2 kd k2 I x0 i1 i2 i3 = some q) {H : Heap} {locs : List Loc} {ls : Array Slot} (hw : ek_W G kd I H) (hS : va_S (ek_A G kd) s.heap H locs) (hl : lv_has ls 4 [(0, ek_r G x0), (1, .int i1), (2, .int i2), (3, .int i3)]) : W p l e ({ frames := 0, cells := 0, slots := 0, locals := 0 } : Room) s m args below meth c H locs 0 0 (MQ below (ek_Q G kd none q) args s 0 0 (ek_A G kd)) (F0 m 2 ls []) := by
  obtain ⟨hx, hb, hml, hown, hts, hr, hlocks, hK⟩ := id X
  have hA : ∀ q, ek_A G kd q → ek_A G kd q := fun _ h => h
  unfold fMo_copy_2 at hf
  refine lv_iload_n hx hb dMo_copy_2 rfl (lv_at hl 3 rfl) ?_
  refine lv_bipush (v := (24 : Int32)) hx hb dMo_copy_3 (by decide) ?_
  refine lv_icmp_ge (tgt := 36) hx hb dMo_copy_5 (by decide) (fun c1 => ?_) (fun c1 => ?_)
  · have hf := ek_t c1 hf
    exact ek_vret hx hb hr hlocks hw hS hf dMo_copy_36
  · have hf := ek_f c1 hf
    refine ek_aload_n hx hb dMo_copy_8 rfl (lv_at hl 0 rfl) ?_
    refine ek_getr hx hb 8 hts (in_Mo) hown hK hw rfl (by decide) (by decide) 23 (by decide) (n := 15) rfl rfl (hts _ q_599) hf dMo_copy_9 (fun hf => ?_)
    refine lv_bipush (v := (24 : Int32)) hx hb dMo_copy_12 (by decide) ?_
    refine lv_iload_n hx hb dMo_copy_14 rfl (lv_at hl 1 rfl) ?_
    refine lv_imul hx hb dMo_copy_15 ?_
    refine lv_iload_n hx hb dMo_copy_16 rfl (lv_at hl 3 rfl) ?_
    refine lv_iadd hx hb dMo_copy_17 ?_
    refine ek_aload_n hx hb dMo_copy_18 rfl (lv_at hl 0 rfl) ?_
    refine ek_getr hx hb 8 hts (in_Mo) hown hK hw rfl (by decide) (by decide) 23 (by decide) (n := 15) rfl rfl (hts _ q_599) hf dMo_copy_19 (fun hf => ?_)
    refine lv_bipush (v := (24 : Int32)) hx hb dMo_copy_22 (by decide) ?_
    refine lv_iload_n hx hb dMo_copy_24 rfl (lv_at hl 2 rfl) ?_
    refine lv_imul hx hb dMo_copy_25 ?_
    refine lv_iload_n hx hb dMo_copy_26 rfl (lv_at hl 3 rfl) ?_
    refine lv_iadd hx hb dMo_copy_27 ?_
    refine ek_iald hx hb hK hw 864 rfl hf dMo_copy_28 (fun hf => ?_)
    refine ek_iast hx hb hK hw hS hA 864 rfl hf dMo_copy_29 (fun I2 H locs hf hw hS => ?_)
    refine ek_iinc hx hb 3 (fun i3_3 => [(3, .int i3_3), (2, .int i2), (0, ek_r G x0), (1, .int i1)]) dMo_copy_30 hl rfl (v := i3 + (1 : Int32)) rfl hf (by decide) (fun i3_3 => ek_s1k 2 rfl rfl rfl rfl rfl) (fun i3_3 ls hf hl => ?_)
    refine lv_goto (tgt := 2) hx hb dMo_copy_33 (by decide) ?_
    exact hk2 (I2, x0, i1, i2, i3_3) hf _ _ _ hw hS (lv_sub hl [2, 3, 1, 0] rfl)
set_option maxHeartbeats 4000000 in
set_option maxRecDepth 100000 in
theorem wMo_copy_2_lp {l : Launch} {G : ek_G} {kd : Nat → Nat} {p : Program} {e : Env} {s : State} {m : MethodId} {args : Array Value} {below : List Frame} {meth : Method} {c : Code} (X : ek_X p s m meth c args G prog_9_method_4_code 4 "ElasticKernelModel" none) {q : ek_St} (n : Nat) : ∀ q0 : ek_St × Nat × Int32 × Int32 × Int32, ek_lp (fun (k : (ek_St × Nat × Int32 × Int32 × Int32) → Option (ek_St)) (q : (ek_St × Nat × Int32 × Int32 × Int32)) => fMo_copy_2 kd k q.1 q.2.1 q.2.2.1 q.2.2.2.1 q.2.2.2.2) n q0 = some q → ∀ (H : Heap) (locs : List Loc) (ls : Array Slot), ek_W G kd q0.1 H → va_S (ek_A G kd) s.heap H locs → lv_has ls 4 [(0, ek_r G q0.2.1), (1, .int q0.2.2.1), (2, .int q0.2.2.2.1), (3, .int q0.2.2.2.2)] → W p l e ({ frames := 0, cells := 0, slots := 0, locals := 0 } : Room) s m args below meth c H locs 0 0 (MQ below (ek_Q G kd none q) args s 0 0 (ek_A G kd)) (F0 m 2 ls []) :=
  ek_lp_ind (fun k hk q0 hf => fun H locs ls hw hS hl => wMo_copy_2 X hk hf hw hS hl) n
set_option maxHeartbeats 4000000 in
set_option maxRecDepth 100000 in
theorem wMo_copy_0 {l : Launch} {G : ek_G} {kd : Nat → Nat} {p : Program} {e : Env} {s : State} {m : MethodId} {args : Array Value} {below : List Frame} {meth : Method} {c : Code} (X : ek_X p s m meth c args G prog_9_method_4_code 4 "ElasticKernelModel" none) {q : ek_St} {I : ek_St} {x0 : Nat} {i1 : Int32} {i2 : Int32} (hf : fMo_copy_0 kd I x0 i1 i2 = some q) {H : Heap} {locs : List Loc} {ls : Array Slot} (hw : ek_W G kd I H) (hS : va_S (ek_A G kd) s.heap H locs) (hl : lv_has ls 4 [(0, ek_r G x0), (1, .int i1), (2, .int i2)]) : W p l e ({ frames := 0, cells := 0, slots := 0, locals := 0 } : Room) s m args below meth c H locs 0 0 (MQ below (ek_Q G kd none q) args s 0 0 (ek_A G kd)) (F0 m 0 ls []) := by
  obtain ⟨hx, hb, hml, hown, hts, hr, hlocks, hK⟩ := id X
  have hA : ∀ q, ek_A G kd q → ek_A G kd q := fun _ h => h
  unfold fMo_copy_0 at hf
  refine lv_iconst (v := (0 : Int32)) hx hb dMo_copy_0 (by decide) ?_
  refine ek_istore_n (lv' := [(3, .int ((0 : Int32))), (2, .int i2), (0, ek_r G x0), (1, .int i1)]) hx hb dMo_copy_1 rfl hl (by decide) (ek_s1k 2 rfl rfl rfl rfl rfl) (fun ls hl => ?_)
  exact wMo_copy_2_lp X ek_N (I, x0, i1, i2, (0 : Int32)) hf _ _ _ hw hS (lv_sub hl [2, 3, 1, 0] rfl)
set_option maxHeartbeats 4000000 in
set_option maxRecDepth 100000 in
theorem mMo_copy {l : Launch} {G : ek_G} {kd : Nat → Nat} {I : ek_St} {x0 : Nat} {i1 : Int32} {i2 : Int32} {q : ek_St} (hf : fMo_copy kd I x0 i1 i2 = some q) : ek_M l G kd y_Mo_copy (.code y_Mo_copy prog_9_method_4_code 4 none :: lw_g) ({ frames := 0, cells := 0, slots := 0, locals := 0 } : Room) [ek_r G x0, .int i1, .int i2] I none q :=
  ek_body [(0, ek_r G x0), (1, .int i1), (2, .int i2)] (by decide) (by simp [lg_sl, ek_r_cat, ek_c_i, ek_c_l]) (by simp [lv_args, ek_r_cat, ek_c_i, ek_c_l]) (fun p e s m below meth c ls X hw hS hl => wMo_copy_0 X hf hw hS hl)
/-! ElasticKernelModel.compare(II)I -/
def fMo_compare_3 (kd : Nat → Nat) (k3 : (ek_St × Nat × Int32 × Int32 × Int32) → Option (ek_St × Int32)) (I : ek_St) (x0 : Nat) (i1 : Int32) (i2 : Int32) (i3 : Int32) : Option (ek_St × Int32) :=
  if i3 < ((0 : Int32)) then (some (I, (0 : Int32))) else (ek_ck (kd x0 = 8) (ek_ck (kd (x0 + 16) = 964) (ek_ck (ek_in ((((24 : Int32)) * i1) + i3) 864) (ek_ck (kd x0 = 8) (ek_ck (kd (x0 + 16) = 964) (ek_ck (ek_in ((((24 : Int32)) * i2) + i3) 864) (ek_let ((I (x0 + 16) ((((24 : Int32)) * i1) + i3).toNatClampNeg) - (I (x0 + 16) ((((24 : Int32)) * i2) + i3).toNatClampNeg)) (fun i4_2 => if i4_2 = ((0 : Int32)) then (ek_let (i3 + (-1 : Int32)) (fun i3_4 => k3 (I, x0, i1, i2, i3_4))) else (if ((0 : Int32)) ≤ i4_2 then (some (I, (1 : Int32))) else (some (I, (-1 : Int32))))))))))))
def fMo_compare_0 (kd : Nat → Nat) (I : ek_St) (x0 : Nat) (i1 : Int32) (i2 : Int32) : Option (ek_St × Int32) :=
  ek_lp (fun (k : (ek_St × Nat × Int32 × Int32 × Int32) → Option (ek_St × Int32)) (q : (ek_St × Nat × Int32 × Int32 × Int32)) => fMo_compare_3 kd k q.1 q.2.1 q.2.2.1 q.2.2.2.1 q.2.2.2.2) ek_N (I, x0, i1, i2, (23 : Int32))
def fMo_compare (kd : Nat → Nat) (I : ek_St) (x0 : Nat) (i1 : Int32) (i2 : Int32) : Option (ek_St × Int32) := fMo_compare_0 kd I x0 i1 i2
theorem dMo_compare_0 : decode prog_9_method_5_code 0 = .ok (.bipush 23, 2) := by decide +kernel
theorem dMo_compare_2 : decode prog_9_method_5_code 2 = .ok (.istore_n 3, 1) := by decide +kernel
theorem dMo_compare_3 : decode prog_9_method_5_code 3 = .ok (.iload_n 3, 1) := by decide +kernel
theorem dMo_compare_4 : decode prog_9_method_5_code 4 = .ok (.ifCond .lt 50, 3) := by decide +kernel
theorem dMo_compare_7 : decode prog_9_method_5_code 7 = .ok (.aload_n 0, 1) := by decide +kernel
theorem dMo_compare_8 : decode prog_9_method_5_code 8 = .ok (.getfield 60, 3) := by decide +kernel
theorem dMo_compare_11 : decode prog_9_method_5_code 11 = .ok (.bipush 24, 2) := by decide +kernel
theorem dMo_compare_13 : decode prog_9_method_5_code 13 = .ok (.iload_n 1, 1) := by decide +kernel
theorem dMo_compare_14 : decode prog_9_method_5_code 14 = .ok (.imul, 1) := by decide +kernel
theorem dMo_compare_15 : decode prog_9_method_5_code 15 = .ok (.iload_n 3, 1) := by decide +kernel
theorem dMo_compare_16 : decode prog_9_method_5_code 16 = .ok (.iadd, 1) := by decide +kernel
theorem dMo_compare_17 : decode prog_9_method_5_code 17 = .ok (.iaload, 1) := by decide +kernel
theorem dMo_compare_18 : decode prog_9_method_5_code 18 = .ok (.aload_n 0, 1) := by decide +kernel
theorem dMo_compare_19 : decode prog_9_method_5_code 19 = .ok (.getfield 60, 3) := by decide +kernel
theorem dMo_compare_22 : decode prog_9_method_5_code 22 = .ok (.bipush 24, 2) := by decide +kernel
theorem dMo_compare_24 : decode prog_9_method_5_code 24 = .ok (.iload_n 2, 1) := by decide +kernel
theorem dMo_compare_25 : decode prog_9_method_5_code 25 = .ok (.imul, 1) := by decide +kernel
theorem dMo_compare_26 : decode prog_9_method_5_code 26 = .ok (.iload_n 3, 1) := by decide +kernel
theorem dMo_compare_27 : decode prog_9_method_5_code 27 = .ok (.iadd, 1) := by decide +kernel
theorem dMo_compare_28 : decode prog_9_method_5_code 28 = .ok (.iaload, 1) := by decide +kernel
theorem dMo_compare_29 : decode prog_9_method_5_code 29 = .ok (.isub, 1) := by decide +kernel
theorem dMo_compare_30 : decode prog_9_method_5_code 30 = .ok (.istore 4, 2) := by decide +kernel
theorem dMo_compare_32 : decode prog_9_method_5_code 32 = .ok (.iload 4, 2) := by decide +kernel
theorem dMo_compare_34 : decode prog_9_method_5_code 34 = .ok (.ifCond .eq 14, 3) := by decide +kernel
theorem dMo_compare_37 : decode prog_9_method_5_code 37 = .ok (.iload 4, 2) := by decide +kernel
theorem dMo_compare_39 : decode prog_9_method_5_code 39 = .ok (.ifCond .ge 7, 3) := by decide +kernel
theorem dMo_compare_42 : decode prog_9_method_5_code 42 = .ok (.iconst (-1), 1) := by decide +kernel
theorem dMo_compare_43 : decode prog_9_method_5_code 43 = .ok (.goto 4, 3) := by decide +kernel
theorem dMo_compare_46 : decode prog_9_method_5_code 46 = .ok (.iconst 1, 1) := by decide +kernel
theorem dMo_compare_47 : decode prog_9_method_5_code 47 = .ok (.ireturn, 1) := by decide +kernel
theorem dMo_compare_48 : decode prog_9_method_5_code 48 = .ok (.iinc 3 (-1), 3) := by decide +kernel
theorem dMo_compare_51 : decode prog_9_method_5_code 51 = .ok (.goto (-48), 3) := by decide +kernel
theorem dMo_compare_54 : decode prog_9_method_5_code 54 = .ok (.iconst 0, 1) := by decide +kernel
theorem dMo_compare_55 : decode prog_9_method_5_code 55 = .ok (.ireturn, 1) := by decide +kernel
set_option maxHeartbeats 4000000 in
set_option maxRecDepth 100000 in
theorem wMo_compare_3 {l : Launch} {G : ek_G} {kd : Nat → Nat} {p : Program} {e : Env} {s : State} {m : MethodId} {args : Array Value} {below : List Frame} {meth : Method} {c : Code} (X : ek_X p s m meth c args G prog_9_method_5_code 5 "ElasticKernelModel" (some .int)) {q : ek_St × Int32} {k3 : (ek_St × Nat × Int32 × Int32 × Int32) → Option (ek_St × Int32)} (hk3 : ∀ q0 : ek_St × Nat × Int32 × Int32 × Int32, k3 q0 = some q → ∀ (H : Heap) (locs : List Loc) (ls : Array Slot), ek_W G kd q0.1 H → va_S (ek_A G kd) s.heap H locs → lv_has ls 5 [(0, ek_r G q0.2.1), (1, .int q0.2.2.1), (2, .int q0.2.2.2.1), (3, .int q0.2.2.2.2)] → W p l e ({ frames := 0, cells := 0, slots := 0, locals := 0 } : Room) s m args below meth c H locs 0 0 (MQ below (ek_Q G kd (some (.int q.2)) q.1) args s 0 0 (ek_A G kd)) (F0 m 3 ls [])) {I : ek_St} {x0 : Nat} {i1 : Int32} {i2 : Int32} {i3 : Int32} (hf : fMo_compare_3 kd k3 I x0 i1 i2 i3 = some q) {H : Heap} {locs : List Loc} {ls : Array Slot} (hw : ek_W G kd I H) (hS : va_S (ek_A G kd) s.heap H locs) (hl : lv_has ls 5 [(0, ek_r G x0), (1, .int i1), (2, .int i2), (3, .int i3)]) : W p l e ({ frames := 0, cells := 0, slots := 0, locals := 0 } : Room) s m args below meth c H locs 0 0 (MQ below (ek_Q G kd (some (.int q.2)) q.1) args s 0 0 (ek_A G kd)) (F0 m 3 ls []) := by
  obtain ⟨hx, hb, hml, hown, hts, hr, hlocks, hK⟩ := id X
  have hA : ∀ q, ek_A G kd q → ek_A G kd q := fun _ h => h
  unfold fMo_compare_3 at hf
  refine lv_iload_n hx hb dMo_compare_3 rfl (lv_at hl 3 rfl) ?_
  refine lv_if_lt (tgt := 54) hx hb dMo_compare_4 (by decide) (fun c1 => ?_) (fun c1 => ?_)
  · have hf := ek_t c1 hf
    refine lv_iconst (v := (0 : Int32)) hx hb dMo_compare_54 (by decide) ?_
    exact ek_iret hx hb hr hlocks hw hS hf dMo_compare_55
  · have hf := ek_f c1 hf
    refine ek_aload_n hx hb dMo_compare_7 rfl (lv_at hl 0 rfl) ?_
    refine ek_getr hx hb 8 hts (in_Mo) hown hK hw rfl (by decide) (by decide) 23 (by decide) (n := 15) rfl rfl (hts _ q_599) hf dMo_compare_8 (fun hf => ?_)
    refine lv_bipush (v := (24 : Int32)) hx hb dMo_compare_11 (by decide) ?_
    refine lv_iload_n hx hb dMo_compare_13 rfl (lv_at hl 1 rfl) ?_
    refine lv_imul hx hb dMo_compare_14 ?_
    refine lv_iload_n hx hb dMo_compare_15 rfl (lv_at hl 3 rfl) ?_
    refine lv_iadd hx hb dMo_compare_16 ?_
    refine ek_iald hx hb hK hw 864 rfl hf dMo_compare_17 (fun hf => ?_)
    refine ek_aload_n hx hb dMo_compare_18 rfl (lv_at hl 0 rfl) ?_
    refine ek_getr hx hb 8 hts (in_Mo) hown hK hw rfl (by decide) (by decide) 23 (by decide) (n := 15) rfl rfl (hts _ q_599) hf dMo_compare_19 (fun hf => ?_)
    refine lv_bipush (v := (24 : Int32)) hx hb dMo_compare_22 (by decide) ?_
    refine lv_iload_n hx hb dMo_compare_24 rfl (lv_at hl 2 rfl) ?_
    refine lv_imul hx hb dMo_compare_25 ?_
    refine lv_iload_n hx hb dMo_compare_26 rfl (lv_at hl 3 rfl) ?_
    refine lv_iadd hx hb dMo_compare_27 ?_
    refine ek_iald hx hb hK hw 864 rfl hf dMo_compare_28 (fun hf => ?_)
    refine lv_isub hx hb dMo_compare_29 ?_
    refine ek_ti hf (fun i4_2 hf => ?_)
    refine ek_istore (lv' := [(4, .int i4_2), (3, .int i3), (0, ek_r G x0), (1, .int i1), (2, .int i2)]) hx hb dMo_compare_30 hl (by decide) (ek_s1k 3 rfl rfl rfl rfl rfl) (fun ls hl => ?_)
    refine lv_iload hx hb dMo_compare_32 (lv_at hl 0 rfl) ?_
    refine lv_if_eq (tgt := 48) hx hb dMo_compare_34 (by decide) (fun c3 => ?_) (fun c3 => ?_)
    · have hf := ek_t c3 hf
      refine ek_iinc hx hb 1 (fun i3_4 => [(3, .int i3_4), (2, .int i2), (4, .int i4_2), (0, ek_r G x0), (1, .int i1)]) dMo_compare_48 hl rfl (v := i3 + (-1 : Int32)) rfl hf (by decide) (fun i3_4 => ek_s1k 4 rfl rfl rfl rfl rfl) (fun i3_4 ls hf hl => ?_)
      refine lv_goto (tgt := 3) hx hb dMo_compare_51 (by decide) ?_
      exact hk3 (I, x0, i1, i2, i3_4) hf _ _ _ hw hS (lv_sub hl [3, 4, 1, 0] rfl)
    · have hf := ek_f c3 hf
      refine lv_iload hx hb dMo_compare_37 (lv_at hl 0 rfl) ?_
      refine lv_if_ge (tgt := 46) hx hb dMo_compare_39 (by decide) (fun c5 => ?_) (fun c5 => ?_)
      · have hf := ek_t c5 hf
        refine lv_iconst (v := (1 : Int32)) hx hb dMo_compare_46 (by decide) ?_
        exact ek_iret hx hb hr hlocks hw hS hf dMo_compare_47
      · have hf := ek_f c5 hf
        refine lv_iconst (v := (-1 : Int32)) hx hb dMo_compare_42 (by decide) ?_
        refine lv_goto (tgt := 47) hx hb dMo_compare_43 (by decide) ?_
        exact ek_iret hx hb hr hlocks hw hS hf dMo_compare_47
set_option maxHeartbeats 4000000 in
set_option maxRecDepth 100000 in
theorem wMo_compare_3_lp {l : Launch} {G : ek_G} {kd : Nat → Nat} {p : Program} {e : Env} {s : State} {m : MethodId} {args : Array Value} {below : List Frame} {meth : Method} {c : Code} (X : ek_X p s m meth c args G prog_9_method_5_code 5 "ElasticKernelModel" (some .int)) {q : ek_St × Int32} (n : Nat) : ∀ q0 : ek_St × Nat × Int32 × Int32 × Int32, ek_lp (fun (k : (ek_St × Nat × Int32 × Int32 × Int32) → Option (ek_St × Int32)) (q : (ek_St × Nat × Int32 × Int32 × Int32)) => fMo_compare_3 kd k q.1 q.2.1 q.2.2.1 q.2.2.2.1 q.2.2.2.2) n q0 = some q → ∀ (H : Heap) (locs : List Loc) (ls : Array Slot), ek_W G kd q0.1 H → va_S (ek_A G kd) s.heap H locs → lv_has ls 5 [(0, ek_r G q0.2.1), (1, .int q0.2.2.1), (2, .int q0.2.2.2.1), (3, .int q0.2.2.2.2)] → W p l e ({ frames := 0, cells := 0, slots := 0, locals := 0 } : Room) s m args below meth c H locs 0 0 (MQ below (ek_Q G kd (some (.int q.2)) q.1) args s 0 0 (ek_A G kd)) (F0 m 3 ls []) :=
  ek_lp_ind (fun k hk q0 hf => fun H locs ls hw hS hl => wMo_compare_3 X hk hf hw hS hl) n
set_option maxHeartbeats 4000000 in
set_option maxRecDepth 100000 in
theorem wMo_compare_0 {l : Launch} {G : ek_G} {kd : Nat → Nat} {p : Program} {e : Env} {s : State} {m : MethodId} {args : Array Value} {below : List Frame} {meth : Method} {c : Code} (X : ek_X p s m meth c args G prog_9_method_5_code 5 "ElasticKernelModel" (some .int)) {q : ek_St × Int32} {I : ek_St} {x0 : Nat} {i1 : Int32} {i2 : Int32} (hf : fMo_compare_0 kd I x0 i1 i2 = some q) {H : Heap} {locs : List Loc} {ls : Array Slot} (hw : ek_W G kd I H) (hS : va_S (ek_A G kd) s.heap H locs) (hl : lv_has ls 5 [(0, ek_r G x0), (1, .int i1), (2, .int i2)]) : W p l e ({ frames := 0, cells := 0, slots := 0, locals := 0 } : Room) s m args below meth c H locs 0 0 (MQ below (ek_Q G kd (some (.int q.2)) q.1) args s 0 0 (ek_A G kd)) (F0 m 0 ls []) := by
  obtain ⟨hx, hb, hml, hown, hts, hr, hlocks, hK⟩ := id X
  have hA : ∀ q, ek_A G kd q → ek_A G kd q := fun _ h => h
  unfold fMo_compare_0 at hf
  refine lv_bipush (v := (23 : Int32)) hx hb dMo_compare_0 (by decide) ?_
  refine ek_istore_n (lv' := [(3, .int ((23 : Int32))), (2, .int i2), (0, ek_r G x0), (1, .int i1)]) hx hb dMo_compare_2 rfl hl (by decide) (ek_s1k 2 rfl rfl rfl rfl rfl) (fun ls hl => ?_)
  exact wMo_compare_3_lp X ek_N (I, x0, i1, i2, (23 : Int32)) hf _ _ _ hw hS (lv_sub hl [2, 3, 1, 0] rfl)
set_option maxHeartbeats 4000000 in
set_option maxRecDepth 100000 in
theorem mMo_compare {l : Launch} {G : ek_G} {kd : Nat → Nat} {I : ek_St} {x0 : Nat} {i1 : Int32} {i2 : Int32} {q : ek_St × Int32} (hf : fMo_compare kd I x0 i1 i2 = some q) : ek_M l G kd y_Mo_compare (.code y_Mo_compare prog_9_method_5_code 5 (some .int) :: lw_g) ({ frames := 0, cells := 0, slots := 0, locals := 0 } : Room) [ek_r G x0, .int i1, .int i2] I (some (.int q.2)) q.1 :=
  ek_body [(0, ek_r G x0), (1, .int i1), (2, .int i2)] (by decide) (by simp [lg_sl, ek_r_cat, ek_c_i, ek_c_l]) (by simp [lv_args, ek_r_cat, ek_c_i, ek_c_l]) (fun p e s m below meth c ls X hw hS hl => wMo_compare_0 X hf hw hS hl)
/-! ElasticKernelModel.isZero(I)Z -/
def fMo_isZero_2 (kd : Nat → Nat) (k2 : (ek_St × Nat × Int32 × Int32) → Option (ek_St × Int32)) (I : ek_St) (x0 : Nat) (i1 : Int32) (i2 : Int32) : Option (ek_St × Int32) :=
  if ((24 : Int32)) ≤ i2 then (ek_ck (((1 : Int32)) = (0 : Int32) ∨ ((1 : Int32)) = (1 : Int32)) (some (I, (1 : Int32)))) else (ek_ck (kd x0 = 8) (ek_ck (kd (x0 + 16) = 964) (ek_ck (ek_in ((((24 : Int32)) * i1) + i2) 864) (if (I (x0 + 16) ((((24 : Int32)) * i1) + i2).toNatClampNeg) = ((0 : Int32)) then (ek_let (i2 + (1 : Int32)) (fun i2_3 => k2 (I, x0, i1, i2_3))) else (ek_ck (((0 : Int32)) = (0 : Int32) ∨ ((0 : Int32)) = (1 : Int32)) (some (I, (0 : Int32))))))))
def fMo_isZero_0 (kd : Nat → Nat) (I : ek_St) (x0 : Nat) (i1 : Int32) : Option (ek_St × Int32) :=
  ek_lp (fun (k : (ek_St × Nat × Int32 × Int32) → Option (ek_St × Int32)) (q : (ek_St × Nat × Int32 × Int32)) => fMo_isZero_2 kd k q.1 q.2.1 q.2.2.1 q.2.2.2) ek_N (I, x0, i1, (0 : Int32))
def fMo_isZero (kd : Nat → Nat) (I : ek_St) (x0 : Nat) (i1 : Int32) : Option (ek_St × Int32) := fMo_isZero_0 kd I x0 i1
theorem dMo_isZero_0 : decode prog_9_method_6_code 0 = .ok (.iconst 0, 1) := by decide +kernel
theorem dMo_isZero_1 : decode prog_9_method_6_code 1 = .ok (.istore_n 2, 1) := by decide +kernel
theorem dMo_isZero_2 : decode prog_9_method_6_code 2 = .ok (.iload_n 2, 1) := by decide +kernel
theorem dMo_isZero_3 : decode prog_9_method_6_code 3 = .ok (.bipush 24, 2) := by decide +kernel
theorem dMo_isZero_5 : decode prog_9_method_6_code 5 = .ok (.if_icmp .ge 25, 3) := by decide +kernel
theorem dMo_isZero_8 : decode prog_9_method_6_code 8 = .ok (.aload_n 0, 1) := by decide +kernel
theorem dMo_isZero_9 : decode prog_9_method_6_code 9 = .ok (.getfield 60, 3) := by decide +kernel
theorem dMo_isZero_12 : decode prog_9_method_6_code 12 = .ok (.bipush 24, 2) := by decide +kernel
theorem dMo_isZero_14 : decode prog_9_method_6_code 14 = .ok (.iload_n 1, 1) := by decide +kernel
theorem dMo_isZero_15 : decode prog_9_method_6_code 15 = .ok (.imul, 1) := by decide +kernel
theorem dMo_isZero_16 : decode prog_9_method_6_code 16 = .ok (.iload_n 2, 1) := by decide +kernel
theorem dMo_isZero_17 : decode prog_9_method_6_code 17 = .ok (.iadd, 1) := by decide +kernel
theorem dMo_isZero_18 : decode prog_9_method_6_code 18 = .ok (.iaload, 1) := by decide +kernel
theorem dMo_isZero_19 : decode prog_9_method_6_code 19 = .ok (.ifCond .eq 5, 3) := by decide +kernel
theorem dMo_isZero_22 : decode prog_9_method_6_code 22 = .ok (.iconst 0, 1) := by decide +kernel
theorem dMo_isZero_23 : decode prog_9_method_6_code 23 = .ok (.ireturn, 1) := by decide +kernel
theorem dMo_isZero_24 : decode prog_9_method_6_code 24 = .ok (.iinc 2 1, 3) := by decide +kernel
theorem dMo_isZero_27 : decode prog_9_method_6_code 27 = .ok (.goto (-25), 3) := by decide +kernel
theorem dMo_isZero_30 : decode prog_9_method_6_code 30 = .ok (.iconst 1, 1) := by decide +kernel
theorem dMo_isZero_31 : decode prog_9_method_6_code 31 = .ok (.ireturn, 1) := by decide +kernel
set_option maxHeartbeats 4000000 in
set_option maxRecDepth 100000 in
theorem wMo_isZero_2 {l : Launch} {G : ek_G} {kd : Nat → Nat} {p : Program} {e : Env} {s : State} {m : MethodId} {args : Array Value} {below : List Frame} {meth : Method} {c : Code} (X : ek_X p s m meth c args G prog_9_method_6_code 3 "ElasticKernelModel" (some .boolean)) {q : ek_St × Int32} {k2 : (ek_St × Nat × Int32 × Int32) → Option (ek_St × Int32)} (hk2 : ∀ q0 : ek_St × Nat × Int32 × Int32, k2 q0 = some q → ∀ (H : Heap) (locs : List Loc) (ls : Array Slot), ek_W G kd q0.1 H → va_S (ek_A G kd) s.heap H locs → lv_has ls 3 [(0, ek_r G q0.2.1), (1, .int q0.2.2.1), (2, .int q0.2.2.2)] → W p l e ({ frames := 0, cells := 0, slots := 0, locals := 0 } : Room) s m args below meth c H locs 0 0 (MQ below (ek_Q G kd (some (.int q.2)) q.1) args s 0 0 (ek_A G kd)) (F0 m 2 ls [])) {I : ek_St} {x0 : Nat} {i1 : Int32} {i2 : Int32} (hf : fMo_isZero_2 kd k2 I x0 i1 i2 = some q) {H : Heap} {locs : List Loc} {ls : Array Slot} (hw : ek_W G kd I H) (hS : va_S (ek_A G kd) s.heap H locs) (hl : lv_has ls 3 [(0, ek_r G x0), (1, .int i1), (2, .int i2)]) : W p l e ({ frames := 0, cells := 0, slots := 0, locals := 0 } : Room) s m args below meth c H locs 0 0 (MQ below (ek_Q G kd (some (.int q.2)) q.1) args s 0 0 (ek_A G kd)) (F0 m 2 ls []) := by
  obtain ⟨hx, hb, hml, hown, hts, hr, hlocks, hK⟩ := id X
  have hA : ∀ q, ek_A G kd q → ek_A G kd q := fun _ h => h
  unfold fMo_isZero_2 at hf
  refine lv_iload_n hx hb dMo_isZero_2 rfl (lv_at hl 2 rfl) ?_
  refine lv_bipush (v := (24 : Int32)) hx hb dMo_isZero_3 (by decide) ?_
  refine lv_icmp_ge (tgt := 30) hx hb dMo_isZero_5 (by decide) (fun c1 => ?_) (fun c1 => ?_)
  · have hf := ek_t c1 hf
    refine lv_iconst (v := (1 : Int32)) hx hb dMo_isZero_30 (by decide) ?_
    exact ek_zret hx hb hr hlocks hw hS hf dMo_isZero_31
  · have hf := ek_f c1 hf
    refine ek_aload_n hx hb dMo_isZero_8 rfl (lv_at hl 0 rfl) ?_
    refine ek_getr hx hb 8 hts (in_Mo) hown hK hw rfl (by decide) (by decide) 23 (by decide) (n := 15) rfl rfl (hts _ q_599) hf dMo_isZero_9 (fun hf => ?_)
    refine lv_bipush (v := (24 : Int32)) hx hb dMo_isZero_12 (by decide) ?_
    refine lv_iload_n hx hb dMo_isZero_14 rfl (lv_at hl 1 rfl) ?_
    refine lv_imul hx hb dMo_isZero_15 ?_
    refine lv_iload_n hx hb dMo_isZero_16 rfl (lv_at hl 2 rfl) ?_
    refine lv_iadd hx hb dMo_isZero_17 ?_
    refine ek_iald hx hb hK hw 864 rfl hf dMo_isZero_18 (fun hf => ?_)
    refine lv_if_eq (tgt := 24) hx hb dMo_isZero_19 (by decide) (fun c2 => ?_) (fun c2 => ?_)
    · have hf := ek_t c2 hf
      refine ek_iinc hx hb 2 (fun i2_3 => [(2, .int i2_3), (1, .int i1), (0, ek_r G x0)]) dMo_isZero_24 hl rfl (v := i2 + (1 : Int32)) rfl hf (by decide) (fun i2_3 => ek_s1k 1 rfl rfl rfl rfl rfl) (fun i2_3 ls hf hl => ?_)
      refine lv_goto (tgt := 2) hx hb dMo_isZero_27 (by decide) ?_
      exact hk2 (I, x0, i1, i2_3) hf _ _ _ hw hS (lv_sub hl [2, 1, 0] rfl)
    · have hf := ek_f c2 hf
      refine lv_iconst (v := (0 : Int32)) hx hb dMo_isZero_22 (by decide) ?_
      exact ek_zret hx hb hr hlocks hw hS hf dMo_isZero_23
set_option maxHeartbeats 4000000 in
set_option maxRecDepth 100000 in
theorem wMo_isZero_2_lp {l : Launch} {G : ek_G} {kd : Nat → Nat} {p : Program} {e : Env} {s : State} {m : MethodId} {args : Array Value} {below : List Frame} {meth : Method} {c : Code} (X : ek_X p s m meth c args G prog_9_method_6_code 3 "ElasticKernelModel" (some .boolean)) {q : ek_St × Int32} (n : Nat) : ∀ q0 : ek_St × Nat × Int32 × Int32, ek_lp (fun (k : (ek_St × Nat × Int32 × Int32) → Option (ek_St × Int32)) (q : (ek_St × Nat × Int32 × Int32)) => fMo_isZero_2 kd k q.1 q.2.1 q.2.2.1 q.2.2.2) n q0 = some q → ∀ (H : Heap) (locs : List Loc) (ls : Array Slot), ek_W G kd q0.1 H → va_S (ek_A G kd) s.heap H locs → lv_has ls 3 [(0, ek_r G q0.2.1), (1, .int q0.2.2.1), (2, .int q0.2.2.2)] → W p l e ({ frames := 0, cells := 0, slots := 0, locals := 0 } : Room) s m args below meth c H locs 0 0 (MQ below (ek_Q G kd (some (.int q.2)) q.1) args s 0 0 (ek_A G kd)) (F0 m 2 ls []) :=
  ek_lp_ind (fun k hk q0 hf => fun H locs ls hw hS hl => wMo_isZero_2 X hk hf hw hS hl) n
set_option maxHeartbeats 4000000 in
set_option maxRecDepth 100000 in
theorem wMo_isZero_0 {l : Launch} {G : ek_G} {kd : Nat → Nat} {p : Program} {e : Env} {s : State} {m : MethodId} {args : Array Value} {below : List Frame} {meth : Method} {c : Code} (X : ek_X p s m meth c args G prog_9_method_6_code 3 "ElasticKernelModel" (some .boolean)) {q : ek_St × Int32} {I : ek_St} {x0 : Nat} {i1 : Int32} (hf : fMo_isZero_0 kd I x0 i1 = some q) {H : Heap} {locs : List Loc} {ls : Array Slot} (hw : ek_W G kd I H) (hS : va_S (ek_A G kd) s.heap H locs) (hl : lv_has ls 3 [(0, ek_r G x0), (1, .int i1)]) : W p l e ({ frames := 0, cells := 0, slots := 0, locals := 0 } : Room) s m args below meth c H locs 0 0 (MQ below (ek_Q G kd (some (.int q.2)) q.1) args s 0 0 (ek_A G kd)) (F0 m 0 ls []) := by
  obtain ⟨hx, hb, hml, hown, hts, hr, hlocks, hK⟩ := id X
  have hA : ∀ q, ek_A G kd q → ek_A G kd q := fun _ h => h
  unfold fMo_isZero_0 at hf
  refine lv_iconst (v := (0 : Int32)) hx hb dMo_isZero_0 (by decide) ?_
  refine ek_istore_n (lv' := [(2, .int ((0 : Int32))), (1, .int i1), (0, ek_r G x0)]) hx hb dMo_isZero_1 rfl hl (by decide) (ek_s1k 1 rfl rfl rfl rfl rfl) (fun ls hl => ?_)
  exact wMo_isZero_2_lp X ek_N (I, x0, i1, (0 : Int32)) hf _ _ _ hw hS (lv_sub hl [2, 1, 0] rfl)
set_option maxHeartbeats 4000000 in
set_option maxRecDepth 100000 in
theorem mMo_isZero {l : Launch} {G : ek_G} {kd : Nat → Nat} {I : ek_St} {x0 : Nat} {i1 : Int32} {q : ek_St × Int32} (hf : fMo_isZero kd I x0 i1 = some q) : ek_M l G kd y_Mo_isZero (.code y_Mo_isZero prog_9_method_6_code 3 (some .boolean) :: lw_g) ({ frames := 0, cells := 0, slots := 0, locals := 0 } : Room) [ek_r G x0, .int i1] I (some (.int q.2)) q.1 :=
  ek_body [(0, ek_r G x0), (1, .int i1)] (by decide) (by simp [lg_sl, ek_r_cat, ek_c_i, ek_c_l]) (by simp [lv_args, ek_r_cat, ek_c_i, ek_c_l]) (fun p e s m below meth c ls X hw hS hl => wMo_isZero_0 X hf hw hS hl)
/-! ElasticKernelModel.add(IIZ)V -/
def fMo_add3_60 (kd : Nat → Nat) (k6 : (ek_St × Nat × Int32 × Int32 × Int32 × Int32 × Int32) → Option (ek_St)) (I : ek_St) (x0 : Nat) (i1 : Int32) (i2 : Int32) (i3 : Int32) (i5 : Int32) (t0 : Int32) (t1 : Int32) : Option (ek_St) :=
  ek_let (t0 + t1) (fun i6_1 => ek_ck (kd x0 = 8) (ek_ck (kd (x0 + 16) = 964) (ek_ck (ek_in ((((24 : Int32)) * i1) + i5) 864) (ek_let (ek_up I (x0 + 16) ((((24 : Int32)) * i1) + i5).toNatClampNeg (i6_1 &&& ((16777215 : Int32)))) (fun I2 => ek_let (i6_1 >>> (((24 : Int32)) &&& 31)) (fun i4_3 => ek_let (i5 + (1 : Int32)) (fun i5_4 => k6 (I2, x0, i1, i2, i3, i4_3, i5_4))))))))
def fMo_add3_6 (kd : Nat → Nat) (k6 : (ek_St × Nat × Int32 × Int32 × Int32 × Int32 × Int32) → Option (ek_St)) (I : ek_St) (x0 : Nat) (i1 : Int32) (i2 : Int32) (i3 : Int32) (i4 : Int32) (i5 : Int32) : Option (ek_St) :=
  if ((24 : Int32)) ≤ i5 then (some I) else (ek_ck (kd x0 = 8) (ek_ck (kd (x0 + 16) = 964) (ek_ck (ek_in ((((24 : Int32)) * i1) + i5) 864) (if i3 = ((0 : Int32)) then (ek_ck (kd x0 = 8) (ek_ck (kd (x0 + 16) = 964) (ek_ck (ek_in ((((24 : Int32)) * i2) + i5) 864) (fMo_add3_60 kd k6 I x0 i1 i2 i3 i5 ((I (x0 + 16) ((((24 : Int32)) * i1) + i5).toNatClampNeg) + i4) (I (x0 + 16) ((((24 : Int32)) * i2) + i5).toNatClampNeg))))) else (ek_ck (kd x0 = 8) (ek_ck (kd (x0 + 16) = 964) (ek_ck (ek_in ((((24 : Int32)) * i2) + i5) 864) (fMo_add3_60 kd k6 I x0 i1 i2 i3 i5 ((I (x0 + 16) ((((24 : Int32)) * i1) + i5).toNatClampNeg) + i4) (-(I (x0 + 16) ((((24 : Int32)) * i2) + i5).toNatClampNeg))))))))))
def fMo_add3_0 (kd : Nat → Nat) (I : ek_St) (x0 : Nat) (i1 : Int32) (i2 : Int32) (i3 : Int32) : Option (ek_St) :=
  ek_lp (fun (k : (ek_St × Nat × Int32 × Int32 × Int32 × Int32 × Int32) → Option (ek_St)) (q : (ek_St × Nat × Int32 × Int32 × Int32 × Int32 × Int32)) => fMo_add3_6 kd k q.1 q.2.1 q.2.2.1 q.2.2.2.1 q.2.2.2.2.1 q.2.2.2.2.2.1 q.2.2.2.2.2.2) ek_N (I, x0, i1, i2, i3, (0 : Int32), (0 : Int32))
def fMo_add3 (kd : Nat → Nat) (I : ek_St) (x0 : Nat) (i1 : Int32) (i2 : Int32) (i3 : Int32) : Option (ek_St) := fMo_add3_0 kd I x0 i1 i2 i3
theorem dMo_add3_0 : decode prog_9_method_7_code 0 = .ok (.iconst 0, 1) := by decide +kernel
theorem dMo_add3_1 : decode prog_9_method_7_code 1 = .ok (.istore 4, 2) := by decide +kernel
theorem dMo_add3_3 : decode prog_9_method_7_code 3 = .ok (.iconst 0, 1) := by decide +kernel
theorem dMo_add3_4 : decode prog_9_method_7_code 4 = .ok (.istore 5, 2) := by decide +kernel
theorem dMo_add3_6 : decode prog_9_method_7_code 6 = .ok (.iload 5, 2) := by decide +kernel
theorem dMo_add3_8 : decode prog_9_method_7_code 8 = .ok (.bipush 24, 2) := by decide +kernel
theorem dMo_add3_10 : decode prog_9_method_7_code 10 = .ok (.if_icmp .ge 83, 3) := by decide +kernel
theorem dMo_add3_13 : decode prog_9_method_7_code 13 = .ok (.aload_n 0, 1) := by decide +kernel
theorem dMo_add3_14 : decode prog_9_method_7_code 14 = .ok (.getfield 60, 3) := by decide +kernel
theorem dMo_add3_17 : decode prog_9_method_7_code 17 = .ok (.bipush 24, 2) := by decide +kernel
theorem dMo_add3_19 : decode prog_9_method_7_code 19 = .ok (.iload_n 1, 1) := by decide +kernel
theorem dMo_add3_20 : decode prog_9_method_7_code 20 = .ok (.imul, 1) := by decide +kernel
theorem dMo_add3_21 : decode prog_9_method_7_code 21 = .ok (.iload 5, 2) := by decide +kernel
theorem dMo_add3_23 : decode prog_9_method_7_code 23 = .ok (.iadd, 1) := by decide +kernel
theorem dMo_add3_24 : decode prog_9_method_7_code 24 = .ok (.iaload, 1) := by decide +kernel
theorem dMo_add3_25 : decode prog_9_method_7_code 25 = .ok (.iload 4, 2) := by decide +kernel
theorem dMo_add3_27 : decode prog_9_method_7_code 27 = .ok (.iadd, 1) := by decide +kernel
theorem dMo_add3_28 : decode prog_9_method_7_code 28 = .ok (.iload_n 3, 1) := by decide +kernel
theorem dMo_add3_29 : decode prog_9_method_7_code 29 = .ok (.ifCond .eq 19, 3) := by decide +kernel
theorem dMo_add3_32 : decode prog_9_method_7_code 32 = .ok (.aload_n 0, 1) := by decide +kernel
theorem dMo_add3_33 : decode prog_9_method_7_code 33 = .ok (.getfield 60, 3) := by decide +kernel
theorem dMo_add3_36 : decode prog_9_method_7_code 36 = .ok (.bipush 24, 2) := by decide +kernel
theorem dMo_add3_38 : decode prog_9_method_7_code 38 = .ok (.iload_n 2, 1) := by decide +kernel
theorem dMo_add3_39 : decode prog_9_method_7_code 39 = .ok (.imul, 1) := by decide +kernel
theorem dMo_add3_40 : decode prog_9_method_7_code 40 = .ok (.iload 5, 2) := by decide +kernel
theorem dMo_add3_42 : decode prog_9_method_7_code 42 = .ok (.iadd, 1) := by decide +kernel
theorem dMo_add3_43 : decode prog_9_method_7_code 43 = .ok (.iaload, 1) := by decide +kernel
theorem dMo_add3_44 : decode prog_9_method_7_code 44 = .ok (.ineg, 1) := by decide +kernel
theorem dMo_add3_45 : decode prog_9_method_7_code 45 = .ok (.goto 15, 3) := by decide +kernel
theorem dMo_add3_48 : decode prog_9_method_7_code 48 = .ok (.aload_n 0, 1) := by decide +kernel
theorem dMo_add3_49 : decode prog_9_method_7_code 49 = .ok (.getfield 60, 3) := by decide +kernel
theorem dMo_add3_52 : decode prog_9_method_7_code 52 = .ok (.bipush 24, 2) := by decide +kernel
theorem dMo_add3_54 : decode prog_9_method_7_code 54 = .ok (.iload_n 2, 1) := by decide +kernel
theorem dMo_add3_55 : decode prog_9_method_7_code 55 = .ok (.imul, 1) := by decide +kernel
theorem dMo_add3_56 : decode prog_9_method_7_code 56 = .ok (.iload 5, 2) := by decide +kernel
theorem dMo_add3_58 : decode prog_9_method_7_code 58 = .ok (.iadd, 1) := by decide +kernel
theorem dMo_add3_59 : decode prog_9_method_7_code 59 = .ok (.iaload, 1) := by decide +kernel
theorem dMo_add3_60 : decode prog_9_method_7_code 60 = .ok (.iadd, 1) := by decide +kernel
theorem dMo_add3_61 : decode prog_9_method_7_code 61 = .ok (.istore 6, 2) := by decide +kernel
theorem dMo_add3_63 : decode prog_9_method_7_code 63 = .ok (.aload_n 0, 1) := by decide +kernel
theorem dMo_add3_64 : decode prog_9_method_7_code 64 = .ok (.getfield 60, 3) := by decide +kernel
theorem dMo_add3_67 : decode prog_9_method_7_code 67 = .ok (.bipush 24, 2) := by decide +kernel
theorem dMo_add3_69 : decode prog_9_method_7_code 69 = .ok (.iload_n 1, 1) := by decide +kernel
theorem dMo_add3_70 : decode prog_9_method_7_code 70 = .ok (.imul, 1) := by decide +kernel
theorem dMo_add3_71 : decode prog_9_method_7_code 71 = .ok (.iload 5, 2) := by decide +kernel
theorem dMo_add3_73 : decode prog_9_method_7_code 73 = .ok (.iadd, 1) := by decide +kernel
theorem dMo_add3_74 : decode prog_9_method_7_code 74 = .ok (.iload 6, 2) := by decide +kernel
theorem dMo_add3_76 : decode prog_9_method_7_code 76 = .ok (.ldc 75, 2) := by decide +kernel
theorem dMo_add3_78 : decode prog_9_method_7_code 78 = .ok (.iand, 1) := by decide +kernel
theorem dMo_add3_79 : decode prog_9_method_7_code 79 = .ok (.iastore, 1) := by decide +kernel
theorem dMo_add3_80 : decode prog_9_method_7_code 80 = .ok (.iload 6, 2) := by decide +kernel
theorem dMo_add3_82 : decode prog_9_method_7_code 82 = .ok (.bipush 24, 2) := by decide +kernel
theorem dMo_add3_84 : decode prog_9_method_7_code 84 = .ok (.ishr, 1) := by decide +kernel
theorem dMo_add3_85 : decode prog_9_method_7_code 85 = .ok (.istore 4, 2) := by decide +kernel
theorem dMo_add3_87 : decode prog_9_method_7_code 87 = .ok (.iinc 5 1, 3) := by decide +kernel
theorem dMo_add3_90 : decode prog_9_method_7_code 90 = .ok (.goto (-84), 3) := by decide +kernel
theorem dMo_add3_93 : decode prog_9_method_7_code 93 = .ok (.return_, 1) := by decide +kernel
set_option maxHeartbeats 4000000 in
set_option maxRecDepth 100000 in
theorem wMo_add3_60 {l : Launch} {G : ek_G} {kd : Nat → Nat} {p : Program} {e : Env} {s : State} {m : MethodId} {args : Array Value} {below : List Frame} {meth : Method} {c : Code} (X : ek_X p s m meth c args G prog_9_method_7_code 7 "ElasticKernelModel" none) {q : ek_St} {k6 : (ek_St × Nat × Int32 × Int32 × Int32 × Int32 × Int32) → Option (ek_St)} (hk6 : ∀ q0 : ek_St × Nat × Int32 × Int32 × Int32 × Int32 × Int32, k6 q0 = some q → ∀ (H : Heap) (locs : List Loc) (ls : Array Slot), ek_W G kd q0.1 H → va_S (ek_A G kd) s.heap H locs → lv_has ls 7 [(0, ek_r G q0.2.1), (1, .int q0.2.2.1), (2, .int q0.2.2.2.1), (3, .int q0.2.2.2.2.1), (4, .int q0.2.2.2.2.2.1), (5, .int q0.2.2.2.2.2.2)] → W p l e ({ frames := 0, cells := 0, slots := 0, locals := 0 } : Room) s m args below meth c H locs 0 0 (MQ below (ek_Q G kd none q) args s 0 0 (ek_A G kd)) (F0 m 6 ls [])) {I : ek_St} {x0 : Nat} {i1 : Int32} {i2 : Int32} {i3 : Int32} {i5 : Int32} {t0 : Int32} {t1 : Int32} (hf : fMo_add3_60 kd k6 I x0 i1 i2 i3 i5 t0 t1 = some q) {H : Heap} {locs : List Loc} {ls : Array Slot} (hw : ek_W G kd I H) (hS : va_S (ek_A G kd) s.heap H locs) (hl : lv_has ls 7 [(0, ek_r G x0), (1, .int i1), (2, .int i2), (3, .int i3), (5, .int i5)]) : W p l e ({ frames := 0, cells := 0, slots := 0, locals := 0 } : Room) s m args below meth c H locs 0 0 (MQ below (ek_Q G kd none q) args s 0 0 (ek_A G kd)) (F0 m 60 ls [.int t1, .int t0]) := by
  obtain ⟨hx, hb, hml, hown, hts, hr, hlocks, hK⟩ := id X
  have hA : ∀ q, ek_A G kd q → ek_A G kd q := fun _ h => h
  unfold fMo_add3_60 at hf
  refine lv_iadd hx hb dMo_add3_60 ?_
  refine ek_ti hf (fun i6_1 hf => ?_)
  refine ek_istore (lv' := [(6, .int i6_1), (5, .int i5), (0, ek_r G x0), (1, .int i1), (2, .int i2), (3, .int i3)]) hx hb dMo_add3_61 hl (by decide) (ek_s1k 4 rfl rfl rfl rfl rfl) (fun ls hl => ?_)
  refine ek_aload_n hx hb dMo_add3_63 rfl (lv_at hl 2 rfl) ?_
  refine ek_getr hx hb 8 hts (in_Mo) hown hK hw rfl (by decide) (by decide) 23 (by decide) (n := 15) rfl rfl (hts _ q_599) hf dMo_add3_64 (fun hf => ?_)
  refine lv_bipush (v := (24 : Int32)) hx hb dMo_add3_67 (by decide) ?_
  refine lv_iload_n hx hb dMo_add3_69 rfl (lv_at hl 3 rfl) ?_
  refine lv_imul hx hb dMo_add3_70 ?_
  refine lv_iload hx hb dMo_add3_71 (lv_at hl 1 rfl) ?_
  refine lv_iadd hx hb dMo_add3_73 ?_
  refine lv_iload hx hb dMo_add3_74 (lv_at hl 0 rfl) ?_
  refine lv_ldc hx hb hown (hts _ q_693) dMo_add3_76 ?_
  refine lv_iand hx hb dMo_add3_78 ?_
  refine ek_iast hx hb hK hw hS hA 864 rfl hf dMo_add3_79 (fun I2 H locs hf hw hS => ?_)
  refine lv_iload hx hb dMo_add3_80 (lv_at hl 0 rfl) ?_
  refine lv_bipush (v := (24 : Int32)) hx hb dMo_add3_82 (by decide) ?_
  refine lv_ishr hx hb dMo_add3_84 ?_
  refine ek_ti hf (fun i4_3 hf => ?_)
  refine ek_istore (lv' := [(4, .int i4_3), (3, .int i3), (6, .int i6_1), (5, .int i5), (0, ek_r G x0), (1, .int i1), (2, .int i2)]) hx hb dMo_add3_85 hl (by decide) (ek_s1k 5 rfl rfl rfl rfl rfl) (fun ls hl => ?_)
  refine ek_iinc hx hb 3 (fun i5_4 => [(5, .int i5_4), (4, .int i4_3), (3, .int i3), (6, .int i6_1), (0, ek_r G x0), (1, .int i1), (2, .int i2)]) dMo_add3_87 hl rfl (v := i5 + (1 : Int32)) rfl hf (by decide) (fun i5_4 => ek_s1k 0 rfl rfl rfl rfl rfl) (fun i5_4 ls hf hl => ?_)
  refine lv_goto (tgt := 6) hx hb dMo_add3_90 (by decide) ?_
  exact hk6 (I2, x0, i1, i2, i3, i4_3, i5_4) hf _ _ _ hw hS (lv_sub hl [4, 5, 6, 2, 1, 0] rfl)
set_option maxHeartbeats 4000000 in
set_option maxRecDepth 100000 in
theorem wMo_add3_6 {l : Launch} {G : ek_G} {kd : Nat → Nat} {p : Program} {e : Env} {s : State} {m : MethodId} {args : Array Value} {below : List Frame} {meth : Method} {c : Code} (X : ek_X p s m meth c args G prog_9_method_7_code 7 "ElasticKernelModel" none) {q : ek_St} {k6 : (ek_St × Nat × Int32 × Int32 × Int32 × Int32 × Int32) → Option (ek_St)} (hk6 : ∀ q0 : ek_St × Nat × Int32 × Int32 × Int32 × Int32 × Int32, k6 q0 = some q → ∀ (H : Heap) (locs : List Loc) (ls : Array Slot), ek_W G kd q0.1 H → va_S (ek_A G kd) s.heap H locs → lv_has ls 7 [(0, ek_r G q0.2.1), (1, .int q0.2.2.1), (2, .int q0.2.2.2.1), (3, .int q0.2.2.2.2.1), (4, .int q0.2.2.2.2.2.1), (5, .int q0.2.2.2.2.2.2)] → W p l e ({ frames := 0, cells := 0, slots := 0, locals := 0 } : Room) s m args below meth c H locs 0 0 (MQ below (ek_Q G kd none q) args s 0 0 (ek_A G kd)) (F0 m 6 ls [])) {I : ek_St} {x0 : Nat} {i1 : Int32} {i2 : Int32} {i3 : Int32} {i4 : Int32} {i5 : Int32} (hf : fMo_add3_6 kd k6 I x0 i1 i2 i3 i4 i5 = some q) {H : Heap} {locs : List Loc} {ls : Array Slot} (hw : ek_W G kd I H) (hS : va_S (ek_A G kd) s.heap H locs) (hl : lv_has ls 7 [(0, ek_r G x0), (1, .int i1), (2, .int i2), (3, .int i3), (4, .int i4), (5, .int i5)]) : W p l e ({ frames := 0, cells := 0, slots := 0, locals := 0 } : Room) s m args below meth c H locs 0 0 (MQ below (ek_Q G kd none q) args s 0 0 (ek_A G kd)) (F0 m 6 ls []) := by
  obtain ⟨hx, hb, hml, hown, hts, hr, hlocks, hK⟩ := id X
  have hA : ∀ q, ek_A G kd q → ek_A G kd q := fun _ h => h
  unfold fMo_add3_6 at hf
  refine lv_iload hx hb dMo_add3_6 (lv_at hl 5 rfl) ?_
  refine lv_bipush (v := (24 : Int32)) hx hb dMo_add3_8 (by decide) ?_
  refine lv_icmp_ge (tgt := 93) hx hb dMo_add3_10 (by decide) (fun c1 => ?_) (fun c1 => ?_)
  · have hf := ek_t c1 hf
    exact ek_vret hx hb hr hlocks hw hS hf dMo_add3_93
  · have hf := ek_f c1 hf
    refine ek_aload_n hx hb dMo_add3_13 rfl (lv_at hl 0 rfl) ?_
    refine ek_getr hx hb 8 hts (in_Mo) hown hK hw rfl (by decide) (by decide) 23 (by decide) (n := 15) rfl rfl (hts _ q_599) hf dMo_add3_14 (fun hf => ?_)
    refine lv_bipush (v := (24 : Int32)) hx hb dMo_add3_17 (by decide) ?_
    refine lv_iload_n hx hb dMo_add3_19 rfl (lv_at hl 1 rfl) ?_
    refine lv_imul hx hb dMo_add3_20 ?_
    refine lv_iload hx hb dMo_add3_21 (lv_at hl 5 rfl) ?_
    refine lv_iadd hx hb dMo_add3_23 ?_
    refine ek_iald hx hb hK hw 864 rfl hf dMo_add3_24 (fun hf => ?_)
    refine lv_iload hx hb dMo_add3_25 (lv_at hl 4 rfl) ?_
    refine lv_iadd hx hb dMo_add3_27 ?_
    refine lv_iload_n hx hb dMo_add3_28 rfl (lv_at hl 3 rfl) ?_
    refine lv_if_eq (tgt := 48) hx hb dMo_add3_29 (by decide) (fun c2 => ?_) (fun c2 => ?_)
    · have hf := ek_t c2 hf
      refine ek_aload_n hx hb dMo_add3_48 rfl (lv_at hl 0 rfl) ?_
      refine ek_getr hx hb 8 hts (in_Mo) hown hK hw rfl (by decide) (by decide) 23 (by decide) (n := 15) rfl rfl (hts _ q_599) hf dMo_add3_49 (fun hf => ?_)
      refine lv_bipush (v := (24 : Int32)) hx hb dMo_add3_52 (by decide) ?_
      refine lv_iload_n hx hb dMo_add3_54 rfl (lv_at hl 2 rfl) ?_
      refine lv_imul hx hb dMo_add3_55 ?_
      refine lv_iload hx hb dMo_add3_56 (lv_at hl 5 rfl) ?_
      refine lv_iadd hx hb dMo_add3_58 ?_
      refine ek_iald hx hb hK hw 864 rfl hf dMo_add3_59 (fun hf => ?_)
      exact wMo_add3_60 X hk6 hf hw hS (lv_sub hl [0, 1, 2, 3, 5] rfl)
    · have hf := ek_f c2 hf
      refine ek_aload_n hx hb dMo_add3_32 rfl (lv_at hl 0 rfl) ?_
      refine ek_getr hx hb 8 hts (in_Mo) hown hK hw rfl (by decide) (by decide) 23 (by decide) (n := 15) rfl rfl (hts _ q_599) hf dMo_add3_33 (fun hf => ?_)
      refine lv_bipush (v := (24 : Int32)) hx hb dMo_add3_36 (by decide) ?_
      refine lv_iload_n hx hb dMo_add3_38 rfl (lv_at hl 2 rfl) ?_
      refine lv_imul hx hb dMo_add3_39 ?_
      refine lv_iload hx hb dMo_add3_40 (lv_at hl 5 rfl) ?_
      refine lv_iadd hx hb dMo_add3_42 ?_
      refine ek_iald hx hb hK hw 864 rfl hf dMo_add3_43 (fun hf => ?_)
      refine lv_ineg hx hb dMo_add3_44 ?_
      refine lv_goto (tgt := 60) hx hb dMo_add3_45 (by decide) ?_
      exact wMo_add3_60 X hk6 hf hw hS (lv_sub hl [0, 1, 2, 3, 5] rfl)
set_option maxHeartbeats 4000000 in
set_option maxRecDepth 100000 in
theorem wMo_add3_6_lp {l : Launch} {G : ek_G} {kd : Nat → Nat} {p : Program} {e : Env} {s : State} {m : MethodId} {args : Array Value} {below : List Frame} {meth : Method} {c : Code} (X : ek_X p s m meth c args G prog_9_method_7_code 7 "ElasticKernelModel" none) {q : ek_St} (n : Nat) : ∀ q0 : ek_St × Nat × Int32 × Int32 × Int32 × Int32 × Int32, ek_lp (fun (k : (ek_St × Nat × Int32 × Int32 × Int32 × Int32 × Int32) → Option (ek_St)) (q : (ek_St × Nat × Int32 × Int32 × Int32 × Int32 × Int32)) => fMo_add3_6 kd k q.1 q.2.1 q.2.2.1 q.2.2.2.1 q.2.2.2.2.1 q.2.2.2.2.2.1 q.2.2.2.2.2.2) n q0 = some q → ∀ (H : Heap) (locs : List Loc) (ls : Array Slot), ek_W G kd q0.1 H → va_S (ek_A G kd) s.heap H locs → lv_has ls 7 [(0, ek_r G q0.2.1), (1, .int q0.2.2.1), (2, .int q0.2.2.2.1), (3, .int q0.2.2.2.2.1), (4, .int q0.2.2.2.2.2.1), (5, .int q0.2.2.2.2.2.2)] → W p l e ({ frames := 0, cells := 0, slots := 0, locals := 0 } : Room) s m args below meth c H locs 0 0 (MQ below (ek_Q G kd none q) args s 0 0 (ek_A G kd)) (F0 m 6 ls []) :=
  ek_lp_ind (fun k hk q0 hf => fun H locs ls hw hS hl => wMo_add3_6 X hk hf hw hS hl) n
set_option maxHeartbeats 4000000 in
set_option maxRecDepth 100000 in
theorem wMo_add3_0 {l : Launch} {G : ek_G} {kd : Nat → Nat} {p : Program} {e : Env} {s : State} {m : MethodId} {args : Array Value} {below : List Frame} {meth : Method} {c : Code} (X : ek_X p s m meth c args G prog_9_method_7_code 7 "ElasticKernelModel" none) {q : ek_St} {I : ek_St} {x0 : Nat} {i1 : Int32} {i2 : Int32} {i3 : Int32} (hf : fMo_add3_0 kd I x0 i1 i2 i3 = some q) {H : Heap} {locs : List Loc} {ls : Array Slot} (hw : ek_W G kd I H) (hS : va_S (ek_A G kd) s.heap H locs) (hl : lv_has ls 7 [(0, ek_r G x0), (1, .int i1), (2, .int i2), (3, .int i3)]) : W p l e ({ frames := 0, cells := 0, slots := 0, locals := 0 } : Room) s m args below meth c H locs 0 0 (MQ below (ek_Q G kd none q) args s 0 0 (ek_A G kd)) (F0 m 0 ls []) := by
  obtain ⟨hx, hb, hml, hown, hts, hr, hlocks, hK⟩ := id X
  have hA : ∀ q, ek_A G kd q → ek_A G kd q := fun _ h => h
  unfold fMo_add3_0 at hf
  refine lv_iconst (v := (0 : Int32)) hx hb dMo_add3_0 (by decide) ?_
  refine ek_istore (lv' := [(4, .int ((0 : Int32))), (3, .int i3), (0, ek_r G x0), (1, .int i1), (2, .int i2)]) hx hb dMo_add3_1 hl (by decide) (ek_s1k 3 rfl rfl rfl rfl rfl) (fun ls hl => ?_)
  refine lv_iconst (v := (0 : Int32)) hx hb dMo_add3_3 (by decide) ?_
  refine ek_istore (lv' := [(5, .int ((0 : Int32))), (4, .int ((0 : Int32))), (3, .int i3), (0, ek_r G x0), (1, .int i1), (2, .int i2)]) hx hb dMo_add3_4 hl (by decide) (ek_s1k 0 rfl rfl rfl rfl rfl) (fun ls hl => ?_)
  exact wMo_add3_6_lp X ek_N (I, x0, i1, i2, i3, (0 : Int32), (0 : Int32)) hf _ _ _ hw hS (lv_sub hl [3, 4, 5, 2, 1, 0] rfl)
set_option maxHeartbeats 4000000 in
set_option maxRecDepth 100000 in
theorem mMo_add3 {l : Launch} {G : ek_G} {kd : Nat → Nat} {I : ek_St} {x0 : Nat} {i1 : Int32} {i2 : Int32} {i3 : Int32} {q : ek_St} (hf : fMo_add3 kd I x0 i1 i2 i3 = some q) : ek_M l G kd y_Mo_add3 (.code y_Mo_add3 prog_9_method_7_code 7 none :: lw_g) ({ frames := 0, cells := 0, slots := 0, locals := 0 } : Room) [ek_r G x0, .int i1, .int i2, .int i3] I none q :=
  ek_body [(0, ek_r G x0), (1, .int i1), (2, .int i2), (3, .int i3)] (by decide) (by simp [lg_sl, ek_r_cat, ek_c_i, ek_c_l]) (by simp [lv_args, ek_r_cat, ek_c_i, ek_c_l]) (fun p e s m below meth c ls X hw hS hl => wMo_add3_0 X hf hw hS hl)
/-! ElasticKernelModel.times(II)V -/
def fMo_times_5 (kd : Nat → Nat) (k5 : (ek_St × Nat × Int32 × Int32 × Int64 × Int32) → Option (ek_St)) (I : ek_St) (x0 : Nat) (i1 : Int32) (i2 : Int32) (j3 : Int64) (i5 : Int32) : Option (ek_St) :=
  if ((24 : Int32)) ≤ i5 then (some I) else (ek_ck (kd x0 = 8) (ek_ck (kd (x0 + 16) = 964) (ek_ck (ek_in ((((24 : Int32)) * i1) + i5) 864) (ek_let (((Int32.toInt64 (I (x0 + 16) ((((24 : Int32)) * i1) + i5).toNatClampNeg)) * (Int32.toInt64 i2)) + j3) (fun j6_2 => ek_ck (kd x0 = 8) (ek_ck (kd (x0 + 16) = 964) (ek_ck (ek_in ((((24 : Int32)) * i1) + i5) 864) (ek_let (ek_up I (x0 + 16) ((((24 : Int32)) * i1) + i5).toNatClampNeg (Int64.toInt32 (j6_2 &&& ((16777215 : Int64))))) (fun I3 => ek_let (j6_2 >>> (Int32.toInt64 ((24 : Int32)) &&& 63)) (fun j3_4 => ek_let (i5 + (1 : Int32)) (fun i5_5 => k5 (I3, x0, i1, i2, j3_4, i5_5))))))))))))
def fMo_times_0 (kd : Nat → Nat) (I : ek_St) (x0 : Nat) (i1 : Int32) (i2 : Int32) : Option (ek_St) :=
  ek_lp (fun (k : (ek_St × Nat × Int32 × Int32 × Int64 × Int32) → Option (ek_St)) (q : (ek_St × Nat × Int32 × Int32 × Int64 × Int32)) => fMo_times_5 kd k q.1 q.2.1 q.2.2.1 q.2.2.2.1 q.2.2.2.2.1 q.2.2.2.2.2) ek_N (I, x0, i1, i2, (0 : Int64), (0 : Int32))
def fMo_times (kd : Nat → Nat) (I : ek_St) (x0 : Nat) (i1 : Int32) (i2 : Int32) : Option (ek_St) := fMo_times_0 kd I x0 i1 i2
theorem dMo_times_0 : decode prog_9_method_8_code 0 = .ok (.lconst 0, 1) := by decide +kernel
theorem dMo_times_1 : decode prog_9_method_8_code 1 = .ok (.lstore_n 3, 1) := by decide +kernel
theorem dMo_times_2 : decode prog_9_method_8_code 2 = .ok (.iconst 0, 1) := by decide +kernel
theorem dMo_times_3 : decode prog_9_method_8_code 3 = .ok (.istore 5, 2) := by decide +kernel
theorem dMo_times_5 : decode prog_9_method_8_code 5 = .ok (.iload 5, 2) := by decide +kernel
theorem dMo_times_7 : decode prog_9_method_8_code 7 = .ok (.bipush 24, 2) := by decide +kernel
theorem dMo_times_9 : decode prog_9_method_8_code 9 = .ok (.if_icmp .ge 54, 3) := by decide +kernel
theorem dMo_times_12 : decode prog_9_method_8_code 12 = .ok (.aload_n 0, 1) := by decide +kernel
theorem dMo_times_13 : decode prog_9_method_8_code 13 = .ok (.getfield 60, 3) := by decide +kernel
theorem dMo_times_16 : decode prog_9_method_8_code 16 = .ok (.bipush 24, 2) := by decide +kernel
theorem dMo_times_18 : decode prog_9_method_8_code 18 = .ok (.iload_n 1, 1) := by decide +kernel
theorem dMo_times_19 : decode prog_9_method_8_code 19 = .ok (.imul, 1) := by decide +kernel
theorem dMo_times_20 : decode prog_9_method_8_code 20 = .ok (.iload 5, 2) := by decide +kernel
theorem dMo_times_22 : decode prog_9_method_8_code 22 = .ok (.iadd, 1) := by decide +kernel
theorem dMo_times_23 : decode prog_9_method_8_code 23 = .ok (.iaload, 1) := by decide +kernel
theorem dMo_times_24 : decode prog_9_method_8_code 24 = .ok (.i2l, 1) := by decide +kernel
theorem dMo_times_25 : decode prog_9_method_8_code 25 = .ok (.iload_n 2, 1) := by decide +kernel
theorem dMo_times_26 : decode prog_9_method_8_code 26 = .ok (.i2l, 1) := by decide +kernel
theorem dMo_times_27 : decode prog_9_method_8_code 27 = .ok (.lmul, 1) := by decide +kernel
theorem dMo_times_28 : decode prog_9_method_8_code 28 = .ok (.lload_n 3, 1) := by decide +kernel
theorem dMo_times_29 : decode prog_9_method_8_code 29 = .ok (.ladd, 1) := by decide +kernel
theorem dMo_times_30 : decode prog_9_method_8_code 30 = .ok (.lstore 6, 2) := by decide +kernel
theorem dMo_times_32 : decode prog_9_method_8_code 32 = .ok (.aload_n 0, 1) := by decide +kernel
theorem dMo_times_33 : decode prog_9_method_8_code 33 = .ok (.getfield 60, 3) := by decide +kernel
theorem dMo_times_36 : decode prog_9_method_8_code 36 = .ok (.bipush 24, 2) := by decide +kernel
theorem dMo_times_38 : decode prog_9_method_8_code 38 = .ok (.iload_n 1, 1) := by decide +kernel
theorem dMo_times_39 : decode prog_9_method_8_code 39 = .ok (.imul, 1) := by decide +kernel
theorem dMo_times_40 : decode prog_9_method_8_code 40 = .ok (.iload 5, 2) := by decide +kernel
theorem dMo_times_42 : decode prog_9_method_8_code 42 = .ok (.iadd, 1) := by decide +kernel
theorem dMo_times_43 : decode prog_9_method_8_code 43 = .ok (.lload 6, 2) := by decide +kernel
theorem dMo_times_45 : decode prog_9_method_8_code 45 = .ok (.ldc2_w 73, 3) := by decide +kernel
theorem dMo_times_48 : decode prog_9_method_8_code 48 = .ok (.land, 1) := by decide +kernel
theorem dMo_times_49 : decode prog_9_method_8_code 49 = .ok (.l2i, 1) := by decide +kernel
theorem dMo_times_50 : decode prog_9_method_8_code 50 = .ok (.iastore, 1) := by decide +kernel
theorem dMo_times_51 : decode prog_9_method_8_code 51 = .ok (.lload 6, 2) := by decide +kernel
theorem dMo_times_53 : decode prog_9_method_8_code 53 = .ok (.bipush 24, 2) := by decide +kernel
theorem dMo_times_55 : decode prog_9_method_8_code 55 = .ok (.lshr, 1) := by decide +kernel
theorem dMo_times_56 : decode prog_9_method_8_code 56 = .ok (.lstore_n 3, 1) := by decide +kernel
theorem dMo_times_57 : decode prog_9_method_8_code 57 = .ok (.iinc 5 1, 3) := by decide +kernel
theorem dMo_times_60 : decode prog_9_method_8_code 60 = .ok (.goto (-55), 3) := by decide +kernel
theorem dMo_times_63 : decode prog_9_method_8_code 63 = .ok (.return_, 1) := by decide +kernel
set_option maxHeartbeats 4000000 in
set_option maxRecDepth 100000 in
theorem wMo_times_5 {l : Launch} {G : ek_G} {kd : Nat → Nat} {p : Program} {e : Env} {s : State} {m : MethodId} {args : Array Value} {below : List Frame} {meth : Method} {c : Code} (X : ek_X p s m meth c args G prog_9_method_8_code 8 "ElasticKernelModel" none) {q : ek_St} {k5 : (ek_St × Nat × Int32 × Int32 × Int64 × Int32) → Option (ek_St)} (hk5 : ∀ q0 : ek_St × Nat × Int32 × Int32 × Int64 × Int32, k5 q0 = some q → ∀ (H : Heap) (locs : List Loc) (ls : Array Slot), ek_W G kd q0.1 H → va_S (ek_A G kd) s.heap H locs → lv_has ls 8 [(0, ek_r G q0.2.1), (1, .int q0.2.2.1), (2, .int q0.2.2.2.1), (3, .long q0.2.2.2.2.1), (5, .int q0.2.2.2.2.2)] → W p l e ({ frames := 0, cells := 0, slots := 0, locals := 0 } : Room) s m args below meth c H locs 0 0 (MQ below (ek_Q G kd none q) args s 0 0 (ek_A G kd)) (F0 m 5 ls [])) {I : ek_St} {x0 : Nat} {i1 : Int32} {i2 : Int32} {j3 : Int64} {i5 : Int32} (hf : fMo_times_5 kd k5 I x0 i1 i2 j3 i5 = some q) {H : Heap} {locs : List Loc} {ls : Array Slot} (hw : ek_W G kd I H) (hS : va_S (ek_A G kd) s.heap H locs) (hl : lv_has ls 8 [(0, ek_r G x0), (1, .int i1), (2, .int i2), (3, .long j3), (5, .int i5)]) : W p l e ({ frames := 0, cells := 0, slots := 0, locals := 0 } : Room) s m args below meth c H locs 0 0 (MQ below (ek_Q G kd none q) args s 0 0 (ek_A G kd)) (F0 m 5 ls []) := by
  obtain ⟨hx, hb, hml, hown, hts, hr, hlocks, hK⟩ := id X
  have hA : ∀ q, ek_A G kd q → ek_A G kd q := fun _ h => h
  unfold fMo_times_5 at hf
  refine lv_iload hx hb dMo_times_5 (lv_at hl 4 rfl) ?_
  refine lv_bipush (v := (24 : Int32)) hx hb dMo_times_7 (by decide) ?_
  refine lv_icmp_ge (tgt := 63) hx hb dMo_times_9 (by decide) (fun c1 => ?_) (fun c1 => ?_)
  · have hf := ek_t c1 hf
    exact ek_vret hx hb hr hlocks hw hS hf dMo_times_63
  · have hf := ek_f c1 hf
    refine ek_aload_n hx hb dMo_times_12 rfl (lv_at hl 0 rfl) ?_
    refine ek_getr hx hb 8 hts (in_Mo) hown hK hw rfl (by decide) (by decide) 23 (by decide) (n := 15) rfl rfl (hts _ q_599) hf dMo_times_13 (fun hf => ?_)
    refine lv_bipush (v := (24 : Int32)) hx hb dMo_times_16 (by decide) ?_
    refine lv_iload_n hx hb dMo_times_18 rfl (lv_at hl 1 rfl) ?_
    refine lv_imul hx hb dMo_times_19 ?_
    refine lv_iload hx hb dMo_times_20 (lv_at hl 4 rfl) ?_
    refine lv_iadd hx hb dMo_times_22 ?_
    refine ek_iald hx hb hK hw 864 rfl hf dMo_times_23 (fun hf => ?_)
    refine lv_i2l hx hb dMo_times_24 rfl ?_
    refine lv_iload_n hx hb dMo_times_25 rfl (lv_at hl 2 rfl) ?_
    refine lv_i2l hx hb dMo_times_26 rfl ?_
    refine lv_lmul hx hb dMo_times_27 ?_
    refine lv_lload_n hx hb dMo_times_28 rfl (lv_at hl 3 rfl) ?_
    refine lv_ladd hx hb dMo_times_29 ?_
    refine ek_tl hf (fun j6_2 hf => ?_)
    refine ek_lstore (lv' := [(6, .long j6_2), (5, .int i5), (0, ek_r G x0), (1, .int i1), (2, .int i2), (3, .long j3)]) hx hb dMo_times_30 hl (by decide) (ek_s2k 4 rfl rfl rfl rfl rfl) (fun ls hl => ?_)
    refine ek_aload_n hx hb dMo_times_32 rfl (lv_at hl 2 rfl) ?_
    refine ek_getr hx hb 8 hts (in_Mo) hown hK hw rfl (by decide) (by decide) 23 (by decide) (n := 15) rfl rfl (hts _ q_599) hf dMo_times_33 (fun hf => ?_)
    refine lv_bipush (v := (24 : Int32)) hx hb dMo_times_36 (by decide) ?_
    refine lv_iload_n hx hb dMo_times_38 rfl (lv_at hl 3 rfl) ?_
    refine lv_imul hx hb dMo_times_39 ?_
    refine lv_iload hx hb dMo_times_40 (lv_at hl 1 rfl) ?_
    refine lv_iadd hx hb dMo_times_42 ?_
    refine lv_lload hx hb dMo_times_43 (lv_at hl 0 rfl) ?_
    refine lv_ldc2 hx hb hown (hts _ q_575) dMo_times_45 ?_
    refine lv_land hx hb dMo_times_48 ?_
    refine lv_l2i hx hb dMo_times_49 rfl ?_
    refine ek_iast hx hb hK hw hS hA 864 rfl hf dMo_times_50 (fun I3 H locs hf hw hS => ?_)
    refine lv_lload hx hb dMo_times_51 (lv_at hl 0 rfl) ?_
    refine lv_bipush (v := (24 : Int32)) hx hb dMo_times_53 (by decide) ?_
    refine lv_lshr hx hb dMo_times_55 rfl ?_
    refine ek_tl hf (fun j3_4 hf => ?_)
    refine ek_lstore_n (lv' := [(3, .long j3_4), (2, .int i2), (6, .long j6_2), (5, .int i5), (0, ek_r G x0), (1, .int i1)]) hx hb dMo_times_56 rfl hl (by decide) (ek_s2k 4 rfl rfl rfl rfl rfl) (fun ls hl => ?_)
    refine ek_iinc hx hb 3 (fun i5_5 => [(5, .int i5_5), (3, .long j3_4), (2, .int i2), (6, .long j6_2), (0, ek_r G x0), (1, .int i1)]) dMo_times_57 hl rfl (v := i5 + (1 : Int32)) rfl hf (by decide) (fun i5_5 => ek_s1 rfl rfl) (fun i5_5 ls hf hl => ?_)
    refine lv_goto (tgt := 5) hx hb dMo_times_60 (by decide) ?_
    exact hk5 (I3, x0, i1, i2, j3_4, i5_5) hf _ _ _ hw hS (lv_sub hl [4, 5, 2, 1, 0] rfl)
set_option maxHeartbeats 4000000 in
set_option maxRecDepth 100000 in
theorem wMo_times_5_lp {l : Launch} {G : ek_G} {kd : Nat → Nat} {p : Program} {e : Env} {s : State} {m : MethodId} {args : Array Value} {below : List Frame} {meth : Method} {c : Code} (X : ek_X p s m meth c args G prog_9_method_8_code 8 "ElasticKernelModel" none) {q : ek_St} (n : Nat) : ∀ q0 : ek_St × Nat × Int32 × Int32 × Int64 × Int32, ek_lp (fun (k : (ek_St × Nat × Int32 × Int32 × Int64 × Int32) → Option (ek_St)) (q : (ek_St × Nat × Int32 × Int32 × Int64 × Int32)) => fMo_times_5 kd k q.1 q.2.1 q.2.2.1 q.2.2.2.1 q.2.2.2.2.1 q.2.2.2.2.2) n q0 = some q → ∀ (H : Heap) (locs : List Loc) (ls : Array Slot), ek_W G kd q0.1 H → va_S (ek_A G kd) s.heap H locs → lv_has ls 8 [(0, ek_r G q0.2.1), (1, .int q0.2.2.1), (2, .int q0.2.2.2.1), (3, .long q0.2.2.2.2.1), (5, .int q0.2.2.2.2.2)] → W p l e ({ frames := 0, cells := 0, slots := 0, locals := 0 } : Room) s m args below meth c H locs 0 0 (MQ below (ek_Q G kd none q) args s 0 0 (ek_A G kd)) (F0 m 5 ls []) :=
  ek_lp_ind (fun k hk q0 hf => fun H locs ls hw hS hl => wMo_times_5 X hk hf hw hS hl) n
set_option maxHeartbeats 4000000 in
set_option maxRecDepth 100000 in
theorem wMo_times_0 {l : Launch} {G : ek_G} {kd : Nat → Nat} {p : Program} {e : Env} {s : State} {m : MethodId} {args : Array Value} {below : List Frame} {meth : Method} {c : Code} (X : ek_X p s m meth c args G prog_9_method_8_code 8 "ElasticKernelModel" none) {q : ek_St} {I : ek_St} {x0 : Nat} {i1 : Int32} {i2 : Int32} (hf : fMo_times_0 kd I x0 i1 i2 = some q) {H : Heap} {locs : List Loc} {ls : Array Slot} (hw : ek_W G kd I H) (hS : va_S (ek_A G kd) s.heap H locs) (hl : lv_has ls 8 [(0, ek_r G x0), (1, .int i1), (2, .int i2)]) : W p l e ({ frames := 0, cells := 0, slots := 0, locals := 0 } : Room) s m args below meth c H locs 0 0 (MQ below (ek_Q G kd none q) args s 0 0 (ek_A G kd)) (F0 m 0 ls []) := by
  obtain ⟨hx, hb, hml, hown, hts, hr, hlocks, hK⟩ := id X
  have hA : ∀ q, ek_A G kd q → ek_A G kd q := fun _ h => h
  unfold fMo_times_0 at hf
  refine lv_lconst (v := (0 : Int64)) hx hb dMo_times_0 (by decide) ?_
  refine ek_lstore_n (lv' := [(3, .long ((0 : Int64))), (2, .int i2), (0, ek_r G x0), (1, .int i1)]) hx hb dMo_times_1 rfl hl (by decide) (ek_s2k 2 rfl rfl rfl rfl rfl) (fun ls hl => ?_)
  refine lv_iconst (v := (0 : Int32)) hx hb dMo_times_2 (by decide) ?_
  refine ek_istore (lv' := [(5, .int ((0 : Int32))), (3, .long ((0 : Int64))), (2, .int i2), (0, ek_r G x0), (1, .int i1)]) hx hb dMo_times_3 hl (by decide) (ek_s1 rfl rfl) (fun ls hl => ?_)
  exact wMo_times_5_lp X ek_N (I, x0, i1, i2, (0 : Int64), (0 : Int32)) hf _ _ _ hw hS (lv_sub hl [3, 4, 2, 1, 0] rfl)
set_option maxHeartbeats 4000000 in
set_option maxRecDepth 100000 in
theorem mMo_times {l : Launch} {G : ek_G} {kd : Nat → Nat} {I : ek_St} {x0 : Nat} {i1 : Int32} {i2 : Int32} {q : ek_St} (hf : fMo_times kd I x0 i1 i2 = some q) : ek_M l G kd y_Mo_times (.code y_Mo_times prog_9_method_8_code 8 none :: lw_g) ({ frames := 0, cells := 0, slots := 0, locals := 0 } : Room) [ek_r G x0, .int i1, .int i2] I none q :=
  ek_body [(0, ek_r G x0), (1, .int i1), (2, .int i2)] (by decide) (by simp [lg_sl, ek_r_cat, ek_c_i, ek_c_l]) (by simp [lv_args, ek_r_cat, ek_c_i, ek_c_l]) (fun p e s m below meth c ls X hw hS hl => wMo_times_0 X hf hw hS hl)
/-! ElasticKernelModel.product(III)V -/
def fMo_product_22 (kd : Nat → Nat) (k9 : (ek_St × Nat × Int32 × Int32 × Int32 × Int32) → Option (ek_St)) (k22 : (ek_St × Nat × Int32 × Int32 × Int32 × Int32 × Int64 × Int32) → Option (ek_St)) (I : ek_St) (x0 : Nat) (i1 : Int32) (i2 : Int32) (i3 : Int32) (i4 : Int32) (j5 : Int64) (i7 : Int32) : Option (ek_St) :=
  if ((24 : Int32)) ≤ (i4 + i7) then (ek_let (i4 + (1 : Int32)) (fun i4_2 => k9 (I, x0, i1, i2, i3, i4_2))) else (ek_ck (kd x0 = 8) (ek_ck (kd (x0 + 16) = 964) (ek_ck (ek_in ((((24 : Int32)) * i2) + i4) 864) (ek_ck (kd x0 = 8) (ek_ck (kd (x0 + 16) = 964) (ek_ck (ek_in ((((24 : Int32)) * i3) + i7) 864) (ek_ck (kd x0 = 8) (ek_ck (kd (x0 + 16) = 964) (ek_ck (ek_in (((((24 : Int32)) * i1) + i4) + i7) 864) (ek_let ((((Int32.toInt64 (I (x0 + 16) ((((24 : Int32)) * i2) + i4).toNatClampNeg)) * (Int32.toInt64 (I (x0 + 16) ((((24 : Int32)) * i3) + i7).toNatClampNeg))) + (Int32.toInt64 (I (x0 + 16) (((((24 : Int32)) * i1) + i4) + i7).toNatClampNeg))) + j5) (fun j8_3 => ek_ck (kd x0 = 8) (ek_ck (kd (x0 + 16) = 964) (ek_ck (ek_in (((((24 : Int32)) * i1) + i4) + i7) 864) (ek_let (ek_up I (x0 + 16) (((((24 : Int32)) * i1) + i4) + i7).toNatClampNeg (Int64.toInt32 (j8_3 &&& ((16777215 : Int64))))) (fun I4 => ek_let (j8_3 >>> (Int32.toInt64 ((24 : Int32)) &&& 63)) (fun j5_5 => ek_let (i7 + (1 : Int32)) (fun i7_6 => k22 (I4, x0, i1, i2, i3, i4, j5_5, i7_6))))))))))))))))))
def fMo_product_9 (kd : Nat → Nat) (k9 : (ek_St × Nat × Int32 × Int32 × Int32 × Int32) → Option (ek_St)) (I : ek_St) (x0 : Nat) (i1 : Int32) (i2 : Int32) (i3 : Int32) (i4 : Int32) : Option (ek_St) :=
  if ((24 : Int32)) ≤ i4 then (some I) else (ek_lp (fun (k : (ek_St × Nat × Int32 × Int32 × Int32 × Int32 × Int64 × Int32) → Option (ek_St)) (q : (ek_St × Nat × Int32 × Int32 × Int32 × Int32 × Int64 × Int32)) => fMo_product_22 kd k9 k q.1 q.2.1 q.2.2.1 q.2.2.2.1 q.2.2.2.2.1 q.2.2.2.2.2.1 q.2.2.2.2.2.2.1 q.2.2.2.2.2.2.2) ek_N (I, x0, i1, i2, i3, i4, (0 : Int64), (0 : Int32)))
def fMo_product_0 (kd : Nat → Nat) (I : ek_St) (x0 : Nat) (i1 : Int32) (i2 : Int32) (i3 : Int32) : Option (ek_St) :=
  ek_ck (kd x0 = 8) (ek_bv (fMo_be kd I x0 i1 ((0 : Int64))) (fun I1 => ek_lp (fun (k : (ek_St × Nat × Int32 × Int32 × Int32 × Int32) → Option (ek_St)) (q : (ek_St × Nat × Int32 × Int32 × Int32 × Int32)) => fMo_product_9 kd k q.1 q.2.1 q.2.2.1 q.2.2.2.1 q.2.2.2.2.1 q.2.2.2.2.2) ek_N (I1, x0, i1, i2, i3, (0 : Int32))))
def fMo_product (kd : Nat → Nat) (I : ek_St) (x0 : Nat) (i1 : Int32) (i2 : Int32) (i3 : Int32) : Option (ek_St) := fMo_product_0 kd I x0 i1 i2 i3
theorem dMo_product_0 : decode prog_9_method_9_code 0 = .ok (.aload_n 0, 1) := by decide +kernel
theorem dMo_product_1 : decode prog_9_method_9_code 1 = .ok (.iload_n 1, 1) := by decide +kernel
theorem dMo_product_2 : decode prog_9_method_9_code 2 = .ok (.lconst 0, 1) := by decide +kernel
theorem dMo_product_3 : decode prog_9_method_9_code 3 = .ok (.invokevirtual 66, 3) := by decide +kernel
theorem dMo_product_6 : decode prog_9_method_9_code 6 = .ok (.iconst 0, 1) := by decide +kernel
theorem dMo_product_7 : decode prog_9_method_9_code 7 = .ok (.istore 4, 2) := by decide +kernel
theorem dMo_product_9 : decode prog_9_method_9_code 9 = .ok (.iload 4, 2) := by decide +kernel
theorem dMo_product_11 : decode prog_9_method_9_code 11 = .ok (.bipush 24, 2) := by decide +kernel
theorem dMo_product_13 : decode prog_9_method_9_code 13 = .ok (.if_icmp .ge 109, 3) := by decide +kernel
theorem dMo_product_16 : decode prog_9_method_9_code 16 = .ok (.lconst 0, 1) := by decide +kernel
theorem dMo_product_17 : decode prog_9_method_9_code 17 = .ok (.lstore 5, 2) := by decide +kernel
theorem dMo_product_19 : decode prog_9_method_9_code 19 = .ok (.iconst 0, 1) := by decide +kernel
theorem dMo_product_20 : decode prog_9_method_9_code 20 = .ok (.istore 7, 2) := by decide +kernel
theorem dMo_product_22 : decode prog_9_method_9_code 22 = .ok (.iload 4, 2) := by decide +kernel
theorem dMo_product_24 : decode prog_9_method_9_code 24 = .ok (.iload 7, 2) := by decide +kernel
theorem dMo_product_26 : decode prog_9_method_9_code 26 = .ok (.iadd, 1) := by decide +kernel
theorem dMo_product_27 : decode prog_9_method_9_code 27 = .ok (.bipush 24, 2) := by decide +kernel
theorem dMo_product_29 : decode prog_9_method_9_code 29 = .ok (.if_icmp .ge 87, 3) := by decide +kernel
theorem dMo_product_32 : decode prog_9_method_9_code 32 = .ok (.aload_n 0, 1) := by decide +kernel
theorem dMo_product_33 : decode prog_9_method_9_code 33 = .ok (.getfield 60, 3) := by decide +kernel
theorem dMo_product_36 : decode prog_9_method_9_code 36 = .ok (.bipush 24, 2) := by decide +kernel
theorem dMo_product_38 : decode prog_9_method_9_code 38 = .ok (.iload_n 2, 1) := by decide +kernel
theorem dMo_product_39 : decode prog_9_method_9_code 39 = .ok (.imul, 1) := by decide +kernel
theorem dMo_product_40 : decode prog_9_method_9_code 40 = .ok (.iload 4, 2) := by decide +kernel
theorem dMo_product_42 : decode prog_9_method_9_code 42 = .ok (.iadd, 1) := by decide +kernel
theorem dMo_product_43 : decode prog_9_method_9_code 43 = .ok (.iaload, 1) := by decide +kernel
theorem dMo_product_44 : decode prog_9_method_9_code 44 = .ok (.i2l, 1) := by decide +kernel
theorem dMo_product_45 : decode prog_9_method_9_code 45 = .ok (.aload_n 0, 1) := by decide +kernel
theorem dMo_product_46 : decode prog_9_method_9_code 46 = .ok (.getfield 60, 3) := by decide +kernel
theorem dMo_product_49 : decode prog_9_method_9_code 49 = .ok (.bipush 24, 2) := by decide +kernel
theorem dMo_product_51 : decode prog_9_method_9_code 51 = .ok (.iload_n 3, 1) := by decide +kernel
theorem dMo_product_52 : decode prog_9_method_9_code 52 = .ok (.imul, 1) := by decide +kernel
theorem dMo_product_53 : decode prog_9_method_9_code 53 = .ok (.iload 7, 2) := by decide +kernel
theorem dMo_product_55 : decode prog_9_method_9_code 55 = .ok (.iadd, 1) := by decide +kernel
theorem dMo_product_56 : decode prog_9_method_9_code 56 = .ok (.iaload, 1) := by decide +kernel
theorem dMo_product_57 : decode prog_9_method_9_code 57 = .ok (.i2l, 1) := by decide +kernel
theorem dMo_product_58 : decode prog_9_method_9_code 58 = .ok (.lmul, 1) := by decide +kernel
theorem dMo_product_59 : decode prog_9_method_9_code 59 = .ok (.aload_n 0, 1) := by decide +kernel
theorem dMo_product_60 : decode prog_9_method_9_code 60 = .ok (.getfield 60, 3) := by decide +kernel
theorem dMo_product_63 : decode prog_9_method_9_code 63 = .ok (.bipush 24, 2) := by decide +kernel
theorem dMo_product_65 : decode prog_9_method_9_code 65 = .ok (.iload_n 1, 1) := by decide +kernel
theorem dMo_product_66 : decode prog_9_method_9_code 66 = .ok (.imul, 1) := by decide +kernel
theorem dMo_product_67 : decode prog_9_method_9_code 67 = .ok (.iload 4, 2) := by decide +kernel
theorem dMo_product_69 : decode prog_9_method_9_code 69 = .ok (.iadd, 1) := by decide +kernel
theorem dMo_product_70 : decode prog_9_method_9_code 70 = .ok (.iload 7, 2) := by decide +kernel
theorem dMo_product_72 : decode prog_9_method_9_code 72 = .ok (.iadd, 1) := by decide +kernel
theorem dMo_product_73 : decode prog_9_method_9_code 73 = .ok (.iaload, 1) := by decide +kernel
theorem dMo_product_74 : decode prog_9_method_9_code 74 = .ok (.i2l, 1) := by decide +kernel
theorem dMo_product_75 : decode prog_9_method_9_code 75 = .ok (.ladd, 1) := by decide +kernel
theorem dMo_product_76 : decode prog_9_method_9_code 76 = .ok (.lload 5, 2) := by decide +kernel
theorem dMo_product_78 : decode prog_9_method_9_code 78 = .ok (.ladd, 1) := by decide +kernel
theorem dMo_product_79 : decode prog_9_method_9_code 79 = .ok (.lstore 8, 2) := by decide +kernel
theorem dMo_product_81 : decode prog_9_method_9_code 81 = .ok (.aload_n 0, 1) := by decide +kernel
theorem dMo_product_82 : decode prog_9_method_9_code 82 = .ok (.getfield 60, 3) := by decide +kernel
theorem dMo_product_85 : decode prog_9_method_9_code 85 = .ok (.bipush 24, 2) := by decide +kernel
theorem dMo_product_87 : decode prog_9_method_9_code 87 = .ok (.iload_n 1, 1) := by decide +kernel
theorem dMo_product_88 : decode prog_9_method_9_code 88 = .ok (.imul, 1) := by decide +kernel
theorem dMo_product_89 : decode prog_9_method_9_code 89 = .ok (.iload 4, 2) := by decide +kernel
theorem dMo_product_91 : decode prog_9_method_9_code 91 = .ok (.iadd, 1) := by decide +kernel
theorem dMo_product_92 : decode prog_9_method_9_code 92 = .ok (.iload 7, 2) := by decide +kernel
theorem dMo_product_94 : decode prog_9_method_9_code 94 = .ok (.iadd, 1) := by decide +kernel
theorem dMo_product_95 : decode prog_9_method_9_code 95 = .ok (.lload 8, 2) := by decide +kernel
theorem dMo_product_97 : decode prog_9_method_9_code 97 = .ok (.ldc2_w 73, 3) := by decide +kernel
theorem dMo_product_100 : decode prog_9_method_9_code 100 = .ok (.land, 1) := by decide +kernel
theorem dMo_product_101 : decode prog_9_method_9_code 101 = .ok (.l2i, 1) := by decide +kernel
theorem dMo_product_102 : decode prog_9_method_9_code 102 = .ok (.iastore, 1) := by decide +kernel
theorem dMo_product_103 : decode prog_9_method_9_code 103 = .ok (.lload 8, 2) := by decide +kernel
theorem dMo_product_105 : decode prog_9_method_9_code 105 = .ok (.bipush 24, 2) := by decide +kernel
theorem dMo_product_107 : decode prog_9_method_9_code 107 = .ok (.lshr, 1) := by decide +kernel
theorem dMo_product_108 : decode prog_9_method_9_code 108 = .ok (.lstore 5, 2) := by decide +kernel
theorem dMo_product_110 : decode prog_9_method_9_code 110 = .ok (.iinc 7 1, 3) := by decide +kernel
theorem dMo_product_113 : decode prog_9_method_9_code 113 = .ok (.goto (-91), 3) := by decide +kernel
theorem dMo_product_116 : decode prog_9_method_9_code 116 = .ok (.iinc 4 1, 3) := by decide +kernel
theorem dMo_product_119 : decode prog_9_method_9_code 119 = .ok (.goto (-110), 3) := by decide +kernel
theorem dMo_product_122 : decode prog_9_method_9_code 122 = .ok (.return_, 1) := by decide +kernel
set_option maxHeartbeats 4000000 in
set_option maxRecDepth 100000 in
theorem wMo_product_22 {l : Launch} {G : ek_G} {kd : Nat → Nat} {p : Program} {e : Env} {s : State} {m : MethodId} {args : Array Value} {below : List Frame} {meth : Method} {c : Code} (X : ek_X p s m meth c args G prog_9_method_9_code 10 "ElasticKernelModel" none) {q : ek_St} {k9 : (ek_St × Nat × Int32 × Int32 × Int32 × Int32) → Option (ek_St)} (hk9 : ∀ q0 : ek_St × Nat × Int32 × Int32 × Int32 × Int32, k9 q0 = some q → ∀ (H : Heap) (locs : List Loc) (ls : Array Slot), ek_W G kd q0.1 H → va_S (ek_A G kd) s.heap H locs → lv_has ls 10 [(0, ek_r G q0.2.1), (1, .int q0.2.2.1), (2, .int q0.2.2.2.1), (3, .int q0.2.2.2.2.1), (4, .int q0.2.2.2.2.2)] → W p l e ({ frames := 1, cells := 0, slots := 0, locals := 24 } : Room) s m args below meth c H locs 0 0 (MQ below (ek_Q G kd none q) args s 0 0 (ek_A G kd)) (F0 m 9 ls [])) {k22 : (ek_St × Nat × Int32 × Int32 × Int32 × Int32 × Int64 × Int32) → Option (ek_St)} (hk22 : ∀ q0 : ek_St × Nat × Int32 × Int32 × Int32 × Int32 × Int64 × Int32, k22 q0 = some q → ∀ (H : Heap) (locs : List Loc) (ls : Array Slot), ek_W G kd q0.1 H → va_S (ek_A G kd) s.heap H locs → lv_has ls 10 [(0, ek_r G q0.2.1), (1, .int q0.2.2.1), (2, .int q0.2.2.2.1), (3, .int q0.2.2.2.2.1), (4, .int q0.2.2.2.2.2.1), (5, .long q0.2.2.2.2.2.2.1), (7, .int q0.2.2.2.2.2.2.2)] → W p l e ({ frames := 1, cells := 0, slots := 0, locals := 24 } : Room) s m args below meth c H locs 0 0 (MQ below (ek_Q G kd none q) args s 0 0 (ek_A G kd)) (F0 m 22 ls [])) {I : ek_St} {x0 : Nat} {i1 : Int32} {i2 : Int32} {i3 : Int32} {i4 : Int32} {j5 : Int64} {i7 : Int32} (hf : fMo_product_22 kd k9 k22 I x0 i1 i2 i3 i4 j5 i7 = some q) {H : Heap} {locs : List Loc} {ls : Array Slot} (hw : ek_W G kd I H) (hS : va_S (ek_A G kd) s.heap H locs) (hl : lv_has ls 10 [(0, ek_r G x0), (1, .int i1), (2, .int i2), (3, .int i3), (4, .int i4), (5, .long j5), (7, .int i7)]) : W p l e ({ frames := 1, cells := 0, slots := 0, locals := 24 } : Room) s m args below meth c H locs 0 0 (MQ below (ek_Q G kd none q) args s 0 0 (ek_A G kd)) (F0 m 22 ls []) := by
  obtain ⟨hx, hb, hml, hown, hts, hr, hlocks, hK⟩ := id X
  have hA : ∀ q, ek_A G kd q → ek_A G kd q := fun _ h => h
  unfold fMo_product_22 at hf
  refine lv_iload hx hb dMo_product_22 (lv_at hl 4 rfl) ?_
  refine lv_iload hx hb dMo_product_24 (lv_at hl 6 rfl) ?_
  refine lv_iadd hx hb dMo_product_26 ?_
  refine lv_bipush (v := (24 : Int32)) hx hb dMo_product_27 (by decide) ?_
  refine lv_icmp_ge (tgt := 116) hx hb dMo_product_29 (by decide) (fun c1 => ?_) (fun c1 => ?_)
  · have hf := ek_t c1 hf
    refine ek_iinc hx hb 4 (fun i4_2 => [(4, .int i4_2), (3, .int i3), (0, ek_r G x0), (1, .int i1), (2, .int i2), (5, .long j5), (7, .int i7)]) dMo_product_116 hl rfl (v := i4 + (1 : Int32)) rfl hf (by decide) (fun i4_2 => ek_s1k 3 rfl rfl rfl rfl rfl) (fun i4_2 ls hf hl => ?_)
    refine lv_goto (tgt := 9) hx hb dMo_product_119 (by decide) ?_
    exact hk9 (I, x0, i1, i2, i3, i4_2) hf _ _ _ hw hS (lv_sub hl [2, 3, 4, 1, 0] rfl)
  · have hf := ek_f c1 hf
    refine ek_aload_n hx hb dMo_product_32 rfl (lv_at hl 0 rfl) ?_
    refine ek_getr hx hb 8 hts (in_Mo) hown hK hw rfl (by decide) (by decide) 23 (by decide) (n := 15) rfl rfl (hts _ q_599) hf dMo_product_33 (fun hf => ?_)
    refine lv_bipush (v := (24 : Int32)) hx hb dMo_product_36 (by decide) ?_
    refine lv_iload_n hx hb dMo_product_38 rfl (lv_at hl 2 rfl) ?_
    refine lv_imul hx hb dMo_product_39 ?_
    refine lv_iload hx hb dMo_product_40 (lv_at hl 4 rfl) ?_
    refine lv_iadd hx hb dMo_product_42 ?_
    refine ek_iald hx hb hK hw 864 rfl hf dMo_product_43 (fun hf => ?_)
    refine lv_i2l hx hb dMo_product_44 rfl ?_
    refine ek_aload_n hx hb dMo_product_45 rfl (lv_at hl 0 rfl) ?_
    refine ek_getr hx hb 8 hts (in_Mo) hown hK hw rfl (by decide) (by decide) 23 (by decide) (n := 15) rfl rfl (hts _ q_599) hf dMo_product_46 (fun hf => ?_)
    refine lv_bipush (v := (24 : Int32)) hx hb dMo_product_49 (by decide) ?_
    refine lv_iload_n hx hb dMo_product_51 rfl (lv_at hl 3 rfl) ?_
    refine lv_imul hx hb dMo_product_52 ?_
    refine lv_iload hx hb dMo_product_53 (lv_at hl 6 rfl) ?_
    refine lv_iadd hx hb dMo_product_55 ?_
    refine ek_iald hx hb hK hw 864 rfl hf dMo_product_56 (fun hf => ?_)
    refine lv_i2l hx hb dMo_product_57 rfl ?_
    refine lv_lmul hx hb dMo_product_58 ?_
    refine ek_aload_n hx hb dMo_product_59 rfl (lv_at hl 0 rfl) ?_
    refine ek_getr hx hb 8 hts (in_Mo) hown hK hw rfl (by decide) (by decide) 23 (by decide) (n := 15) rfl rfl (hts _ q_599) hf dMo_product_60 (fun hf => ?_)
    refine lv_bipush (v := (24 : Int32)) hx hb dMo_product_63 (by decide) ?_
    refine lv_iload_n hx hb dMo_product_65 rfl (lv_at hl 1 rfl) ?_
    refine lv_imul hx hb dMo_product_66 ?_
    refine lv_iload hx hb dMo_product_67 (lv_at hl 4 rfl) ?_
    refine lv_iadd hx hb dMo_product_69 ?_
    refine lv_iload hx hb dMo_product_70 (lv_at hl 6 rfl) ?_
    refine lv_iadd hx hb dMo_product_72 ?_
    refine ek_iald hx hb hK hw 864 rfl hf dMo_product_73 (fun hf => ?_)
    refine lv_i2l hx hb dMo_product_74 rfl ?_
    refine lv_ladd hx hb dMo_product_75 ?_
    refine lv_lload hx hb dMo_product_76 (lv_at hl 5 rfl) ?_
    refine lv_ladd hx hb dMo_product_78 ?_
    refine ek_tl hf (fun j8_3 hf => ?_)
    refine ek_lstore (lv' := [(8, .long j8_3), (7, .int i7), (0, ek_r G x0), (1, .int i1), (2, .int i2), (3, .int i3), (4, .int i4), (5, .long j5)]) hx hb dMo_product_79 hl (by decide) (ek_s2k 6 rfl rfl rfl rfl rfl) (fun ls hl => ?_)
    refine ek_aload_n hx hb dMo_product_81 rfl (lv_at hl 2 rfl) ?_
    refine ek_getr hx hb 8 hts (in_Mo) hown hK hw rfl (by decide) (by decide) 23 (by decide) (n := 15) rfl rfl (hts _ q_599) hf dMo_product_82 (fun hf => ?_)
    refine lv_bipush (v := (24 : Int32)) hx hb dMo_product_85 (by decide) ?_
    refine lv_iload_n hx hb dMo_product_87 rfl (lv_at hl 3 rfl) ?_
    refine lv_imul hx hb dMo_product_88 ?_
    refine lv_iload hx hb dMo_product_89 (lv_at hl 6 rfl) ?_
    refine lv_iadd hx hb dMo_product_91 ?_
    refine lv_iload hx hb dMo_product_92 (lv_at hl 1 rfl) ?_
    refine lv_iadd hx hb dMo_product_94 ?_
    refine lv_lload hx hb dMo_product_95 (lv_at hl 0 rfl) ?_
    refine lv_ldc2 hx hb hown (hts _ q_575) dMo_product_97 ?_
    refine lv_land hx hb dMo_product_100 ?_
    refine lv_l2i hx hb dMo_product_101 rfl ?_
    refine ek_iast hx hb hK hw hS hA 864 rfl hf dMo_product_102 (fun I4 H locs hf hw hS => ?_)
    refine lv_lload hx hb dMo_product_103 (lv_at hl 0 rfl) ?_
    refine lv_bipush (v := (24 : Int32)) hx hb dMo_product_105 (by decide) ?_
    refine lv_lshr hx hb dMo_product_107 rfl ?_
    refine ek_tl hf (fun j5_5 hf => ?_)
    refine ek_lstore (lv' := [(5, .long j5_5), (4, .int i4), (8, .long j8_3), (7, .int i7), (0, ek_r G x0), (1, .int i1), (2, .int i2), (3, .int i3)]) hx hb dMo_product_108 hl (by decide) (ek_s2k 6 rfl rfl rfl rfl rfl) (fun ls hl => ?_)
    refine ek_iinc hx hb 3 (fun i7_6 => [(7, .int i7_6), (5, .long j5_5), (4, .int i4), (8, .long j8_3), (0, ek_r G x0), (1, .int i1), (2, .int i2), (3, .int i3)]) dMo_product_110 hl rfl (v := i7 + (1 : Int32)) rfl hf (by decide) (fun i7_6 => ek_s1 rfl rfl) (fun i7_6 ls hf hl => ?_)
    refine lv_goto (tgt := 22) hx hb dMo_product_113 (by decide) ?_
    exact hk22 (I4, x0, i1, i2, i3, i4, j5_5, i7_6) hf _ _ _ hw hS (lv_sub hl [4, 5, 6, 7, 2, 1, 0] rfl)
set_option maxHeartbeats 4000000 in
set_option maxRecDepth 100000 in
theorem wMo_product_22_lp {l : Launch} {G : ek_G} {kd : Nat → Nat} {p : Program} {e : Env} {s : State} {m : MethodId} {args : Array Value} {below : List Frame} {meth : Method} {c : Code} (X : ek_X p s m meth c args G prog_9_method_9_code 10 "ElasticKernelModel" none) {q : ek_St} {k9 : (ek_St × Nat × Int32 × Int32 × Int32 × Int32) → Option (ek_St)} (hk9 : ∀ q0 : ek_St × Nat × Int32 × Int32 × Int32 × Int32, k9 q0 = some q → ∀ (H : Heap) (locs : List Loc) (ls : Array Slot), ek_W G kd q0.1 H → va_S (ek_A G kd) s.heap H locs → lv_has ls 10 [(0, ek_r G q0.2.1), (1, .int q0.2.2.1), (2, .int q0.2.2.2.1), (3, .int q0.2.2.2.2.1), (4, .int q0.2.2.2.2.2)] → W p l e ({ frames := 1, cells := 0, slots := 0, locals := 24 } : Room) s m args below meth c H locs 0 0 (MQ below (ek_Q G kd none q) args s 0 0 (ek_A G kd)) (F0 m 9 ls [])) (n : Nat) : ∀ q0 : ek_St × Nat × Int32 × Int32 × Int32 × Int32 × Int64 × Int32, ek_lp (fun (k : (ek_St × Nat × Int32 × Int32 × Int32 × Int32 × Int64 × Int32) → Option (ek_St)) (q : (ek_St × Nat × Int32 × Int32 × Int32 × Int32 × Int64 × Int32)) => fMo_product_22 kd k9 k q.1 q.2.1 q.2.2.1 q.2.2.2.1 q.2.2.2.2.1 q.2.2.2.2.2.1 q.2.2.2.2.2.2.1 q.2.2.2.2.2.2.2) n q0 = some q → ∀ (H : Heap) (locs : List Loc) (ls : Array Slot), ek_W G kd q0.1 H → va_S (ek_A G kd) s.heap H locs → lv_has ls 10 [(0, ek_r G q0.2.1), (1, .int q0.2.2.1), (2, .int q0.2.2.2.1), (3, .int q0.2.2.2.2.1), (4, .int q0.2.2.2.2.2.1), (5, .long q0.2.2.2.2.2.2.1), (7, .int q0.2.2.2.2.2.2.2)] → W p l e ({ frames := 1, cells := 0, slots := 0, locals := 24 } : Room) s m args below meth c H locs 0 0 (MQ below (ek_Q G kd none q) args s 0 0 (ek_A G kd)) (F0 m 22 ls []) :=
  ek_lp_ind (fun k hk q0 hf => fun H locs ls hw hS hl => wMo_product_22 X hk9 hk hf hw hS hl) n
set_option maxHeartbeats 4000000 in
set_option maxRecDepth 100000 in
theorem wMo_product_9 {l : Launch} {G : ek_G} {kd : Nat → Nat} {p : Program} {e : Env} {s : State} {m : MethodId} {args : Array Value} {below : List Frame} {meth : Method} {c : Code} (X : ek_X p s m meth c args G prog_9_method_9_code 10 "ElasticKernelModel" none) {q : ek_St} {k9 : (ek_St × Nat × Int32 × Int32 × Int32 × Int32) → Option (ek_St)} (hk9 : ∀ q0 : ek_St × Nat × Int32 × Int32 × Int32 × Int32, k9 q0 = some q → ∀ (H : Heap) (locs : List Loc) (ls : Array Slot), ek_W G kd q0.1 H → va_S (ek_A G kd) s.heap H locs → lv_has ls 10 [(0, ek_r G q0.2.1), (1, .int q0.2.2.1), (2, .int q0.2.2.2.1), (3, .int q0.2.2.2.2.1), (4, .int q0.2.2.2.2.2)] → W p l e ({ frames := 1, cells := 0, slots := 0, locals := 24 } : Room) s m args below meth c H locs 0 0 (MQ below (ek_Q G kd none q) args s 0 0 (ek_A G kd)) (F0 m 9 ls [])) {I : ek_St} {x0 : Nat} {i1 : Int32} {i2 : Int32} {i3 : Int32} {i4 : Int32} (hf : fMo_product_9 kd k9 I x0 i1 i2 i3 i4 = some q) {H : Heap} {locs : List Loc} {ls : Array Slot} (hw : ek_W G kd I H) (hS : va_S (ek_A G kd) s.heap H locs) (hl : lv_has ls 10 [(0, ek_r G x0), (1, .int i1), (2, .int i2), (3, .int i3), (4, .int i4)]) : W p l e ({ frames := 1, cells := 0, slots := 0, locals := 24 } : Room) s m args below meth c H locs 0 0 (MQ below (ek_Q G kd none q) args s 0 0 (ek_A G kd)) (F0 m 9 ls []) := by
  obtain ⟨hx, hb, hml, hown, hts, hr, hlocks, hK⟩ := id X
  have hA : ∀ q, ek_A G kd q → ek_A G kd q := fun _ h => h
  unfold fMo_product_9 at hf
  refine lv_iload hx hb dMo_product_9 (lv_at hl 4 rfl) ?_
  refine lv_bipush (v := (24 : Int32)) hx hb dMo_product_11 (by decide) ?_
  refine lv_icmp_ge (tgt := 122) hx hb dMo_product_13 (by decide) (fun c1 => ?_) (fun c1 => ?_)
  · have hf := ek_t c1 hf
    exact ek_vret hx hb hr hlocks hw hS hf dMo_product_122
  · have hf := ek_f c1 hf
    refine lv_lconst (v := (0 : Int64)) hx hb dMo_product_16 (by decide) ?_
    refine ek_lstore (lv' := [(5, .long ((0 : Int64))), (4, .int i4), (0, ek_r G x0), (1, .int i1), (2, .int i2), (3, .int i3)]) hx hb dMo_product_17 hl (by decide) (ek_s2k 4 rfl rfl rfl rfl rfl) (fun ls hl => ?_)
    refine lv_iconst (v := (0 : Int32)) hx hb dMo_product_19 (by decide) ?_
    refine ek_istore (lv' := [(7, .int ((0 : Int32))), (5, .long ((0 : Int64))), (4, .int i4), (0, ek_r G x0), (1, .int i1), (2, .int i2), (3, .int i3)]) hx hb dMo_product_20 hl (by decide) (ek_s1 rfl rfl) (fun ls hl => ?_)
    exact wMo_product_22_lp X hk9 ek_N (I, x0, i1, i2, i3, i4, (0 : Int64), (0 : Int32)) hf _ _ _ hw hS (lv_sub hl [3, 4, 5, 6, 2, 1, 0] rfl)
set_option maxHeartbeats 4000000 in
set_option maxRecDepth 100000 in
theorem wMo_product_9_lp {l : Launch} {G : ek_G} {kd : Nat → Nat} {p : Program} {e : Env} {s : State} {m : MethodId} {args : Array Value} {below : List Frame} {meth : Method} {c : Code} (X : ek_X p s m meth c args G prog_9_method_9_code 10 "ElasticKernelModel" none) {q : ek_St} (n : Nat) : ∀ q0 : ek_St × Nat × Int32 × Int32 × Int32 × Int32, ek_lp (fun (k : (ek_St × Nat × Int32 × Int32 × Int32 × Int32) → Option (ek_St)) (q : (ek_St × Nat × Int32 × Int32 × Int32 × Int32)) => fMo_product_9 kd k q.1 q.2.1 q.2.2.1 q.2.2.2.1 q.2.2.2.2.1 q.2.2.2.2.2) n q0 = some q → ∀ (H : Heap) (locs : List Loc) (ls : Array Slot), ek_W G kd q0.1 H → va_S (ek_A G kd) s.heap H locs → lv_has ls 10 [(0, ek_r G q0.2.1), (1, .int q0.2.2.1), (2, .int q0.2.2.2.1), (3, .int q0.2.2.2.2.1), (4, .int q0.2.2.2.2.2)] → W p l e ({ frames := 1, cells := 0, slots := 0, locals := 24 } : Room) s m args below meth c H locs 0 0 (MQ below (ek_Q G kd none q) args s 0 0 (ek_A G kd)) (F0 m 9 ls []) :=
  ek_lp_ind (fun k hk q0 hf => fun H locs ls hw hS hl => wMo_product_9 X hk hf hw hS hl) n
set_option maxHeartbeats 4000000 in
set_option maxRecDepth 100000 in
theorem wMo_product_0 {l : Launch} {G : ek_G} {kd : Nat → Nat} {p : Program} {e : Env} {s : State} {m : MethodId} {args : Array Value} {below : List Frame} {meth : Method} {c : Code} (X : ek_X p s m meth c args G prog_9_method_9_code 10 "ElasticKernelModel" none) {q : ek_St} {I : ek_St} {x0 : Nat} {i1 : Int32} {i2 : Int32} {i3 : Int32} (hf : fMo_product_0 kd I x0 i1 i2 i3 = some q) {H : Heap} {locs : List Loc} {ls : Array Slot} (hw : ek_W G kd I H) (hS : va_S (ek_A G kd) s.heap H locs) (hl : lv_has ls 10 [(0, ek_r G x0), (1, .int i1), (2, .int i2), (3, .int i3)]) : W p l e ({ frames := 1, cells := 0, slots := 0, locals := 24 } : Room) s m args below meth c H locs 0 0 (MQ below (ek_Q G kd none q) args s 0 0 (ek_A G kd)) (F0 m 0 ls []) := by
  obtain ⟨hx, hb, hml, hown, hts, hr, hlocks, hK⟩ := id X
  have hA : ∀ q, ek_A G kd q → ek_A G kd q := fun _ h => h
  unfold fMo_product_0 at hf
  refine ek_aload_n hx hb dMo_product_0 rfl (lv_at hl 0 rfl) ?_
  refine lv_iload_n hx hb dMo_product_1 rfl (lv_at hl 1 rfl) ?_
  refine lv_lconst (v := (0 : Int64)) hx hb dMo_product_2 (by decide) ?_
  obtain ⟨hx2, hf⟩ := ek_ck_s hf
  refine ek_cv hf hS hA (fun I' hq => ek_rV (As := [.int i1, .long ((0 : Int64))]) ⟨hx, hb, hml, hown, hts⟩ hK hw 8 rfl (by decide) (by decide) hx2 (mMo_be hq) (cwV 2 hts (lw_V q_571 q_573 p_15 q_8 q_574) rfl rfl rfl (by decide +kernel) ⟨Nat.le_of_ble_eq_true rfl, Nat.le_of_ble_eq_true rfl⟩) rfl hl.1 rfl (Nat.le_of_ble_eq_true rfl) dMo_product_3 ⟨Nat.zero_le _, Nat.zero_le _⟩) (fun I1 H locs hf hw hS => ?_)
  refine lv_iconst (v := (0 : Int32)) hx hb dMo_product_6 (by decide) ?_
  refine ek_istore (lv' := [(4, .int ((0 : Int32))), (3, .int i3), (0, ek_r G x0), (1, .int i1), (2, .int i2)]) hx hb dMo_product_7 hl (by decide) (ek_s1k 3 rfl rfl rfl rfl rfl) (fun ls hl => ?_)
  exact wMo_product_9_lp X ek_N (I1, x0, i1, i2, i3, (0 : Int32)) hf _ _ _ hw hS (lv_sub hl [2, 3, 4, 1, 0] rfl)
set_option maxHeartbeats 4000000 in
set_option maxRecDepth 100000 in
theorem mMo_product {l : Launch} {G : ek_G} {kd : Nat → Nat} {I : ek_St} {x0 : Nat} {i1 : Int32} {i2 : Int32} {i3 : Int32} {q : ek_St} (hf : fMo_product kd I x0 i1 i2 i3 = some q) : ek_M l G kd y_Mo_product (.code y_Mo_product prog_9_method_9_code 10 none :: lw_g) ({ frames := 1, cells := 0, slots := 0, locals := 24 } : Room) [ek_r G x0, .int i1, .int i2, .int i3] I none q :=
  ek_body [(0, ek_r G x0), (1, .int i1), (2, .int i2), (3, .int i3)] (by decide) (by simp [lg_sl, ek_r_cat, ek_c_i, ek_c_l]) (by simp [lv_args, ek_r_cat, ek_c_i, ek_c_l]) (fun p e s m below meth c ls X hw hS hl => wMo_product_0 X hf hw hS hl)
/-! ElasticKernelModel.halve(I)V -/
def fMo_halve_35 (kd : Nat → Nat) (k2 : (ek_St × Nat × Int32 × Int32) → Option (ek_St)) (I : ek_St) (x0 : Nat) (i1 : Int32) (i2 : Int32) (t0 : Int32) : Option (ek_St) :=
  ek_ck (kd x0 = 8) (ek_ck (kd x0 = 8) (ek_ck (kd (x0 + 16) = 964) (ek_ck (ek_in ((((24 : Int32)) * i1) + i2) 864) (ek_ck (kd (x0 + 16) = 964) (ek_ck (ek_in ((((24 : Int32)) * i1) + i2) 864) (ek_let (ek_up I (x0 + 16) ((((24 : Int32)) * i1) + i2).toNatClampNeg (((I (x0 + 16) ((((24 : Int32)) * i1) + i2).toNatClampNeg) >>> (((1 : Int32)) &&& 31)) ||| (t0 <<< (((23 : Int32)) &&& 31)))) (fun I1 => ek_let (i2 + (1 : Int32)) (fun i2_2 => k2 (I1, x0, i1, i2_2)))))))))
def fMo_halve_2 (kd : Nat → Nat) (k2 : (ek_St × Nat × Int32 × Int32) → Option (ek_St)) (I : ek_St) (x0 : Nat) (i1 : Int32) (i2 : Int32) : Option (ek_St) :=
  if ((24 : Int32)) ≤ i2 then (some I) else (if ((24 : Int32)) ≤ (i2 + ((1 : Int32))) then (fMo_halve_35 kd k2 I x0 i1 i2 ((0 : Int32))) else (ek_ck (kd x0 = 8) (ek_ck (kd (x0 + 16) = 964) (ek_ck (ek_in (((((24 : Int32)) * i1) + i2) + ((1 : Int32))) 864) (fMo_halve_35 kd k2 I x0 i1 i2 ((I (x0 + 16) (((((24 : Int32)) * i1) + i2) + ((1 : Int32))).toNatClampNeg) &&& ((1 : Int32))))))))
def fMo_halve_0 (kd : Nat → Nat) (I : ek_St) (x0 : Nat) (i1 : Int32) : Option (ek_St) :=
  ek_lp (fun (k : (ek_St × Nat × Int32 × Int32) → Option (ek_St)) (q : (ek_St × Nat × Int32 × Int32)) => fMo_halve_2 kd k q.1 q.2.1 q.2.2.1 q.2.2.2) ek_N (I, x0, i1, (0 : Int32))
def fMo_halve (kd : Nat → Nat) (I : ek_St) (x0 : Nat) (i1 : Int32) : Option (ek_St) := fMo_halve_0 kd I x0 i1
theorem dMo_halve_0 : decode prog_9_method_10_code 0 = .ok (.iconst 0, 1) := by decide +kernel
theorem dMo_halve_1 : decode prog_9_method_10_code 1 = .ok (.istore_n 2, 1) := by decide +kernel
theorem dMo_halve_2 : decode prog_9_method_10_code 2 = .ok (.iload_n 2, 1) := by decide +kernel
theorem dMo_halve_3 : decode prog_9_method_10_code 3 = .ok (.bipush 24, 2) := by decide +kernel
theorem dMo_halve_5 : decode prog_9_method_10_code 5 = .ok (.if_icmp .ge 66, 3) := by decide +kernel
theorem dMo_halve_8 : decode prog_9_method_10_code 8 = .ok (.iload_n 2, 1) := by decide +kernel
theorem dMo_halve_9 : decode prog_9_method_10_code 9 = .ok (.iconst 1, 1) := by decide +kernel
theorem dMo_halve_10 : decode prog_9_method_10_code 10 = .ok (.iadd, 1) := by decide +kernel
theorem dMo_halve_11 : decode prog_9_method_10_code 11 = .ok (.bipush 24, 2) := by decide +kernel
theorem dMo_halve_13 : decode prog_9_method_10_code 13 = .ok (.if_icmp .ge 21, 3) := by decide +kernel
theorem dMo_halve_16 : decode prog_9_method_10_code 16 = .ok (.aload_n 0, 1) := by decide +kernel
theorem dMo_halve_17 : decode prog_9_method_10_code 17 = .ok (.getfield 60, 3) := by decide +kernel
theorem dMo_halve_20 : decode prog_9_method_10_code 20 = .ok (.bipush 24, 2) := by decide +kernel
theorem dMo_halve_22 : decode prog_9_method_10_code 22 = .ok (.iload_n 1, 1) := by decide +kernel
theorem dMo_halve_23 : decode prog_9_method_10_code 23 = .ok (.imul, 1) := by decide +kernel
theorem dMo_halve_24 : decode prog_9_method_10_code 24 = .ok (.iload_n 2, 1) := by decide +kernel
theorem dMo_halve_25 : decode prog_9_method_10_code 25 = .ok (.iadd, 1) := by decide +kernel
theorem dMo_halve_26 : decode prog_9_method_10_code 26 = .ok (.iconst 1, 1) := by decide +kernel
theorem dMo_halve_27 : decode prog_9_method_10_code 27 = .ok (.iadd, 1) := by decide +kernel
theorem dMo_halve_28 : decode prog_9_method_10_code 28 = .ok (.iaload, 1) := by decide +kernel
theorem dMo_halve_29 : decode prog_9_method_10_code 29 = .ok (.iconst 1, 1) := by decide +kernel
theorem dMo_halve_30 : decode prog_9_method_10_code 30 = .ok (.iand, 1) := by decide +kernel
theorem dMo_halve_31 : decode prog_9_method_10_code 31 = .ok (.goto 4, 3) := by decide +kernel
theorem dMo_halve_34 : decode prog_9_method_10_code 34 = .ok (.iconst 0, 1) := by decide +kernel
theorem dMo_halve_35 : decode prog_9_method_10_code 35 = .ok (.istore_n 3, 1) := by decide +kernel
theorem dMo_halve_36 : decode prog_9_method_10_code 36 = .ok (.aload_n 0, 1) := by decide +kernel
theorem dMo_halve_37 : decode prog_9_method_10_code 37 = .ok (.getfield 60, 3) := by decide +kernel
theorem dMo_halve_40 : decode prog_9_method_10_code 40 = .ok (.bipush 24, 2) := by decide +kernel
theorem dMo_halve_42 : decode prog_9_method_10_code 42 = .ok (.iload_n 1, 1) := by decide +kernel
theorem dMo_halve_43 : decode prog_9_method_10_code 43 = .ok (.imul, 1) := by decide +kernel
theorem dMo_halve_44 : decode prog_9_method_10_code 44 = .ok (.iload_n 2, 1) := by decide +kernel
theorem dMo_halve_45 : decode prog_9_method_10_code 45 = .ok (.iadd, 1) := by decide +kernel
theorem dMo_halve_46 : decode prog_9_method_10_code 46 = .ok (.aload_n 0, 1) := by decide +kernel
theorem dMo_halve_47 : decode prog_9_method_10_code 47 = .ok (.getfield 60, 3) := by decide +kernel
theorem dMo_halve_50 : decode prog_9_method_10_code 50 = .ok (.bipush 24, 2) := by decide +kernel
theorem dMo_halve_52 : decode prog_9_method_10_code 52 = .ok (.iload_n 1, 1) := by decide +kernel
theorem dMo_halve_53 : decode prog_9_method_10_code 53 = .ok (.imul, 1) := by decide +kernel
theorem dMo_halve_54 : decode prog_9_method_10_code 54 = .ok (.iload_n 2, 1) := by decide +kernel
theorem dMo_halve_55 : decode prog_9_method_10_code 55 = .ok (.iadd, 1) := by decide +kernel
theorem dMo_halve_56 : decode prog_9_method_10_code 56 = .ok (.iaload, 1) := by decide +kernel
theorem dMo_halve_57 : decode prog_9_method_10_code 57 = .ok (.iconst 1, 1) := by decide +kernel
theorem dMo_halve_58 : decode prog_9_method_10_code 58 = .ok (.ishr, 1) := by decide +kernel
theorem dMo_halve_59 : decode prog_9_method_10_code 59 = .ok (.iload_n 3, 1) := by decide +kernel
theorem dMo_halve_60 : decode prog_9_method_10_code 60 = .ok (.bipush 23, 2) := by decide +kernel
theorem dMo_halve_62 : decode prog_9_method_10_code 62 = .ok (.ishl, 1) := by decide +kernel
theorem dMo_halve_63 : decode prog_9_method_10_code 63 = .ok (.ior, 1) := by decide +kernel
theorem dMo_halve_64 : decode prog_9_method_10_code 64 = .ok (.iastore, 1) := by decide +kernel
theorem dMo_halve_65 : decode prog_9_method_10_code 65 = .ok (.iinc 2 1, 3) := by decide +kernel
theorem dMo_halve_68 : decode prog_9_method_10_code 68 = .ok (.goto (-66), 3) := by decide +kernel
theorem dMo_halve_71 : decode prog_9_method_10_code 71 = .ok (.return_, 1) := by decide +kernel
set_option maxHeartbeats 4000000 in
set_option maxRecDepth 100000 in
theorem wMo_halve_35 {l : Launch} {G : ek_G} {kd : Nat → Nat} {p : Program} {e : Env} {s : State} {m : MethodId} {args : Array Value} {below : List Frame} {meth : Method} {c : Code} (X : ek_X p s m meth c args G prog_9_method_10_code 4 "ElasticKernelModel" none) {q : ek_St} {k2 : (ek_St × Nat × Int32 × Int32) → Option (ek_St)} (hk2 : ∀ q0 : ek_St × Nat × Int32 × Int32, k2 q0 = some q → ∀ (H : Heap) (locs : List Loc) (ls : Array Slot), ek_W G kd q0.1 H → va_S (ek_A G kd) s.heap H locs → lv_has ls 4 [(0, ek_r G q0.2.1), (1, .int q0.2.2.1), (2, .int q0.2.2.2)] → W p l e ({ frames := 0, cells := 0, slots := 0, locals := 0 } : Room) s m args below meth c H locs 0 0 (MQ below (ek_Q G kd none q) args s 0 0 (ek_A G kd)) (F0 m 2 ls [])) {I : ek_St} {x0 : Nat} {i1 : Int32} {i2 : Int32} {t0 : Int32} (hf : fMo_halve_35 kd k2 I x0 i1 i2 t0 = some q) {H : Heap} {locs : List Loc} {ls : Array Slot} (hw : ek_W G kd I H) (hS : va_S (ek_A G kd) s.heap H locs) (hl : lv_has ls 4 [(0, ek_r G x0), (1, .int i1), (2, .int i2)]) : W p l e ({ frames := 0, cells := 0, slots := 0, locals := 0 } : Room) s m args below meth c H locs 0 0 (MQ below (ek_Q G kd none q) args s 0 0 (ek_A G kd)) (F0 m 35 ls [.int t0]) := by
  obtain ⟨hx, hb, hml, hown, hts, hr, hlocks, hK⟩ := id X
  have hA : ∀ q, ek_A G kd q → ek_A G kd q := fun _ h => h
  unfold fMo_halve_35 at hf
  refine ek_istore_n (lv' := [(3, .int t0), (2, .int i2), (0, ek_r G x0), (1, .int i1)]) hx hb dMo_halve_35 rfl hl (by decide) (ek_s1k 2 rfl rfl rfl rfl rfl) (fun ls hl => ?_)
  refine ek_aload_n hx hb dMo_halve_36 rfl (lv_at hl 2 rfl) ?_
  refine ek_getr hx hb 8 hts (in_Mo) hown hK hw rfl (by decide) (by decide) 23 (by decide) (n := 15) rfl rfl (hts _ q_599) hf dMo_halve_37 (fun hf => ?_)
  refine lv_bipush (v := (24 : Int32)) hx hb dMo_halve_40 (by decide) ?_
  refine lv_iload_n hx hb dMo_halve_42 rfl (lv_at hl 3 rfl) ?_
  refine lv_imul hx hb dMo_halve_43 ?_
  refine lv_iload_n hx hb dMo_halve_44 rfl (lv_at hl 1 rfl) ?_
  refine lv_iadd hx hb dMo_halve_45 ?_
  refine ek_aload_n hx hb dMo_halve_46 rfl (lv_at hl 2 rfl) ?_
  refine ek_getr hx hb 8 hts (in_Mo) hown hK hw rfl (by decide) (by decide) 23 (by decide) (n := 15) rfl rfl (hts _ q_599) hf dMo_halve_47 (fun hf => ?_)
  refine lv_bipush (v := (24 : Int32)) hx hb dMo_halve_50 (by decide) ?_
  refine lv_iload_n hx hb dMo_halve_52 rfl (lv_at hl 3 rfl) ?_
  refine lv_imul hx hb dMo_halve_53 ?_
  refine lv_iload_n hx hb dMo_halve_54 rfl (lv_at hl 1 rfl) ?_
  refine lv_iadd hx hb dMo_halve_55 ?_
  refine ek_iald hx hb hK hw 864 rfl hf dMo_halve_56 (fun hf => ?_)
  refine lv_iconst (v := (1 : Int32)) hx hb dMo_halve_57 (by decide) ?_
  refine lv_ishr hx hb dMo_halve_58 ?_
  refine lv_iload_n hx hb dMo_halve_59 rfl (lv_at hl 0 rfl) ?_
  refine lv_bipush (v := (23 : Int32)) hx hb dMo_halve_60 (by decide) ?_
  refine lv_ishl hx hb dMo_halve_62 ?_
  refine lv_ior hx hb dMo_halve_63 ?_
  refine ek_iast hx hb hK hw hS hA 864 rfl hf dMo_halve_64 (fun I1 H locs hf hw hS => ?_)
  refine ek_iinc hx hb 1 (fun i2_2 => [(2, .int i2_2), (1, .int i1), (3, .int t0), (0, ek_r G x0)]) dMo_halve_65 hl rfl (v := i2 + (1 : Int32)) rfl hf (by decide) (fun i2_2 => ek_s1k 3 rfl rfl rfl rfl rfl) (fun i2_2 ls hf hl => ?_)
  refine lv_goto (tgt := 2) hx hb dMo_halve_68 (by decide) ?_
  exact hk2 (I1, x0, i1, i2_2) hf _ _ _ hw hS (lv_sub hl [3, 1, 0] rfl)
set_option maxHeartbeats 4000000 in
set_option maxRecDepth 100000 in
theorem wMo_halve_2 {l : Launch} {G : ek_G} {kd : Nat → Nat} {p : Program} {e : Env} {s : State} {m : MethodId} {args : Array Value} {below : List Frame} {meth : Method} {c : Code} (X : ek_X p s m meth c args G prog_9_method_10_code 4 "ElasticKernelModel" none) {q : ek_St} {k2 : (ek_St × Nat × Int32 × Int32) → Option (ek_St)} (hk2 : ∀ q0 : ek_St × Nat × Int32 × Int32, k2 q0 = some q → ∀ (H : Heap) (locs : List Loc) (ls : Array Slot), ek_W G kd q0.1 H → va_S (ek_A G kd) s.heap H locs → lv_has ls 4 [(0, ek_r G q0.2.1), (1, .int q0.2.2.1), (2, .int q0.2.2.2)] → W p l e ({ frames := 0, cells := 0, slots := 0, locals := 0 } : Room) s m args below meth c H locs 0 0 (MQ below (ek_Q G kd none q) args s 0 0 (ek_A G kd)) (F0 m 2 ls [])) {I : ek_St} {x0 : Nat} {i1 : Int32} {i2 : Int32} (hf : fMo_halve_2 kd k2 I x0 i1 i2 = some q) {H : Heap} {locs : List Loc} {ls : Array Slot} (hw : ek_W G kd I H) (hS : va_S (ek_A G kd) s.heap H locs) (hl : lv_has ls 4 [(0, ek_r G x0), (1, .int i1), (2, .int i2)]) : W p l e ({ frames := 0, cells := 0, slots := 0, locals := 0 } : Room) s m args below meth c H locs 0 0 (MQ below (ek_Q G kd none q) args s 0 0 (ek_A G kd)) (F0 m 2 ls []) := by
  obtain ⟨hx, hb, hml, hown, hts, hr, hlocks, hK⟩ := id X
  have hA : ∀ q, ek_A G kd q → ek_A G kd q := fun _ h => h
  unfold fMo_halve_2 at hf
  refine lv_iload_n hx hb dMo_halve_2 rfl (lv_at hl 2 rfl) ?_
  refine lv_bipush (v := (24 : Int32)) hx hb dMo_halve_3 (by decide) ?_
  refine lv_icmp_ge (tgt := 71) hx hb dMo_halve_5 (by decide) (fun c1 => ?_) (fun c1 => ?_)
  · have hf := ek_t c1 hf
    exact ek_vret hx hb hr hlocks hw hS hf dMo_halve_71
  · have hf := ek_f c1 hf
    refine lv_iload_n hx hb dMo_halve_8 rfl (lv_at hl 2 rfl) ?_
    refine lv_iconst (v := (1 : Int32)) hx hb dMo_halve_9 (by decide) ?_
    refine lv_iadd hx hb dMo_halve_10 ?_
    refine lv_bipush (v := (24 : Int32)) hx hb dMo_halve_11 (by decide) ?_
    refine lv_icmp_ge (tgt := 34) hx hb dMo_halve_13 (by decide) (fun c2 => ?_) (fun c2 => ?_)
    · have hf := ek_t c2 hf
      refine lv_iconst (v := (0 : Int32)) hx hb dMo_halve_34 (by decide) ?_
      exact wMo_halve_35 X hk2 hf hw hS (lv_sub hl [0, 1, 2] rfl)
    · have hf := ek_f c2 hf
      refine ek_aload_n hx hb dMo_halve_16 rfl (lv_at hl 0 rfl) ?_
      refine ek_getr hx hb 8 hts (in_Mo) hown hK hw rfl (by decide) (by decide) 23 (by decide) (n := 15) rfl rfl (hts _ q_599) hf dMo_halve_17 (fun hf => ?_)
      refine lv_bipush (v := (24 : Int32)) hx hb dMo_halve_20 (by decide) ?_
      refine lv_iload_n hx hb dMo_halve_22 rfl (lv_at hl 1 rfl) ?_
      refine lv_imul hx hb dMo_halve_23 ?_
      refine lv_iload_n hx hb dMo_halve_24 rfl (lv_at hl 2 rfl) ?_
      refine lv_iadd hx hb dMo_halve_25 ?_
      refine lv_iconst (v := (1 : Int32)) hx hb dMo_halve_26 (by decide) ?_
      refine lv_iadd hx hb dMo_halve_27 ?_
      refine ek_iald hx hb hK hw 864 rfl hf dMo_halve_28 (fun hf => ?_)
      refine lv_iconst (v := (1 : Int32)) hx hb dMo_halve_29 (by decide) ?_
      refine lv_iand hx hb dMo_halve_30 ?_
      refine lv_goto (tgt := 35) hx hb dMo_halve_31 (by decide) ?_
      exact wMo_halve_35 X hk2 hf hw hS (lv_sub hl [0, 1, 2] rfl)
set_option maxHeartbeats 4000000 in
set_option maxRecDepth 100000 in
theorem wMo_halve_2_lp {l : Launch} {G : ek_G} {kd : Nat → Nat} {p : Program} {e : Env} {s : State} {m : MethodId} {args : Array Value} {below : List Frame} {meth : Method} {c : Code} (X : ek_X p s m meth c args G prog_9_method_10_code 4 "ElasticKernelModel" none) {q : ek_St} (n : Nat) : ∀ q0 : ek_St × Nat × Int32 × Int32, ek_lp (fun (k : (ek_St × Nat × Int32 × Int32) → Option (ek_St)) (q : (ek_St × Nat × Int32 × Int32)) => fMo_halve_2 kd k q.1 q.2.1 q.2.2.1 q.2.2.2) n q0 = some q → ∀ (H : Heap) (locs : List Loc) (ls : Array Slot), ek_W G kd q0.1 H → va_S (ek_A G kd) s.heap H locs → lv_has ls 4 [(0, ek_r G q0.2.1), (1, .int q0.2.2.1), (2, .int q0.2.2.2)] → W p l e ({ frames := 0, cells := 0, slots := 0, locals := 0 } : Room) s m args below meth c H locs 0 0 (MQ below (ek_Q G kd none q) args s 0 0 (ek_A G kd)) (F0 m 2 ls []) :=
  ek_lp_ind (fun k hk q0 hf => fun H locs ls hw hS hl => wMo_halve_2 X hk hf hw hS hl) n
set_option maxHeartbeats 4000000 in
set_option maxRecDepth 100000 in
theorem wMo_halve_0 {l : Launch} {G : ek_G} {kd : Nat → Nat} {p : Program} {e : Env} {s : State} {m : MethodId} {args : Array Value} {below : List Frame} {meth : Method} {c : Code} (X : ek_X p s m meth c args G prog_9_method_10_code 4 "ElasticKernelModel" none) {q : ek_St} {I : ek_St} {x0 : Nat} {i1 : Int32} (hf : fMo_halve_0 kd I x0 i1 = some q) {H : Heap} {locs : List Loc} {ls : Array Slot} (hw : ek_W G kd I H) (hS : va_S (ek_A G kd) s.heap H locs) (hl : lv_has ls 4 [(0, ek_r G x0), (1, .int i1)]) : W p l e ({ frames := 0, cells := 0, slots := 0, locals := 0 } : Room) s m args below meth c H locs 0 0 (MQ below (ek_Q G kd none q) args s 0 0 (ek_A G kd)) (F0 m 0 ls []) := by
  obtain ⟨hx, hb, hml, hown, hts, hr, hlocks, hK⟩ := id X
  have hA : ∀ q, ek_A G kd q → ek_A G kd q := fun _ h => h
  unfold fMo_halve_0 at hf
  refine lv_iconst (v := (0 : Int32)) hx hb dMo_halve_0 (by decide) ?_
  refine ek_istore_n (lv' := [(2, .int ((0 : Int32))), (1, .int i1), (0, ek_r G x0)]) hx hb dMo_halve_1 rfl hl (by decide) (ek_s1k 1 rfl rfl rfl rfl rfl) (fun ls hl => ?_)
  exact wMo_halve_2_lp X ek_N (I, x0, i1, (0 : Int32)) hf _ _ _ hw hS (lv_sub hl [2, 1, 0] rfl)
set_option maxHeartbeats 4000000 in
set_option maxRecDepth 100000 in
theorem mMo_halve {l : Launch} {G : ek_G} {kd : Nat → Nat} {I : ek_St} {x0 : Nat} {i1 : Int32} {q : ek_St} (hf : fMo_halve kd I x0 i1 = some q) : ek_M l G kd y_Mo_halve (.code y_Mo_halve prog_9_method_10_code 4 none :: lw_g) ({ frames := 0, cells := 0, slots := 0, locals := 0 } : Room) [ek_r G x0, .int i1] I none q :=
  ek_body [(0, ek_r G x0), (1, .int i1)] (by decide) (by simp [lg_sl, ek_r_cat, ek_c_i, ek_c_l]) (by simp [lv_args, ek_r_cat, ek_c_i, ek_c_l]) (fun p e s m below meth c ls X hw hS hl => wMo_halve_0 X hf hw hS hl)
/-! ElasticKernelModel.isEven(I)Z -/
def fMo_isEven_0 (kd : Nat → Nat) (I : ek_St) (x0 : Nat) (i1 : Int32) : Option (ek_St × Int32) :=
  ek_ck (kd x0 = 8) (ek_ck (kd (x0 + 16) = 964) (ek_ck (ek_in (((24 : Int32)) * i1) 864) (if ((I (x0 + 16) (((24 : Int32)) * i1).toNatClampNeg) &&& ((1 : Int32))) = ((0 : Int32)) then (ek_ck (((1 : Int32)) = (0 : Int32) ∨ ((1 : Int32)) = (1 : Int32)) (some (I, (1 : Int32)))) else (ek_ck (((0 : Int32)) = (0 : Int32) ∨ ((0 : Int32)) = (1 : Int32)) (some (I, (0 : Int32)))))))
def fMo_isEven (kd : Nat → Nat) (I : ek_St) (x0 : Nat) (i1 : Int32) : Option (ek_St × Int32) := fMo_isEven_0 kd I x0 i1
theorem dMo_isEven_0 : decode prog_9_method_11_code 0 = .ok (.aload_n 0, 1) := by decide +kernel
theorem dMo_isEven_1 : decode prog_9_method_11_code 1 = .ok (.getfield 60, 3) := by decide +kernel
theorem dMo_isEven_4 : decode prog_9_method_11_code 4 = .ok (.bipush 24, 2) := by decide +kernel
theorem dMo_isEven_6 : decode prog_9_method_11_code 6 = .ok (.iload_n 1, 1) := by decide +kernel
theorem dMo_isEven_7 : decode prog_9_method_11_code 7 = .ok (.imul, 1) := by decide +kernel
theorem dMo_isEven_8 : decode prog_9_method_11_code 8 = .ok (.iaload, 1) := by decide +kernel
theorem dMo_isEven_9 : decode prog_9_method_11_code 9 = .ok (.iconst 1, 1) := by decide +kernel
theorem dMo_isEven_10 : decode prog_9_method_11_code 10 = .ok (.iand, 1) := by decide +kernel
theorem dMo_isEven_11 : decode prog_9_method_11_code 11 = .ok (.ifCond .ne 7, 3) := by decide +kernel
theorem dMo_isEven_14 : decode prog_9_method_11_code 14 = .ok (.iconst 1, 1) := by decide +kernel
theorem dMo_isEven_15 : decode prog_9_method_11_code 15 = .ok (.goto 4, 3) := by decide +kernel
theorem dMo_isEven_18 : decode prog_9_method_11_code 18 = .ok (.iconst 0, 1) := by decide +kernel
theorem dMo_isEven_19 : decode prog_9_method_11_code 19 = .ok (.ireturn, 1) := by decide +kernel
set_option maxHeartbeats 4000000 in
set_option maxRecDepth 100000 in
theorem wMo_isEven_0 {l : Launch} {G : ek_G} {kd : Nat → Nat} {p : Program} {e : Env} {s : State} {m : MethodId} {args : Array Value} {below : List Frame} {meth : Method} {c : Code} (X : ek_X p s m meth c args G prog_9_method_11_code 2 "ElasticKernelModel" (some .boolean)) {q : ek_St × Int32} {I : ek_St} {x0 : Nat} {i1 : Int32} (hf : fMo_isEven_0 kd I x0 i1 = some q) {H : Heap} {locs : List Loc} {ls : Array Slot} (hw : ek_W G kd I H) (hS : va_S (ek_A G kd) s.heap H locs) (hl : lv_has ls 2 [(0, ek_r G x0), (1, .int i1)]) : W p l e ({ frames := 0, cells := 0, slots := 0, locals := 0 } : Room) s m args below meth c H locs 0 0 (MQ below (ek_Q G kd (some (.int q.2)) q.1) args s 0 0 (ek_A G kd)) (F0 m 0 ls []) := by
  obtain ⟨hx, hb, hml, hown, hts, hr, hlocks, hK⟩ := id X
  have hA : ∀ q, ek_A G kd q → ek_A G kd q := fun _ h => h
  unfold fMo_isEven_0 at hf
  refine ek_aload_n hx hb dMo_isEven_0 rfl (lv_at hl 0 rfl) ?_
  refine ek_getr hx hb 8 hts (in_Mo) hown hK hw rfl (by decide) (by decide) 23 (by decide) (n := 15) rfl rfl (hts _ q_599) hf dMo_isEven_1 (fun hf => ?_)
  refine lv_bipush (v := (24 : Int32)) hx hb dMo_isEven_4 (by decide) ?_
  refine lv_iload_n hx hb dMo_isEven_6 rfl (lv_at hl 1 rfl) ?_
  refine lv_imul hx hb dMo_isEven_7 ?_
  refine ek_iald hx hb hK hw 864 rfl hf dMo_isEven_8 (fun hf => ?_)
  refine lv_iconst (v := (1 : Int32)) hx hb dMo_isEven_9 (by decide) ?_
  refine lv_iand hx hb dMo_isEven_10 ?_
  refine lv_if_ne (tgt := 18) hx hb dMo_isEven_11 (by decide) (fun c1 => ?_) (fun c1 => ?_)
  · have hf := ek_f c1 hf
    refine lv_iconst (v := (0 : Int32)) hx hb dMo_isEven_18 (by decide) ?_
    exact ek_zret hx hb hr hlocks hw hS hf dMo_isEven_19
  · have hf := ek_t c1 hf
    refine lv_iconst (v := (1 : Int32)) hx hb dMo_isEven_14 (by decide) ?_
    refine lv_goto (tgt := 19) hx hb dMo_isEven_15 (by decide) ?_
    exact ek_zret hx hb hr hlocks hw hS hf dMo_isEven_19
set_option maxHeartbeats 4000000 in
set_option maxRecDepth 100000 in
theorem mMo_isEven {l : Launch} {G : ek_G} {kd : Nat → Nat} {I : ek_St} {x0 : Nat} {i1 : Int32} {q : ek_St × Int32} (hf : fMo_isEven kd I x0 i1 = some q) : ek_M l G kd y_Mo_isEven (.code y_Mo_isEven prog_9_method_11_code 2 (some .boolean) :: lw_g) ({ frames := 0, cells := 0, slots := 0, locals := 0 } : Room) [ek_r G x0, .int i1] I (some (.int q.2)) q.1 :=
  ek_body [(0, ek_r G x0), (1, .int i1)] (by decide) (by simp [lg_sl, ek_r_cat, ek_c_i, ek_c_l]) (by simp [lv_args, ek_r_cat, ek_c_i, ek_c_l]) (fun p e s m below meth c ls X hw hS hl => wMo_isEven_0 X hf hw hS hl)
/-! ElasticKernelModel.quotient(I)V -/
def fMo_quotient_107 (kd : Nat → Nat) (k18 : (ek_St × Nat × Int32 × Int32) → Option (ek_St)) (I : ek_St) (x0 : Nat) (i1 : Int32) (i2 : Int32) : Option (ek_St) :=
  ek_let (i2 + (-1 : Int32)) (fun i2_1 => k18 (I, x0, i1, i2_1))
def fMo_quotient_18 (kd : Nat → Nat) (k18 : (ek_St × Nat × Int32 × Int32) → Option (ek_St)) (I : ek_St) (x0 : Nat) (i1 : Int32) (i2 : Int32) : Option (ek_St) :=
  if i2 < ((0 : Int32)) then (ek_ck (kd x0 = 8) (ek_bv (fMo_copy kd I x0 i1 ((32 : Int32))) (fun I2 => some I2))) else (ek_ck (kd x0 = 8) (ek_bv (fMo_add3 kd I x0 ((33 : Int32)) ((33 : Int32)) ((0 : Int32))) (fun I4 => ek_ck (kd x0 = 8) (ek_ck (kd (x0 + 16) = 964) (ek_ck (ek_in ((792 : Int32)) 864) (ek_ck (kd x0 = 8) (ek_ck (¬ ((24 : Int32)) = (0 : Int32)) (ek_ck (kd (x0 + 16) = 964) (ek_ck (ek_in ((((24 : Int32)) * i1) + (i2 / ((24 : Int32)))) 864) (ek_ck (¬ ((24 : Int32)) = (0 : Int32)) (ek_ck (kd (x0 + 16) = 964) (ek_ck (ek_in ((792 : Int32)) 864) (ek_let (ek_up I4 (x0 + 16) ((792 : Int32)).toNatClampNeg ((I4 (x0 + 16) ((792 : Int32)).toNatClampNeg) ||| (((I4 (x0 + 16) ((((24 : Int32)) * i1) + (i2 / ((24 : Int32)))).toNatClampNeg) >>> ((i2 - i2 / ((24 : Int32)) * ((24 : Int32))) &&& 31)) &&& ((1 : Int32))))) (fun I6 => ek_ck (kd x0 = 8) (ek_bv (fMo_add3 kd I6 x0 ((32 : Int32)) ((32 : Int32)) ((0 : Int32))) (fun I7 => ek_ck (kd x0 = 8) (ek_bi (fMo_compare kd I7 x0 ((33 : Int32)) ((35 : Int32))) (fun I9 ir11 => if ((0 : Int32)) ≤ ir11 then (ek_ck (kd x0 = 8) (ek_bv (fMo_add3 kd I9 x0 ((33 : Int32)) ((35 : Int32)) ((1 : Int32))) (fun I13 => ek_ck (kd x0 = 8) (ek_ck (kd (x0 + 16) = 964) (ek_ck (ek_in ((768 : Int32)) 864) (ek_ck (kd (x0 + 16) = 964) (ek_ck (ek_in ((768 : Int32)) 864) (ek_let (ek_up I13 (x0 + 16) ((768 : Int32)).toNatClampNeg ((I13 (x0 + 16) ((768 : Int32)).toNatClampNeg) ||| ((1 : Int32)))) (fun I15 => fMo_quotient_107 kd k18 I15 x0 i1 i2))))))))) else (fMo_quotient_107 kd k18 I9 x0 i1 i2)))))))))))))))))))
def fMo_quotient_0 (kd : Nat → Nat) (I : ek_St) (x0 : Nat) (i1 : Int32) : Option (ek_St) :=
  ek_ck (kd x0 = 8) (ek_bv (fMo_be kd I x0 ((32 : Int32)) ((0 : Int64))) (fun I1 => ek_ck (kd x0 = 8) (ek_bv (fMo_be kd I1 x0 ((33 : Int32)) ((0 : Int64))) (fun I3 => ek_lp (fun (k : (ek_St × Nat × Int32 × Int32) → Option (ek_St)) (q : (ek_St × Nat × Int32 × Int32)) => fMo_quotient_18 kd k q.1 q.2.1 q.2.2.1 q.2.2.2) ek_N (I3, x0, i1, (575 : Int32))))))
def fMo_quotient (kd : Nat → Nat) (I : ek_St) (x0 : Nat) (i1 : Int32) : Option (ek_St) := fMo_quotient_0 kd I x0 i1
theorem dMo_quotient_0 : decode prog_9_method_13_code 0 = .ok (.aload_n 0, 1) := by decide +kernel
theorem dMo_quotient_1 : decode prog_9_method_13_code 1 = .ok (.bipush 32, 2) := by decide +kernel
theorem dMo_quotient_3 : decode prog_9_method_13_code 3 = .ok (.lconst 0, 1) := by decide +kernel
theorem dMo_quotient_4 : decode prog_9_method_13_code 4 = .ok (.invokevirtual 66, 3) := by decide +kernel
theorem dMo_quotient_7 : decode prog_9_method_13_code 7 = .ok (.aload_n 0, 1) := by decide +kernel
theorem dMo_quotient_8 : decode prog_9_method_13_code 8 = .ok (.bipush 33, 2) := by decide +kernel
theorem dMo_quotient_10 : decode prog_9_method_13_code 10 = .ok (.lconst 0, 1) := by decide +kernel
theorem dMo_quotient_11 : decode prog_9_method_13_code 11 = .ok (.invokevirtual 66, 3) := by decide +kernel
theorem dMo_quotient_14 : decode prog_9_method_13_code 14 = .ok (.sipush 575, 3) := by decide +kernel
theorem dMo_quotient_17 : decode prog_9_method_13_code 17 = .ok (.istore_n 2, 1) := by decide +kernel
theorem dMo_quotient_18 : decode prog_9_method_13_code 18 = .ok (.iload_n 2, 1) := by decide +kernel
theorem dMo_quotient_19 : decode prog_9_method_13_code 19 = .ok (.ifCond .lt 94, 3) := by decide +kernel
theorem dMo_quotient_22 : decode prog_9_method_13_code 22 = .ok (.aload_n 0, 1) := by decide +kernel
theorem dMo_quotient_23 : decode prog_9_method_13_code 23 = .ok (.bipush 33, 2) := by decide +kernel
theorem dMo_quotient_25 : decode prog_9_method_13_code 25 = .ok (.bipush 33, 2) := by decide +kernel
theorem dMo_quotient_27 : decode prog_9_method_13_code 27 = .ok (.iconst 0, 1) := by decide +kernel
theorem dMo_quotient_28 : decode prog_9_method_13_code 28 = .ok (.invokevirtual 95, 3) := by decide +kernel
theorem dMo_quotient_31 : decode prog_9_method_13_code 31 = .ok (.aload_n 0, 1) := by decide +kernel
theorem dMo_quotient_32 : decode prog_9_method_13_code 32 = .ok (.getfield 60, 3) := by decide +kernel
theorem dMo_quotient_35 : decode prog_9_method_13_code 35 = .ok (.sipush 792, 3) := by decide +kernel
theorem dMo_quotient_38 : decode prog_9_method_13_code 38 = .ok (.dup2, 1) := by decide +kernel
theorem dMo_quotient_39 : decode prog_9_method_13_code 39 = .ok (.iaload, 1) := by decide +kernel
theorem dMo_quotient_40 : decode prog_9_method_13_code 40 = .ok (.aload_n 0, 1) := by decide +kernel
theorem dMo_quotient_41 : decode prog_9_method_13_code 41 = .ok (.getfield 60, 3) := by decide +kernel
theorem dMo_quotient_44 : decode prog_9_method_13_code 44 = .ok (.bipush 24, 2) := by decide +kernel
theorem dMo_quotient_46 : decode prog_9_method_13_code 46 = .ok (.iload_n 1, 1) := by decide +kernel
theorem dMo_quotient_47 : decode prog_9_method_13_code 47 = .ok (.imul, 1) := by decide +kernel
theorem dMo_quotient_48 : decode prog_9_method_13_code 48 = .ok (.iload_n 2, 1) := by decide +kernel
theorem dMo_quotient_49 : decode prog_9_method_13_code 49 = .ok (.bipush 24, 2) := by decide +kernel
theorem dMo_quotient_51 : decode prog_9_method_13_code 51 = .ok (.idiv, 1) := by decide +kernel
theorem dMo_quotient_52 : decode prog_9_method_13_code 52 = .ok (.iadd, 1) := by decide +kernel
theorem dMo_quotient_53 : decode prog_9_method_13_code 53 = .ok (.iaload, 1) := by decide +kernel
theorem dMo_quotient_54 : decode prog_9_method_13_code 54 = .ok (.iload_n 2, 1) := by decide +kernel
theorem dMo_quotient_55 : decode prog_9_method_13_code 55 = .ok (.bipush 24, 2) := by decide +kernel
theorem dMo_quotient_57 : decode prog_9_method_13_code 57 = .ok (.irem, 1) := by decide +kernel
theorem dMo_quotient_58 : decode prog_9_method_13_code 58 = .ok (.ishr, 1) := by decide +kernel
theorem dMo_quotient_59 : decode prog_9_method_13_code 59 = .ok (.iconst 1, 1) := by decide +kernel
theorem dMo_quotient_60 : decode prog_9_method_13_code 60 = .ok (.iand, 1) := by decide +kernel
theorem dMo_quotient_61 : decode prog_9_method_13_code 61 = .ok (.ior, 1) := by decide +kernel
theorem dMo_quotient_62 : decode prog_9_method_13_code 62 = .ok (.iastore, 1) := by decide +kernel
theorem dMo_quotient_63 : decode prog_9_method_13_code 63 = .ok (.aload_n 0, 1) := by decide +kernel
theorem dMo_quotient_64 : decode prog_9_method_13_code 64 = .ok (.bipush 32, 2) := by decide +kernel
theorem dMo_quotient_66 : decode prog_9_method_13_code 66 = .ok (.bipush 32, 2) := by decide +kernel
theorem dMo_quotient_68 : decode prog_9_method_13_code 68 = .ok (.iconst 0, 1) := by decide +kernel
theorem dMo_quotient_69 : decode prog_9_method_13_code 69 = .ok (.invokevirtual 95, 3) := by decide +kernel
theorem dMo_quotient_72 : decode prog_9_method_13_code 72 = .ok (.aload_n 0, 1) := by decide +kernel
theorem dMo_quotient_73 : decode prog_9_method_13_code 73 = .ok (.bipush 33, 2) := by decide +kernel
theorem dMo_quotient_75 : decode prog_9_method_13_code 75 = .ok (.bipush 35, 2) := by decide +kernel
theorem dMo_quotient_77 : decode prog_9_method_13_code 77 = .ok (.invokevirtual 91, 3) := by decide +kernel
theorem dMo_quotient_80 : decode prog_9_method_13_code 80 = .ok (.ifCond .ge 6, 3) := by decide +kernel
theorem dMo_quotient_83 : decode prog_9_method_13_code 83 = .ok (.goto 24, 3) := by decide +kernel
theorem dMo_quotient_86 : decode prog_9_method_13_code 86 = .ok (.aload_n 0, 1) := by decide +kernel
theorem dMo_quotient_87 : decode prog_9_method_13_code 87 = .ok (.bipush 33, 2) := by decide +kernel
theorem dMo_quotient_89 : decode prog_9_method_13_code 89 = .ok (.bipush 35, 2) := by decide +kernel
theorem dMo_quotient_91 : decode prog_9_method_13_code 91 = .ok (.iconst 1, 1) := by decide +kernel
theorem dMo_quotient_92 : decode prog_9_method_13_code 92 = .ok (.invokevirtual 95, 3) := by decide +kernel
theorem dMo_quotient_95 : decode prog_9_method_13_code 95 = .ok (.aload_n 0, 1) := by decide +kernel
theorem dMo_quotient_96 : decode prog_9_method_13_code 96 = .ok (.getfield 60, 3) := by decide +kernel
theorem dMo_quotient_99 : decode prog_9_method_13_code 99 = .ok (.sipush 768, 3) := by decide +kernel
theorem dMo_quotient_102 : decode prog_9_method_13_code 102 = .ok (.dup2, 1) := by decide +kernel
theorem dMo_quotient_103 : decode prog_9_method_13_code 103 = .ok (.iaload, 1) := by decide +kernel
theorem dMo_quotient_104 : decode prog_9_method_13_code 104 = .ok (.iconst 1, 1) := by decide +kernel
theorem dMo_quotient_105 : decode prog_9_method_13_code 105 = .ok (.ior, 1) := by decide +kernel
theorem dMo_quotient_106 : decode prog_9_method_13_code 106 = .ok (.iastore, 1) := by decide +kernel
theorem dMo_quotient_107 : decode prog_9_method_13_code 107 = .ok (.iinc 2 (-1), 3) := by decide +kernel
theorem dMo_quotient_110 : decode prog_9_method_13_code 110 = .ok (.goto (-92), 3) := by decide +kernel
theorem dMo_quotient_113 : decode prog_9_method_13_code 113 = .ok (.aload_n 0, 1) := by decide +kernel
theorem dMo_quotient_114 : decode prog_9_method_13_code 114 = .ok (.iload_n 1, 1) := by decide +kernel
theorem dMo_quotient_115 : decode prog_9_method_13_code 115 = .ok (.bipush 32, 2) := by decide +kernel
theorem dMo_quotient_117 : decode prog_9_method_13_code 117 = .ok (.invokevirtual 87, 3) := by decide +kernel
theorem dMo_quotient_120 : decode prog_9_method_13_code 120 = .ok (.return_, 1) := by decide +kernel
set_option maxHeartbeats 4000000 in
set_option maxRecDepth 100000 in
theorem wMo_quotient_107 {l : Launch} {G : ek_G} {kd : Nat → Nat} {p : Program} {e : Env} {s : State} {m : MethodId} {args : Array Value} {below : List Frame} {meth : Method} {c : Code} (X : ek_X p s m meth c args G prog_9_method_13_code 3 "ElasticKernelModel" none) {q : ek_St} {k18 : (ek_St × Nat × Int32 × Int32) → Option (ek_St)} (hk18 : ∀ q0 : ek_St × Nat × Int32 × Int32, k18 q0 = some q → ∀ (H : Heap) (locs : List Loc) (ls : Array Slot), ek_W G kd q0.1 H → va_S (ek_A G kd) s.heap H locs → lv_has ls 3 [(0, ek_r G q0.2.1), (1, .int q0.2.2.1), (2, .int q0.2.2.2)] → W p l e ({ frames := 1, cells := 0, slots := 0, locals := 26 } : Room) s m args below meth c H locs 0 0 (MQ below (ek_Q G kd none q) args s 0 0 (ek_A G kd)) (F0 m 18 ls [])) {I : ek_St} {x0 : Nat} {i1 : Int32} {i2 : Int32} (hf : fMo_quotient_107 kd k18 I x0 i1 i2 = some q) {H : Heap} {locs : List Loc} {ls : Array Slot} (hw : ek_W G kd I H) (hS : va_S (ek_A G kd) s.heap H locs) (hl : lv_has ls 3 [(0, ek_r G x0), (1, .int i1), (2, .int i2)]) : W p l e ({ frames := 1, cells := 0, slots := 0, locals := 26 } : Room) s m args below meth c H locs 0 0 (MQ below (ek_Q G kd none q) args s 0 0 (ek_A G kd)) (F0 m 107 ls []) := by
  obtain ⟨hx, hb, hml, hown, hts, hr, hlocks, hK⟩ := id X
  have hA : ∀ q, ek_A G kd q → ek_A G kd q := fun _ h => h
  unfold fMo_quotient_107 at hf
  refine ek_iinc hx hb 2 (fun i2_1 => [(2, .int i2_1), (1, .int i1), (0, ek_r G x0)]) dMo_quotient_107 hl rfl (v := i2 + (-1 : Int32)) rfl hf (by decide) (fun i2_1 => ek_s1k 1 rfl rfl rfl rfl rfl) (fun i2_1 ls hf hl => ?_)
  refine lv_goto (tgt := 18) hx hb dMo_quotient_110 (by decide) ?_
  exact hk18 (I, x0, i1, i2_1) hf _ _ _ hw hS (lv_sub hl [2, 1, 0] rfl)
set_option maxHeartbeats 4000000 in
set_option maxRecDepth 100000 in
theorem wMo_quotient_18 {l : Launch} {G : ek_G} {kd : Nat → Nat} {p : Program} {e : Env} {s : State} {m : MethodId} {args : Array Value} {below : List Frame} {meth : Method} {c : Code} (X : ek_X p s m meth c args G prog_9_method_13_code 3 "ElasticKernelModel" none) {q : ek_St} {k18 : (ek_St × Nat × Int32 × Int32) → Option (ek_St)} (hk18 : ∀ q0 : ek_St × Nat × Int32 × Int32, k18 q0 = some q → ∀ (H : Heap) (locs : List Loc) (ls : Array Slot), ek_W G kd q0.1 H → va_S (ek_A G kd) s.heap H locs → lv_has ls 3 [(0, ek_r G q0.2.1), (1, .int q0.2.2.1), (2, .int q0.2.2.2)] → W p l e ({ frames := 1, cells := 0, slots := 0, locals := 26 } : Room) s m args below meth c H locs 0 0 (MQ below (ek_Q G kd none q) args s 0 0 (ek_A G kd)) (F0 m 18 ls [])) {I : ek_St} {x0 : Nat} {i1 : Int32} {i2 : Int32} (hf : fMo_quotient_18 kd k18 I x0 i1 i2 = some q) {H : Heap} {locs : List Loc} {ls : Array Slot} (hw : ek_W G kd I H) (hS : va_S (ek_A G kd) s.heap H locs) (hl : lv_has ls 3 [(0, ek_r G x0), (1, .int i1), (2, .int i2)]) : W p l e ({ frames := 1, cells := 0, slots := 0, locals := 26 } : Room) s m args below meth c H locs 0 0 (MQ below (ek_Q G kd none q) args s 0 0 (ek_A G kd)) (F0 m 18 ls []) := by
  obtain ⟨hx, hb, hml, hown, hts, hr, hlocks, hK⟩ := id X
  have hA : ∀ q, ek_A G kd q → ek_A G kd q := fun _ h => h
  unfold fMo_quotient_18 at hf
  refine lv_iload_n hx hb dMo_quotient_18 rfl (lv_at hl 2 rfl) ?_
  refine lv_if_lt (tgt := 113) hx hb dMo_quotient_19 (by decide) (fun c1 => ?_) (fun c1 => ?_)
  · have hf := ek_t c1 hf
    refine ek_aload_n hx hb dMo_quotient_113 rfl (lv_at hl 0 rfl) ?_
    refine lv_iload_n hx hb dMo_quotient_114 rfl (lv_at hl 1 rfl) ?_
    refine lv_bipush (v := (32 : Int32)) hx hb dMo_quotient_115 (by decide) ?_
    obtain ⟨hx3, hf⟩ := ek_ck_s hf
    refine ek_cv hf hS hA (fun I' hq => ek_rV (As := [.int i1, .int ((32 : Int32))]) ⟨hx, hb, hml, hown, hts⟩ hK hw 8 rfl (by decide) (by decide) hx3 (mMo_copy hq) (cwV 2 hts (lw_V q_669 q_671 p_18 q_8 q_672) rfl rfl rfl (by decide +kernel) ⟨Nat.le_of_ble_eq_true rfl, Nat.le_of_ble_eq_true rfl⟩) rfl hl.1 rfl (Nat.le_of_ble_eq_true rfl) dMo_quotient_117 ⟨Nat.zero_le _, Nat.zero_le _⟩) (fun I2 H locs hf hw hS => ?_)
    exact ek_vret hx hb hr hlocks hw hS hf dMo_quotient_120
  · have hf := ek_f c1 hf
    refine ek_aload_n hx hb dMo_quotient_22 rfl (lv_at hl 0 rfl) ?_
    refine lv_bipush (v := (33 : Int32)) hx hb dMo_quotient_23 (by decide) ?_
    refine lv_bipush (v := (33 : Int32)) hx hb dMo_quotient_25 (by decide) ?_
    refine lv_iconst (v := (0 : Int32)) hx hb dMo_quotient_27 (by decide) ?_
    obtain ⟨hx5, hf⟩ := ek_ck_s hf
    refine ek_cv hf hS hA (fun I' hq => ek_rV (As := [.int ((33 : Int32)), .int ((33 : Int32)), .int ((0 : Int32))]) ⟨hx, hb, hml, hown, hts⟩ hK hw 8 rfl (by decide) (by decide) hx5 (mMo_add3 hq) (cwV 3 hts (lw_V q_689 q_691 p_23 q_8 q_692) rfl rfl rfl (by decide +kernel) ⟨Nat.le_of_ble_eq_true rfl, Nat.le_of_ble_eq_true rfl⟩) rfl hl.1 rfl (Nat.le_of_ble_eq_true rfl) dMo_quotient_28 ⟨Nat.zero_le _, Nat.zero_le _⟩) (fun I4 H locs hf hw hS => ?_)
    refine ek_aload_n hx hb dMo_quotient_31 rfl (lv_at hl 0 rfl) ?_
    refine ek_getr hx hb 8 hts (in_Mo) hown hK hw rfl (by decide) (by decide) 23 (by decide) (n := 15) rfl rfl (hts _ q_599) hf dMo_quotient_32 (fun hf => ?_)
    refine lv_sipush (v := (792 : Int32)) hx hb dMo_quotient_35 (by decide) ?_
    refine lv_dup2_11 hx hb dMo_quotient_38 rfl ek_r_cat ?_
    refine ek_iald hx hb hK hw 864 rfl hf dMo_quotient_39 (fun hf => ?_)
    refine ek_aload_n hx hb dMo_quotient_40 rfl (lv_at hl 0 rfl) ?_
    refine ek_getr hx hb 8 hts (in_Mo) hown hK hw rfl (by decide) (by decide) 23 (by decide) (n := 15) rfl rfl (hts _ q_599) hf dMo_quotient_41 (fun hf => ?_)
    refine lv_bipush (v := (24 : Int32)) hx hb dMo_quotient_44 (by decide) ?_
    refine lv_iload_n hx hb dMo_quotient_46 rfl (lv_at hl 1 rfl) ?_
    refine lv_imul hx hb dMo_quotient_47 ?_
    refine lv_iload_n hx hb dMo_quotient_48 rfl (lv_at hl 2 rfl) ?_
    refine lv_bipush (v := (24 : Int32)) hx hb dMo_quotient_49 (by decide) ?_
    refine ek_idiv hx hb hf dMo_quotient_51 (fun hf => ?_)
    refine lv_iadd hx hb dMo_quotient_52 ?_
    refine ek_iald hx hb hK hw 864 rfl hf dMo_quotient_53 (fun hf => ?_)
    refine lv_iload_n hx hb dMo_quotient_54 rfl (lv_at hl 2 rfl) ?_
    refine lv_bipush (v := (24 : Int32)) hx hb dMo_quotient_55 (by decide) ?_
    refine ek_irem hx hb hf dMo_quotient_57 (fun hf => ?_)
    refine lv_ishr hx hb dMo_quotient_58 ?_
    refine lv_iconst (v := (1 : Int32)) hx hb dMo_quotient_59 (by decide) ?_
    refine lv_iand hx hb dMo_quotient_60 ?_
    refine lv_ior hx hb dMo_quotient_61 ?_
    refine ek_iast hx hb hK hw hS hA 864 rfl hf dMo_quotient_62 (fun I6 H locs hf hw hS => ?_)
    refine ek_aload_n hx hb dMo_quotient_63 rfl (lv_at hl 0 rfl) ?_
    refine lv_bipush (v := (32 : Int32)) hx hb dMo_quotient_64 (by decide) ?_
    refine lv_bipush (v := (32 : Int32)) hx hb dMo_quotient_66 (by decide) ?_
    refine lv_iconst (v := (0 : Int32)) hx hb dMo_quotient_68 (by decide) ?_
    obtain ⟨hx8, hf⟩ := ek_ck_s hf
    refine ek_cv hf hS hA (fun I' hq => ek_rV (As := [.int ((32 : Int32)), .int ((32 : Int32)), .int ((0 : Int32))]) ⟨hx, hb, hml, hown, hts⟩ hK hw 8 rfl (by decide) (by decide) hx8 (mMo_add3 hq) (cwV 3 hts (lw_V q_689 q_691 p_23 q_8 q_692) rfl rfl rfl (by decide +kernel) ⟨Nat.le_of_ble_eq_true rfl, Nat.le_of_ble_eq_true rfl⟩) rfl hl.1 rfl (Nat.le_of_ble_eq_true rfl) dMo_quotient_69 ⟨Nat.zero_le _, Nat.zero_le _⟩) (fun I7 H locs hf hw hS => ?_)
    refine ek_aload_n hx hb dMo_quotient_72 rfl (lv_at hl 0 rfl) ?_
    refine lv_bipush (v := (33 : Int32)) hx hb dMo_quotient_73 (by decide) ?_
    refine lv_bipush (v := (35 : Int32)) hx hb dMo_quotient_75 (by decide) ?_
    obtain ⟨hx10, hf⟩ := ek_ck_s hf
    refine ek_ci hf hS hA (fun I' v hq => ek_rV (As := [.int ((33 : Int32)), .int ((35 : Int32))]) ⟨hx, hb, hml, hown, hts⟩ hK hw 8 rfl (by decide) (by decide) hx10 (mMo_compare hq) (cwV 2 hts (lw_V q_698 q_700 p_25 q_8 q_701) rfl rfl rfl (by decide +kernel) ⟨Nat.le_of_ble_eq_true rfl, Nat.le_of_ble_eq_true rfl⟩) rfl hl.1 rfl (Nat.le_of_ble_eq_true rfl) dMo_quotient_77 ⟨Nat.zero_le _, Nat.zero_le _⟩) (fun I9 ir11 H locs hf hw hS => ?_)
    refine lv_if_ge (tgt := 86) hx hb dMo_quotient_80 (by decide) (fun c12 => ?_) (fun c12 => ?_)
    · have hf := ek_t c12 hf
      refine ek_aload_n hx hb dMo_quotient_86 rfl (lv_at hl 0 rfl) ?_
      refine lv_bipush (v := (33 : Int32)) hx hb dMo_quotient_87 (by decide) ?_
      refine lv_bipush (v := (35 : Int32)) hx hb dMo_quotient_89 (by decide) ?_
      refine lv_iconst (v := (1 : Int32)) hx hb dMo_quotient_91 (by decide) ?_
      obtain ⟨hx14, hf⟩ := ek_ck_s hf
      refine ek_cv hf hS hA (fun I' hq => ek_rV (As := [.int ((33 : Int32)), .int ((35 : Int32)), .int ((1 : Int32))]) ⟨hx, hb, hml, hown, hts⟩ hK hw 8 rfl (by decide) (by decide) hx14 (mMo_add3 hq) (cwV 3 hts (lw_V q_689 q_691 p_23 q_8 q_692) rfl rfl rfl (by decide +kernel) ⟨Nat.le_of_ble_eq_true rfl, Nat.le_of_ble_eq_true rfl⟩) rfl hl.1 rfl (Nat.le_of_ble_eq_true rfl) dMo_quotient_92 ⟨Nat.zero_le _, Nat.zero_le _⟩) (fun I13 H locs hf hw hS => ?_)
      refine ek_aload_n hx hb dMo_quotient_95 rfl (lv_at hl 0 rfl) ?_
      refine ek_getr hx hb 8 hts (in_Mo) hown hK hw rfl (by decide) (by decide) 23 (by decide) (n := 15) rfl rfl (hts _ q_599) hf dMo_quotient_96 (fun hf => ?_)
      refine lv_sipush (v := (768 : Int32)) hx hb dMo_quotient_99 (by decide) ?_
      refine lv_dup2_11 hx hb dMo_quotient_102 rfl ek_r_cat ?_
      refine ek_iald hx hb hK hw 864 rfl hf dMo_quotient_103 (fun hf => ?_)
      refine lv_iconst (v := (1 : Int32)) hx hb dMo_quotient_104 (by decide) ?_
      refine lv_ior hx hb dMo_quotient_105 ?_
      refine ek_iast hx hb hK hw hS hA 864 rfl hf dMo_quotient_106 (fun I15 H locs hf hw hS => ?_)
      exact wMo_quotient_107 X hk18 hf hw hS (lv_sub hl [0, 1, 2] rfl)
    · have hf := ek_f c12 hf
      refine lv_goto (tgt := 107) hx hb dMo_quotient_83 (by decide) ?_
      exact wMo_quotient_107 X hk18 hf hw hS (lv_sub hl [0, 1, 2] rfl)
set_option maxHeartbeats 4000000 in
set_option maxRecDepth 100000 in
theorem wMo_quotient_18_lp {l : Launch} {G : ek_G} {kd : Nat → Nat} {p : Program} {e : Env} {s : State} {m : MethodId} {args : Array Value} {below : List Frame} {meth : Method} {c : Code} (X : ek_X p s m meth c args G prog_9_method_13_code 3 "ElasticKernelModel" none) {q : ek_St} (n : Nat) : ∀ q0 : ek_St × Nat × Int32 × Int32, ek_lp (fun (k : (ek_St × Nat × Int32 × Int32) → Option (ek_St)) (q : (ek_St × Nat × Int32 × Int32)) => fMo_quotient_18 kd k q.1 q.2.1 q.2.2.1 q.2.2.2) n q0 = some q → ∀ (H : Heap) (locs : List Loc) (ls : Array Slot), ek_W G kd q0.1 H → va_S (ek_A G kd) s.heap H locs → lv_has ls 3 [(0, ek_r G q0.2.1), (1, .int q0.2.2.1), (2, .int q0.2.2.2)] → W p l e ({ frames := 1, cells := 0, slots := 0, locals := 26 } : Room) s m args below meth c H locs 0 0 (MQ below (ek_Q G kd none q) args s 0 0 (ek_A G kd)) (F0 m 18 ls []) :=
  ek_lp_ind (fun k hk q0 hf => fun H locs ls hw hS hl => wMo_quotient_18 X hk hf hw hS hl) n
set_option maxHeartbeats 4000000 in
set_option maxRecDepth 100000 in
theorem wMo_quotient_0 {l : Launch} {G : ek_G} {kd : Nat → Nat} {p : Program} {e : Env} {s : State} {m : MethodId} {args : Array Value} {below : List Frame} {meth : Method} {c : Code} (X : ek_X p s m meth c args G prog_9_method_13_code 3 "ElasticKernelModel" none) {q : ek_St} {I : ek_St} {x0 : Nat} {i1 : Int32} (hf : fMo_quotient_0 kd I x0 i1 = some q) {H : Heap} {locs : List Loc} {ls : Array Slot} (hw : ek_W G kd I H) (hS : va_S (ek_A G kd) s.heap H locs) (hl : lv_has ls 3 [(0, ek_r G x0), (1, .int i1)]) : W p l e ({ frames := 1, cells := 0, slots := 0, locals := 26 } : Room) s m args below meth c H locs 0 0 (MQ below (ek_Q G kd none q) args s 0 0 (ek_A G kd)) (F0 m 0 ls []) := by
  obtain ⟨hx, hb, hml, hown, hts, hr, hlocks, hK⟩ := id X
  have hA : ∀ q, ek_A G kd q → ek_A G kd q := fun _ h => h
  unfold fMo_quotient_0 at hf
  refine ek_aload_n hx hb dMo_quotient_0 rfl (lv_at hl 0 rfl) ?_
  refine lv_bipush (v := (32 : Int32)) hx hb dMo_quotient_1 (by decide) ?_
  refine lv_lconst (v := (0 : Int64)) hx hb dMo_quotient_3 (by decide) ?_
  obtain ⟨hx2, hf⟩ := ek_ck_s hf
  refine ek_cv hf hS hA (fun I' hq => ek_rV (As := [.int ((32 : Int32)), .long ((0 : Int64))]) ⟨hx, hb, hml, hown, hts⟩ hK hw 8 rfl (by decide) (by decide) hx2 (mMo_be hq) (cwV 2 hts (lw_V q_571 q_573 p_15 q_8 q_574) rfl rfl rfl (by decide +kernel) ⟨Nat.le_of_ble_eq_true rfl, Nat.le_of_ble_eq_true rfl⟩) rfl hl.1 rfl (Nat.le_of_ble_eq_true rfl) dMo_quotient_4 ⟨Nat.zero_le _, Nat.zero_le _⟩) (fun I1 H locs hf hw hS => ?_)
  refine ek_aload_n hx hb dMo_quotient_7 rfl (lv_at hl 0 rfl) ?_
  refine lv_bipush (v := (33 : Int32)) hx hb dMo_quotient_8 (by decide) ?_
  refine lv_lconst (v := (0 : Int64)) hx hb dMo_quotient_10 (by decide) ?_
  obtain ⟨hx4, hf⟩ := ek_ck_s hf
  refine ek_cv hf hS hA (fun I' hq => ek_rV (As := [.int ((33 : Int32)), .long ((0 : Int64))]) ⟨hx, hb, hml, hown, hts⟩ hK hw 8 rfl (by decide) (by decide) hx4 (mMo_be hq) (cwV 2 hts (lw_V q_571 q_573 p_15 q_8 q_574) rfl rfl rfl (by decide +kernel) ⟨Nat.le_of_ble_eq_true rfl, Nat.le_of_ble_eq_true rfl⟩) rfl hl.1 rfl (Nat.le_of_ble_eq_true rfl) dMo_quotient_11 ⟨Nat.zero_le _, Nat.zero_le _⟩) (fun I3 H locs hf hw hS => ?_)
  refine lv_sipush (v := (575 : Int32)) hx hb dMo_quotient_14 (by decide) ?_
  refine ek_istore_n (lv' := [(2, .int ((575 : Int32))), (1, .int i1), (0, ek_r G x0)]) hx hb dMo_quotient_17 rfl hl (by decide) (ek_s1k 1 rfl rfl rfl rfl rfl) (fun ls hl => ?_)
  exact wMo_quotient_18_lp X ek_N (I3, x0, i1, (575 : Int32)) hf _ _ _ hw hS (lv_sub hl [2, 1, 0] rfl)
set_option maxHeartbeats 4000000 in
set_option maxRecDepth 100000 in
theorem mMo_quotient {l : Launch} {G : ek_G} {kd : Nat → Nat} {I : ek_St} {x0 : Nat} {i1 : Int32} {q : ek_St} (hf : fMo_quotient kd I x0 i1 = some q) : ek_M l G kd y_Mo_quotient (.code y_Mo_quotient prog_9_method_13_code 3 none :: lw_g) ({ frames := 1, cells := 0, slots := 0, locals := 26 } : Room) [ek_r G x0, .int i1] I none q :=
  ek_body [(0, ek_r G x0), (1, .int i1)] (by decide) (by simp [lg_sl, ek_r_cat, ek_c_i, ek_c_l]) (by simp [lv_args, ek_r_cat, ek_c_i, ek_c_l]) (fun p e s m below meth c ls X hw hS hl => wMo_quotient_0 X hf hw hS hl)
/-! ElasticKernelModel.reduce(II)V -/
def fMo_reduce_138 (kd : Nat → Nat) (k58 : (ek_St × Nat × Int32 × Int32) → Option (ek_St)) (I : ek_St) (x0 : Nat) (i1 : Int32) (i2 : Int32) : Option (ek_St) :=
  ek_ck (kd x0 = 8) (ek_bv (fMo_add3 kd I x0 ((34 : Int32)) ((35 : Int32)) ((1 : Int32))) (fun I1 => k58 (I1, x0, i1, i2)))
def fMo_reduce_85 (kd : Nat → Nat) (k58 : (ek_St × Nat × Int32 × Int32) → Option (ek_St)) (k85 : (ek_St × Nat × Int32 × Int32) → Option (ek_St)) (I : ek_St) (x0 : Nat) (i1 : Int32) (i2 : Int32) : Option (ek_St) :=
  ek_ck (kd x0 = 8) (ek_bi (fMo_isEven kd I x0 ((35 : Int32))) (fun I1 ir3 => if ir3 = ((0 : Int32)) then (ek_ck (kd x0 = 8) (ek_bi (fMo_compare kd I1 x0 ((34 : Int32)) ((35 : Int32))) (fun I5 ir7 => if ((0 : Int32)) ≤ ir7 then (fMo_reduce_138 kd k58 I5 x0 i1 i2) else (ek_ck (kd x0 = 8) (ek_bv (fMo_copy kd I5 x0 ((32 : Int32)) ((34 : Int32))) (fun I9 => ek_ck (kd x0 = 8) (ek_bv (fMo_copy kd I9 x0 ((34 : Int32)) ((35 : Int32))) (fun I11 => ek_ck (kd x0 = 8) (ek_bv (fMo_copy kd I11 x0 ((35 : Int32)) ((32 : Int32))) (fun I13 => fMo_reduce_138 kd k58 I13 x0 i1 i2)))))))))) else (ek_ck (kd x0 = 8) (ek_bv (fMo_halve kd I1 x0 ((35 : Int32))) (fun I15 => k85 (I15, x0, i1, i2))))))
def fMo_reduce_67 (kd : Nat → Nat) (k58 : (ek_St × Nat × Int32 × Int32) → Option (ek_St)) (k67 : (ek_St × Nat × Int32 × Int32) → Option (ek_St)) (I : ek_St) (x0 : Nat) (i1 : Int32) (i2 : Int32) : Option (ek_St) :=
  ek_ck (kd x0 = 8) (ek_bi (fMo_isEven kd I x0 ((34 : Int32))) (fun I1 ir3 => if ir3 = ((0 : Int32)) then (ek_lp (fun (k : (ek_St × Nat × Int32 × Int32) → Option (ek_St)) (q : (ek_St × Nat × Int32 × Int32)) => fMo_reduce_85 kd k58 k q.1 q.2.1 q.2.2.1 q.2.2.2) ek_N (I1, x0, i1, i2)) else (ek_ck (kd x0 = 8) (ek_bv (fMo_halve kd I1 x0 ((34 : Int32))) (fun I5 => k67 (I5, x0, i1, i2))))))
def fMo_reduce_58 (kd : Nat → Nat) (k58 : (ek_St × Nat × Int32 × Int32) → Option (ek_St)) (I : ek_St) (x0 : Nat) (i1 : Int32) (i2 : Int32) : Option (ek_St) :=
  ek_ck (kd x0 = 8) (ek_bi (fMo_isZero kd I x0 ((34 : Int32))) (fun I1 ir3 => if ir3 = ((0 : Int32)) then (ek_lp (fun (k : (ek_St × Nat × Int32 × Int32) → Option (ek_St)) (q : (ek_St × Nat × Int32 × Int32)) => fMo_reduce_67 kd k58 k q.1 q.2.1 q.2.2.1 q.2.2.2) ek_N (I1, x0, i1, i2)) else (ek_ck (kd x0 = 8) (ek_bv (fMo_quotient kd I1 x0 i1) (fun I5 => ek_ck (kd x0 = 8) (ek_bv (fMo_quotient kd I5 x0 i2) (fun I7 => some I7)))))))
def fMo_reduce_44 (kd : Nat → Nat) (I : ek_St) (x0 : Nat) (i1 : Int32) (i2 : Int32) : Option (ek_St) :=
  ek_ck (kd x0 = 8) (ek_bv (fMo_copy kd I x0 ((34 : Int32)) i1) (fun I1 => ek_ck (kd x0 = 8) (ek_bv (fMo_copy kd I1 x0 ((35 : Int32)) i2) (fun I3 => ek_lp (fun (k : (ek_St × Nat × Int32 × Int32) → Option (ek_St)) (q : (ek_St × Nat × Int32 × Int32)) => fMo_reduce_58 kd k q.1 q.2.1 q.2.2.1 q.2.2.2) ek_N (I3, x0, i1, i2)))))
def fMo_reduce_15 (kd : Nat → Nat) (k15 : (ek_St × Nat × Int32 × Int32) → Option (ek_St)) (I : ek_St) (x0 : Nat) (i1 : Int32) (i2 : Int32) : Option (ek_St) :=
  ek_ck (kd x0 = 8) (ek_bi (fMo_isEven kd I x0 i1) (fun I1 ir3 => if ir3 = ((0 : Int32)) then (fMo_reduce_44 kd I1 x0 i1 i2) else (ek_ck (kd x0 = 8) (ek_bi (fMo_isEven kd I1 x0 i2) (fun I5 ir7 => if ir7 = ((0 : Int32)) then (fMo_reduce_44 kd I5 x0 i1 i2) else (ek_ck (kd x0 = 8) (ek_bv (fMo_halve kd I5 x0 i1) (fun I9 => ek_ck (kd x0 = 8) (ek_bv (fMo_halve kd I9 x0 i2) (fun I11 => k15 (I11, x0, i1, i2)))))))))))
def fMo_reduce_0 (kd : Nat → Nat) (I : ek_St) (x0 : Nat) (i1 : Int32) (i2 : Int32) : Option (ek_St) :=
  ek_ck (kd x0 = 8) (ek_bi (fMo_isZero kd I x0 i1) (fun I1 ir3 => if ir3 = ((0 : Int32)) then (ek_lp (fun (k : (ek_St × Nat × Int32 × Int32) → Option (ek_St)) (q : (ek_St × Nat × Int32 × Int32)) => fMo_reduce_15 kd k q.1 q.2.1 q.2.2.1 q.2.2.2) ek_N (I1, x0, i1, i2)) else (ek_ck (kd x0 = 8) (ek_bv (fMo_be kd I1 x0 i2 ((1 : Int64))) (fun I5 => some I5)))))
def fMo_reduce (kd : Nat → Nat) (I : ek_St) (x0 : Nat) (i1 : Int32) (i2 : Int32) : Option (ek_St) := fMo_reduce_0 kd I x0 i1 i2
theorem dMo_reduce_0 : decode prog_9_method_12_code 0 = .ok (.aload_n 0, 1) := by decide +kernel
theorem dMo_reduce_1 : decode prog_9_method_12_code 1 = .ok (.iload_n 1, 1) := by decide +kernel
theorem dMo_reduce_2 : decode prog_9_method_12_code 2 = .ok (.invokevirtual 76, 3) := by decide +kernel
theorem dMo_reduce_5 : decode prog_9_method_12_code 5 = .ok (.ifCond .eq 10, 3) := by decide +kernel
theorem dMo_reduce_8 : decode prog_9_method_12_code 8 = .ok (.aload_n 0, 1) := by decide +kernel
theorem dMo_reduce_9 : decode prog_9_method_12_code 9 = .ok (.iload_n 2, 1) := by decide +kernel
theorem dMo_reduce_10 : decode prog_9_method_12_code 10 = .ok (.lconst 1, 1) := by decide +kernel
theorem dMo_reduce_11 : decode prog_9_method_12_code 11 = .ok (.invokevirtual 66, 3) := by decide +kernel
theorem dMo_reduce_14 : decode prog_9_method_12_code 14 = .ok (.return_, 1) := by decide +kernel
theorem dMo_reduce_15 : decode prog_9_method_12_code 15 = .ok (.aload_n 0, 1) := by decide +kernel
theorem dMo_reduce_16 : decode prog_9_method_12_code 16 = .ok (.iload_n 1, 1) := by decide +kernel
theorem dMo_reduce_17 : decode prog_9_method_12_code 17 = .ok (.invokevirtual 80, 3) := by decide +kernel
theorem dMo_reduce_20 : decode prog_9_method_12_code 20 = .ok (.ifCond .eq 24, 3) := by decide +kernel
theorem dMo_reduce_23 : decode prog_9_method_12_code 23 = .ok (.aload_n 0, 1) := by decide +kernel
theorem dMo_reduce_24 : decode prog_9_method_12_code 24 = .ok (.iload_n 2, 1) := by decide +kernel
theorem dMo_reduce_25 : decode prog_9_method_12_code 25 = .ok (.invokevirtual 80, 3) := by decide +kernel
theorem dMo_reduce_28 : decode prog_9_method_12_code 28 = .ok (.ifCond .eq 16, 3) := by decide +kernel
theorem dMo_reduce_31 : decode prog_9_method_12_code 31 = .ok (.aload_n 0, 1) := by decide +kernel
theorem dMo_reduce_32 : decode prog_9_method_12_code 32 = .ok (.iload_n 1, 1) := by decide +kernel
theorem dMo_reduce_33 : decode prog_9_method_12_code 33 = .ok (.invokevirtual 83, 3) := by decide +kernel
theorem dMo_reduce_36 : decode prog_9_method_12_code 36 = .ok (.aload_n 0, 1) := by decide +kernel
theorem dMo_reduce_37 : decode prog_9_method_12_code 37 = .ok (.iload_n 2, 1) := by decide +kernel
theorem dMo_reduce_38 : decode prog_9_method_12_code 38 = .ok (.invokevirtual 83, 3) := by decide +kernel
theorem dMo_reduce_41 : decode prog_9_method_12_code 41 = .ok (.goto (-26), 3) := by decide +kernel
theorem dMo_reduce_44 : decode prog_9_method_12_code 44 = .ok (.aload_n 0, 1) := by decide +kernel
theorem dMo_reduce_45 : decode prog_9_method_12_code 45 = .ok (.bipush 34, 2) := by decide +kernel
theorem dMo_reduce_47 : decode prog_9_method_12_code 47 = .ok (.iload_n 1, 1) := by decide +kernel
theorem dMo_reduce_48 : decode prog_9_method_12_code 48 = .ok (.invokevirtual 87, 3) := by decide +kernel
theorem dMo_reduce_51 : decode prog_9_method_12_code 51 = .ok (.aload_n 0, 1) := by decide +kernel
theorem dMo_reduce_52 : decode prog_9_method_12_code 52 = .ok (.bipush 35, 2) := by decide +kernel
theorem dMo_reduce_54 : decode prog_9_method_12_code 54 = .ok (.iload_n 2, 1) := by decide +kernel
theorem dMo_reduce_55 : decode prog_9_method_12_code 55 = .ok (.invokevirtual 87, 3) := by decide +kernel
theorem dMo_reduce_58 : decode prog_9_method_12_code 58 = .ok (.aload_n 0, 1) := by decide +kernel
theorem dMo_reduce_59 : decode prog_9_method_12_code 59 = .ok (.bipush 34, 2) := by decide +kernel
theorem dMo_reduce_61 : decode prog_9_method_12_code 61 = .ok (.invokevirtual 76, 3) := by decide +kernel
theorem dMo_reduce_64 : decode prog_9_method_12_code 64 = .ok (.ifCond .ne 86, 3) := by decide +kernel
theorem dMo_reduce_67 : decode prog_9_method_12_code 67 = .ok (.aload_n 0, 1) := by decide +kernel
theorem dMo_reduce_68 : decode prog_9_method_12_code 68 = .ok (.bipush 34, 2) := by decide +kernel
theorem dMo_reduce_70 : decode prog_9_method_12_code 70 = .ok (.invokevirtual 80, 3) := by decide +kernel
theorem dMo_reduce_73 : decode prog_9_method_12_code 73 = .ok (.ifCond .eq 12, 3) := by decide +kernel
theorem dMo_reduce_76 : decode prog_9_method_12_code 76 = .ok (.aload_n 0, 1) := by decide +kernel
theorem dMo_reduce_77 : decode prog_9_method_12_code 77 = .ok (.bipush 34, 2) := by decide +kernel
theorem dMo_reduce_79 : decode prog_9_method_12_code 79 = .ok (.invokevirtual 83, 3) := by decide +kernel
theorem dMo_reduce_82 : decode prog_9_method_12_code 82 = .ok (.goto (-15), 3) := by decide +kernel
theorem dMo_reduce_85 : decode prog_9_method_12_code 85 = .ok (.aload_n 0, 1) := by decide +kernel
theorem dMo_reduce_86 : decode prog_9_method_12_code 86 = .ok (.bipush 35, 2) := by decide +kernel
theorem dMo_reduce_88 : decode prog_9_method_12_code 88 = .ok (.invokevirtual 80, 3) := by decide +kernel
theorem dMo_reduce_91 : decode prog_9_method_12_code 91 = .ok (.ifCond .eq 12, 3) := by decide +kernel
theorem dMo_reduce_94 : decode prog_9_method_12_code 94 = .ok (.aload_n 0, 1) := by decide +kernel
theorem dMo_reduce_95 : decode prog_9_method_12_code 95 = .ok (.bipush 35, 2) := by decide +kernel
theorem dMo_reduce_97 : decode prog_9_method_12_code 97 = .ok (.invokevirtual 83, 3) := by decide +kernel
theorem dMo_reduce_100 : decode prog_9_method_12_code 100 = .ok (.goto (-15), 3) := by decide +kernel
theorem dMo_reduce_103 : decode prog_9_method_12_code 103 = .ok (.aload_n 0, 1) := by decide +kernel
theorem dMo_reduce_104 : decode prog_9_method_12_code 104 = .ok (.bipush 34, 2) := by decide +kernel
theorem dMo_reduce_106 : decode prog_9_method_12_code 106 = .ok (.bipush 35, 2) := by decide +kernel
theorem dMo_reduce_108 : decode prog_9_method_12_code 108 = .ok (.invokevirtual 91, 3) := by decide +kernel
theorem dMo_reduce_111 : decode prog_9_method_12_code 111 = .ok (.ifCond .ge 27, 3) := by decide +kernel
theorem dMo_reduce_114 : decode prog_9_method_12_code 114 = .ok (.aload_n 0, 1) := by decide +kernel
theorem dMo_reduce_115 : decode prog_9_method_12_code 115 = .ok (.bipush 32, 2) := by decide +kernel
theorem dMo_reduce_117 : decode prog_9_method_12_code 117 = .ok (.bipush 34, 2) := by decide +kernel
theorem dMo_reduce_119 : decode prog_9_method_12_code 119 = .ok (.invokevirtual 87, 3) := by decide +kernel
theorem dMo_reduce_122 : decode prog_9_method_12_code 122 = .ok (.aload_n 0, 1) := by decide +kernel
theorem dMo_reduce_123 : decode prog_9_method_12_code 123 = .ok (.bipush 34, 2) := by decide +kernel
theorem dMo_reduce_125 : decode prog_9_method_12_code 125 = .ok (.bipush 35, 2) := by decide +kernel
theorem dMo_reduce_127 : decode prog_9_method_12_code 127 = .ok (.invokevirtual 87, 3) := by decide +kernel
theorem dMo_reduce_130 : decode prog_9_method_12_code 130 = .ok (.aload_n 0, 1) := by decide +kernel
theorem dMo_reduce_131 : decode prog_9_method_12_code 131 = .ok (.bipush 35, 2) := by decide +kernel
theorem dMo_reduce_133 : decode prog_9_method_12_code 133 = .ok (.bipush 32, 2) := by decide +kernel
theorem dMo_reduce_135 : decode prog_9_method_12_code 135 = .ok (.invokevirtual 87, 3) := by decide +kernel
theorem dMo_reduce_138 : decode prog_9_method_12_code 138 = .ok (.aload_n 0, 1) := by decide +kernel
theorem dMo_reduce_139 : decode prog_9_method_12_code 139 = .ok (.bipush 34, 2) := by decide +kernel
theorem dMo_reduce_141 : decode prog_9_method_12_code 141 = .ok (.bipush 35, 2) := by decide +kernel
theorem dMo_reduce_143 : decode prog_9_method_12_code 143 = .ok (.iconst 1, 1) := by decide +kernel
theorem dMo_reduce_144 : decode prog_9_method_12_code 144 = .ok (.invokevirtual 95, 3) := by decide +kernel
theorem dMo_reduce_147 : decode prog_9_method_12_code 147 = .ok (.goto (-89), 3) := by decide +kernel
theorem dMo_reduce_150 : decode prog_9_method_12_code 150 = .ok (.aload_n 0, 1) := by decide +kernel
theorem dMo_reduce_151 : decode prog_9_method_12_code 151 = .ok (.iload_n 1, 1) := by decide +kernel
theorem dMo_reduce_152 : decode prog_9_method_12_code 152 = .ok (.invokevirtual 99, 3) := by decide +kernel
theorem dMo_reduce_155 : decode prog_9_method_12_code 155 = .ok (.aload_n 0, 1) := by decide +kernel
theorem dMo_reduce_156 : decode prog_9_method_12_code 156 = .ok (.iload_n 2, 1) := by decide +kernel
theorem dMo_reduce_157 : decode prog_9_method_12_code 157 = .ok (.invokevirtual 99, 3) := by decide +kernel
theorem dMo_reduce_160 : decode prog_9_method_12_code 160 = .ok (.return_, 1) := by decide +kernel
set_option maxHeartbeats 4000000 in
set_option maxRecDepth 100000 in
theorem wMo_reduce_138 {l : Launch} {G : ek_G} {kd : Nat → Nat} {p : Program} {e : Env} {s : State} {m : MethodId} {args : Array Value} {below : List Frame} {meth : Method} {c : Code} (X : ek_X p s m meth c args G prog_9_method_12_code 3 "ElasticKernelModel" none) {q : ek_St} {k58 : (ek_St × Nat × Int32 × Int32) → Option (ek_St)} (hk58 : ∀ q0 : ek_St × Nat × Int32 × Int32, k58 q0 = some q → ∀ (H : Heap) (locs : List Loc) (ls : Array Slot), ek_W G kd q0.1 H → va_S (ek_A G kd) s.heap H locs → lv_has ls 3 [(0, ek_r G q0.2.1), (1, .int q0.2.2.1), (2, .int q0.2.2.2)] → W p l e ({ frames := 2, cells := 0, slots := 0, locals := 48 } : Room) s m args below meth c H locs 0 0 (MQ below (ek_Q G kd none q) args s 0 0 (ek_A G kd)) (F0 m 58 ls [])) {I : ek_St} {x0 : Nat} {i1 : Int32} {i2 : Int32} (hf : fMo_reduce_138 kd k58 I x0 i1 i2 = some q) {H : Heap} {locs : List Loc} {ls : Array Slot} (hw : ek_W G kd I H) (hS : va_S (ek_A G kd) s.heap H locs) (hl : lv_has ls 3 [(0, ek_r G x0), (1, .int i1), (2, .int i2)]) : W p l e ({ frames := 2, cells := 0, slots := 0, locals := 48 } : Room) s m args below meth c H locs 0 0 (MQ below (ek_Q G kd none q) args s 0 0 (ek_A G kd)) (F0 m 138 ls []) := by
  obtain ⟨hx, hb, hml, hown, hts, hr, hlocks, hK⟩ := id X
  have hA : ∀ q, ek_A G kd q → ek_A G kd q := fun _ h => h
  unfold fMo_reduce_138 at hf
  refine ek_aload_n hx hb dMo_reduce_138 rfl (lv_at hl 0 rfl) ?_
  refine lv_bipush (v := (34 : Int32)) hx hb dMo_reduce_139 (by decide) ?_
  refine lv_bipush (v := (35 : Int32)) hx hb dMo_reduce_141 (by decide) ?_
  refine lv_iconst (v := (1 : Int32)) hx hb dMo_reduce_143 (by decide) ?_
  obtain ⟨hx2, hf⟩ := ek_ck_s hf
  refine ek_cv hf hS hA (fun I' hq => ek_rV (As := [.int ((34 : Int32)), .int ((35 : Int32)), .int ((1 : Int32))]) ⟨hx, hb, hml, hown, hts⟩ hK hw 8 rfl (by decide) (by decide) hx2 (mMo_add3 hq) (cwV 3 hts (lw_V q_689 q_691 p_23 q_8 q_692) rfl rfl rfl (by decide +kernel) ⟨Nat.le_of_ble_eq_true rfl, Nat.le_of_ble_eq_true rfl⟩) rfl hl.1 rfl (Nat.le_of_ble_eq_true rfl) dMo_reduce_144 ⟨Nat.zero_le _, Nat.zero_le _⟩) (fun I1 H locs hf hw hS => ?_)
  refine lv_goto (tgt := 58) hx hb dMo_reduce_147 (by decide) ?_
  exact hk58 (I1, x0, i1, i2) hf _ _ _ hw hS (lv_sub hl [0, 1, 2] rfl)
set_option maxHeartbeats 4000000 in
set_option maxRecDepth 100000 in
theorem wMo_reduce_85 {l : Launch} {G : ek_G} {kd : Nat → Nat} {p : Program} {e : Env} {s : State} {m : MethodId} {args : Array Value} {below : List Frame} {meth : Method} {c : Code} (X : ek_X p s m meth c args G prog_9_method_12_code 3 "ElasticKernelModel" none) {q : ek_St} {k58 : (ek_St × Nat × Int32 × Int32) → Option (ek_St)} (hk58 : ∀ q0 : ek_St × Nat × Int32 × Int32, k58 q0 = some q → ∀ (H : Heap) (locs : List Loc) (ls : Array Slot), ek_W G kd q0.1 H → va_S (ek_A G kd) s.heap H locs → lv_has ls 3 [(0, ek_r G q0.2.1), (1, .int q0.2.2.1), (2, .int q0.2.2.2)] → W p l e ({ frames := 2, cells := 0, slots := 0, locals := 48 } : Room) s m args below meth c H locs 0 0 (MQ below (ek_Q G kd none q) args s 0 0 (ek_A G kd)) (F0 m 58 ls [])) {k85 : (ek_St × Nat × Int32 × Int32) → Option (ek_St)} (hk85 : ∀ q0 : ek_St × Nat × Int32 × Int32, k85 q0 = some q → ∀ (H : Heap) (locs : List Loc) (ls : Array Slot), ek_W G kd q0.1 H → va_S (ek_A G kd) s.heap H locs → lv_has ls 3 [(0, ek_r G q0.2.1), (1, .int q0.2.2.1), (2, .int q0.2.2.2)] → W p l e ({ frames := 2, cells := 0, slots := 0, locals := 48 } : Room) s m args below meth c H locs 0 0 (MQ below (ek_Q G kd none q) args s 0 0 (ek_A G kd)) (F0 m 85 ls [])) {I : ek_St} {x0 : Nat} {i1 : Int32} {i2 : Int32} (hf : fMo_reduce_85 kd k58 k85 I x0 i1 i2 = some q) {H : Heap} {locs : List Loc} {ls : Array Slot} (hw : ek_W G kd I H) (hS : va_S (ek_A G kd) s.heap H locs) (hl : lv_has ls 3 [(0, ek_r G x0), (1, .int i1), (2, .int i2)]) : W p l e ({ frames := 2, cells := 0, slots := 0, locals := 48 } : Room) s m args below meth c H locs 0 0 (MQ below (ek_Q G kd none q) args s 0 0 (ek_A G kd)) (F0 m 85 ls []) := by
  obtain ⟨hx, hb, hml, hown, hts, hr, hlocks, hK⟩ := id X
  have hA : ∀ q, ek_A G kd q → ek_A G kd q := fun _ h => h
  unfold fMo_reduce_85 at hf
  refine ek_aload_n hx hb dMo_reduce_85 rfl (lv_at hl 0 rfl) ?_
  refine lv_bipush (v := (35 : Int32)) hx hb dMo_reduce_86 (by decide) ?_
  obtain ⟨hx2, hf⟩ := ek_ck_s hf
  refine ek_ci hf hS hA (fun I' v hq => ek_rV (As := [.int ((35 : Int32))]) ⟨hx, hb, hml, hown, hts⟩ hK hw 8 rfl (by decide) (by decide) hx2 (mMo_isEven hq) (cwV 1 hts (lw_V q_791 q_793 p_42 q_8 q_794) rfl rfl rfl (by decide +kernel) ⟨Nat.le_of_ble_eq_true rfl, Nat.le_of_ble_eq_true rfl⟩) rfl hl.1 rfl (Nat.le_of_ble_eq_true rfl) dMo_reduce_88 ⟨Nat.zero_le _, Nat.zero_le _⟩) (fun I1 ir3 H locs hf hw hS => ?_)
  refine lv_if_eq (tgt := 103) hx hb dMo_reduce_91 (by decide) (fun c4 => ?_) (fun c4 => ?_)
  · have hf := ek_t c4 hf
    refine ek_aload_n hx hb dMo_reduce_103 rfl (lv_at hl 0 rfl) ?_
    refine lv_bipush (v := (34 : Int32)) hx hb dMo_reduce_104 (by decide) ?_
    refine lv_bipush (v := (35 : Int32)) hx hb dMo_reduce_106 (by decide) ?_
    obtain ⟨hx6, hf⟩ := ek_ck_s hf
    refine ek_ci hf hS hA (fun I' v hq => ek_rV (As := [.int ((34 : Int32)), .int ((35 : Int32))]) ⟨hx, hb, hml, hown, hts⟩ hK hw 8 rfl (by decide) (by decide) hx6 (mMo_compare hq) (cwV 2 hts (lw_V q_698 q_700 p_25 q_8 q_701) rfl rfl rfl (by decide +kernel) ⟨Nat.le_of_ble_eq_true rfl, Nat.le_of_ble_eq_true rfl⟩) rfl hl.1 rfl (Nat.le_of_ble_eq_true rfl) dMo_reduce_108 ⟨Nat.zero_le _, Nat.zero_le _⟩) (fun I5 ir7 H locs hf hw hS => ?_)
    refine lv_if_ge (tgt := 138) hx hb dMo_reduce_111 (by decide) (fun c8 => ?_) (fun c8 => ?_)
    · have hf := ek_t c8 hf
      exact wMo_reduce_138 X hk58 hf hw hS (lv_sub hl [0, 1, 2] rfl)
    · have hf := ek_f c8 hf
      refine ek_aload_n hx hb dMo_reduce_114 rfl (lv_at hl 0 rfl) ?_
      refine lv_bipush (v := (32 : Int32)) hx hb dMo_reduce_115 (by decide) ?_
      refine lv_bipush (v := (34 : Int32)) hx hb dMo_reduce_117 (by decide) ?_
      obtain ⟨hx10, hf⟩ := ek_ck_s hf
      refine ek_cv hf hS hA (fun I' hq => ek_rV (As := [.int ((32 : Int32)), .int ((34 : Int32))]) ⟨hx, hb, hml, hown, hts⟩ hK hw 8 rfl (by decide) (by decide) hx10 (mMo_copy hq) (cwV 2 hts (lw_V q_669 q_671 p_18 q_8 q_672) rfl rfl rfl (by decide +kernel) ⟨Nat.le_of_ble_eq_true rfl, Nat.le_of_ble_eq_true rfl⟩) rfl hl.1 rfl (Nat.le_of_ble_eq_true rfl) dMo_reduce_119 ⟨Nat.zero_le _, Nat.zero_le _⟩) (fun I9 H locs hf hw hS => ?_)
      refine ek_aload_n hx hb dMo_reduce_122 rfl (lv_at hl 0 rfl) ?_
      refine lv_bipush (v := (34 : Int32)) hx hb dMo_reduce_123 (by decide) ?_
      refine lv_bipush (v := (35 : Int32)) hx hb dMo_reduce_125 (by decide) ?_
      obtain ⟨hx12, hf⟩ := ek_ck_s hf
      refine ek_cv hf hS hA (fun I' hq => ek_rV (As := [.int ((34 : Int32)), .int ((35 : Int32))]) ⟨hx, hb, hml, hown, hts⟩ hK hw 8 rfl (by decide) (by decide) hx12 (mMo_copy hq) (cwV 2 hts (lw_V q_669 q_671 p_18 q_8 q_672) rfl rfl rfl (by decide +kernel) ⟨Nat.le_of_ble_eq_true rfl, Nat.le_of_ble_eq_true rfl⟩) rfl hl.1 rfl (Nat.le_of_ble_eq_true rfl) dMo_reduce_127 ⟨Nat.zero_le _, Nat.zero_le _⟩) (fun I11 H locs hf hw hS => ?_)
      refine ek_aload_n hx hb dMo_reduce_130 rfl (lv_at hl 0 rfl) ?_
      refine lv_bipush (v := (35 : Int32)) hx hb dMo_reduce_131 (by decide) ?_
      refine lv_bipush (v := (32 : Int32)) hx hb dMo_reduce_133 (by decide) ?_
      obtain ⟨hx14, hf⟩ := ek_ck_s hf
      refine ek_cv hf hS hA (fun I' hq => ek_rV (As := [.int ((35 : Int32)), .int ((32 : Int32))]) ⟨hx, hb, hml, hown, hts⟩ hK hw 8 rfl (by decide) (by decide) hx14 (mMo_copy hq) (cwV 2 hts (lw_V q_669 q_671 p_18 q_8 q_672) rfl rfl rfl (by decide +kernel) ⟨Nat.le_of_ble_eq_true rfl, Nat.le_of_ble_eq_true rfl⟩) rfl hl.1 rfl (Nat.le_of_ble_eq_true rfl) dMo_reduce_135 ⟨Nat.zero_le _, Nat.zero_le _⟩) (fun I13 H locs hf hw hS => ?_)
      exact wMo_reduce_138 X hk58 hf hw hS (lv_sub hl [0, 1, 2] rfl)
  · have hf := ek_f c4 hf
    refine ek_aload_n hx hb dMo_reduce_94 rfl (lv_at hl 0 rfl) ?_
    refine lv_bipush (v := (35 : Int32)) hx hb dMo_reduce_95 (by decide) ?_
    obtain ⟨hx16, hf⟩ := ek_ck_s hf
    refine ek_cv hf hS hA (fun I' hq => ek_rV (As := [.int ((35 : Int32))]) ⟨hx, hb, hml, hown, hts⟩ hK hw 8 rfl (by decide) (by decide) hx16 (mMo_halve hq) (cwV 1 hts (lw_V q_795 q_797 p_43 q_8 q_798) rfl rfl rfl (by decide +kernel) ⟨Nat.le_of_ble_eq_true rfl, Nat.le_of_ble_eq_true rfl⟩) rfl hl.1 rfl (Nat.le_of_ble_eq_true rfl) dMo_reduce_97 ⟨Nat.zero_le _, Nat.zero_le _⟩) (fun I15 H locs hf hw hS => ?_)
    refine lv_goto (tgt := 85) hx hb dMo_reduce_100 (by decide) ?_
    exact hk85 (I15, x0, i1, i2) hf _ _ _ hw hS (lv_sub hl [0, 1, 2] rfl)
set_option maxHeartbeats 4000000 in
set_option maxRecDepth 100000 in
theorem wMo_reduce_85_lp {l : Launch} {G : ek_G} {kd : Nat → Nat} {p : Program} {e : Env} {s : State} {m : MethodId} {args : Array Value} {below : List Frame} {meth : Method} {c : Code} (X : ek_X p s m meth c args G prog_9_method_12_code 3 "ElasticKernelModel" none) {q : ek_St} {k58 : (ek_St × Nat × Int32 × Int32) → Option (ek_St)} (hk58 : ∀ q0 : ek_St × Nat × Int32 × Int32, k58 q0 = some q → ∀ (H : Heap) (locs : List Loc) (ls : Array Slot), ek_W G kd q0.1 H → va_S (ek_A G kd) s.heap H locs → lv_has ls 3 [(0, ek_r G q0.2.1), (1, .int q0.2.2.1), (2, .int q0.2.2.2)] → W p l e ({ frames := 2, cells := 0, slots := 0, locals := 48 } : Room) s m args below meth c H locs 0 0 (MQ below (ek_Q G kd none q) args s 0 0 (ek_A G kd)) (F0 m 58 ls [])) (n : Nat) : ∀ q0 : ek_St × Nat × Int32 × Int32, ek_lp (fun (k : (ek_St × Nat × Int32 × Int32) → Option (ek_St)) (q : (ek_St × Nat × Int32 × Int32)) => fMo_reduce_85 kd k58 k q.1 q.2.1 q.2.2.1 q.2.2.2) n q0 = some q → ∀ (H : Heap) (locs : List Loc) (ls : Array Slot), ek_W G kd q0.1 H → va_S (ek_A G kd) s.heap H locs → lv_has ls 3 [(0, ek_r G q0.2.1), (1, .int q0.2.2.1), (2, .int q0.2.2.2)] → W p l e ({ frames := 2, cells := 0, slots := 0, locals := 48 } : Room) s m args below meth c H locs 0 0 (MQ below (ek_Q G kd none q) args s 0 0 (ek_A G kd)) (F0 m 85 ls []) :=
  ek_lp_ind (fun k hk q0 hf => fun H locs ls hw hS hl => wMo_reduce_85 X hk58 hk hf hw hS hl) n
set_option maxHeartbeats 4000000 in
set_option maxRecDepth 100000 in
theorem wMo_reduce_67 {l : Launch} {G : ek_G} {kd : Nat → Nat} {p : Program} {e : Env} {s : State} {m : MethodId} {args : Array Value} {below : List Frame} {meth : Method} {c : Code} (X : ek_X p s m meth c args G prog_9_method_12_code 3 "ElasticKernelModel" none) {q : ek_St} {k58 : (ek_St × Nat × Int32 × Int32) → Option (ek_St)} (hk58 : ∀ q0 : ek_St × Nat × Int32 × Int32, k58 q0 = some q → ∀ (H : Heap) (locs : List Loc) (ls : Array Slot), ek_W G kd q0.1 H → va_S (ek_A G kd) s.heap H locs → lv_has ls 3 [(0, ek_r G q0.2.1), (1, .int q0.2.2.1), (2, .int q0.2.2.2)] → W p l e ({ frames := 2, cells := 0, slots := 0, locals := 48 } : Room) s m args below meth c H locs 0 0 (MQ below (ek_Q G kd none q) args s 0 0 (ek_A G kd)) (F0 m 58 ls [])) {k67 : (ek_St × Nat × Int32 × Int32) → Option (ek_St)} (hk67 : ∀ q0 : ek_St × Nat × Int32 × Int32, k67 q0 = some q → ∀ (H : Heap) (locs : List Loc) (ls : Array Slot), ek_W G kd q0.1 H → va_S (ek_A G kd) s.heap H locs → lv_has ls 3 [(0, ek_r G q0.2.1), (1, .int q0.2.2.1), (2, .int q0.2.2.2)] → W p l e ({ frames := 2, cells := 0, slots := 0, locals := 48 } : Room) s m args below meth c H locs 0 0 (MQ below (ek_Q G kd none q) args s 0 0 (ek_A G kd)) (F0 m 67 ls [])) {I : ek_St} {x0 : Nat} {i1 : Int32} {i2 : Int32} (hf : fMo_reduce_67 kd k58 k67 I x0 i1 i2 = some q) {H : Heap} {locs : List Loc} {ls : Array Slot} (hw : ek_W G kd I H) (hS : va_S (ek_A G kd) s.heap H locs) (hl : lv_has ls 3 [(0, ek_r G x0), (1, .int i1), (2, .int i2)]) : W p l e ({ frames := 2, cells := 0, slots := 0, locals := 48 } : Room) s m args below meth c H locs 0 0 (MQ below (ek_Q G kd none q) args s 0 0 (ek_A G kd)) (F0 m 67 ls []) := by
  obtain ⟨hx, hb, hml, hown, hts, hr, hlocks, hK⟩ := id X
  have hA : ∀ q, ek_A G kd q → ek_A G kd q := fun _ h => h
  unfold fMo_reduce_67 at hf
  refine ek_aload_n hx hb dMo_reduce_67 rfl (lv_at hl 0 rfl) ?_
  refine lv_bipush (v := (34 : Int32)) hx hb dMo_reduce_68 (by decide) ?_
  obtain ⟨hx2, hf⟩ := ek_ck_s hf
  refine ek_ci hf hS hA (fun I' v hq => ek_rV (As := [.int ((34 : Int32))]) ⟨hx, hb, hml, hown, hts⟩ hK hw 8 rfl (by decide) (by decide) hx2 (mMo_isEven hq) (cwV 1 hts (lw_V q_791 q_793 p_42 q_8 q_794) rfl rfl rfl (by decide +kernel) ⟨Nat.le_of_ble_eq_true rfl, Nat.le_of_ble_eq_true rfl⟩) rfl hl.1 rfl (Nat.le_of_ble_eq_true rfl) dMo_reduce_70 ⟨Nat.zero_le _, Nat.zero_le _⟩) (fun I1 ir3 H locs hf hw hS => ?_)
  refine lv_if_eq (tgt := 85) hx hb dMo_reduce_73 (by decide) (fun c4 => ?_) (fun c4 => ?_)
  · have hf := ek_t c4 hf
    exact wMo_reduce_85_lp X hk58 ek_N (I1, x0, i1, i2) hf _ _ _ hw hS (lv_sub hl [0, 1, 2] rfl)
  · have hf := ek_f c4 hf
    refine ek_aload_n hx hb dMo_reduce_76 rfl (lv_at hl 0 rfl) ?_
    refine lv_bipush (v := (34 : Int32)) hx hb dMo_reduce_77 (by decide) ?_
    obtain ⟨hx6, hf⟩ := ek_ck_s hf
    refine ek_cv hf hS hA (fun I' hq => ek_rV (As := [.int ((34 : Int32))]) ⟨hx, hb, hml, hown, hts⟩ hK hw 8 rfl (by decide) (by decide) hx6 (mMo_halve hq) (cwV 1 hts (lw_V q_795 q_797 p_43 q_8 q_798) rfl rfl rfl (by decide +kernel) ⟨Nat.le_of_ble_eq_true rfl, Nat.le_of_ble_eq_true rfl⟩) rfl hl.1 rfl (Nat.le_of_ble_eq_true rfl) dMo_reduce_79 ⟨Nat.zero_le _, Nat.zero_le _⟩) (fun I5 H locs hf hw hS => ?_)
    refine lv_goto (tgt := 67) hx hb dMo_reduce_82 (by decide) ?_
    exact hk67 (I5, x0, i1, i2) hf _ _ _ hw hS (lv_sub hl [0, 1, 2] rfl)
set_option maxHeartbeats 4000000 in
set_option maxRecDepth 100000 in
theorem wMo_reduce_67_lp {l : Launch} {G : ek_G} {kd : Nat → Nat} {p : Program} {e : Env} {s : State} {m : MethodId} {args : Array Value} {below : List Frame} {meth : Method} {c : Code} (X : ek_X p s m meth c args G prog_9_method_12_code 3 "ElasticKernelModel" none) {q : ek_St} {k58 : (ek_St × Nat × Int32 × Int32) → Option (ek_St)} (hk58 : ∀ q0 : ek_St × Nat × Int32 × Int32, k58 q0 = some q → ∀ (H : Heap) (locs : List Loc) (ls : Array Slot), ek_W G kd q0.1 H → va_S (ek_A G kd) s.heap H locs → lv_has ls 3 [(0, ek_r G q0.2.1), (1, .int q0.2.2.1), (2, .int q0.2.2.2)] → W p l e ({ frames := 2, cells := 0, slots := 0, locals := 48 } : Room) s m args below meth c H locs 0 0 (MQ below (ek_Q G kd none q) args s 0 0 (ek_A G kd)) (F0 m 58 ls [])) (n : Nat) : ∀ q0 : ek_St × Nat × Int32 × Int32, ek_lp (fun (k : (ek_St × Nat × Int32 × Int32) → Option (ek_St)) (q : (ek_St × Nat × Int32 × Int32)) => fMo_reduce_67 kd k58 k q.1 q.2.1 q.2.2.1 q.2.2.2) n q0 = some q → ∀ (H : Heap) (locs : List Loc) (ls : Array Slot), ek_W G kd q0.1 H → va_S (ek_A G kd) s.heap H locs → lv_has ls 3 [(0, ek_r G q0.2.1), (1, .int q0.2.2.1), (2, .int q0.2.2.2)] → W p l e ({ frames := 2, cells := 0, slots := 0, locals := 48 } : Room) s m args below meth c H locs 0 0 (MQ below (ek_Q G kd none q) args s 0 0 (ek_A G kd)) (F0 m 67 ls []) :=
  ek_lp_ind (fun k hk q0 hf => fun H locs ls hw hS hl => wMo_reduce_67 X hk58 hk hf hw hS hl) n
set_option maxHeartbeats 4000000 in
set_option maxRecDepth 100000 in
theorem wMo_reduce_58 {l : Launch} {G : ek_G} {kd : Nat → Nat} {p : Program} {e : Env} {s : State} {m : MethodId} {args : Array Value} {below : List Frame} {meth : Method} {c : Code} (X : ek_X p s m meth c args G prog_9_method_12_code 3 "ElasticKernelModel" none) {q : ek_St} {k58 : (ek_St × Nat × Int32 × Int32) → Option (ek_St)} (hk58 : ∀ q0 : ek_St × Nat × Int32 × Int32, k58 q0 = some q → ∀ (H : Heap) (locs : List Loc) (ls : Array Slot), ek_W G kd q0.1 H → va_S (ek_A G kd) s.heap H locs → lv_has ls 3 [(0, ek_r G q0.2.1), (1, .int q0.2.2.1), (2, .int q0.2.2.2)] → W p l e ({ frames := 2, cells := 0, slots := 0, locals := 48 } : Room) s m args below meth c H locs 0 0 (MQ below (ek_Q G kd none q) args s 0 0 (ek_A G kd)) (F0 m 58 ls [])) {I : ek_St} {x0 : Nat} {i1 : Int32} {i2 : Int32} (hf : fMo_reduce_58 kd k58 I x0 i1 i2 = some q) {H : Heap} {locs : List Loc} {ls : Array Slot} (hw : ek_W G kd I H) (hS : va_S (ek_A G kd) s.heap H locs) (hl : lv_has ls 3 [(0, ek_r G x0), (1, .int i1), (2, .int i2)]) : W p l e ({ frames := 2, cells := 0, slots := 0, locals := 48 } : Room) s m args below meth c H locs 0 0 (MQ below (ek_Q G kd none q) args s 0 0 (ek_A G kd)) (F0 m 58 ls []) := by
  obtain ⟨hx, hb, hml, hown, hts, hr, hlocks, hK⟩ := id X
  have hA : ∀ q, ek_A G kd q → ek_A G kd q := fun _ h => h
  unfold fMo_reduce_58 at hf
  refine ek_aload_n hx hb dMo_reduce_58 rfl (lv_at hl 0 rfl) ?_
  refine lv_bipush (v := (34 : Int32)) hx hb dMo_reduce_59 (by decide) ?_
  obtain ⟨hx2, hf⟩ := ek_ck_s hf
  refine ek_ci hf hS hA (fun I' v hq => ek_rV (As := [.int ((34 : Int32))]) ⟨hx, hb, hml, hown, hts⟩ hK hw 8 rfl (by decide) (by decide) hx2 (mMo_isZero hq) (cwV 1 hts (lw_V q_787 q_789 p_41 q_8 q_790) rfl rfl rfl (by decide +kernel) ⟨Nat.le_of_ble_eq_true rfl, Nat.le_of_ble_eq_true rfl⟩) rfl hl.1 rfl (Nat.le_of_ble_eq_true rfl) dMo_reduce_61 ⟨Nat.zero_le _, Nat.zero_le _⟩) (fun I1 ir3 H locs hf hw hS => ?_)
  refine lv_if_ne (tgt := 150) hx hb dMo_reduce_64 (by decide) (fun c4 => ?_) (fun c4 => ?_)
  · have hf := ek_f c4 hf
    refine ek_aload_n hx hb dMo_reduce_150 rfl (lv_at hl 0 rfl) ?_
    refine lv_iload_n hx hb dMo_reduce_151 rfl (lv_at hl 1 rfl) ?_
    obtain ⟨hx6, hf⟩ := ek_ck_s hf
    refine ek_cv hf hS hA (fun I' hq => ek_rV (As := [.int i1]) ⟨hx, hb, hml, hown, hts⟩ hK hw 8 rfl (by decide) (by decide) hx6 (mMo_quotient hq) (cwV 1 hts (lw_V q_799 q_801 p_44 q_8 q_802) rfl rfl rfl (by decide +kernel) ⟨Nat.le_of_ble_eq_true rfl, Nat.le_of_ble_eq_true rfl⟩) rfl hl.1 rfl (Nat.le_of_ble_eq_true rfl) dMo_reduce_152 ⟨Nat.zero_le _, Nat.zero_le _⟩) (fun I5 H locs hf hw hS => ?_)
    refine ek_aload_n hx hb dMo_reduce_155 rfl (lv_at hl 0 rfl) ?_
    refine lv_iload_n hx hb dMo_reduce_156 rfl (lv_at hl 2 rfl) ?_
    obtain ⟨hx8, hf⟩ := ek_ck_s hf
    refine ek_cv hf hS hA (fun I' hq => ek_rV (As := [.int i2]) ⟨hx, hb, hml, hown, hts⟩ hK hw 8 rfl (by decide) (by decide) hx8 (mMo_quotient hq) (cwV 1 hts (lw_V q_799 q_801 p_44 q_8 q_802) rfl rfl rfl (by decide +kernel) ⟨Nat.le_of_ble_eq_true rfl, Nat.le_of_ble_eq_true rfl⟩) rfl hl.1 rfl (Nat.le_of_ble_eq_true rfl) dMo_reduce_157 ⟨Nat.zero_le _, Nat.zero_le _⟩) (fun I7 H locs hf hw hS => ?_)
    exact ek_vret hx hb hr hlocks hw hS hf dMo_reduce_160
  · have hf := ek_t c4 hf
    exact wMo_reduce_67_lp X hk58 ek_N (I1, x0, i1, i2) hf _ _ _ hw hS (lv_sub hl [0, 1, 2] rfl)
set_option maxHeartbeats 4000000 in
set_option maxRecDepth 100000 in
theorem wMo_reduce_58_lp {l : Launch} {G : ek_G} {kd : Nat → Nat} {p : Program} {e : Env} {s : State} {m : MethodId} {args : Array Value} {below : List Frame} {meth : Method} {c : Code} (X : ek_X p s m meth c args G prog_9_method_12_code 3 "ElasticKernelModel" none) {q : ek_St} (n : Nat) : ∀ q0 : ek_St × Nat × Int32 × Int32, ek_lp (fun (k : (ek_St × Nat × Int32 × Int32) → Option (ek_St)) (q : (ek_St × Nat × Int32 × Int32)) => fMo_reduce_58 kd k q.1 q.2.1 q.2.2.1 q.2.2.2) n q0 = some q → ∀ (H : Heap) (locs : List Loc) (ls : Array Slot), ek_W G kd q0.1 H → va_S (ek_A G kd) s.heap H locs → lv_has ls 3 [(0, ek_r G q0.2.1), (1, .int q0.2.2.1), (2, .int q0.2.2.2)] → W p l e ({ frames := 2, cells := 0, slots := 0, locals := 48 } : Room) s m args below meth c H locs 0 0 (MQ below (ek_Q G kd none q) args s 0 0 (ek_A G kd)) (F0 m 58 ls []) :=
  ek_lp_ind (fun k hk q0 hf => fun H locs ls hw hS hl => wMo_reduce_58 X hk hf hw hS hl) n
set_option maxHeartbeats 4000000 in
set_option maxRecDepth 100000 in
theorem wMo_reduce_44 {l : Launch} {G : ek_G} {kd : Nat → Nat} {p : Program} {e : Env} {s : State} {m : MethodId} {args : Array Value} {below : List Frame} {meth : Method} {c : Code} (X : ek_X p s m meth c args G prog_9_method_12_code 3 "ElasticKernelModel" none) {q : ek_St} {I : ek_St} {x0 : Nat} {i1 : Int32} {i2 : Int32} (hf : fMo_reduce_44 kd I x0 i1 i2 = some q) {H : Heap} {locs : List Loc} {ls : Array Slot} (hw : ek_W G kd I H) (hS : va_S (ek_A G kd) s.heap H locs) (hl : lv_has ls 3 [(0, ek_r G x0), (1, .int i1), (2, .int i2)]) : W p l e ({ frames := 2, cells := 0, slots := 0, locals := 48 } : Room) s m args below meth c H locs 0 0 (MQ below (ek_Q G kd none q) args s 0 0 (ek_A G kd)) (F0 m 44 ls []) := by
  obtain ⟨hx, hb, hml, hown, hts, hr, hlocks, hK⟩ := id X
  have hA : ∀ q, ek_A G kd q → ek_A G kd q := fun _ h => h
  unfold fMo_reduce_44 at hf
  refine ek_aload_n hx hb dMo_reduce_44 rfl (lv_at hl 0 rfl) ?_
  refine lv_bipush (v := (34 : Int32)) hx hb dMo_reduce_45 (by decide) ?_
  refine lv_iload_n hx hb dMo_reduce_47 rfl (lv_at hl 1 rfl) ?_
  obtain ⟨hx2, hf⟩ := ek_ck_s hf
  refine ek_cv hf hS hA (fun I' hq => ek_rV (As := [.int ((34 : Int32)), .int i1]) ⟨hx, hb, hml, hown, hts⟩ hK hw 8 rfl (by decide) (by decide) hx2 (mMo_copy hq) (cwV 2 hts (lw_V q_669 q_671 p_18 q_8 q_672) rfl rfl rfl (by decide +kernel) ⟨Nat.le_of_ble_eq_true rfl, Nat.le_of_ble_eq_true rfl⟩) rfl hl.1 rfl (Nat.le_of_ble_eq_true rfl) dMo_reduce_48 ⟨Nat.zero_le _, Nat.zero_le _⟩) (fun I1 H locs hf hw hS => ?_)
  refine ek_aload_n hx hb dMo_reduce_51 rfl (lv_at hl 0 rfl) ?_
  refine lv_bipush (v := (35 : Int32)) hx hb dMo_reduce_52 (by decide) ?_
  refine lv_iload_n hx hb dMo_reduce_54 rfl (lv_at hl 2 rfl) ?_
  obtain ⟨hx4, hf⟩ := ek_ck_s hf
  refine ek_cv hf hS hA (fun I' hq => ek_rV (As := [.int ((35 : Int32)), .int i2]) ⟨hx, hb, hml, hown, hts⟩ hK hw 8 rfl (by decide) (by decide) hx4 (mMo_copy hq) (cwV 2 hts (lw_V q_669 q_671 p_18 q_8 q_672) rfl rfl rfl (by decide +kernel) ⟨Nat.le_of_ble_eq_true rfl, Nat.le_of_ble_eq_true rfl⟩) rfl hl.1 rfl (Nat.le_of_ble_eq_true rfl) dMo_reduce_55 ⟨Nat.zero_le _, Nat.zero_le _⟩) (fun I3 H locs hf hw hS => ?_)
  exact wMo_reduce_58_lp X ek_N (I3, x0, i1, i2) hf _ _ _ hw hS (lv_sub hl [0, 1, 2] rfl)
set_option maxHeartbeats 4000000 in
set_option maxRecDepth 100000 in
theorem wMo_reduce_15 {l : Launch} {G : ek_G} {kd : Nat → Nat} {p : Program} {e : Env} {s : State} {m : MethodId} {args : Array Value} {below : List Frame} {meth : Method} {c : Code} (X : ek_X p s m meth c args G prog_9_method_12_code 3 "ElasticKernelModel" none) {q : ek_St} {k15 : (ek_St × Nat × Int32 × Int32) → Option (ek_St)} (hk15 : ∀ q0 : ek_St × Nat × Int32 × Int32, k15 q0 = some q → ∀ (H : Heap) (locs : List Loc) (ls : Array Slot), ek_W G kd q0.1 H → va_S (ek_A G kd) s.heap H locs → lv_has ls 3 [(0, ek_r G q0.2.1), (1, .int q0.2.2.1), (2, .int q0.2.2.2)] → W p l e ({ frames := 2, cells := 0, slots := 0, locals := 48 } : Room) s m args below meth c H locs 0 0 (MQ below (ek_Q G kd none q) args s 0 0 (ek_A G kd)) (F0 m 15 ls [])) {I : ek_St} {x0 : Nat} {i1 : Int32} {i2 : Int32} (hf : fMo_reduce_15 kd k15 I x0 i1 i2 = some q) {H : Heap} {locs : List Loc} {ls : Array Slot} (hw : ek_W G kd I H) (hS : va_S (ek_A G kd) s.heap H locs) (hl : lv_has ls 3 [(0, ek_r G x0), (1, .int i1), (2, .int i2)]) : W p l e ({ frames := 2, cells := 0, slots := 0, locals := 48 } : Room) s m args below meth c H locs 0 0 (MQ below (ek_Q G kd none q) args s 0 0 (ek_A G kd)) (F0 m 15 ls []) := by
  obtain ⟨hx, hb, hml, hown, hts, hr, hlocks, hK⟩ := id X
  have hA : ∀ q, ek_A G kd q → ek_A G kd q := fun _ h => h
  unfold fMo_reduce_15 at hf
  refine ek_aload_n hx hb dMo_reduce_15 rfl (lv_at hl 0 rfl) ?_
  refine lv_iload_n hx hb dMo_reduce_16 rfl (lv_at hl 1 rfl) ?_
  obtain ⟨hx2, hf⟩ := ek_ck_s hf
  refine ek_ci hf hS hA (fun I' v hq => ek_rV (As := [.int i1]) ⟨hx, hb, hml, hown, hts⟩ hK hw 8 rfl (by decide) (by decide) hx2 (mMo_isEven hq) (cwV 1 hts (lw_V q_791 q_793 p_42 q_8 q_794) rfl rfl rfl (by decide +kernel) ⟨Nat.le_of_ble_eq_true rfl, Nat.le_of_ble_eq_true rfl⟩) rfl hl.1 rfl (Nat.le_of_ble_eq_true rfl) dMo_reduce_17 ⟨Nat.zero_le _, Nat.zero_le _⟩) (fun I1 ir3 H locs hf hw hS => ?_)
  refine lv_if_eq (tgt := 44) hx hb dMo_reduce_20 (by decide) (fun c4 => ?_) (fun c4 => ?_)
  · have hf := ek_t c4 hf
    exact wMo_reduce_44 X hf hw hS (lv_sub hl [0, 1, 2] rfl)
  · have hf := ek_f c4 hf
    refine ek_aload_n hx hb dMo_reduce_23 rfl (lv_at hl 0 rfl) ?_
    refine lv_iload_n hx hb dMo_reduce_24 rfl (lv_at hl 2 rfl) ?_
    obtain ⟨hx6, hf⟩ := ek_ck_s hf
    refine ek_ci hf hS hA (fun I' v hq => ek_rV (As := [.int i2]) ⟨hx, hb, hml, hown, hts⟩ hK hw 8 rfl (by decide) (by decide) hx6 (mMo_isEven hq) (cwV 1 hts (lw_V q_791 q_793 p_42 q_8 q_794) rfl rfl rfl (by decide +kernel) ⟨Nat.le_of_ble_eq_true rfl, Nat.le_of_ble_eq_true rfl⟩) rfl hl.1 rfl (Nat.le_of_ble_eq_true rfl) dMo_reduce_25 ⟨Nat.zero_le _, Nat.zero_le _⟩) (fun I5 ir7 H locs hf hw hS => ?_)
    refine lv_if_eq (tgt := 44) hx hb dMo_reduce_28 (by decide) (fun c8 => ?_) (fun c8 => ?_)
    · have hf := ek_t c8 hf
      exact wMo_reduce_44 X hf hw hS (lv_sub hl [0, 1, 2] rfl)
    · have hf := ek_f c8 hf
      refine ek_aload_n hx hb dMo_reduce_31 rfl (lv_at hl 0 rfl) ?_
      refine lv_iload_n hx hb dMo_reduce_32 rfl (lv_at hl 1 rfl) ?_
      obtain ⟨hx10, hf⟩ := ek_ck_s hf
      refine ek_cv hf hS hA (fun I' hq => ek_rV (As := [.int i1]) ⟨hx, hb, hml, hown, hts⟩ hK hw 8 rfl (by decide) (by decide) hx10 (mMo_halve hq) (cwV 1 hts (lw_V q_795 q_797 p_43 q_8 q_798) rfl rfl rfl (by decide +kernel) ⟨Nat.le_of_ble_eq_true rfl, Nat.le_of_ble_eq_true rfl⟩) rfl hl.1 rfl (Nat.le_of_ble_eq_true rfl) dMo_reduce_33 ⟨Nat.zero_le _, Nat.zero_le _⟩) (fun I9 H locs hf hw hS => ?_)
      refine ek_aload_n hx hb dMo_reduce_36 rfl (lv_at hl 0 rfl) ?_
      refine lv_iload_n hx hb dMo_reduce_37 rfl (lv_at hl 2 rfl) ?_
      obtain ⟨hx12, hf⟩ := ek_ck_s hf
      refine ek_cv hf hS hA (fun I' hq => ek_rV (As := [.int i2]) ⟨hx, hb, hml, hown, hts⟩ hK hw 8 rfl (by decide) (by decide) hx12 (mMo_halve hq) (cwV 1 hts (lw_V q_795 q_797 p_43 q_8 q_798) rfl rfl rfl (by decide +kernel) ⟨Nat.le_of_ble_eq_true rfl, Nat.le_of_ble_eq_true rfl⟩) rfl hl.1 rfl (Nat.le_of_ble_eq_true rfl) dMo_reduce_38 ⟨Nat.zero_le _, Nat.zero_le _⟩) (fun I11 H locs hf hw hS => ?_)
      refine lv_goto (tgt := 15) hx hb dMo_reduce_41 (by decide) ?_
      exact hk15 (I11, x0, i1, i2) hf _ _ _ hw hS (lv_sub hl [0, 1, 2] rfl)
set_option maxHeartbeats 4000000 in
set_option maxRecDepth 100000 in
theorem wMo_reduce_15_lp {l : Launch} {G : ek_G} {kd : Nat → Nat} {p : Program} {e : Env} {s : State} {m : MethodId} {args : Array Value} {below : List Frame} {meth : Method} {c : Code} (X : ek_X p s m meth c args G prog_9_method_12_code 3 "ElasticKernelModel" none) {q : ek_St} (n : Nat) : ∀ q0 : ek_St × Nat × Int32 × Int32, ek_lp (fun (k : (ek_St × Nat × Int32 × Int32) → Option (ek_St)) (q : (ek_St × Nat × Int32 × Int32)) => fMo_reduce_15 kd k q.1 q.2.1 q.2.2.1 q.2.2.2) n q0 = some q → ∀ (H : Heap) (locs : List Loc) (ls : Array Slot), ek_W G kd q0.1 H → va_S (ek_A G kd) s.heap H locs → lv_has ls 3 [(0, ek_r G q0.2.1), (1, .int q0.2.2.1), (2, .int q0.2.2.2)] → W p l e ({ frames := 2, cells := 0, slots := 0, locals := 48 } : Room) s m args below meth c H locs 0 0 (MQ below (ek_Q G kd none q) args s 0 0 (ek_A G kd)) (F0 m 15 ls []) :=
  ek_lp_ind (fun k hk q0 hf => fun H locs ls hw hS hl => wMo_reduce_15 X hk hf hw hS hl) n
set_option maxHeartbeats 4000000 in
set_option maxRecDepth 100000 in
theorem wMo_reduce_0 {l : Launch} {G : ek_G} {kd : Nat → Nat} {p : Program} {e : Env} {s : State} {m : MethodId} {args : Array Value} {below : List Frame} {meth : Method} {c : Code} (X : ek_X p s m meth c args G prog_9_method_12_code 3 "ElasticKernelModel" none) {q : ek_St} {I : ek_St} {x0 : Nat} {i1 : Int32} {i2 : Int32} (hf : fMo_reduce_0 kd I x0 i1 i2 = some q) {H : Heap} {locs : List Loc} {ls : Array Slot} (hw : ek_W G kd I H) (hS : va_S (ek_A G kd) s.heap H locs) (hl : lv_has ls 3 [(0, ek_r G x0), (1, .int i1), (2, .int i2)]) : W p l e ({ frames := 2, cells := 0, slots := 0, locals := 48 } : Room) s m args below meth c H locs 0 0 (MQ below (ek_Q G kd none q) args s 0 0 (ek_A G kd)) (F0 m 0 ls []) := by
  obtain ⟨hx, hb, hml, hown, hts, hr, hlocks, hK⟩ := id X
  have hA : ∀ q, ek_A G kd q → ek_A G kd q := fun _ h => h
  unfold fMo_reduce_0 at hf
  refine ek_aload_n hx hb dMo_reduce_0 rfl (lv_at hl 0 rfl) ?_
  refine lv_iload_n hx hb dMo_reduce_1 rfl (lv_at hl 1 rfl) ?_
  obtain ⟨hx2, hf⟩ := ek_ck_s hf
  refine ek_ci hf hS hA (fun I' v hq => ek_rV (As := [.int i1]) ⟨hx, hb, hml, hown, hts⟩ hK hw 8 rfl (by decide) (by decide) hx2 (mMo_isZero hq) (cwV 1 hts (lw_V q_787 q_789 p_41 q_8 q_790) rfl rfl rfl (by decide +kernel) ⟨Nat.le_of_ble_eq_true rfl, Nat.le_of_ble_eq_true rfl⟩) rfl hl.1 rfl (Nat.le_of_ble_eq_true rfl) dMo_reduce_2 ⟨Nat.zero_le _, Nat.zero_le _⟩) (fun I1 ir3 H locs hf hw hS => ?_)
  refine lv_if_eq (tgt := 15) hx hb dMo_reduce_5 (by decide) (fun c4 => ?_) (fun c4 => ?_)
  · have hf := ek_t c4 hf
    exact wMo_reduce_15_lp X ek_N (I1, x0, i1, i2) hf _ _ _ hw hS (lv_sub hl [0, 1, 2] rfl)
  · have hf := ek_f c4 hf
    refine ek_aload_n hx hb dMo_reduce_8 rfl (lv_at hl 0 rfl) ?_
    refine lv_iload_n hx hb dMo_reduce_9 rfl (lv_at hl 2 rfl) ?_
    refine lv_lconst (v := (1 : Int64)) hx hb dMo_reduce_10 (by decide) ?_
    obtain ⟨hx6, hf⟩ := ek_ck_s hf
    refine ek_cv hf hS hA (fun I' hq => ek_rV (As := [.int i2, .long ((1 : Int64))]) ⟨hx, hb, hml, hown, hts⟩ hK hw 8 rfl (by decide) (by decide) hx6 (mMo_be hq) (cwV 2 hts (lw_V q_571 q_573 p_15 q_8 q_574) rfl rfl rfl (by decide +kernel) ⟨Nat.le_of_ble_eq_true rfl, Nat.le_of_ble_eq_true rfl⟩) rfl hl.1 rfl (Nat.le_of_ble_eq_true rfl) dMo_reduce_11 ⟨Nat.zero_le _, Nat.zero_le _⟩) (fun I5 H locs hf hw hS => ?_)
    exact ek_vret hx hb hr hlocks hw hS hf dMo_reduce_14
set_option maxHeartbeats 4000000 in
set_option maxRecDepth 100000 in
theorem mMo_reduce {l : Launch} {G : ek_G} {kd : Nat → Nat} {I : ek_St} {x0 : Nat} {i1 : Int32} {i2 : Int32} {q : ek_St} (hf : fMo_reduce kd I x0 i1 i2 = some q) : ek_M l G kd y_Mo_reduce (.code y_Mo_reduce prog_9_method_12_code 3 none :: lw_g) ({ frames := 2, cells := 0, slots := 0, locals := 48 } : Room) [ek_r G x0, .int i1, .int i2] I none q :=
  ek_body [(0, ek_r G x0), (1, .int i1), (2, .int i2)] (by decide) (by simp [lg_sl, ek_r_cat, ek_c_i, ek_c_l]) (by simp [lv_args, ek_r_cat, ek_c_i, ek_c_l]) (fun p e s m below meth c ls X hw hS hl => wMo_reduce_0 X hf hw hS hl)
