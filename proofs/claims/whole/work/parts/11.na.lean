/-! ElasticKernel$Natural.compareProducts(LElasticKernel$Natural;JLElasticKernel$Natural;J)I -/
def fNa_compareProducts_94 (kd : Nat → Nat) (I : ek_St) : Option (ek_St × Int32) :=
  some (I, (1 : Int32))
def fNa_compareProducts_9 (kd : Nat → Nat) (k9 : (ek_St × Nat × Int64 × Nat × Int64 × Int64 × Int64 × Int32) → Option (ek_St × Int32)) (I : ek_St) (x0 : Nat) (j1 : Int64) (x3 : Nat) (j4 : Int64) (j6 : Int64) (j8 : Int64) (i10 : Int32) : Option (ek_St × Int32) :=
  if ((16 : Int32)) ≤ i10 then (if ((0 : Int32)) ≤ (lg_cmp j6 ((0 : Int64))) then (if (lg_cmp j6 ((0 : Int64))) = ((0 : Int32)) then (if (lg_cmp j8 ((0 : Int64))) = ((0 : Int32)) then (some (I, (0 : Int32))) else (fNa_compareProducts_94 kd I)) else (fNa_compareProducts_94 kd I)) else (some (I, (-1 : Int32)))) else (ek_ck (kd x0 = 3) (ek_ck (kd (x0 + 1) = 116) (ek_ck (ek_in i10 16) (ek_ck (kd x3 = 3) (ek_ck (kd (x3 + 1) = 116) (ek_ck (ek_in i10 16) (ek_let ((((Int32.toInt64 (I (x0 + 1) i10.toNatClampNeg)) * j1) - ((Int32.toInt64 (I (x3 + 1) i10.toNatClampNeg)) * j4)) + j6) (fun j11_5 => ek_let (j8 ||| (j11_5 &&& ((16777215 : Int64)))) (fun j8_6 => ek_let (j11_5 >>> (Int32.toInt64 ((24 : Int32)) &&& 63)) (fun j6_7 => ek_let (i10 + (1 : Int32)) (fun i10_8 => k9 (I, x0, j1, x3, j4, j6_7, j8_6, i10_8))))))))))))
def fNa_compareProducts_0 (kd : Nat → Nat) (I : ek_St) (x0 : Nat) (j1 : Int64) (x3 : Nat) (j4 : Int64) : Option (ek_St × Int32) :=
  ek_lp (fun (k : (ek_St × Nat × Int64 × Nat × Int64 × Int64 × Int64 × Int32) → Option (ek_St × Int32)) (q : (ek_St × Nat × Int64 × Nat × Int64 × Int64 × Int64 × Int32)) => fNa_compareProducts_9 kd k q.1 q.2.1 q.2.2.1 q.2.2.2.1 q.2.2.2.2.1 q.2.2.2.2.2.1 q.2.2.2.2.2.2.1 q.2.2.2.2.2.2.2) ek_N (I, x0, j1, x3, j4, (0 : Int64), (0 : Int64), (0 : Int32))
def fNa_compareProducts (kd : Nat → Nat) (I : ek_St) (x0 : Nat) (j1 : Int64) (x3 : Nat) (j4 : Int64) : Option (ek_St × Int32) := fNa_compareProducts_0 kd I x0 j1 x3 j4
theorem dNa_compareProducts_0 : decode prog_4_method_14_code 0 = .ok (.lconst 0, 1) := by decide +kernel
theorem dNa_compareProducts_1 : decode prog_4_method_14_code 1 = .ok (.lstore 6, 2) := by decide +kernel
theorem dNa_compareProducts_3 : decode prog_4_method_14_code 3 = .ok (.lconst 0, 1) := by decide +kernel
theorem dNa_compareProducts_4 : decode prog_4_method_14_code 4 = .ok (.lstore 8, 2) := by decide +kernel
theorem dNa_compareProducts_6 : decode prog_4_method_14_code 6 = .ok (.iconst 0, 1) := by decide +kernel
theorem dNa_compareProducts_7 : decode prog_4_method_14_code 7 = .ok (.istore 10, 2) := by decide +kernel
theorem dNa_compareProducts_9 : decode prog_4_method_14_code 9 = .ok (.iload 10, 2) := by decide +kernel
theorem dNa_compareProducts_11 : decode prog_4_method_14_code 11 = .ok (.bipush 16, 2) := by decide +kernel
theorem dNa_compareProducts_13 : decode prog_4_method_14_code 13 = .ok (.if_icmp .ge 54, 3) := by decide +kernel
theorem dNa_compareProducts_16 : decode prog_4_method_14_code 16 = .ok (.aload_n 0, 1) := by decide +kernel
theorem dNa_compareProducts_17 : decode prog_4_method_14_code 17 = .ok (.getfield 9, 3) := by decide +kernel
theorem dNa_compareProducts_20 : decode prog_4_method_14_code 20 = .ok (.iload 10, 2) := by decide +kernel
theorem dNa_compareProducts_22 : decode prog_4_method_14_code 22 = .ok (.iaload, 1) := by decide +kernel
theorem dNa_compareProducts_23 : decode prog_4_method_14_code 23 = .ok (.i2l, 1) := by decide +kernel
theorem dNa_compareProducts_24 : decode prog_4_method_14_code 24 = .ok (.lload_n 1, 1) := by decide +kernel
theorem dNa_compareProducts_25 : decode prog_4_method_14_code 25 = .ok (.lmul, 1) := by decide +kernel
theorem dNa_compareProducts_26 : decode prog_4_method_14_code 26 = .ok (.aload_n 3, 1) := by decide +kernel
theorem dNa_compareProducts_27 : decode prog_4_method_14_code 27 = .ok (.getfield 9, 3) := by decide +kernel
theorem dNa_compareProducts_30 : decode prog_4_method_14_code 30 = .ok (.iload 10, 2) := by decide +kernel
theorem dNa_compareProducts_32 : decode prog_4_method_14_code 32 = .ok (.iaload, 1) := by decide +kernel
theorem dNa_compareProducts_33 : decode prog_4_method_14_code 33 = .ok (.i2l, 1) := by decide +kernel
theorem dNa_compareProducts_34 : decode prog_4_method_14_code 34 = .ok (.lload 4, 2) := by decide +kernel
theorem dNa_compareProducts_36 : decode prog_4_method_14_code 36 = .ok (.lmul, 1) := by decide +kernel
theorem dNa_compareProducts_37 : decode prog_4_method_14_code 37 = .ok (.lsub, 1) := by decide +kernel
theorem dNa_compareProducts_38 : decode prog_4_method_14_code 38 = .ok (.lload 6, 2) := by decide +kernel
theorem dNa_compareProducts_40 : decode prog_4_method_14_code 40 = .ok (.ladd, 1) := by decide +kernel
theorem dNa_compareProducts_41 : decode prog_4_method_14_code 41 = .ok (.lstore 11, 2) := by decide +kernel
theorem dNa_compareProducts_43 : decode prog_4_method_14_code 43 = .ok (.lload 8, 2) := by decide +kernel
theorem dNa_compareProducts_45 : decode prog_4_method_14_code 45 = .ok (.lload 11, 2) := by decide +kernel
theorem dNa_compareProducts_47 : decode prog_4_method_14_code 47 = .ok (.ldc2_w 37, 3) := by decide +kernel
theorem dNa_compareProducts_50 : decode prog_4_method_14_code 50 = .ok (.land, 1) := by decide +kernel
theorem dNa_compareProducts_51 : decode prog_4_method_14_code 51 = .ok (.lor, 1) := by decide +kernel
theorem dNa_compareProducts_52 : decode prog_4_method_14_code 52 = .ok (.lstore 8, 2) := by decide +kernel
theorem dNa_compareProducts_54 : decode prog_4_method_14_code 54 = .ok (.lload 11, 2) := by decide +kernel
theorem dNa_compareProducts_56 : decode prog_4_method_14_code 56 = .ok (.bipush 24, 2) := by decide +kernel
theorem dNa_compareProducts_58 : decode prog_4_method_14_code 58 = .ok (.lshr, 1) := by decide +kernel
theorem dNa_compareProducts_59 : decode prog_4_method_14_code 59 = .ok (.lstore 6, 2) := by decide +kernel
theorem dNa_compareProducts_61 : decode prog_4_method_14_code 61 = .ok (.iinc 10 1, 3) := by decide +kernel
theorem dNa_compareProducts_64 : decode prog_4_method_14_code 64 = .ok (.goto (-55), 3) := by decide +kernel
theorem dNa_compareProducts_67 : decode prog_4_method_14_code 67 = .ok (.lload 6, 2) := by decide +kernel
theorem dNa_compareProducts_69 : decode prog_4_method_14_code 69 = .ok (.lconst 0, 1) := by decide +kernel
theorem dNa_compareProducts_70 : decode prog_4_method_14_code 70 = .ok (.lcmp, 1) := by decide +kernel
theorem dNa_compareProducts_71 : decode prog_4_method_14_code 71 = .ok (.ifCond .ge 5, 3) := by decide +kernel
theorem dNa_compareProducts_74 : decode prog_4_method_14_code 74 = .ok (.iconst (-1), 1) := by decide +kernel
theorem dNa_compareProducts_75 : decode prog_4_method_14_code 75 = .ok (.ireturn, 1) := by decide +kernel
theorem dNa_compareProducts_76 : decode prog_4_method_14_code 76 = .ok (.lload 6, 2) := by decide +kernel
theorem dNa_compareProducts_78 : decode prog_4_method_14_code 78 = .ok (.lconst 0, 1) := by decide +kernel
theorem dNa_compareProducts_79 : decode prog_4_method_14_code 79 = .ok (.lcmp, 1) := by decide +kernel
theorem dNa_compareProducts_80 : decode prog_4_method_14_code 80 = .ok (.ifCond .ne 14, 3) := by decide +kernel
theorem dNa_compareProducts_83 : decode prog_4_method_14_code 83 = .ok (.lload 8, 2) := by decide +kernel
theorem dNa_compareProducts_85 : decode prog_4_method_14_code 85 = .ok (.lconst 0, 1) := by decide +kernel
theorem dNa_compareProducts_86 : decode prog_4_method_14_code 86 = .ok (.lcmp, 1) := by decide +kernel
theorem dNa_compareProducts_87 : decode prog_4_method_14_code 87 = .ok (.ifCond .ne 7, 3) := by decide +kernel
theorem dNa_compareProducts_90 : decode prog_4_method_14_code 90 = .ok (.iconst 0, 1) := by decide +kernel
theorem dNa_compareProducts_91 : decode prog_4_method_14_code 91 = .ok (.goto 4, 3) := by decide +kernel
theorem dNa_compareProducts_94 : decode prog_4_method_14_code 94 = .ok (.iconst 1, 1) := by decide +kernel
theorem dNa_compareProducts_95 : decode prog_4_method_14_code 95 = .ok (.ireturn, 1) := by decide +kernel
set_option maxHeartbeats 4000000 in
set_option maxRecDepth 100000 in
theorem wNa_compareProducts_94 {l : Launch} {G : ek_G} {kd : Nat → Nat} {p : Program} {e : Env} {s : State} {m : MethodId} {args : Array Value} {below : List Frame} {meth : Method} {c : Code} (X : ek_X p s m meth c args G prog_4_method_14_code 13 "ElasticKernel$Natural" (some .int)) {q : ek_St × Int32} {I : ek_St} (hf : fNa_compareProducts_94 kd I = some q) {H : Heap} {locs : List Loc} {ls : Array Slot} (hw : ek_W G kd I H) (hS : va_S (ek_A G kd) s.heap H locs) (hl : lv_has ls 13 []) : W p l e ({ frames := 0, cells := 0, slots := 0, locals := 0 } : Room) s m args below meth c H locs 0 0 (MQ below (ek_Q G kd (some (.int q.2)) q.1) args s 0 0 (ek_A G kd)) (F0 m 94 ls []) := by
  obtain ⟨hx, hb, hml, hown, hts, hr, hlocks, hK⟩ := id X
  have hA : ∀ q, ek_A G kd q → ek_A G kd q := fun _ h => h
  unfold fNa_compareProducts_94 at hf
  refine lv_iconst (v := (1 : Int32)) hx hb dNa_compareProducts_94 (by decide) ?_
  exact ek_iret hx hb hr hlocks hw hS hf dNa_compareProducts_95
set_option maxHeartbeats 4000000 in
set_option maxRecDepth 100000 in
theorem wNa_compareProducts_9 {l : Launch} {G : ek_G} {kd : Nat → Nat} {p : Program} {e : Env} {s : State} {m : MethodId} {args : Array Value} {below : List Frame} {meth : Method} {c : Code} (X : ek_X p s m meth c args G prog_4_method_14_code 13 "ElasticKernel$Natural" (some .int)) {q : ek_St × Int32} {k9 : (ek_St × Nat × Int64 × Nat × Int64 × Int64 × Int64 × Int32) → Option (ek_St × Int32)} (hk9 : ∀ q0 : ek_St × Nat × Int64 × Nat × Int64 × Int64 × Int64 × Int32, k9 q0 = some q → ∀ (H : Heap) (locs : List Loc) (ls : Array Slot), ek_W G kd q0.1 H → va_S (ek_A G kd) s.heap H locs → lv_has ls 13 [(0, ek_r G q0.2.1), (1, .long q0.2.2.1), (3, ek_r G q0.2.2.2.1), (4, .long q0.2.2.2.2.1), (6, .long q0.2.2.2.2.2.1), (8, .long q0.2.2.2.2.2.2.1), (10, .int q0.2.2.2.2.2.2.2)] → W p l e ({ frames := 0, cells := 0, slots := 0, locals := 0 } : Room) s m args below meth c H locs 0 0 (MQ below (ek_Q G kd (some (.int q.2)) q.1) args s 0 0 (ek_A G kd)) (F0 m 9 ls [])) {I : ek_St} {x0 : Nat} {j1 : Int64} {x3 : Nat} {j4 : Int64} {j6 : Int64} {j8 : Int64} {i10 : Int32} (hf : fNa_compareProducts_9 kd k9 I x0 j1 x3 j4 j6 j8 i10 = some q) {H : Heap} {locs : List Loc} {ls : Array Slot} (hw : ek_W G kd I H) (hS : va_S (ek_A G kd) s.heap H locs) (hl : lv_has ls 13 [(0, ek_r G x0), (1, .long j1), (3, ek_r G x3), (4, .long j4), (6, .long j6), (8, .long j8), (10, .int i10)]) : W p l e ({ frames := 0, cells := 0, slots := 0, locals := 0 } : Room) s m args below meth c H locs 0 0 (MQ below (ek_Q G kd (some (.int q.2)) q.1) args s 0 0 (ek_A G kd)) (F0 m 9 ls []) := by
  obtain ⟨hx, hb, hml, hown, hts, hr, hlocks, hK⟩ := id X
  have hA : ∀ q, ek_A G kd q → ek_A G kd q := fun _ h => h
  unfold fNa_compareProducts_9 at hf
  refine lv_iload hx hb dNa_compareProducts_9 (lv_at hl 6 rfl) ?_
  refine lv_bipush (v := (16 : Int32)) hx hb dNa_compareProducts_11 (by decide) ?_
  refine lv_icmp_ge (tgt := 67) hx hb dNa_compareProducts_13 (by decide) (fun c1 => ?_) (fun c1 => ?_)
  · have hf := ek_t c1 hf
    refine lv_lload hx hb dNa_compareProducts_67 (lv_at hl 4 rfl) ?_
    refine lv_lconst (v := (0 : Int64)) hx hb dNa_compareProducts_69 (by decide) ?_
    refine W.lcmp hx hb dNa_compareProducts_70 ?_
    refine lv_if_ge (tgt := 76) hx hb dNa_compareProducts_71 (by decide) (fun c2 => ?_) (fun c2 => ?_)
    · have hf := ek_t c2 hf
      refine lv_lload hx hb dNa_compareProducts_76 (lv_at hl 4 rfl) ?_
      refine lv_lconst (v := (0 : Int64)) hx hb dNa_compareProducts_78 (by decide) ?_
      refine W.lcmp hx hb dNa_compareProducts_79 ?_
      refine lv_if_ne (tgt := 94) hx hb dNa_compareProducts_80 (by decide) (fun c3 => ?_) (fun c3 => ?_)
      · have hf := ek_f c3 hf
        exact wNa_compareProducts_94 X hf hw hS (lv_sub hl [] rfl)
      · have hf := ek_t c3 hf
        refine lv_lload hx hb dNa_compareProducts_83 (lv_at hl 5 rfl) ?_
        refine lv_lconst (v := (0 : Int64)) hx hb dNa_compareProducts_85 (by decide) ?_
        refine W.lcmp hx hb dNa_compareProducts_86 ?_
        refine lv_if_ne (tgt := 94) hx hb dNa_compareProducts_87 (by decide) (fun c4 => ?_) (fun c4 => ?_)
        · have hf := ek_f c4 hf
          exact wNa_compareProducts_94 X hf hw hS (lv_sub hl [] rfl)
        · have hf := ek_t c4 hf
          refine lv_iconst (v := (0 : Int32)) hx hb dNa_compareProducts_90 (by decide) ?_
          refine lv_goto (tgt := 95) hx hb dNa_compareProducts_91 (by decide) ?_
          exact ek_iret hx hb hr hlocks hw hS hf dNa_compareProducts_95
    · have hf := ek_f c2 hf
      refine lv_iconst (v := (-1 : Int32)) hx hb dNa_compareProducts_74 (by decide) ?_
      exact ek_iret hx hb hr hlocks hw hS hf dNa_compareProducts_75
  · have hf := ek_f c1 hf
    refine ek_aload_n hx hb dNa_compareProducts_16 rfl (lv_at hl 0 rfl) ?_
    refine ek_getr hx hb 3 hts (in_Na) hown hK hw rfl (by decide) (by decide) 0 (by decide) (n := 0) rfl rfl (hts _ q_49) hf dNa_compareProducts_17 (fun hf => ?_)
    refine lv_iload hx hb dNa_compareProducts_20 (lv_at hl 6 rfl) ?_
    refine ek_iald hx hb hK hw 16 rfl hf dNa_compareProducts_22 (fun hf => ?_)
    refine lv_i2l hx hb dNa_compareProducts_23 rfl ?_
    refine lv_lload_n hx hb dNa_compareProducts_24 rfl (lv_at hl 1 rfl) ?_
    refine lv_lmul hx hb dNa_compareProducts_25 ?_
    refine ek_aload_n hx hb dNa_compareProducts_26 rfl (lv_at hl 2 rfl) ?_
    refine ek_getr hx hb 3 hts (in_Na) hown hK hw rfl (by decide) (by decide) 0 (by decide) (n := 0) rfl rfl (hts _ q_49) hf dNa_compareProducts_27 (fun hf => ?_)
    refine lv_iload hx hb dNa_compareProducts_30 (lv_at hl 6 rfl) ?_
    refine ek_iald hx hb hK hw 16 rfl hf dNa_compareProducts_32 (fun hf => ?_)
    refine lv_i2l hx hb dNa_compareProducts_33 rfl ?_
    refine lv_lload hx hb dNa_compareProducts_34 (lv_at hl 3 rfl) ?_
    refine lv_lmul hx hb dNa_compareProducts_36 ?_
    refine lv_lsub hx hb dNa_compareProducts_37 ?_
    refine lv_lload hx hb dNa_compareProducts_38 (lv_at hl 4 rfl) ?_
    refine lv_ladd hx hb dNa_compareProducts_40 ?_
    refine ek_tl hf (fun j11_5 hf => ?_)
    refine ek_lstore (lv' := [(11, .long j11_5), (10, .int i10), (0, ek_r G x0), (1, .long j1), (3, ek_r G x3), (4, .long j4), (6, .long j6), (8, .long j8)]) hx hb dNa_compareProducts_41 hl (by decide) (ek_s2k 6 rfl rfl rfl rfl rfl) (fun ls hl => ?_)
    refine lv_lload hx hb dNa_compareProducts_43 (lv_at hl 7 rfl) ?_
    refine lv_lload hx hb dNa_compareProducts_45 (lv_at hl 0 rfl) ?_
    refine lv_ldc2 hx hb hown (hts _ q_277) dNa_compareProducts_47 ?_
    refine lv_land hx hb dNa_compareProducts_50 ?_
    refine lv_lor hx hb dNa_compareProducts_51 ?_
    refine ek_tl hf (fun j8_6 hf => ?_)
    refine ek_lstore (lv' := [(8, .long j8_6), (11, .long j11_5), (10, .int i10), (0, ek_r G x0), (1, .long j1), (3, ek_r G x3), (4, .long j4), (6, .long j6)]) hx hb dNa_compareProducts_52 hl (by decide) (ek_s2 rfl rfl) (fun ls hl => ?_)
    refine lv_lload hx hb dNa_compareProducts_54 (lv_at hl 1 rfl) ?_
    refine lv_bipush (v := (24 : Int32)) hx hb dNa_compareProducts_56 (by decide) ?_
    refine lv_lshr hx hb dNa_compareProducts_58 rfl ?_
    refine ek_tl hf (fun j6_7 hf => ?_)
    refine ek_lstore (lv' := [(6, .long j6_7), (8, .long j8_6), (11, .long j11_5), (10, .int i10), (0, ek_r G x0), (1, .long j1), (3, ek_r G x3), (4, .long j4)]) hx hb dNa_compareProducts_59 hl (by decide) (ek_s2 rfl rfl) (fun ls hl => ?_)
    refine ek_iinc hx hb 3 (fun i10_8 => [(10, .int i10_8), (6, .long j6_7), (8, .long j8_6), (11, .long j11_5), (0, ek_r G x0), (1, .long j1), (3, ek_r G x3), (4, .long j4)]) dNa_compareProducts_61 hl rfl (v := i10 + (1 : Int32)) rfl hf (by decide) (fun i10_8 => ek_s1 rfl rfl) (fun i10_8 ls hf hl => ?_)
    refine lv_goto (tgt := 9) hx hb dNa_compareProducts_64 (by decide) ?_
    exact hk9 (I, x0, j1, x3, j4, j6_7, j8_6, i10_8) hf _ _ _ hw hS (lv_sub hl [4, 5, 6, 7, 1, 2, 0] rfl)
set_option maxHeartbeats 4000000 in
set_option maxRecDepth 100000 in
theorem wNa_compareProducts_9_lp {l : Launch} {G : ek_G} {kd : Nat → Nat} {p : Program} {e : Env} {s : State} {m : MethodId} {args : Array Value} {below : List Frame} {meth : Method} {c : Code} (X : ek_X p s m meth c args G prog_4_method_14_code 13 "ElasticKernel$Natural" (some .int)) {q : ek_St × Int32} (n : Nat) : ∀ q0 : ek_St × Nat × Int64 × Nat × Int64 × Int64 × Int64 × Int32, ek_lp (fun (k : (ek_St × Nat × Int64 × Nat × Int64 × Int64 × Int64 × Int32) → Option (ek_St × Int32)) (q : (ek_St × Nat × Int64 × Nat × Int64 × Int64 × Int64 × Int32)) => fNa_compareProducts_9 kd k q.1 q.2.1 q.2.2.1 q.2.2.2.1 q.2.2.2.2.1 q.2.2.2.2.2.1 q.2.2.2.2.2.2.1 q.2.2.2.2.2.2.2) n q0 = some q → ∀ (H : Heap) (locs : List Loc) (ls : Array Slot), ek_W G kd q0.1 H → va_S (ek_A G kd) s.heap H locs → lv_has ls 13 [(0, ek_r G q0.2.1), (1, .long q0.2.2.1), (3, ek_r G q0.2.2.2.1), (4, .long q0.2.2.2.2.1), (6, .long q0.2.2.2.2.2.1), (8, .long q0.2.2.2.2.2.2.1), (10, .int q0.2.2.2.2.2.2.2)] → W p l e ({ frames := 0, cells := 0, slots := 0, locals := 0 } : Room) s m args below meth c H locs 0 0 (MQ below (ek_Q G kd (some (.int q.2)) q.1) args s 0 0 (ek_A G kd)) (F0 m 9 ls []) :=
  ek_lp_ind (fun k hk q0 hf => fun H locs ls hw hS hl => wNa_compareProducts_9 X hk hf hw hS hl) n
set_option maxHeartbeats 4000000 in
set_option maxRecDepth 100000 in
theorem wNa_compareProducts_0 {l : Launch} {G : ek_G} {kd : Nat → Nat} {p : Program} {e : Env} {s : State} {m : MethodId} {args : Array Value} {below : List Frame} {meth : Method} {c : Code} (X : ek_X p s m meth c args G prog_4_method_14_code 13 "ElasticKernel$Natural" (some .int)) {q : ek_St × Int32} {I : ek_St} {x0 : Nat} {j1 : Int64} {x3 : Nat} {j4 : Int64} (hf : fNa_compareProducts_0 kd I x0 j1 x3 j4 = some q) {H : Heap} {locs : List Loc} {ls : Array Slot} (hw : ek_W G kd I H) (hS : va_S (ek_A G kd) s.heap H locs) (hl : lv_has ls 13 [(0, ek_r G x0), (1, .long j1), (3, ek_r G x3), (4, .long j4)]) : W p l e ({ frames := 0, cells := 0, slots := 0, locals := 0 } : Room) s m args below meth c H locs 0 0 (MQ below (ek_Q G kd (some (.int q.2)) q.1) args s 0 0 (ek_A G kd)) (F0 m 0 ls []) := by
  obtain ⟨hx, hb, hml, hown, hts, hr, hlocks, hK⟩ := id X
  have hA : ∀ q, ek_A G kd q → ek_A G kd q := fun _ h => h
  unfold fNa_compareProducts_0 at hf
  refine lv_lconst (v := (0 : Int64)) hx hb dNa_compareProducts_0 (by decide) ?_
  refine ek_lstore (lv' := [(6, .long ((0 : Int64))), (0, ek_r G x0), (1, .long j1), (3, ek_r G x3), (4, .long j4)]) hx hb dNa_compareProducts_1 hl (by decide) (ek_s2 rfl rfl) (fun ls hl => ?_)
  refine lv_lconst (v := (0 : Int64)) hx hb dNa_compareProducts_3 (by decide) ?_
  refine ek_lstore (lv' := [(8, .long ((0 : Int64))), (6, .long ((0 : Int64))), (0, ek_r G x0), (1, .long j1), (3, ek_r G x3), (4, .long j4)]) hx hb dNa_compareProducts_4 hl (by decide) (ek_s2 rfl rfl) (fun ls hl => ?_)
  refine lv_iconst (v := (0 : Int32)) hx hb dNa_compareProducts_6 (by decide) ?_
  refine ek_istore (lv' := [(10, .int ((0 : Int32))), (8, .long ((0 : Int64))), (6, .long ((0 : Int64))), (0, ek_r G x0), (1, .long j1), (3, ek_r G x3), (4, .long j4)]) hx hb dNa_compareProducts_7 hl (by decide) (ek_s1 rfl rfl) (fun ls hl => ?_)
  exact wNa_compareProducts_9_lp X ek_N (I, x0, j1, x3, j4, (0 : Int64), (0 : Int64), (0 : Int32)) hf _ _ _ hw hS (lv_sub hl [3, 4, 5, 6, 2, 1, 0] rfl)
set_option maxHeartbeats 4000000 in
set_option maxRecDepth 100000 in
theorem mNa_compareProducts {l : Launch} {G : ek_G} {kd : Nat → Nat} {I : ek_St} {x0 : Nat} {j1 : Int64} {x3 : Nat} {j4 : Int64} {q : ek_St × Int32} (hf : fNa_compareProducts kd I x0 j1 x3 j4 = some q) : ek_M l G kd y_Na_compareProducts (.code y_Na_compareProducts prog_4_method_14_code 13 (some .int) :: lw_g) ({ frames := 0, cells := 0, slots := 0, locals := 0 } : Room) [ek_r G x0, .long j1, ek_r G x3, .long j4] I (some (.int q.2)) q.1 :=
  ek_body [(0, ek_r G x0), (1, .long j1), (3, ek_r G x3), (4, .long j4)] (by decide) (by simp [lg_sl, ek_r_cat, ek_c_i, ek_c_l]) (by simp [lv_args, ek_r_cat, ek_c_i, ek_c_l]) (fun p e s m below meth c ls X hw hS hl => wNa_compareProducts_0 X hf hw hS hl)
/-! ElasticKernel$Natural.divideExactly(I)V -/
def fNa_divideExactly_12 (kd : Nat → Nat) (k12 : (ek_St × Nat × Int32 × Int64 × Int32) → Option (ek_St)) (I : ek_St) (x0 : Nat) (i1 : Int32) (j2 : Int64) (i4 : Int32) : Option (ek_St) :=
  if i4 < ((0 : Int32)) then (some I) else (ek_ck (kd x0 = 3) (ek_ck (kd (x0 + 1) = 116) (ek_ck (ek_in i4 16) (ek_let ((j2 <<< (Int32.toInt64 ((24 : Int32)) &&& 63)) + (Int32.toInt64 (I (x0 + 1) i4.toNatClampNeg))) (fun j2_2 => ek_ck (kd x0 = 3) (ek_ck (¬ (Int32.toInt64 i1) = (0 : Int64)) (ek_ck (kd (x0 + 1) = 116) (ek_ck (ek_in i4 16) (ek_let (ek_up I (x0 + 1) i4.toNatClampNeg (Int64.toInt32 (j2_2 / (Int32.toInt64 i1)))) (fun I3 => ek_ck (¬ (Int32.toInt64 i1) = (0 : Int64)) (ek_let (j2_2 - j2_2 / (Int32.toInt64 i1) * (Int32.toInt64 i1)) (fun j2_4 => ek_let (i4 + (-1 : Int32)) (fun i4_5 => k12 (I3, x0, i1, j2_4, i4_5))))))))))))))
def fNa_divideExactly_0 (kd : Nat → Nat) (I : ek_St) (x0 : Nat) (i1 : Int32) : Option (ek_St) :=
  if ((2 : Int32)) ≤ i1 then (ek_lp (fun (k : (ek_St × Nat × Int32 × Int64 × Int32) → Option (ek_St)) (q : (ek_St × Nat × Int32 × Int64 × Int32)) => fNa_divideExactly_12 kd k q.1 q.2.1 q.2.2.1 q.2.2.2.1 q.2.2.2.2) ek_N (I, x0, i1, (0 : Int64), (15 : Int32))) else (some I)
def fNa_divideExactly (kd : Nat → Nat) (I : ek_St) (x0 : Nat) (i1 : Int32) : Option (ek_St) := fNa_divideExactly_0 kd I x0 i1
theorem dNa_divideExactly_0 : decode prog_4_method_13_code 0 = .ok (.iload_n 1, 1) := by decide +kernel
theorem dNa_divideExactly_1 : decode prog_4_method_13_code 1 = .ok (.iconst 2, 1) := by decide +kernel
theorem dNa_divideExactly_2 : decode prog_4_method_13_code 2 = .ok (.if_icmp .ge 4, 3) := by decide +kernel
theorem dNa_divideExactly_5 : decode prog_4_method_13_code 5 = .ok (.return_, 1) := by decide +kernel
theorem dNa_divideExactly_6 : decode prog_4_method_13_code 6 = .ok (.lconst 0, 1) := by decide +kernel
theorem dNa_divideExactly_7 : decode prog_4_method_13_code 7 = .ok (.lstore_n 2, 1) := by decide +kernel
theorem dNa_divideExactly_8 : decode prog_4_method_13_code 8 = .ok (.bipush 15, 2) := by decide +kernel
theorem dNa_divideExactly_10 : decode prog_4_method_13_code 10 = .ok (.istore 4, 2) := by decide +kernel
theorem dNa_divideExactly_12 : decode prog_4_method_13_code 12 = .ok (.iload 4, 2) := by decide +kernel
theorem dNa_divideExactly_14 : decode prog_4_method_13_code 14 = .ok (.ifCond .lt 40, 3) := by decide +kernel
theorem dNa_divideExactly_17 : decode prog_4_method_13_code 17 = .ok (.lload_n 2, 1) := by decide +kernel
theorem dNa_divideExactly_18 : decode prog_4_method_13_code 18 = .ok (.bipush 24, 2) := by decide +kernel
theorem dNa_divideExactly_20 : decode prog_4_method_13_code 20 = .ok (.lshl, 1) := by decide +kernel
theorem dNa_divideExactly_21 : decode prog_4_method_13_code 21 = .ok (.aload_n 0, 1) := by decide +kernel
theorem dNa_divideExactly_22 : decode prog_4_method_13_code 22 = .ok (.getfield 9, 3) := by decide +kernel
theorem dNa_divideExactly_25 : decode prog_4_method_13_code 25 = .ok (.iload 4, 2) := by decide +kernel
theorem dNa_divideExactly_27 : decode prog_4_method_13_code 27 = .ok (.iaload, 1) := by decide +kernel
theorem dNa_divideExactly_28 : decode prog_4_method_13_code 28 = .ok (.i2l, 1) := by decide +kernel
theorem dNa_divideExactly_29 : decode prog_4_method_13_code 29 = .ok (.ladd, 1) := by decide +kernel
theorem dNa_divideExactly_30 : decode prog_4_method_13_code 30 = .ok (.lstore_n 2, 1) := by decide +kernel
theorem dNa_divideExactly_31 : decode prog_4_method_13_code 31 = .ok (.aload_n 0, 1) := by decide +kernel
theorem dNa_divideExactly_32 : decode prog_4_method_13_code 32 = .ok (.getfield 9, 3) := by decide +kernel
theorem dNa_divideExactly_35 : decode prog_4_method_13_code 35 = .ok (.iload 4, 2) := by decide +kernel
theorem dNa_divideExactly_37 : decode prog_4_method_13_code 37 = .ok (.lload_n 2, 1) := by decide +kernel
theorem dNa_divideExactly_38 : decode prog_4_method_13_code 38 = .ok (.iload_n 1, 1) := by decide +kernel
theorem dNa_divideExactly_39 : decode prog_4_method_13_code 39 = .ok (.i2l, 1) := by decide +kernel
theorem dNa_divideExactly_40 : decode prog_4_method_13_code 40 = .ok (.ldiv, 1) := by decide +kernel
theorem dNa_divideExactly_41 : decode prog_4_method_13_code 41 = .ok (.l2i, 1) := by decide +kernel
theorem dNa_divideExactly_42 : decode prog_4_method_13_code 42 = .ok (.iastore, 1) := by decide +kernel
theorem dNa_divideExactly_43 : decode prog_4_method_13_code 43 = .ok (.lload_n 2, 1) := by decide +kernel
theorem dNa_divideExactly_44 : decode prog_4_method_13_code 44 = .ok (.iload_n 1, 1) := by decide +kernel
theorem dNa_divideExactly_45 : decode prog_4_method_13_code 45 = .ok (.i2l, 1) := by decide +kernel
theorem dNa_divideExactly_46 : decode prog_4_method_13_code 46 = .ok (.lrem, 1) := by decide +kernel
theorem dNa_divideExactly_47 : decode prog_4_method_13_code 47 = .ok (.lstore_n 2, 1) := by decide +kernel
theorem dNa_divideExactly_48 : decode prog_4_method_13_code 48 = .ok (.iinc 4 (-1), 3) := by decide +kernel
theorem dNa_divideExactly_51 : decode prog_4_method_13_code 51 = .ok (.goto (-39), 3) := by decide +kernel
theorem dNa_divideExactly_54 : decode prog_4_method_13_code 54 = .ok (.return_, 1) := by decide +kernel
set_option maxHeartbeats 4000000 in
set_option maxRecDepth 100000 in
theorem wNa_divideExactly_12 {l : Launch} {G : ek_G} {kd : Nat → Nat} {p : Program} {e : Env} {s : State} {m : MethodId} {args : Array Value} {below : List Frame} {meth : Method} {c : Code} (X : ek_X p s m meth c args G prog_4_method_13_code 5 "ElasticKernel$Natural" none) {q : ek_St} {k12 : (ek_St × Nat × Int32 × Int64 × Int32) → Option (ek_St)} (hk12 : ∀ q0 : ek_St × Nat × Int32 × Int64 × Int32, k12 q0 = some q → ∀ (H : Heap) (locs : List Loc) (ls : Array Slot), ek_W G kd q0.1 H → va_S (ek_A G kd) s.heap H locs → lv_has ls 5 [(0, ek_r G q0.2.1), (1, .int q0.2.2.1), (2, .long q0.2.2.2.1), (4, .int q0.2.2.2.2)] → W p l e ({ frames := 0, cells := 0, slots := 0, locals := 0 } : Room) s m args below meth c H locs 0 0 (MQ below (ek_Q G kd none q) args s 0 0 (ek_A G kd)) (F0 m 12 ls [])) {I : ek_St} {x0 : Nat} {i1 : Int32} {j2 : Int64} {i4 : Int32} (hf : fNa_divideExactly_12 kd k12 I x0 i1 j2 i4 = some q) {H : Heap} {locs : List Loc} {ls : Array Slot} (hw : ek_W G kd I H) (hS : va_S (ek_A G kd) s.heap H locs) (hl : lv_has ls 5 [(0, ek_r G x0), (1, .int i1), (2, .long j2), (4, .int i4)]) : W p l e ({ frames := 0, cells := 0, slots := 0, locals := 0 } : Room) s m args below meth c H locs 0 0 (MQ below (ek_Q G kd none q) args s 0 0 (ek_A G kd)) (F0 m 12 ls []) := by
  obtain ⟨hx, hb, hml, hown, hts, hr, hlocks, hK⟩ := id X
  have hA : ∀ q, ek_A G kd q → ek_A G kd q := fun _ h => h
  unfold fNa_divideExactly_12 at hf
  refine lv_iload hx hb dNa_divideExactly_12 (lv_at hl 3 rfl) ?_
  refine lv_if_lt (tgt := 54) hx hb dNa_divideExactly_14 (by decide) (fun c1 => ?_) (fun c1 => ?_)
  · have hf := ek_t c1 hf
    exact ek_vret hx hb hr hlocks hw hS hf dNa_divideExactly_54
  · have hf := ek_f c1 hf
    refine lv_lload_n hx hb dNa_divideExactly_17 rfl (lv_at hl 2 rfl) ?_
    refine lv_bipush (v := (24 : Int32)) hx hb dNa_divideExactly_18 (by decide) ?_
    refine lv_lshl hx hb dNa_divideExactly_20 rfl ?_
    refine ek_aload_n hx hb dNa_divideExactly_21 rfl (lv_at hl 0 rfl) ?_
    refine ek_getr hx hb 3 hts (in_Na) hown hK hw rfl (by decide) (by decide) 0 (by decide) (n := 0) rfl rfl (hts _ q_49) hf dNa_divideExactly_22 (fun hf => ?_)
    refine lv_iload hx hb dNa_divideExactly_25 (lv_at hl 3 rfl) ?_
    refine ek_iald hx hb hK hw 16 rfl hf dNa_divideExactly_27 (fun hf => ?_)
    refine lv_i2l hx hb dNa_divideExactly_28 rfl ?_
    refine lv_ladd hx hb dNa_divideExactly_29 ?_
    refine ek_tl hf (fun j2_2 hf => ?_)
    refine ek_lstore_n (lv' := [(2, .long j2_2), (1, .int i1), (0, ek_r G x0), (4, .int i4)]) hx hb dNa_divideExactly_30 rfl hl (by decide) (ek_s2k 1 rfl rfl rfl rfl rfl) (fun ls hl => ?_)
    refine ek_aload_n hx hb dNa_divideExactly_31 rfl (lv_at hl 2 rfl) ?_
    refine ek_getr hx hb 3 hts (in_Na) hown hK hw rfl (by decide) (by decide) 0 (by decide) (n := 0) rfl rfl (hts _ q_49) hf dNa_divideExactly_32 (fun hf => ?_)
    refine lv_iload hx hb dNa_divideExactly_35 (lv_at hl 3 rfl) ?_
    refine lv_lload_n hx hb dNa_divideExactly_37 rfl (lv_at hl 0 rfl) ?_
    refine lv_iload_n hx hb dNa_divideExactly_38 rfl (lv_at hl 1 rfl) ?_
    refine lv_i2l hx hb dNa_divideExactly_39 rfl ?_
    refine ek_ldiv hx hb hf dNa_divideExactly_40 (fun hf => ?_)
    refine lv_l2i hx hb dNa_divideExactly_41 rfl ?_
    refine ek_iast hx hb hK hw hS hA 16 rfl hf dNa_divideExactly_42 (fun I3 H locs hf hw hS => ?_)
    refine lv_lload_n hx hb dNa_divideExactly_43 rfl (lv_at hl 0 rfl) ?_
    refine lv_iload_n hx hb dNa_divideExactly_44 rfl (lv_at hl 1 rfl) ?_
    refine lv_i2l hx hb dNa_divideExactly_45 rfl ?_
    refine ek_lrem hx hb hf dNa_divideExactly_46 (fun hf => ?_)
    refine ek_tl hf (fun j2_4 hf => ?_)
    refine ek_lstore_n (lv' := [(2, .long j2_4), (1, .int i1), (0, ek_r G x0), (4, .int i4)]) hx hb dNa_divideExactly_47 rfl hl (by decide) (ek_s2k 1 rfl rfl rfl rfl rfl) (fun ls hl => ?_)
    refine ek_iinc hx hb 3 (fun i4_5 => [(4, .int i4_5), (2, .long j2_4), (1, .int i1), (0, ek_r G x0)]) dNa_divideExactly_48 hl rfl (v := i4 + (-1 : Int32)) rfl hf (by decide) (fun i4_5 => ek_s1 rfl rfl) (fun i4_5 ls hf hl => ?_)
    refine lv_goto (tgt := 12) hx hb dNa_divideExactly_51 (by decide) ?_
    exact hk12 (I3, x0, i1, j2_4, i4_5) hf _ _ _ hw hS (lv_sub hl [3, 2, 1, 0] rfl)
set_option maxHeartbeats 4000000 in
set_option maxRecDepth 100000 in
theorem wNa_divideExactly_12_lp {l : Launch} {G : ek_G} {kd : Nat → Nat} {p : Program} {e : Env} {s : State} {m : MethodId} {args : Array Value} {below : List Frame} {meth : Method} {c : Code} (X : ek_X p s m meth c args G prog_4_method_13_code 5 "ElasticKernel$Natural" none) {q : ek_St} (n : Nat) : ∀ q0 : ek_St × Nat × Int32 × Int64 × Int32, ek_lp (fun (k : (ek_St × Nat × Int32 × Int64 × Int32) → Option (ek_St)) (q : (ek_St × Nat × Int32 × Int64 × Int32)) => fNa_divideExactly_12 kd k q.1 q.2.1 q.2.2.1 q.2.2.2.1 q.2.2.2.2) n q0 = some q → ∀ (H : Heap) (locs : List Loc) (ls : Array Slot), ek_W G kd q0.1 H → va_S (ek_A G kd) s.heap H locs → lv_has ls 5 [(0, ek_r G q0.2.1), (1, .int q0.2.2.1), (2, .long q0.2.2.2.1), (4, .int q0.2.2.2.2)] → W p l e ({ frames := 0, cells := 0, slots := 0, locals := 0 } : Room) s m args below meth c H locs 0 0 (MQ below (ek_Q G kd none q) args s 0 0 (ek_A G kd)) (F0 m 12 ls []) :=
  ek_lp_ind (fun k hk q0 hf => fun H locs ls hw hS hl => wNa_divideExactly_12 X hk hf hw hS hl) n
set_option maxHeartbeats 4000000 in
set_option maxRecDepth 100000 in
theorem wNa_divideExactly_0 {l : Launch} {G : ek_G} {kd : Nat → Nat} {p : Program} {e : Env} {s : State} {m : MethodId} {args : Array Value} {below : List Frame} {meth : Method} {c : Code} (X : ek_X p s m meth c args G prog_4_method_13_code 5 "ElasticKernel$Natural" none) {q : ek_St} {I : ek_St} {x0 : Nat} {i1 : Int32} (hf : fNa_divideExactly_0 kd I x0 i1 = some q) {H : Heap} {locs : List Loc} {ls : Array Slot} (hw : ek_W G kd I H) (hS : va_S (ek_A G kd) s.heap H locs) (hl : lv_has ls 5 [(0, ek_r G x0), (1, .int i1)]) : W p l e ({ frames := 0, cells := 0, slots := 0, locals := 0 } : Room) s m args below meth c H locs 0 0 (MQ below (ek_Q G kd none q) args s 0 0 (ek_A G kd)) (F0 m 0 ls []) := by
  obtain ⟨hx, hb, hml, hown, hts, hr, hlocks, hK⟩ := id X
  have hA : ∀ q, ek_A G kd q → ek_A G kd q := fun _ h => h
  unfold fNa_divideExactly_0 at hf
  refine lv_iload_n hx hb dNa_divideExactly_0 rfl (lv_at hl 1 rfl) ?_
  refine lv_iconst (v := (2 : Int32)) hx hb dNa_divideExactly_1 (by decide) ?_
  refine lv_icmp_ge (tgt := 6) hx hb dNa_divideExactly_2 (by decide) (fun c1 => ?_) (fun c1 => ?_)
  · have hf := ek_t c1 hf
    refine lv_lconst (v := (0 : Int64)) hx hb dNa_divideExactly_6 (by decide) ?_
    refine ek_lstore_n (lv' := [(2, .long ((0 : Int64))), (1, .int i1), (0, ek_r G x0)]) hx hb dNa_divideExactly_7 rfl hl (by decide) (ek_s2k 1 rfl rfl rfl rfl rfl) (fun ls hl => ?_)
    refine lv_bipush (v := (15 : Int32)) hx hb dNa_divideExactly_8 (by decide) ?_
    refine ek_istore (lv' := [(4, .int ((15 : Int32))), (2, .long ((0 : Int64))), (1, .int i1), (0, ek_r G x0)]) hx hb dNa_divideExactly_10 hl (by decide) (ek_s1 rfl rfl) (fun ls hl => ?_)
    exact wNa_divideExactly_12_lp X ek_N (I, x0, i1, (0 : Int64), (15 : Int32)) hf _ _ _ hw hS (lv_sub hl [3, 2, 1, 0] rfl)
  · have hf := ek_f c1 hf
    exact ek_vret hx hb hr hlocks hw hS hf dNa_divideExactly_5
set_option maxHeartbeats 4000000 in
set_option maxRecDepth 100000 in
theorem mNa_divideExactly {l : Launch} {G : ek_G} {kd : Nat → Nat} {I : ek_St} {x0 : Nat} {i1 : Int32} {q : ek_St} (hf : fNa_divideExactly kd I x0 i1 = some q) : ek_M l G kd y_Na_divideExactly (.code y_Na_divideExactly prog_4_method_13_code 5 none :: lw_g) ({ frames := 0, cells := 0, slots := 0, locals := 0 } : Room) [ek_r G x0, .int i1] I none q :=
  ek_body [(0, ek_r G x0), (1, .int i1)] (by decide) (by simp [lg_sl, ek_r_cat, ek_c_i, ek_c_l]) (by simp [lv_args, ek_r_cat, ek_c_i, ek_c_l]) (fun p e s m below meth c ls X hw hS hl => wNa_divideExactly_0 X hf hw hS hl)
/-! ElasticKernel$Natural.weigh(JLElasticKernel$Natural;J)V -/
def fNa_weigh_6 (kd : Nat → Nat) (k6 : (ek_St × Nat × Int64 × Nat × Int64 × Int64 × Int32) → Option (ek_St)) (I : ek_St) (x0 : Nat) (j1 : Int64) (x3 : Nat) (j4 : Int64) (j6 : Int64) (i8 : Int32) : Option (ek_St) :=
  if ((16 : Int32)) ≤ i8 then (some I) else (ek_ck (kd x0 = 3) (ek_ck (kd (x0 + 1) = 116) (ek_ck (ek_in i8 16) (ek_ck (kd x3 = 3) (ek_ck (kd (x3 + 1) = 116) (ek_ck (ek_in i8 16) (ek_let ((((Int32.toInt64 (I (x0 + 1) i8.toNatClampNeg)) * j1) + ((Int32.toInt64 (I (x3 + 1) i8.toNatClampNeg)) * j4)) + j6) (fun j9_2 => ek_ck (kd x0 = 3) (ek_ck (kd (x0 + 1) = 116) (ek_ck (ek_in i8 16) (ek_let (ek_up I (x0 + 1) i8.toNatClampNeg (Int64.toInt32 (j9_2 &&& ((16777215 : Int64))))) (fun I3 => ek_let (j9_2 >>> (Int32.toInt64 ((24 : Int32)) &&& 63)) (fun j6_4 => ek_let (i8 + (1 : Int32)) (fun i8_5 => k6 (I3, x0, j1, x3, j4, j6_4, i8_5)))))))))))))))
def fNa_weigh_0 (kd : Nat → Nat) (I : ek_St) (x0 : Nat) (j1 : Int64) (x3 : Nat) (j4 : Int64) : Option (ek_St) :=
  ek_lp (fun (k : (ek_St × Nat × Int64 × Nat × Int64 × Int64 × Int32) → Option (ek_St)) (q : (ek_St × Nat × Int64 × Nat × Int64 × Int64 × Int32)) => fNa_weigh_6 kd k q.1 q.2.1 q.2.2.1 q.2.2.2.1 q.2.2.2.2.1 q.2.2.2.2.2.1 q.2.2.2.2.2.2) ek_N (I, x0, j1, x3, j4, (0 : Int64), (0 : Int32))
def fNa_weigh (kd : Nat → Nat) (I : ek_St) (x0 : Nat) (j1 : Int64) (x3 : Nat) (j4 : Int64) : Option (ek_St) := fNa_weigh_0 kd I x0 j1 x3 j4
theorem dNa_weigh_0 : decode prog_4_method_11_code 0 = .ok (.lconst 0, 1) := by decide +kernel
theorem dNa_weigh_1 : decode prog_4_method_11_code 1 = .ok (.lstore 6, 2) := by decide +kernel
theorem dNa_weigh_3 : decode prog_4_method_11_code 3 = .ok (.iconst 0, 1) := by decide +kernel
theorem dNa_weigh_4 : decode prog_4_method_11_code 4 = .ok (.istore 8, 2) := by decide +kernel
theorem dNa_weigh_6 : decode prog_4_method_11_code 6 = .ok (.iload 8, 2) := by decide +kernel
theorem dNa_weigh_8 : decode prog_4_method_11_code 8 = .ok (.bipush 16, 2) := by decide +kernel
theorem dNa_weigh_10 : decode prog_4_method_11_code 10 = .ok (.if_icmp .ge 57, 3) := by decide +kernel
theorem dNa_weigh_13 : decode prog_4_method_11_code 13 = .ok (.aload_n 0, 1) := by decide +kernel
theorem dNa_weigh_14 : decode prog_4_method_11_code 14 = .ok (.getfield 9, 3) := by decide +kernel
theorem dNa_weigh_17 : decode prog_4_method_11_code 17 = .ok (.iload 8, 2) := by decide +kernel
theorem dNa_weigh_19 : decode prog_4_method_11_code 19 = .ok (.iaload, 1) := by decide +kernel
theorem dNa_weigh_20 : decode prog_4_method_11_code 20 = .ok (.i2l, 1) := by decide +kernel
theorem dNa_weigh_21 : decode prog_4_method_11_code 21 = .ok (.lload_n 1, 1) := by decide +kernel
theorem dNa_weigh_22 : decode prog_4_method_11_code 22 = .ok (.lmul, 1) := by decide +kernel
theorem dNa_weigh_23 : decode prog_4_method_11_code 23 = .ok (.aload_n 3, 1) := by decide +kernel
theorem dNa_weigh_24 : decode prog_4_method_11_code 24 = .ok (.getfield 9, 3) := by decide +kernel
theorem dNa_weigh_27 : decode prog_4_method_11_code 27 = .ok (.iload 8, 2) := by decide +kernel
theorem dNa_weigh_29 : decode prog_4_method_11_code 29 = .ok (.iaload, 1) := by decide +kernel
theorem dNa_weigh_30 : decode prog_4_method_11_code 30 = .ok (.i2l, 1) := by decide +kernel
theorem dNa_weigh_31 : decode prog_4_method_11_code 31 = .ok (.lload 4, 2) := by decide +kernel
theorem dNa_weigh_33 : decode prog_4_method_11_code 33 = .ok (.lmul, 1) := by decide +kernel
theorem dNa_weigh_34 : decode prog_4_method_11_code 34 = .ok (.ladd, 1) := by decide +kernel
theorem dNa_weigh_35 : decode prog_4_method_11_code 35 = .ok (.lload 6, 2) := by decide +kernel
theorem dNa_weigh_37 : decode prog_4_method_11_code 37 = .ok (.ladd, 1) := by decide +kernel
theorem dNa_weigh_38 : decode prog_4_method_11_code 38 = .ok (.lstore 9, 2) := by decide +kernel
theorem dNa_weigh_40 : decode prog_4_method_11_code 40 = .ok (.aload_n 0, 1) := by decide +kernel
theorem dNa_weigh_41 : decode prog_4_method_11_code 41 = .ok (.getfield 9, 3) := by decide +kernel
theorem dNa_weigh_44 : decode prog_4_method_11_code 44 = .ok (.iload 8, 2) := by decide +kernel
theorem dNa_weigh_46 : decode prog_4_method_11_code 46 = .ok (.lload 9, 2) := by decide +kernel
theorem dNa_weigh_48 : decode prog_4_method_11_code 48 = .ok (.ldc2_w 37, 3) := by decide +kernel
theorem dNa_weigh_51 : decode prog_4_method_11_code 51 = .ok (.land, 1) := by decide +kernel
theorem dNa_weigh_52 : decode prog_4_method_11_code 52 = .ok (.l2i, 1) := by decide +kernel
theorem dNa_weigh_53 : decode prog_4_method_11_code 53 = .ok (.iastore, 1) := by decide +kernel
theorem dNa_weigh_54 : decode prog_4_method_11_code 54 = .ok (.lload 9, 2) := by decide +kernel
theorem dNa_weigh_56 : decode prog_4_method_11_code 56 = .ok (.bipush 24, 2) := by decide +kernel
theorem dNa_weigh_58 : decode prog_4_method_11_code 58 = .ok (.lshr, 1) := by decide +kernel
theorem dNa_weigh_59 : decode prog_4_method_11_code 59 = .ok (.lstore 6, 2) := by decide +kernel
theorem dNa_weigh_61 : decode prog_4_method_11_code 61 = .ok (.iinc 8 1, 3) := by decide +kernel
theorem dNa_weigh_64 : decode prog_4_method_11_code 64 = .ok (.goto (-58), 3) := by decide +kernel
theorem dNa_weigh_67 : decode prog_4_method_11_code 67 = .ok (.return_, 1) := by decide +kernel
set_option maxHeartbeats 4000000 in
set_option maxRecDepth 100000 in
theorem wNa_weigh_6 {l : Launch} {G : ek_G} {kd : Nat → Nat} {p : Program} {e : Env} {s : State} {m : MethodId} {args : Array Value} {below : List Frame} {meth : Method} {c : Code} (X : ek_X p s m meth c args G prog_4_method_11_code 11 "ElasticKernel$Natural" none) {q : ek_St} {k6 : (ek_St × Nat × Int64 × Nat × Int64 × Int64 × Int32) → Option (ek_St)} (hk6 : ∀ q0 : ek_St × Nat × Int64 × Nat × Int64 × Int64 × Int32, k6 q0 = some q → ∀ (H : Heap) (locs : List Loc) (ls : Array Slot), ek_W G kd q0.1 H → va_S (ek_A G kd) s.heap H locs → lv_has ls 11 [(0, ek_r G q0.2.1), (1, .long q0.2.2.1), (3, ek_r G q0.2.2.2.1), (4, .long q0.2.2.2.2.1), (6, .long q0.2.2.2.2.2.1), (8, .int q0.2.2.2.2.2.2)] → W p l e ({ frames := 0, cells := 0, slots := 0, locals := 0 } : Room) s m args below meth c H locs 0 0 (MQ below (ek_Q G kd none q) args s 0 0 (ek_A G kd)) (F0 m 6 ls [])) {I : ek_St} {x0 : Nat} {j1 : Int64} {x3 : Nat} {j4 : Int64} {j6 : Int64} {i8 : Int32} (hf : fNa_weigh_6 kd k6 I x0 j1 x3 j4 j6 i8 = some q) {H : Heap} {locs : List Loc} {ls : Array Slot} (hw : ek_W G kd I H) (hS : va_S (ek_A G kd) s.heap H locs) (hl : lv_has ls 11 [(0, ek_r G x0), (1, .long j1), (3, ek_r G x3), (4, .long j4), (6, .long j6), (8, .int i8)]) : W p l e ({ frames := 0, cells := 0, slots := 0, locals := 0 } : Room) s m args below meth c H locs 0 0 (MQ below (ek_Q G kd none q) args s 0 0 (ek_A G kd)) (F0 m 6 ls []) := by
  obtain ⟨hx, hb, hml, hown, hts, hr, hlocks, hK⟩ := id X
  have hA : ∀ q, ek_A G kd q → ek_A G kd q := fun _ h => h
  unfold fNa_weigh_6 at hf
  refine lv_iload hx hb dNa_weigh_6 (lv_at hl 5 rfl) ?_
  refine lv_bipush (v := (16 : Int32)) hx hb dNa_weigh_8 (by decide) ?_
  refine lv_icmp_ge (tgt := 67) hx hb dNa_weigh_10 (by decide) (fun c1 => ?_) (fun c1 => ?_)
  · have hf := ek_t c1 hf
    exact ek_vret hx hb hr hlocks hw hS hf dNa_weigh_67
  · have hf := ek_f c1 hf
    refine ek_aload_n hx hb dNa_weigh_13 rfl (lv_at hl 0 rfl) ?_
    refine ek_getr hx hb 3 hts (in_Na) hown hK hw rfl (by decide) (by decide) 0 (by decide) (n := 0) rfl rfl (hts _ q_49) hf dNa_weigh_14 (fun hf => ?_)
    refine lv_iload hx hb dNa_weigh_17 (lv_at hl 5 rfl) ?_
    refine ek_iald hx hb hK hw 16 rfl hf dNa_weigh_19 (fun hf => ?_)
    refine lv_i2l hx hb dNa_weigh_20 rfl ?_
    refine lv_lload_n hx hb dNa_weigh_21 rfl (lv_at hl 1 rfl) ?_
    refine lv_lmul hx hb dNa_weigh_22 ?_
    refine ek_aload_n hx hb dNa_weigh_23 rfl (lv_at hl 2 rfl) ?_
    refine ek_getr hx hb 3 hts (in_Na) hown hK hw rfl (by decide) (by decide) 0 (by decide) (n := 0) rfl rfl (hts _ q_49) hf dNa_weigh_24 (fun hf => ?_)
    refine lv_iload hx hb dNa_weigh_27 (lv_at hl 5 rfl) ?_
    refine ek_iald hx hb hK hw 16 rfl hf dNa_weigh_29 (fun hf => ?_)
    refine lv_i2l hx hb dNa_weigh_30 rfl ?_
    refine lv_lload hx hb dNa_weigh_31 (lv_at hl 3 rfl) ?_
    refine lv_lmul hx hb dNa_weigh_33 ?_
    refine lv_ladd hx hb dNa_weigh_34 ?_
    refine lv_lload hx hb dNa_weigh_35 (lv_at hl 4 rfl) ?_
    refine lv_ladd hx hb dNa_weigh_37 ?_
    refine ek_tl hf (fun j9_2 hf => ?_)
    refine ek_lstore (lv' := [(9, .long j9_2), (8, .int i8), (0, ek_r G x0), (1, .long j1), (3, ek_r G x3), (4, .long j4), (6, .long j6)]) hx hb dNa_weigh_38 hl (by decide) (ek_s2k 5 rfl rfl rfl rfl rfl) (fun ls hl => ?_)
    refine ek_aload_n hx hb dNa_weigh_40 rfl (lv_at hl 2 rfl) ?_
    refine ek_getr hx hb 3 hts (in_Na) hown hK hw rfl (by decide) (by decide) 0 (by decide) (n := 0) rfl rfl (hts _ q_49) hf dNa_weigh_41 (fun hf => ?_)
    refine lv_iload hx hb dNa_weigh_44 (lv_at hl 1 rfl) ?_
    refine lv_lload hx hb dNa_weigh_46 (lv_at hl 0 rfl) ?_
    refine lv_ldc2 hx hb hown (hts _ q_277) dNa_weigh_48 ?_
    refine lv_land hx hb dNa_weigh_51 ?_
    refine lv_l2i hx hb dNa_weigh_52 rfl ?_
    refine ek_iast hx hb hK hw hS hA 16 rfl hf dNa_weigh_53 (fun I3 H locs hf hw hS => ?_)
    refine lv_lload hx hb dNa_weigh_54 (lv_at hl 0 rfl) ?_
    refine lv_bipush (v := (24 : Int32)) hx hb dNa_weigh_56 (by decide) ?_
    refine lv_lshr hx hb dNa_weigh_58 rfl ?_
    refine ek_tl hf (fun j6_4 hf => ?_)
    refine ek_lstore (lv' := [(6, .long j6_4), (9, .long j9_2), (8, .int i8), (0, ek_r G x0), (1, .long j1), (3, ek_r G x3), (4, .long j4)]) hx hb dNa_weigh_59 hl (by decide) (ek_s2 rfl rfl) (fun ls hl => ?_)
    refine ek_iinc hx hb 2 (fun i8_5 => [(8, .int i8_5), (6, .long j6_4), (9, .long j9_2), (0, ek_r G x0), (1, .long j1), (3, ek_r G x3), (4, .long j4)]) dNa_weigh_61 hl rfl (v := i8 + (1 : Int32)) rfl hf (by decide) (fun i8_5 => ek_s1 rfl rfl) (fun i8_5 ls hf hl => ?_)
    refine lv_goto (tgt := 6) hx hb dNa_weigh_64 (by decide) ?_
    exact hk6 (I3, x0, j1, x3, j4, j6_4, i8_5) hf _ _ _ hw hS (lv_sub hl [3, 4, 5, 6, 1, 0] rfl)
set_option maxHeartbeats 4000000 in
set_option maxRecDepth 100000 in
theorem wNa_weigh_6_lp {l : Launch} {G : ek_G} {kd : Nat → Nat} {p : Program} {e : Env} {s : State} {m : MethodId} {args : Array Value} {below : List Frame} {meth : Method} {c : Code} (X : ek_X p s m meth c args G prog_4_method_11_code 11 "ElasticKernel$Natural" none) {q : ek_St} (n : Nat) : ∀ q0 : ek_St × Nat × Int64 × Nat × Int64 × Int64 × Int32, ek_lp (fun (k : (ek_St × Nat × Int64 × Nat × Int64 × Int64 × Int32) → Option (ek_St)) (q : (ek_St × Nat × Int64 × Nat × Int64 × Int64 × Int32)) => fNa_weigh_6 kd k q.1 q.2.1 q.2.2.1 q.2.2.2.1 q.2.2.2.2.1 q.2.2.2.2.2.1 q.2.2.2.2.2.2) n q0 = some q → ∀ (H : Heap) (locs : List Loc) (ls : Array Slot), ek_W G kd q0.1 H → va_S (ek_A G kd) s.heap H locs → lv_has ls 11 [(0, ek_r G q0.2.1), (1, .long q0.2.2.1), (3, ek_r G q0.2.2.2.1), (4, .long q0.2.2.2.2.1), (6, .long q0.2.2.2.2.2.1), (8, .int q0.2.2.2.2.2.2)] → W p l e ({ frames := 0, cells := 0, slots := 0, locals := 0 } : Room) s m args below meth c H locs 0 0 (MQ below (ek_Q G kd none q) args s 0 0 (ek_A G kd)) (F0 m 6 ls []) :=
  ek_lp_ind (fun k hk q0 hf => fun H locs ls hw hS hl => wNa_weigh_6 X hk hf hw hS hl) n
set_option maxHeartbeats 4000000 in
set_option maxRecDepth 100000 in
theorem wNa_weigh_0 {l : Launch} {G : ek_G} {kd : Nat → Nat} {p : Program} {e : Env} {s : State} {m : MethodId} {args : Array Value} {below : List Frame} {meth : Method} {c : Code} (X : ek_X p s m meth c args G prog_4_method_11_code 11 "ElasticKernel$Natural" none) {q : ek_St} {I : ek_St} {x0 : Nat} {j1 : Int64} {x3 : Nat} {j4 : Int64} (hf : fNa_weigh_0 kd I x0 j1 x3 j4 = some q) {H : Heap} {locs : List Loc} {ls : Array Slot} (hw : ek_W G kd I H) (hS : va_S (ek_A G kd) s.heap H locs) (hl : lv_has ls 11 [(0, ek_r G x0), (1, .long j1), (3, ek_r G x3), (4, .long j4)]) : W p l e ({ frames := 0, cells := 0, slots := 0, locals := 0 } : Room) s m args below meth c H locs 0 0 (MQ below (ek_Q G kd none q) args s 0 0 (ek_A G kd)) (F0 m 0 ls []) := by
  obtain ⟨hx, hb, hml, hown, hts, hr, hlocks, hK⟩ := id X
  have hA : ∀ q, ek_A G kd q → ek_A G kd q := fun _ h => h
  unfold fNa_weigh_0 at hf
  refine lv_lconst (v := (0 : Int64)) hx hb dNa_weigh_0 (by decide) ?_
  refine ek_lstore (lv' := [(6, .long ((0 : Int64))), (0, ek_r G x0), (1, .long j1), (3, ek_r G x3), (4, .long j4)]) hx hb dNa_weigh_1 hl (by decide) (ek_s2 rfl rfl) (fun ls hl => ?_)
  refine lv_iconst (v := (0 : Int32)) hx hb dNa_weigh_3 (by decide) ?_
  refine ek_istore (lv' := [(8, .int ((0 : Int32))), (6, .long ((0 : Int64))), (0, ek_r G x0), (1, .long j1), (3, ek_r G x3), (4, .long j4)]) hx hb dNa_weigh_4 hl (by decide) (ek_s1 rfl rfl) (fun ls hl => ?_)
  exact wNa_weigh_6_lp X ek_N (I, x0, j1, x3, j4, (0 : Int64), (0 : Int32)) hf _ _ _ hw hS (lv_sub hl [2, 3, 4, 5, 1, 0] rfl)
set_option maxHeartbeats 4000000 in
set_option maxRecDepth 100000 in
theorem mNa_weigh {l : Launch} {G : ek_G} {kd : Nat → Nat} {I : ek_St} {x0 : Nat} {j1 : Int64} {x3 : Nat} {j4 : Int64} {q : ek_St} (hf : fNa_weigh kd I x0 j1 x3 j4 = some q) : ek_M l G kd y_Na_weigh (.code y_Na_weigh prog_4_method_11_code 11 none :: lw_g) ({ frames := 0, cells := 0, slots := 0, locals := 0 } : Room) [ek_r G x0, .long j1, ek_r G x3, .long j4] I none q :=
  ek_body [(0, ek_r G x0), (1, .long j1), (3, ek_r G x3), (4, .long j4)] (by decide) (by simp [lg_sl, ek_r_cat, ek_c_i, ek_c_l]) (by simp [lv_args, ek_r_cat, ek_c_i, ek_c_l]) (fun p e s m below meth c ls X hw hS hl => wNa_weigh_0 X hf hw hS hl)
/-! ElasticKernel$Natural.multiply(I)V -/
def fNa_multiply_0 (kd : Nat → Nat) (I : ek_St) (x0 : Nat) (i1 : Int32) : Option (ek_St) :=
  ek_ck (kd x0 = 3) (ek_bv (fNa_weigh kd I x0 (Int32.toInt64 i1) x0 ((0 : Int64))) (fun I1 => some I1))
def fNa_multiply (kd : Nat → Nat) (I : ek_St) (x0 : Nat) (i1 : Int32) : Option (ek_St) := fNa_multiply_0 kd I x0 i1
theorem dNa_multiply_0 : decode prog_4_method_10_code 0 = .ok (.aload_n 0, 1) := by decide +kernel
theorem dNa_multiply_1 : decode prog_4_method_10_code 1 = .ok (.iload_n 1, 1) := by decide +kernel
theorem dNa_multiply_2 : decode prog_4_method_10_code 2 = .ok (.i2l, 1) := by decide +kernel
theorem dNa_multiply_3 : decode prog_4_method_10_code 3 = .ok (.aload_n 0, 1) := by decide +kernel
theorem dNa_multiply_4 : decode prog_4_method_10_code 4 = .ok (.lconst 0, 1) := by decide +kernel
theorem dNa_multiply_5 : decode prog_4_method_10_code 5 = .ok (.invokevirtual 39, 3) := by decide +kernel
theorem dNa_multiply_8 : decode prog_4_method_10_code 8 = .ok (.return_, 1) := by decide +kernel
set_option maxHeartbeats 4000000 in
set_option maxRecDepth 100000 in
theorem wNa_multiply_0 {l : Launch} {G : ek_G} {kd : Nat → Nat} {p : Program} {e : Env} {s : State} {m : MethodId} {args : Array Value} {below : List Frame} {meth : Method} {c : Code} (X : ek_X p s m meth c args G prog_4_method_10_code 2 "ElasticKernel$Natural" none) {q : ek_St} {I : ek_St} {x0 : Nat} {i1 : Int32} (hf : fNa_multiply_0 kd I x0 i1 = some q) {H : Heap} {locs : List Loc} {ls : Array Slot} (hw : ek_W G kd I H) (hS : va_S (ek_A G kd) s.heap H locs) (hl : lv_has ls 2 [(0, ek_r G x0), (1, .int i1)]) : W p l e ({ frames := 1, cells := 0, slots := 0, locals := 30 } : Room) s m args below meth c H locs 0 0 (MQ below (ek_Q G kd none q) args s 0 0 (ek_A G kd)) (F0 m 0 ls []) := by
  obtain ⟨hx, hb, hml, hown, hts, hr, hlocks, hK⟩ := id X
  have hA : ∀ q, ek_A G kd q → ek_A G kd q := fun _ h => h
  unfold fNa_multiply_0 at hf
  refine ek_aload_n hx hb dNa_multiply_0 rfl (lv_at hl 0 rfl) ?_
  refine lv_iload_n hx hb dNa_multiply_1 rfl (lv_at hl 1 rfl) ?_
  refine lv_i2l hx hb dNa_multiply_2 rfl ?_
  refine ek_aload_n hx hb dNa_multiply_3 rfl (lv_at hl 0 rfl) ?_
  refine lv_lconst (v := (0 : Int64)) hx hb dNa_multiply_4 (by decide) ?_
  obtain ⟨hx2, hf⟩ := ek_ck_s hf
  refine ek_cv hf hS hA (fun I' hq => ek_rV (As := [.long (Int32.toInt64 i1), ek_r G x0, .long ((0 : Int64))]) ⟨hx, hb, hml, hown, hts⟩ hK hw 3 rfl (by decide) (by decide) hx2 (mNa_weigh hq) (cwV 3 hts (lw_V q_282 q_274 q_275 q_5 q_276) rfl rfl rfl (by decide +kernel) ⟨Nat.le_of_ble_eq_true rfl, Nat.le_of_ble_eq_true rfl⟩) rfl hl.1 rfl (Nat.le_of_ble_eq_true rfl) dNa_multiply_5 ⟨Nat.zero_le _, Nat.zero_le _⟩) (fun I1 H locs hf hw hS => ?_)
  exact ek_vret hx hb hr hlocks hw hS hf dNa_multiply_8
set_option maxHeartbeats 4000000 in
set_option maxRecDepth 100000 in
theorem mNa_multiply {l : Launch} {G : ek_G} {kd : Nat → Nat} {I : ek_St} {x0 : Nat} {i1 : Int32} {q : ek_St} (hf : fNa_multiply kd I x0 i1 = some q) : ek_M l G kd y_Na_multiply (.code y_Na_multiply prog_4_method_10_code 2 none :: lw_g) ({ frames := 1, cells := 0, slots := 0, locals := 30 } : Room) [ek_r G x0, .int i1] I none q :=
  ek_body [(0, ek_r G x0), (1, .int i1)] (by decide) (by simp [lg_sl, ek_r_cat, ek_c_i, ek_c_l]) (by simp [lv_args, ek_r_cat, ek_c_i, ek_c_l]) (fun p e s m below meth c ls X hw hS hl => wNa_multiply_0 X hf hw hS hl)
/-! ElasticKernel$Natural.remainder(I)I -/
def fNa_remainder_13 (kd : Nat → Nat) (k13 : (ek_St × Nat × Int32 × Int64 × Int32) → Option (ek_St × Int32)) (I : ek_St) (x0 : Nat) (i1 : Int32) (j2 : Int64) (i4 : Int32) : Option (ek_St × Int32) :=
  if i4 < ((0 : Int32)) then (some (I, Int64.toInt32 j2)) else (ek_ck (kd x0 = 3) (ek_ck (kd (x0 + 1) = 116) (ek_ck (ek_in i4 16) (ek_ck (¬ (Int32.toInt64 i1) = (0 : Int64)) (ek_let (((j2 <<< (Int32.toInt64 ((24 : Int32)) &&& 63)) + (Int32.toInt64 (I (x0 + 1) i4.toNatClampNeg))) - ((j2 <<< (Int32.toInt64 ((24 : Int32)) &&& 63)) + (Int32.toInt64 (I (x0 + 1) i4.toNatClampNeg))) / (Int32.toInt64 i1) * (Int32.toInt64 i1)) (fun j2_2 => ek_let (i4 + (-1 : Int32)) (fun i4_3 => k13 (I, x0, i1, j2_2, i4_3))))))))
def fNa_remainder_0 (kd : Nat → Nat) (I : ek_St) (x0 : Nat) (i1 : Int32) : Option (ek_St × Int32) :=
  if ((2 : Int32)) ≤ i1 then (ek_lp (fun (k : (ek_St × Nat × Int32 × Int64 × Int32) → Option (ek_St × Int32)) (q : (ek_St × Nat × Int32 × Int64 × Int32)) => fNa_remainder_13 kd k q.1 q.2.1 q.2.2.1 q.2.2.2.1 q.2.2.2.2) ek_N (I, x0, i1, (0 : Int64), (15 : Int32))) else (some (I, (0 : Int32)))
def fNa_remainder (kd : Nat → Nat) (I : ek_St) (x0 : Nat) (i1 : Int32) : Option (ek_St × Int32) := fNa_remainder_0 kd I x0 i1
theorem dNa_remainder_0 : decode prog_4_method_12_code 0 = .ok (.iload_n 1, 1) := by decide +kernel
theorem dNa_remainder_1 : decode prog_4_method_12_code 1 = .ok (.iconst 2, 1) := by decide +kernel
theorem dNa_remainder_2 : decode prog_4_method_12_code 2 = .ok (.if_icmp .ge 5, 3) := by decide +kernel
theorem dNa_remainder_5 : decode prog_4_method_12_code 5 = .ok (.iconst 0, 1) := by decide +kernel
theorem dNa_remainder_6 : decode prog_4_method_12_code 6 = .ok (.ireturn, 1) := by decide +kernel
theorem dNa_remainder_7 : decode prog_4_method_12_code 7 = .ok (.lconst 0, 1) := by decide +kernel
theorem dNa_remainder_8 : decode prog_4_method_12_code 8 = .ok (.lstore_n 2, 1) := by decide +kernel
theorem dNa_remainder_9 : decode prog_4_method_12_code 9 = .ok (.bipush 15, 2) := by decide +kernel
theorem dNa_remainder_11 : decode prog_4_method_12_code 11 = .ok (.istore 4, 2) := by decide +kernel
theorem dNa_remainder_13 : decode prog_4_method_12_code 13 = .ok (.iload 4, 2) := by decide +kernel
theorem dNa_remainder_15 : decode prog_4_method_12_code 15 = .ok (.ifCond .lt 26, 3) := by decide +kernel
theorem dNa_remainder_18 : decode prog_4_method_12_code 18 = .ok (.lload_n 2, 1) := by decide +kernel
theorem dNa_remainder_19 : decode prog_4_method_12_code 19 = .ok (.bipush 24, 2) := by decide +kernel
theorem dNa_remainder_21 : decode prog_4_method_12_code 21 = .ok (.lshl, 1) := by decide +kernel
theorem dNa_remainder_22 : decode prog_4_method_12_code 22 = .ok (.aload_n 0, 1) := by decide +kernel
theorem dNa_remainder_23 : decode prog_4_method_12_code 23 = .ok (.getfield 9, 3) := by decide +kernel
theorem dNa_remainder_26 : decode prog_4_method_12_code 26 = .ok (.iload 4, 2) := by decide +kernel
theorem dNa_remainder_28 : decode prog_4_method_12_code 28 = .ok (.iaload, 1) := by decide +kernel
theorem dNa_remainder_29 : decode prog_4_method_12_code 29 = .ok (.i2l, 1) := by decide +kernel
theorem dNa_remainder_30 : decode prog_4_method_12_code 30 = .ok (.ladd, 1) := by decide +kernel
theorem dNa_remainder_31 : decode prog_4_method_12_code 31 = .ok (.iload_n 1, 1) := by decide +kernel
theorem dNa_remainder_32 : decode prog_4_method_12_code 32 = .ok (.i2l, 1) := by decide +kernel
theorem dNa_remainder_33 : decode prog_4_method_12_code 33 = .ok (.lrem, 1) := by decide +kernel
theorem dNa_remainder_34 : decode prog_4_method_12_code 34 = .ok (.lstore_n 2, 1) := by decide +kernel
theorem dNa_remainder_35 : decode prog_4_method_12_code 35 = .ok (.iinc 4 (-1), 3) := by decide +kernel
theorem dNa_remainder_38 : decode prog_4_method_12_code 38 = .ok (.goto (-25), 3) := by decide +kernel
theorem dNa_remainder_41 : decode prog_4_method_12_code 41 = .ok (.lload_n 2, 1) := by decide +kernel
theorem dNa_remainder_42 : decode prog_4_method_12_code 42 = .ok (.l2i, 1) := by decide +kernel
theorem dNa_remainder_43 : decode prog_4_method_12_code 43 = .ok (.ireturn, 1) := by decide +kernel
set_option maxHeartbeats 4000000 in
set_option maxRecDepth 100000 in
theorem wNa_remainder_13 {l : Launch} {G : ek_G} {kd : Nat → Nat} {p : Program} {e : Env} {s : State} {m : MethodId} {args : Array Value} {below : List Frame} {meth : Method} {c : Code} (X : ek_X p s m meth c args G prog_4_method_12_code 5 "ElasticKernel$Natural" (some .int)) {q : ek_St × Int32} {k13 : (ek_St × Nat × Int32 × Int64 × Int32) → Option (ek_St × Int32)} (hk13 : ∀ q0 : ek_St × Nat × Int32 × Int64 × Int32, k13 q0 = some q → ∀ (H : Heap) (locs : List Loc) (ls : Array Slot), ek_W G kd q0.1 H → va_S (ek_A G kd) s.heap H locs → lv_has ls 5 [(0, ek_r G q0.2.1), (1, .int q0.2.2.1), (2, .long q0.2.2.2.1), (4, .int q0.2.2.2.2)] → W p l e ({ frames := 0, cells := 0, slots := 0, locals := 0 } : Room) s m args below meth c H locs 0 0 (MQ below (ek_Q G kd (some (.int q.2)) q.1) args s 0 0 (ek_A G kd)) (F0 m 13 ls [])) {I : ek_St} {x0 : Nat} {i1 : Int32} {j2 : Int64} {i4 : Int32} (hf : fNa_remainder_13 kd k13 I x0 i1 j2 i4 = some q) {H : Heap} {locs : List Loc} {ls : Array Slot} (hw : ek_W G kd I H) (hS : va_S (ek_A G kd) s.heap H locs) (hl : lv_has ls 5 [(0, ek_r G x0), (1, .int i1), (2, .long j2), (4, .int i4)]) : W p l e ({ frames := 0, cells := 0, slots := 0, locals := 0 } : Room) s m args below meth c H locs 0 0 (MQ below (ek_Q G kd (some (.int q.2)) q.1) args s 0 0 (ek_A G kd)) (F0 m 13 ls []) := by
  obtain ⟨hx, hb, hml, hown, hts, hr, hlocks, hK⟩ := id X
  have hA : ∀ q, ek_A G kd q → ek_A G kd q := fun _ h => h
  unfold fNa_remainder_13 at hf
  refine lv_iload hx hb dNa_remainder_13 (lv_at hl 3 rfl) ?_
  refine lv_if_lt (tgt := 41) hx hb dNa_remainder_15 (by decide) (fun c1 => ?_) (fun c1 => ?_)
  · have hf := ek_t c1 hf
    refine lv_lload_n hx hb dNa_remainder_41 rfl (lv_at hl 2 rfl) ?_
    refine lv_l2i hx hb dNa_remainder_42 rfl ?_
    exact ek_iret hx hb hr hlocks hw hS hf dNa_remainder_43
  · have hf := ek_f c1 hf
    refine lv_lload_n hx hb dNa_remainder_18 rfl (lv_at hl 2 rfl) ?_
    refine lv_bipush (v := (24 : Int32)) hx hb dNa_remainder_19 (by decide) ?_
    refine lv_lshl hx hb dNa_remainder_21 rfl ?_
    refine ek_aload_n hx hb dNa_remainder_22 rfl (lv_at hl 0 rfl) ?_
    refine ek_getr hx hb 3 hts (in_Na) hown hK hw rfl (by decide) (by decide) 0 (by decide) (n := 0) rfl rfl (hts _ q_49) hf dNa_remainder_23 (fun hf => ?_)
    refine lv_iload hx hb dNa_remainder_26 (lv_at hl 3 rfl) ?_
    refine ek_iald hx hb hK hw 16 rfl hf dNa_remainder_28 (fun hf => ?_)
    refine lv_i2l hx hb dNa_remainder_29 rfl ?_
    refine lv_ladd hx hb dNa_remainder_30 ?_
    refine lv_iload_n hx hb dNa_remainder_31 rfl (lv_at hl 1 rfl) ?_
    refine lv_i2l hx hb dNa_remainder_32 rfl ?_
    refine ek_lrem hx hb hf dNa_remainder_33 (fun hf => ?_)
    refine ek_tl hf (fun j2_2 hf => ?_)
    refine ek_lstore_n (lv' := [(2, .long j2_2), (1, .int i1), (0, ek_r G x0), (4, .int i4)]) hx hb dNa_remainder_34 rfl hl (by decide) (ek_s2k 1 rfl rfl rfl rfl rfl) (fun ls hl => ?_)
    refine ek_iinc hx hb 3 (fun i4_3 => [(4, .int i4_3), (2, .long j2_2), (1, .int i1), (0, ek_r G x0)]) dNa_remainder_35 hl rfl (v := i4 + (-1 : Int32)) rfl hf (by decide) (fun i4_3 => ek_s1 rfl rfl) (fun i4_3 ls hf hl => ?_)
    refine lv_goto (tgt := 13) hx hb dNa_remainder_38 (by decide) ?_
    exact hk13 (I, x0, i1, j2_2, i4_3) hf _ _ _ hw hS (lv_sub hl [3, 2, 1, 0] rfl)
set_option maxHeartbeats 4000000 in
set_option maxRecDepth 100000 in
theorem wNa_remainder_13_lp {l : Launch} {G : ek_G} {kd : Nat → Nat} {p : Program} {e : Env} {s : State} {m : MethodId} {args : Array Value} {below : List Frame} {meth : Method} {c : Code} (X : ek_X p s m meth c args G prog_4_method_12_code 5 "ElasticKernel$Natural" (some .int)) {q : ek_St × Int32} (n : Nat) : ∀ q0 : ek_St × Nat × Int32 × Int64 × Int32, ek_lp (fun (k : (ek_St × Nat × Int32 × Int64 × Int32) → Option (ek_St × Int32)) (q : (ek_St × Nat × Int32 × Int64 × Int32)) => fNa_remainder_13 kd k q.1 q.2.1 q.2.2.1 q.2.2.2.1 q.2.2.2.2) n q0 = some q → ∀ (H : Heap) (locs : List Loc) (ls : Array Slot), ek_W G kd q0.1 H → va_S (ek_A G kd) s.heap H locs → lv_has ls 5 [(0, ek_r G q0.2.1), (1, .int q0.2.2.1), (2, .long q0.2.2.2.1), (4, .int q0.2.2.2.2)] → W p l e ({ frames := 0, cells := 0, slots := 0, locals := 0 } : Room) s m args below meth c H locs 0 0 (MQ below (ek_Q G kd (some (.int q.2)) q.1) args s 0 0 (ek_A G kd)) (F0 m 13 ls []) :=
  ek_lp_ind (fun k hk q0 hf => fun H locs ls hw hS hl => wNa_remainder_13 X hk hf hw hS hl) n
set_option maxHeartbeats 4000000 in
set_option maxRecDepth 100000 in
theorem wNa_remainder_0 {l : Launch} {G : ek_G} {kd : Nat → Nat} {p : Program} {e : Env} {s : State} {m : MethodId} {args : Array Value} {below : List Frame} {meth : Method} {c : Code} (X : ek_X p s m meth c args G prog_4_method_12_code 5 "ElasticKernel$Natural" (some .int)) {q : ek_St × Int32} {I : ek_St} {x0 : Nat} {i1 : Int32} (hf : fNa_remainder_0 kd I x0 i1 = some q) {H : Heap} {locs : List Loc} {ls : Array Slot} (hw : ek_W G kd I H) (hS : va_S (ek_A G kd) s.heap H locs) (hl : lv_has ls 5 [(0, ek_r G x0), (1, .int i1)]) : W p l e ({ frames := 0, cells := 0, slots := 0, locals := 0 } : Room) s m args below meth c H locs 0 0 (MQ below (ek_Q G kd (some (.int q.2)) q.1) args s 0 0 (ek_A G kd)) (F0 m 0 ls []) := by
  obtain ⟨hx, hb, hml, hown, hts, hr, hlocks, hK⟩ := id X
  have hA : ∀ q, ek_A G kd q → ek_A G kd q := fun _ h => h
  unfold fNa_remainder_0 at hf
  refine lv_iload_n hx hb dNa_remainder_0 rfl (lv_at hl 1 rfl) ?_
  refine lv_iconst (v := (2 : Int32)) hx hb dNa_remainder_1 (by decide) ?_
  refine lv_icmp_ge (tgt := 7) hx hb dNa_remainder_2 (by decide) (fun c1 => ?_) (fun c1 => ?_)
  · have hf := ek_t c1 hf
    refine lv_lconst (v := (0 : Int64)) hx hb dNa_remainder_7 (by decide) ?_
    refine ek_lstore_n (lv' := [(2, .long ((0 : Int64))), (1, .int i1), (0, ek_r G x0)]) hx hb dNa_remainder_8 rfl hl (by decide) (ek_s2k 1 rfl rfl rfl rfl rfl) (fun ls hl => ?_)
    refine lv_bipush (v := (15 : Int32)) hx hb dNa_remainder_9 (by decide) ?_
    refine ek_istore (lv' := [(4, .int ((15 : Int32))), (2, .long ((0 : Int64))), (1, .int i1), (0, ek_r G x0)]) hx hb dNa_remainder_11 hl (by decide) (ek_s1 rfl rfl) (fun ls hl => ?_)
    exact wNa_remainder_13_lp X ek_N (I, x0, i1, (0 : Int64), (15 : Int32)) hf _ _ _ hw hS (lv_sub hl [3, 2, 1, 0] rfl)
  · have hf := ek_f c1 hf
    refine lv_iconst (v := (0 : Int32)) hx hb dNa_remainder_5 (by decide) ?_
    exact ek_iret hx hb hr hlocks hw hS hf dNa_remainder_6
set_option maxHeartbeats 4000000 in
set_option maxRecDepth 100000 in
theorem mNa_remainder {l : Launch} {G : ek_G} {kd : Nat → Nat} {I : ek_St} {x0 : Nat} {i1 : Int32} {q : ek_St × Int32} (hf : fNa_remainder kd I x0 i1 = some q) : ek_M l G kd y_Na_remainder (.code y_Na_remainder prog_4_method_12_code 5 (some .int) :: lw_g) ({ frames := 0, cells := 0, slots := 0, locals := 0 } : Room) [ek_r G x0, .int i1] I (some (.int q.2)) q.1 :=
  ek_body [(0, ek_r G x0), (1, .int i1)] (by decide) (by simp [lg_sl, ek_r_cat, ek_c_i, ek_c_l]) (by simp [lv_args, ek_r_cat, ek_c_i, ek_c_l]) (fun p e s m below meth c ls X hw hS hl => wNa_remainder_0 X hf hw hS hl)
/-! ElasticKernel$Natural.set(I)V -/
def fNa_set_2 (kd : Nat → Nat) (k2 : (ek_St × Nat × Int32 × Int32) → Option (ek_St)) (I : ek_St) (x0 : Nat) (i1 : Int32) (i2 : Int32) : Option (ek_St) :=
  if ((16 : Int32)) ≤ i2 then (ek_ck (kd x0 = 3) (ek_ck (kd (x0 + 1) = 116) (ek_ck (ek_in ((0 : Int32)) 16) (ek_let (ek_up I (x0 + 1) ((0 : Int32)).toNatClampNeg (i1 &&& ((16777215 : Int32)))) (fun I2 => some I2))))) else (ek_ck (kd x0 = 3) (ek_ck (kd (x0 + 1) = 116) (ek_ck (ek_in i2 16) (ek_let (ek_up I (x0 + 1) i2.toNatClampNeg ((0 : Int32))) (fun I3 => ek_let (i2 + (1 : Int32)) (fun i2_4 => k2 (I3, x0, i1, i2_4)))))))
def fNa_set_0 (kd : Nat → Nat) (I : ek_St) (x0 : Nat) (i1 : Int32) : Option (ek_St) :=
  ek_lp (fun (k : (ek_St × Nat × Int32 × Int32) → Option (ek_St)) (q : (ek_St × Nat × Int32 × Int32)) => fNa_set_2 kd k q.1 q.2.1 q.2.2.1 q.2.2.2) ek_N (I, x0, i1, (0 : Int32))
def fNa_set (kd : Nat → Nat) (I : ek_St) (x0 : Nat) (i1 : Int32) : Option (ek_St) := fNa_set_0 kd I x0 i1
theorem dNa_set_0 : decode prog_4_method_5_code 0 = .ok (.iconst 0, 1) := by decide +kernel
theorem dNa_set_1 : decode prog_4_method_5_code 1 = .ok (.istore_n 2, 1) := by decide +kernel
theorem dNa_set_2 : decode prog_4_method_5_code 2 = .ok (.iload_n 2, 1) := by decide +kernel
theorem dNa_set_3 : decode prog_4_method_5_code 3 = .ok (.bipush 16, 2) := by decide +kernel
theorem dNa_set_5 : decode prog_4_method_5_code 5 = .ok (.if_icmp .ge 16, 3) := by decide +kernel
theorem dNa_set_8 : decode prog_4_method_5_code 8 = .ok (.aload_n 0, 1) := by decide +kernel
theorem dNa_set_9 : decode prog_4_method_5_code 9 = .ok (.getfield 9, 3) := by decide +kernel
theorem dNa_set_12 : decode prog_4_method_5_code 12 = .ok (.iload_n 2, 1) := by decide +kernel
theorem dNa_set_13 : decode prog_4_method_5_code 13 = .ok (.iconst 0, 1) := by decide +kernel
theorem dNa_set_14 : decode prog_4_method_5_code 14 = .ok (.iastore, 1) := by decide +kernel
theorem dNa_set_15 : decode prog_4_method_5_code 15 = .ok (.iinc 2 1, 3) := by decide +kernel
theorem dNa_set_18 : decode prog_4_method_5_code 18 = .ok (.goto (-16), 3) := by decide +kernel
theorem dNa_set_21 : decode prog_4_method_5_code 21 = .ok (.aload_n 0, 1) := by decide +kernel
theorem dNa_set_22 : decode prog_4_method_5_code 22 = .ok (.getfield 9, 3) := by decide +kernel
theorem dNa_set_25 : decode prog_4_method_5_code 25 = .ok (.iconst 0, 1) := by decide +kernel
theorem dNa_set_26 : decode prog_4_method_5_code 26 = .ok (.iload_n 1, 1) := by decide +kernel
theorem dNa_set_27 : decode prog_4_method_5_code 27 = .ok (.ldc 23, 2) := by decide +kernel
theorem dNa_set_29 : decode prog_4_method_5_code 29 = .ok (.iand, 1) := by decide +kernel
theorem dNa_set_30 : decode prog_4_method_5_code 30 = .ok (.iastore, 1) := by decide +kernel
theorem dNa_set_31 : decode prog_4_method_5_code 31 = .ok (.return_, 1) := by decide +kernel
set_option maxHeartbeats 4000000 in
set_option maxRecDepth 100000 in
theorem wNa_set_2 {l : Launch} {G : ek_G} {kd : Nat → Nat} {p : Program} {e : Env} {s : State} {m : MethodId} {args : Array Value} {below : List Frame} {meth : Method} {c : Code} (X : ek_X p s m meth c args G prog_4_method_5_code 3 "ElasticKernel$Natural" none) {q : ek_St} {k2 : (ek_St × Nat × Int32 × Int32) → Option (ek_St)} (hk2 : ∀ q0 : ek_St × Nat × Int32 × Int32, k2 q0 = some q → ∀ (H : Heap) (locs : List Loc) (ls : Array Slot), ek_W G kd q0.1 H → va_S (ek_A G kd) s.heap H locs → lv_has ls 3 [(0, ek_r G q0.2.1), (1, .int q0.2.2.1), (2, .int q0.2.2.2)] → W p l e ({ frames := 0, cells := 0, slots := 0, locals := 0 } : Room) s m args below meth c H locs 0 0 (MQ below (ek_Q G kd none q) args s 0 0 (ek_A G kd)) (F0 m 2 ls [])) {I : ek_St} {x0 : Nat} {i1 : Int32} {i2 : Int32} (hf : fNa_set_2 kd k2 I x0 i1 i2 = some q) {H : Heap} {locs : List Loc} {ls : Array Slot} (hw : ek_W G kd I H) (hS : va_S (ek_A G kd) s.heap H locs) (hl : lv_has ls 3 [(0, ek_r G x0), (1, .int i1), (2, .int i2)]) : W p l e ({ frames := 0, cells := 0, slots := 0, locals := 0 } : Room) s m args below meth c H locs 0 0 (MQ below (ek_Q G kd none q) args s 0 0 (ek_A G kd)) (F0 m 2 ls []) := by
  obtain ⟨hx, hb, hml, hown, hts, hr, hlocks, hK⟩ := id X
  have hA : ∀ q, ek_A G kd q → ek_A G kd q := fun _ h => h
  unfold fNa_set_2 at hf
  refine lv_iload_n hx hb dNa_set_2 rfl (lv_at hl 2 rfl) ?_
  refine lv_bipush (v := (16 : Int32)) hx hb dNa_set_3 (by decide) ?_
  refine lv_icmp_ge (tgt := 21) hx hb dNa_set_5 (by decide) (fun c1 => ?_) (fun c1 => ?_)
  · have hf := ek_t c1 hf
    refine ek_aload_n hx hb dNa_set_21 rfl (lv_at hl 0 rfl) ?_
    refine ek_getr hx hb 3 hts (in_Na) hown hK hw rfl (by decide) (by decide) 0 (by decide) (n := 0) rfl rfl (hts _ q_49) hf dNa_set_22 (fun hf => ?_)
    refine lv_iconst (v := (0 : Int32)) hx hb dNa_set_25 (by decide) ?_
    refine lv_iload_n hx hb dNa_set_26 rfl (lv_at hl 1 rfl) ?_
    refine lv_ldc hx hb hown (hts _ q_58) dNa_set_27 ?_
    refine lv_iand hx hb dNa_set_29 ?_
    refine ek_iast hx hb hK hw hS hA 16 rfl hf dNa_set_30 (fun I2 H locs hf hw hS => ?_)
    exact ek_vret hx hb hr hlocks hw hS hf dNa_set_31
  · have hf := ek_f c1 hf
    refine ek_aload_n hx hb dNa_set_8 rfl (lv_at hl 0 rfl) ?_
    refine ek_getr hx hb 3 hts (in_Na) hown hK hw rfl (by decide) (by decide) 0 (by decide) (n := 0) rfl rfl (hts _ q_49) hf dNa_set_9 (fun hf => ?_)
    refine lv_iload_n hx hb dNa_set_12 rfl (lv_at hl 2 rfl) ?_
    refine lv_iconst (v := (0 : Int32)) hx hb dNa_set_13 (by decide) ?_
    refine ek_iast hx hb hK hw hS hA 16 rfl hf dNa_set_14 (fun I3 H locs hf hw hS => ?_)
    refine ek_iinc hx hb 2 (fun i2_4 => [(2, .int i2_4), (1, .int i1), (0, ek_r G x0)]) dNa_set_15 hl rfl (v := i2 + (1 : Int32)) rfl hf (by decide) (fun i2_4 => ek_s1k 1 rfl rfl rfl rfl rfl) (fun i2_4 ls hf hl => ?_)
    refine lv_goto (tgt := 2) hx hb dNa_set_18 (by decide) ?_
    exact hk2 (I3, x0, i1, i2_4) hf _ _ _ hw hS (lv_sub hl [2, 1, 0] rfl)
set_option maxHeartbeats 4000000 in
set_option maxRecDepth 100000 in
theorem wNa_set_2_lp {l : Launch} {G : ek_G} {kd : Nat → Nat} {p : Program} {e : Env} {s : State} {m : MethodId} {args : Array Value} {below : List Frame} {meth : Method} {c : Code} (X : ek_X p s m meth c args G prog_4_method_5_code 3 "ElasticKernel$Natural" none) {q : ek_St} (n : Nat) : ∀ q0 : ek_St × Nat × Int32 × Int32, ek_lp (fun (k : (ek_St × Nat × Int32 × Int32) → Option (ek_St)) (q : (ek_St × Nat × Int32 × Int32)) => fNa_set_2 kd k q.1 q.2.1 q.2.2.1 q.2.2.2) n q0 = some q → ∀ (H : Heap) (locs : List Loc) (ls : Array Slot), ek_W G kd q0.1 H → va_S (ek_A G kd) s.heap H locs → lv_has ls 3 [(0, ek_r G q0.2.1), (1, .int q0.2.2.1), (2, .int q0.2.2.2)] → W p l e ({ frames := 0, cells := 0, slots := 0, locals := 0 } : Room) s m args below meth c H locs 0 0 (MQ below (ek_Q G kd none q) args s 0 0 (ek_A G kd)) (F0 m 2 ls []) :=
  ek_lp_ind (fun k hk q0 hf => fun H locs ls hw hS hl => wNa_set_2 X hk hf hw hS hl) n
set_option maxHeartbeats 4000000 in
set_option maxRecDepth 100000 in
theorem wNa_set_0 {l : Launch} {G : ek_G} {kd : Nat → Nat} {p : Program} {e : Env} {s : State} {m : MethodId} {args : Array Value} {below : List Frame} {meth : Method} {c : Code} (X : ek_X p s m meth c args G prog_4_method_5_code 3 "ElasticKernel$Natural" none) {q : ek_St} {I : ek_St} {x0 : Nat} {i1 : Int32} (hf : fNa_set_0 kd I x0 i1 = some q) {H : Heap} {locs : List Loc} {ls : Array Slot} (hw : ek_W G kd I H) (hS : va_S (ek_A G kd) s.heap H locs) (hl : lv_has ls 3 [(0, ek_r G x0), (1, .int i1)]) : W p l e ({ frames := 0, cells := 0, slots := 0, locals := 0 } : Room) s m args below meth c H locs 0 0 (MQ below (ek_Q G kd none q) args s 0 0 (ek_A G kd)) (F0 m 0 ls []) := by
  obtain ⟨hx, hb, hml, hown, hts, hr, hlocks, hK⟩ := id X
  have hA : ∀ q, ek_A G kd q → ek_A G kd q := fun _ h => h
  unfold fNa_set_0 at hf
  refine lv_iconst (v := (0 : Int32)) hx hb dNa_set_0 (by decide) ?_
  refine ek_istore_n (lv' := [(2, .int ((0 : Int32))), (1, .int i1), (0, ek_r G x0)]) hx hb dNa_set_1 rfl hl (by decide) (ek_s1k 1 rfl rfl rfl rfl rfl) (fun ls hl => ?_)
  exact wNa_set_2_lp X ek_N (I, x0, i1, (0 : Int32)) hf _ _ _ hw hS (lv_sub hl [2, 1, 0] rfl)
set_option maxHeartbeats 4000000 in
set_option maxRecDepth 100000 in
theorem mNa_set {l : Launch} {G : ek_G} {kd : Nat → Nat} {I : ek_St} {x0 : Nat} {i1 : Int32} {q : ek_St} (hf : fNa_set kd I x0 i1 = some q) : ek_M l G kd y_Na_set (.code y_Na_set prog_4_method_5_code 3 none :: lw_g) ({ frames := 0, cells := 0, slots := 0, locals := 0 } : Room) [ek_r G x0, .int i1] I none q :=
  ek_body [(0, ek_r G x0), (1, .int i1)] (by decide) (by simp [lg_sl, ek_r_cat, ek_c_i, ek_c_l]) (by simp [lv_args, ek_r_cat, ek_c_i, ek_c_l]) (fun p e s m below meth c ls X hw hS hl => wNa_set_0 X hf hw hS hl)
/-! ElasticKernel$Natural.bitLength()I -/
def fNa_bitLength_3 (kd : Nat → Nat) (k3 : (ek_St × Nat × Int32) → Option (ek_St × Int32)) (I : ek_St) (x0 : Nat) (i1 : Int32) : Option (ek_St × Int32) :=
  if i1 < ((0 : Int32)) then (some (I, (0 : Int32))) else (ek_ck (kd x0 = 3) (ek_ck (kd (x0 + 1) = 116) (ek_ck (ek_in i1 16) (if (I (x0 + 1) i1.toNatClampNeg) = ((0 : Int32)) then (ek_let (i1 + (-1 : Int32)) (fun i1_3 => k3 (I, x0, i1_3))) else (ek_ck (kd x0 = 3) (ek_ck (kd (x0 + 1) = 116) (ek_ck (ek_in i1 16) (ek_bi (fIg_numberOfLeadingZeros kd I (I (x0 + 1) i1.toNatClampNeg)) (fun I4 ir5 => some (I4, ((i1 * ((24 : Int32))) + ((32 : Int32))) - ir5))))))))))
def fNa_bitLength_0 (kd : Nat → Nat) (I : ek_St) (x0 : Nat) : Option (ek_St × Int32) :=
  ek_lp (fun (k : (ek_St × Nat × Int32) → Option (ek_St × Int32)) (q : (ek_St × Nat × Int32)) => fNa_bitLength_3 kd k q.1 q.2.1 q.2.2) ek_N (I, x0, (15 : Int32))
def fNa_bitLength (kd : Nat → Nat) (I : ek_St) (x0 : Nat) : Option (ek_St × Int32) := fNa_bitLength_0 kd I x0
theorem dNa_bitLength_0 : decode prog_4_method_4_code 0 = .ok (.bipush 15, 2) := by decide +kernel
theorem dNa_bitLength_2 : decode prog_4_method_4_code 2 = .ok (.istore_n 1, 1) := by decide +kernel
theorem dNa_bitLength_3 : decode prog_4_method_4_code 3 = .ok (.iload_n 1, 1) := by decide +kernel
theorem dNa_bitLength_4 : decode prog_4_method_4_code 4 = .ok (.ifCond .lt 36, 3) := by decide +kernel
theorem dNa_bitLength_7 : decode prog_4_method_4_code 7 = .ok (.aload_n 0, 1) := by decide +kernel
theorem dNa_bitLength_8 : decode prog_4_method_4_code 8 = .ok (.getfield 9, 3) := by decide +kernel
theorem dNa_bitLength_11 : decode prog_4_method_4_code 11 = .ok (.iload_n 1, 1) := by decide +kernel
theorem dNa_bitLength_12 : decode prog_4_method_4_code 12 = .ok (.iaload, 1) := by decide +kernel
theorem dNa_bitLength_13 : decode prog_4_method_4_code 13 = .ok (.ifCond .eq 21, 3) := by decide +kernel
theorem dNa_bitLength_16 : decode prog_4_method_4_code 16 = .ok (.iload_n 1, 1) := by decide +kernel
theorem dNa_bitLength_17 : decode prog_4_method_4_code 17 = .ok (.bipush 24, 2) := by decide +kernel
theorem dNa_bitLength_19 : decode prog_4_method_4_code 19 = .ok (.imul, 1) := by decide +kernel
theorem dNa_bitLength_20 : decode prog_4_method_4_code 20 = .ok (.bipush 32, 2) := by decide +kernel
theorem dNa_bitLength_22 : decode prog_4_method_4_code 22 = .ok (.iadd, 1) := by decide +kernel
theorem dNa_bitLength_23 : decode prog_4_method_4_code 23 = .ok (.aload_n 0, 1) := by decide +kernel
theorem dNa_bitLength_24 : decode prog_4_method_4_code 24 = .ok (.getfield 9, 3) := by decide +kernel
theorem dNa_bitLength_27 : decode prog_4_method_4_code 27 = .ok (.iload_n 1, 1) := by decide +kernel
theorem dNa_bitLength_28 : decode prog_4_method_4_code 28 = .ok (.iaload, 1) := by decide +kernel
theorem dNa_bitLength_29 : decode prog_4_method_4_code 29 = .ok (.invokestatic 17, 3) := by decide +kernel
theorem dNa_bitLength_32 : decode prog_4_method_4_code 32 = .ok (.isub, 1) := by decide +kernel
theorem dNa_bitLength_33 : decode prog_4_method_4_code 33 = .ok (.ireturn, 1) := by decide +kernel
theorem dNa_bitLength_34 : decode prog_4_method_4_code 34 = .ok (.iinc 1 (-1), 3) := by decide +kernel
theorem dNa_bitLength_37 : decode prog_4_method_4_code 37 = .ok (.goto (-34), 3) := by decide +kernel
theorem dNa_bitLength_40 : decode prog_4_method_4_code 40 = .ok (.iconst 0, 1) := by decide +kernel
theorem dNa_bitLength_41 : decode prog_4_method_4_code 41 = .ok (.ireturn, 1) := by decide +kernel
set_option maxHeartbeats 4000000 in
set_option maxRecDepth 100000 in
theorem wNa_bitLength_3 {l : Launch} {G : ek_G} {kd : Nat → Nat} {p : Program} {e : Env} {s : State} {m : MethodId} {args : Array Value} {below : List Frame} {meth : Method} {c : Code} (X : ek_X p s m meth c args G prog_4_method_4_code 2 "ElasticKernel$Natural" (some .int)) {q : ek_St × Int32} {k3 : (ek_St × Nat × Int32) → Option (ek_St × Int32)} (hk3 : ∀ q0 : ek_St × Nat × Int32, k3 q0 = some q → ∀ (H : Heap) (locs : List Loc) (ls : Array Slot), ek_W G kd q0.1 H → va_S (ek_A G kd) s.heap H locs → lv_has ls 2 [(0, ek_r G q0.2.1), (1, .int q0.2.2)] → W p l e ({ frames := 1, cells := 0, slots := 0, locals := 21 } : Room) s m args below meth c H locs 0 0 (MQ below (ek_Q G kd (some (.int q.2)) q.1) args s 0 0 (ek_A G kd)) (F0 m 3 ls [])) {I : ek_St} {x0 : Nat} {i1 : Int32} (hf : fNa_bitLength_3 kd k3 I x0 i1 = some q) {H : Heap} {locs : List Loc} {ls : Array Slot} (hw : ek_W G kd I H) (hS : va_S (ek_A G kd) s.heap H locs) (hl : lv_has ls 2 [(0, ek_r G x0), (1, .int i1)]) : W p l e ({ frames := 1, cells := 0, slots := 0, locals := 21 } : Room) s m args below meth c H locs 0 0 (MQ below (ek_Q G kd (some (.int q.2)) q.1) args s 0 0 (ek_A G kd)) (F0 m 3 ls []) := by
  obtain ⟨hx, hb, hml, hown, hts, hr, hlocks, hK⟩ := id X
  have hA : ∀ q, ek_A G kd q → ek_A G kd q := fun _ h => h
  unfold fNa_bitLength_3 at hf
  refine lv_iload_n hx hb dNa_bitLength_3 rfl (lv_at hl 1 rfl) ?_
  refine lv_if_lt (tgt := 40) hx hb dNa_bitLength_4 (by decide) (fun c1 => ?_) (fun c1 => ?_)
  · have hf := ek_t c1 hf
    refine lv_iconst (v := (0 : Int32)) hx hb dNa_bitLength_40 (by decide) ?_
    exact ek_iret hx hb hr hlocks hw hS hf dNa_bitLength_41
  · have hf := ek_f c1 hf
    refine ek_aload_n hx hb dNa_bitLength_7 rfl (lv_at hl 0 rfl) ?_
    refine ek_getr hx hb 3 hts (in_Na) hown hK hw rfl (by decide) (by decide) 0 (by decide) (n := 0) rfl rfl (hts _ q_49) hf dNa_bitLength_8 (fun hf => ?_)
    refine lv_iload_n hx hb dNa_bitLength_11 rfl (lv_at hl 1 rfl) ?_
    refine ek_iald hx hb hK hw 16 rfl hf dNa_bitLength_12 (fun hf => ?_)
    refine lv_if_eq (tgt := 34) hx hb dNa_bitLength_13 (by decide) (fun c2 => ?_) (fun c2 => ?_)
    · have hf := ek_t c2 hf
      refine ek_iinc hx hb 1 (fun i1_3 => [(1, .int i1_3), (0, ek_r G x0)]) dNa_bitLength_34 hl rfl (v := i1 + (-1 : Int32)) rfl hf (by decide) (fun i1_3 => ek_s1k 0 rfl rfl ek_r_cat rfl rfl) (fun i1_3 ls hf hl => ?_)
      refine lv_goto (tgt := 3) hx hb dNa_bitLength_37 (by decide) ?_
      exact hk3 (I, x0, i1_3) hf _ _ _ hw hS (lv_sub hl [1, 0] rfl)
    · have hf := ek_f c2 hf
      refine lv_iload_n hx hb dNa_bitLength_16 rfl (lv_at hl 1 rfl) ?_
      refine lv_bipush (v := (24 : Int32)) hx hb dNa_bitLength_17 (by decide) ?_
      refine lv_imul hx hb dNa_bitLength_19 ?_
      refine lv_bipush (v := (32 : Int32)) hx hb dNa_bitLength_20 (by decide) ?_
      refine lv_iadd hx hb dNa_bitLength_22 ?_
      refine ek_aload_n hx hb dNa_bitLength_23 rfl (lv_at hl 0 rfl) ?_
      refine ek_getr hx hb 3 hts (in_Na) hown hK hw rfl (by decide) (by decide) 0 (by decide) (n := 0) rfl rfl (hts _ q_49) hf dNa_bitLength_24 (fun hf => ?_)
      refine lv_iload_n hx hb dNa_bitLength_27 rfl (lv_at hl 1 rfl) ?_
      refine ek_iald hx hb hK hw 16 rfl hf dNa_bitLength_28 (fun hf => ?_)
      refine ek_ci hf hS hA (fun I' v hq => ek_rS (As := [.int (I (x0 + 1) i1.toNatClampNeg)]) ⟨hx, hb, hml, hown, hts⟩ hK hw (mIg_numberOfLeadingZeros hq) (ek_cwS 1 hts q_368 q_369 q_11 q_370 (by decide +kernel) ⟨Nat.le_of_ble_eq_true rfl, Nat.le_of_ble_eq_true rfl⟩) rfl hl.1 rfl (Nat.le_of_ble_eq_true rfl) dNa_bitLength_29 ⟨Nat.zero_le _, Nat.zero_le _⟩) (fun I4 ir5 H locs hf hw hS => ?_)
      refine lv_isub hx hb dNa_bitLength_32 ?_
      exact ek_iret hx hb hr hlocks hw hS hf dNa_bitLength_33
set_option maxHeartbeats 4000000 in
set_option maxRecDepth 100000 in
theorem wNa_bitLength_3_lp {l : Launch} {G : ek_G} {kd : Nat → Nat} {p : Program} {e : Env} {s : State} {m : MethodId} {args : Array Value} {below : List Frame} {meth : Method} {c : Code} (X : ek_X p s m meth c args G prog_4_method_4_code 2 "ElasticKernel$Natural" (some .int)) {q : ek_St × Int32} (n : Nat) : ∀ q0 : ek_St × Nat × Int32, ek_lp (fun (k : (ek_St × Nat × Int32) → Option (ek_St × Int32)) (q : (ek_St × Nat × Int32)) => fNa_bitLength_3 kd k q.1 q.2.1 q.2.2) n q0 = some q → ∀ (H : Heap) (locs : List Loc) (ls : Array Slot), ek_W G kd q0.1 H → va_S (ek_A G kd) s.heap H locs → lv_has ls 2 [(0, ek_r G q0.2.1), (1, .int q0.2.2)] → W p l e ({ frames := 1, cells := 0, slots := 0, locals := 21 } : Room) s m args below meth c H locs 0 0 (MQ below (ek_Q G kd (some (.int q.2)) q.1) args s 0 0 (ek_A G kd)) (F0 m 3 ls []) :=
  ek_lp_ind (fun k hk q0 hf => fun H locs ls hw hS hl => wNa_bitLength_3 X hk hf hw hS hl) n
set_option maxHeartbeats 4000000 in
set_option maxRecDepth 100000 in
theorem wNa_bitLength_0 {l : Launch} {G : ek_G} {kd : Nat → Nat} {p : Program} {e : Env} {s : State} {m : MethodId} {args : Array Value} {below : List Frame} {meth : Method} {c : Code} (X : ek_X p s m meth c args G prog_4_method_4_code 2 "ElasticKernel$Natural" (some .int)) {q : ek_St × Int32} {I : ek_St} {x0 : Nat} (hf : fNa_bitLength_0 kd I x0 = some q) {H : Heap} {locs : List Loc} {ls : Array Slot} (hw : ek_W G kd I H) (hS : va_S (ek_A G kd) s.heap H locs) (hl : lv_has ls 2 [(0, ek_r G x0)]) : W p l e ({ frames := 1, cells := 0, slots := 0, locals := 21 } : Room) s m args below meth c H locs 0 0 (MQ below (ek_Q G kd (some (.int q.2)) q.1) args s 0 0 (ek_A G kd)) (F0 m 0 ls []) := by
  obtain ⟨hx, hb, hml, hown, hts, hr, hlocks, hK⟩ := id X
  have hA : ∀ q, ek_A G kd q → ek_A G kd q := fun _ h => h
  unfold fNa_bitLength_0 at hf
  refine lv_bipush (v := (15 : Int32)) hx hb dNa_bitLength_0 (by decide) ?_
  refine ek_istore_n (lv' := [(1, .int ((15 : Int32))), (0, ek_r G x0)]) hx hb dNa_bitLength_2 rfl hl (by decide) (ek_s1k 0 rfl rfl ek_r_cat rfl rfl) (fun ls hl => ?_)
  exact wNa_bitLength_3_lp X ek_N (I, x0, (15 : Int32)) hf _ _ _ hw hS (lv_sub hl [1, 0] rfl)
set_option maxHeartbeats 4000000 in
set_option maxRecDepth 100000 in
theorem mNa_bitLength {l : Launch} {G : ek_G} {kd : Nat → Nat} {I : ek_St} {x0 : Nat} {q : ek_St × Int32} (hf : fNa_bitLength kd I x0 = some q) : ek_M l G kd y_Na_bitLength (.code y_Na_bitLength prog_4_method_4_code 2 (some .int) :: lw_g) ({ frames := 1, cells := 0, slots := 0, locals := 21 } : Room) [ek_r G x0] I (some (.int q.2)) q.1 :=
  ek_body [(0, ek_r G x0)] (by decide) (by simp [lg_sl, ek_r_cat, ek_c_i, ek_c_l]) (by simp [lv_args, ek_r_cat, ek_c_i, ek_c_l]) (fun p e s m below meth c ls X hw hS hl => wNa_bitLength_0 X hf hw hS hl)
/-! ElasticKernel$Natural.setBit(I)V -/
def fNa_setBit_0 (kd : Nat → Nat) (I : ek_St) (x0 : Nat) (i1 : Int32) : Option (ek_St) :=
  if i1 < ((0 : Int32)) then (some I) else (if ((384 : Int32)) ≤ i1 then (some I) else (ek_ck (kd x0 = 3) (ek_ck (¬ ((24 : Int32)) = (0 : Int32)) (ek_ck (kd (x0 + 1) = 116) (ek_ck (ek_in (i1 / ((24 : Int32))) 16) (ek_ck (¬ ((24 : Int32)) = (0 : Int32)) (ek_ck (kd (x0 + 1) = 116) (ek_ck (ek_in (i1 / ((24 : Int32))) 16) (ek_let (ek_up I (x0 + 1) (i1 / ((24 : Int32))).toNatClampNeg ((I (x0 + 1) (i1 / ((24 : Int32))).toNatClampNeg) ||| (((1 : Int32)) <<< ((i1 - i1 / ((24 : Int32)) * ((24 : Int32))) &&& 31)))) (fun I3 => some I3))))))))))
def fNa_setBit (kd : Nat → Nat) (I : ek_St) (x0 : Nat) (i1 : Int32) : Option (ek_St) := fNa_setBit_0 kd I x0 i1
theorem dNa_setBit_0 : decode prog_4_method_7_code 0 = .ok (.iload_n 1, 1) := by decide +kernel
theorem dNa_setBit_1 : decode prog_4_method_7_code 1 = .ok (.ifCond .lt 28, 3) := by decide +kernel
theorem dNa_setBit_4 : decode prog_4_method_7_code 4 = .ok (.iload_n 1, 1) := by decide +kernel
theorem dNa_setBit_5 : decode prog_4_method_7_code 5 = .ok (.sipush 384, 3) := by decide +kernel
theorem dNa_setBit_8 : decode prog_4_method_7_code 8 = .ok (.if_icmp .ge 21, 3) := by decide +kernel
theorem dNa_setBit_11 : decode prog_4_method_7_code 11 = .ok (.aload_n 0, 1) := by decide +kernel
theorem dNa_setBit_12 : decode prog_4_method_7_code 12 = .ok (.getfield 9, 3) := by decide +kernel
theorem dNa_setBit_15 : decode prog_4_method_7_code 15 = .ok (.iload_n 1, 1) := by decide +kernel
theorem dNa_setBit_16 : decode prog_4_method_7_code 16 = .ok (.bipush 24, 2) := by decide +kernel
theorem dNa_setBit_18 : decode prog_4_method_7_code 18 = .ok (.idiv, 1) := by decide +kernel
theorem dNa_setBit_19 : decode prog_4_method_7_code 19 = .ok (.dup2, 1) := by decide +kernel
theorem dNa_setBit_20 : decode prog_4_method_7_code 20 = .ok (.iaload, 1) := by decide +kernel
theorem dNa_setBit_21 : decode prog_4_method_7_code 21 = .ok (.iconst 1, 1) := by decide +kernel
theorem dNa_setBit_22 : decode prog_4_method_7_code 22 = .ok (.iload_n 1, 1) := by decide +kernel
theorem dNa_setBit_23 : decode prog_4_method_7_code 23 = .ok (.bipush 24, 2) := by decide +kernel
theorem dNa_setBit_25 : decode prog_4_method_7_code 25 = .ok (.irem, 1) := by decide +kernel
theorem dNa_setBit_26 : decode prog_4_method_7_code 26 = .ok (.ishl, 1) := by decide +kernel
theorem dNa_setBit_27 : decode prog_4_method_7_code 27 = .ok (.ior, 1) := by decide +kernel
theorem dNa_setBit_28 : decode prog_4_method_7_code 28 = .ok (.iastore, 1) := by decide +kernel
theorem dNa_setBit_29 : decode prog_4_method_7_code 29 = .ok (.return_, 1) := by decide +kernel
set_option maxHeartbeats 4000000 in
set_option maxRecDepth 100000 in
theorem wNa_setBit_0 {l : Launch} {G : ek_G} {kd : Nat → Nat} {p : Program} {e : Env} {s : State} {m : MethodId} {args : Array Value} {below : List Frame} {meth : Method} {c : Code} (X : ek_X p s m meth c args G prog_4_method_7_code 2 "ElasticKernel$Natural" none) {q : ek_St} {I : ek_St} {x0 : Nat} {i1 : Int32} (hf : fNa_setBit_0 kd I x0 i1 = some q) {H : Heap} {locs : List Loc} {ls : Array Slot} (hw : ek_W G kd I H) (hS : va_S (ek_A G kd) s.heap H locs) (hl : lv_has ls 2 [(0, ek_r G x0), (1, .int i1)]) : W p l e ({ frames := 0, cells := 0, slots := 0, locals := 0 } : Room) s m args below meth c H locs 0 0 (MQ below (ek_Q G kd none q) args s 0 0 (ek_A G kd)) (F0 m 0 ls []) := by
  obtain ⟨hx, hb, hml, hown, hts, hr, hlocks, hK⟩ := id X
  have hA : ∀ q, ek_A G kd q → ek_A G kd q := fun _ h => h
  unfold fNa_setBit_0 at hf
  refine lv_iload_n hx hb dNa_setBit_0 rfl (lv_at hl 1 rfl) ?_
  refine lv_if_lt (tgt := 29) hx hb dNa_setBit_1 (by decide) (fun c1 => ?_) (fun c1 => ?_)
  · have hf := ek_t c1 hf
    exact ek_vret hx hb hr hlocks hw hS hf dNa_setBit_29
  · have hf := ek_f c1 hf
    refine lv_iload_n hx hb dNa_setBit_4 rfl (lv_at hl 1 rfl) ?_
    refine lv_sipush (v := (384 : Int32)) hx hb dNa_setBit_5 (by decide) ?_
    refine lv_icmp_ge (tgt := 29) hx hb dNa_setBit_8 (by decide) (fun c2 => ?_) (fun c2 => ?_)
    · have hf := ek_t c2 hf
      exact ek_vret hx hb hr hlocks hw hS hf dNa_setBit_29
    · have hf := ek_f c2 hf
      refine ek_aload_n hx hb dNa_setBit_11 rfl (lv_at hl 0 rfl) ?_
      refine ek_getr hx hb 3 hts (in_Na) hown hK hw rfl (by decide) (by decide) 0 (by decide) (n := 0) rfl rfl (hts _ q_49) hf dNa_setBit_12 (fun hf => ?_)
      refine lv_iload_n hx hb dNa_setBit_15 rfl (lv_at hl 1 rfl) ?_
      refine lv_bipush (v := (24 : Int32)) hx hb dNa_setBit_16 (by decide) ?_
      refine ek_idiv hx hb hf dNa_setBit_18 (fun hf => ?_)
      refine lv_dup2_11 hx hb dNa_setBit_19 rfl ek_r_cat ?_
      refine ek_iald hx hb hK hw 16 rfl hf dNa_setBit_20 (fun hf => ?_)
      refine lv_iconst (v := (1 : Int32)) hx hb dNa_setBit_21 (by decide) ?_
      refine lv_iload_n hx hb dNa_setBit_22 rfl (lv_at hl 1 rfl) ?_
      refine lv_bipush (v := (24 : Int32)) hx hb dNa_setBit_23 (by decide) ?_
      refine ek_irem hx hb hf dNa_setBit_25 (fun hf => ?_)
      refine lv_ishl hx hb dNa_setBit_26 ?_
      refine lv_ior hx hb dNa_setBit_27 ?_
      refine ek_iast hx hb hK hw hS hA 16 rfl hf dNa_setBit_28 (fun I3 H locs hf hw hS => ?_)
      exact ek_vret hx hb hr hlocks hw hS hf dNa_setBit_29
set_option maxHeartbeats 4000000 in
set_option maxRecDepth 100000 in
theorem mNa_setBit {l : Launch} {G : ek_G} {kd : Nat → Nat} {I : ek_St} {x0 : Nat} {i1 : Int32} {q : ek_St} (hf : fNa_setBit kd I x0 i1 = some q) : ek_M l G kd y_Na_setBit (.code y_Na_setBit prog_4_method_7_code 2 none :: lw_g) ({ frames := 0, cells := 0, slots := 0, locals := 0 } : Room) [ek_r G x0, .int i1] I none q :=
  ek_body [(0, ek_r G x0), (1, .int i1)] (by decide) (by simp [lg_sl, ek_r_cat, ek_c_i, ek_c_l]) (by simp [lv_args, ek_r_cat, ek_c_i, ek_c_l]) (fun p e s m below meth c ls X hw hS hl => wNa_setBit_0 X hf hw hS hl)
/-! ElasticKernel$Natural.word(I)I -/
def fNa_word_19 (kd : Nat → Nat) (I : ek_St) : Option (ek_St × Int32) :=
  some (I, (0 : Int32))
def fNa_word_0 (kd : Nat → Nat) (I : ek_St) (x0 : Nat) (i1 : Int32) : Option (ek_St × Int32) :=
  if i1 < ((0 : Int32)) then (fNa_word_19 kd I) else (if ((16 : Int32)) ≤ i1 then (fNa_word_19 kd I) else (ek_ck (kd x0 = 3) (ek_ck (kd (x0 + 1) = 116) (ek_ck (ek_in i1 16) (some (I, I (x0 + 1) i1.toNatClampNeg))))))
def fNa_word (kd : Nat → Nat) (I : ek_St) (x0 : Nat) (i1 : Int32) : Option (ek_St × Int32) := fNa_word_0 kd I x0 i1
theorem dNa_word_0 : decode prog_4_method_2_code 0 = .ok (.iload_n 1, 1) := by decide +kernel
theorem dNa_word_1 : decode prog_4_method_2_code 1 = .ok (.ifCond .lt 18, 3) := by decide +kernel
theorem dNa_word_4 : decode prog_4_method_2_code 4 = .ok (.iload_n 1, 1) := by decide +kernel
theorem dNa_word_5 : decode prog_4_method_2_code 5 = .ok (.bipush 16, 2) := by decide +kernel
theorem dNa_word_7 : decode prog_4_method_2_code 7 = .ok (.if_icmp .ge 12, 3) := by decide +kernel
theorem dNa_word_10 : decode prog_4_method_2_code 10 = .ok (.aload_n 0, 1) := by decide +kernel
theorem dNa_word_11 : decode prog_4_method_2_code 11 = .ok (.getfield 9, 3) := by decide +kernel
theorem dNa_word_14 : decode prog_4_method_2_code 14 = .ok (.iload_n 1, 1) := by decide +kernel
theorem dNa_word_15 : decode prog_4_method_2_code 15 = .ok (.iaload, 1) := by decide +kernel
theorem dNa_word_16 : decode prog_4_method_2_code 16 = .ok (.goto 4, 3) := by decide +kernel
theorem dNa_word_19 : decode prog_4_method_2_code 19 = .ok (.iconst 0, 1) := by decide +kernel
theorem dNa_word_20 : decode prog_4_method_2_code 20 = .ok (.ireturn, 1) := by decide +kernel
set_option maxHeartbeats 4000000 in
set_option maxRecDepth 100000 in
theorem wNa_word_19 {l : Launch} {G : ek_G} {kd : Nat → Nat} {p : Program} {e : Env} {s : State} {m : MethodId} {args : Array Value} {below : List Frame} {meth : Method} {c : Code} (X : ek_X p s m meth c args G prog_4_method_2_code 2 "ElasticKernel$Natural" (some .int)) {q : ek_St × Int32} {I : ek_St} (hf : fNa_word_19 kd I = some q) {H : Heap} {locs : List Loc} {ls : Array Slot} (hw : ek_W G kd I H) (hS : va_S (ek_A G kd) s.heap H locs) (hl : lv_has ls 2 []) : W p l e ({ frames := 0, cells := 0, slots := 0, locals := 0 } : Room) s m args below meth c H locs 0 0 (MQ below (ek_Q G kd (some (.int q.2)) q.1) args s 0 0 (ek_A G kd)) (F0 m 19 ls []) := by
  obtain ⟨hx, hb, hml, hown, hts, hr, hlocks, hK⟩ := id X
  have hA : ∀ q, ek_A G kd q → ek_A G kd q := fun _ h => h
  unfold fNa_word_19 at hf
  refine lv_iconst (v := (0 : Int32)) hx hb dNa_word_19 (by decide) ?_
  exact ek_iret hx hb hr hlocks hw hS hf dNa_word_20
set_option maxHeartbeats 4000000 in
set_option maxRecDepth 100000 in
theorem wNa_word_0 {l : Launch} {G : ek_G} {kd : Nat → Nat} {p : Program} {e : Env} {s : State} {m : MethodId} {args : Array Value} {below : List Frame} {meth : Method} {c : Code} (X : ek_X p s m meth c args G prog_4_method_2_code 2 "ElasticKernel$Natural" (some .int)) {q : ek_St × Int32} {I : ek_St} {x0 : Nat} {i1 : Int32} (hf : fNa_word_0 kd I x0 i1 = some q) {H : Heap} {locs : List Loc} {ls : Array Slot} (hw : ek_W G kd I H) (hS : va_S (ek_A G kd) s.heap H locs) (hl : lv_has ls 2 [(0, ek_r G x0), (1, .int i1)]) : W p l e ({ frames := 0, cells := 0, slots := 0, locals := 0 } : Room) s m args below meth c H locs 0 0 (MQ below (ek_Q G kd (some (.int q.2)) q.1) args s 0 0 (ek_A G kd)) (F0 m 0 ls []) := by
  obtain ⟨hx, hb, hml, hown, hts, hr, hlocks, hK⟩ := id X
  have hA : ∀ q, ek_A G kd q → ek_A G kd q := fun _ h => h
  unfold fNa_word_0 at hf
  refine lv_iload_n hx hb dNa_word_0 rfl (lv_at hl 1 rfl) ?_
  refine lv_if_lt (tgt := 19) hx hb dNa_word_1 (by decide) (fun c1 => ?_) (fun c1 => ?_)
  · have hf := ek_t c1 hf
    exact wNa_word_19 X hf hw hS (lv_sub hl [] rfl)
  · have hf := ek_f c1 hf
    refine lv_iload_n hx hb dNa_word_4 rfl (lv_at hl 1 rfl) ?_
    refine lv_bipush (v := (16 : Int32)) hx hb dNa_word_5 (by decide) ?_
    refine lv_icmp_ge (tgt := 19) hx hb dNa_word_7 (by decide) (fun c2 => ?_) (fun c2 => ?_)
    · have hf := ek_t c2 hf
      exact wNa_word_19 X hf hw hS (lv_sub hl [] rfl)
    · have hf := ek_f c2 hf
      refine ek_aload_n hx hb dNa_word_10 rfl (lv_at hl 0 rfl) ?_
      refine ek_getr hx hb 3 hts (in_Na) hown hK hw rfl (by decide) (by decide) 0 (by decide) (n := 0) rfl rfl (hts _ q_49) hf dNa_word_11 (fun hf => ?_)
      refine lv_iload_n hx hb dNa_word_14 rfl (lv_at hl 1 rfl) ?_
      refine ek_iald hx hb hK hw 16 rfl hf dNa_word_15 (fun hf => ?_)
      refine lv_goto (tgt := 20) hx hb dNa_word_16 (by decide) ?_
      exact ek_iret hx hb hr hlocks hw hS hf dNa_word_20
set_option maxHeartbeats 4000000 in
set_option maxRecDepth 100000 in
theorem mNa_word {l : Launch} {G : ek_G} {kd : Nat → Nat} {I : ek_St} {x0 : Nat} {i1 : Int32} {q : ek_St × Int32} (hf : fNa_word kd I x0 i1 = some q) : ek_M l G kd y_Na_word (.code y_Na_word prog_4_method_2_code 2 (some .int) :: lw_g) ({ frames := 0, cells := 0, slots := 0, locals := 0 } : Room) [ek_r G x0, .int i1] I (some (.int q.2)) q.1 :=
  ek_body [(0, ek_r G x0), (1, .int i1)] (by decide) (by simp [lg_sl, ek_r_cat, ek_c_i, ek_c_l]) (by simp [lv_args, ek_r_cat, ek_c_i, ek_c_l]) (fun p e s m below meth c ls X hw hS hl => wNa_word_0 X hf hw hS hl)
/-! ElasticKernel$Natural.setShifted(LElasticKernel$Natural;I)V -/
def fNa_setShifted_14 (kd : Nat → Nat) (k14 : (ek_St × Nat × Nat × Int32 × Int32 × Int32) → Option (ek_St)) (I : ek_St) (x0 : Nat) (x1 : Nat) (i3 : Int32) (i4 : Int32) (i5 : Int32) : Option (ek_St) :=
  if ((16 : Int32)) ≤ i5 then (some I) else (ek_ck (kd x1 = 3) (ek_bi (fNa_word kd I x1 (i5 - i3)) (fun I2 ir4 => ek_let (ir4 <<< (i4 &&& 31)) (fun i6_5 => ek_ck (kd x1 = 3) (ek_bi (fNa_word kd I2 x1 ((i5 - i3) - ((1 : Int32)))) (fun I6 ir8 => ek_let ((Int32.toUInt32 ir8 >>> (Int32.toUInt32 (((24 : Int32)) - i4) &&& Int32.toUInt32 31)).toInt32) (fun i7_9 => ek_ck (kd x0 = 3) (ek_ck (kd (x0 + 1) = 116) (ek_ck (ek_in i5 16) (ek_let (ek_up I6 (x0 + 1) i5.toNatClampNeg ((i6_5 ||| i7_9) &&& ((16777215 : Int32)))) (fun I10 => ek_let (i5 + (1 : Int32)) (fun i5_11 => k14 (I10, x0, x1, i3, i4, i5_11)))))))))))))
def fNa_setShifted_0 (kd : Nat → Nat) (I : ek_St) (x0 : Nat) (x1 : Nat) (i2 : Int32) : Option (ek_St) :=
  ek_ck (¬ ((24 : Int32)) = (0 : Int32)) (ek_let (i2 / ((24 : Int32))) (fun i3_1 => ek_ck (¬ ((24 : Int32)) = (0 : Int32)) (ek_let (i2 - i2 / ((24 : Int32)) * ((24 : Int32))) (fun i4_2 => ek_lp (fun (k : (ek_St × Nat × Nat × Int32 × Int32 × Int32) → Option (ek_St)) (q : (ek_St × Nat × Nat × Int32 × Int32 × Int32)) => fNa_setShifted_14 kd k q.1 q.2.1 q.2.2.1 q.2.2.2.1 q.2.2.2.2.1 q.2.2.2.2.2) ek_N (I, x0, x1, i3_1, i4_2, (0 : Int32))))))
def fNa_setShifted (kd : Nat → Nat) (I : ek_St) (x0 : Nat) (x1 : Nat) (i2 : Int32) : Option (ek_St) := fNa_setShifted_0 kd I x0 x1 i2
theorem dNa_setShifted_0 : decode prog_4_method_8_code 0 = .ok (.iload_n 2, 1) := by decide +kernel
theorem dNa_setShifted_1 : decode prog_4_method_8_code 1 = .ok (.bipush 24, 2) := by decide +kernel
theorem dNa_setShifted_3 : decode prog_4_method_8_code 3 = .ok (.idiv, 1) := by decide +kernel
theorem dNa_setShifted_4 : decode prog_4_method_8_code 4 = .ok (.istore_n 3, 1) := by decide +kernel
theorem dNa_setShifted_5 : decode prog_4_method_8_code 5 = .ok (.iload_n 2, 1) := by decide +kernel
theorem dNa_setShifted_6 : decode prog_4_method_8_code 6 = .ok (.bipush 24, 2) := by decide +kernel
theorem dNa_setShifted_8 : decode prog_4_method_8_code 8 = .ok (.irem, 1) := by decide +kernel
theorem dNa_setShifted_9 : decode prog_4_method_8_code 9 = .ok (.istore 4, 2) := by decide +kernel
theorem dNa_setShifted_11 : decode prog_4_method_8_code 11 = .ok (.iconst 0, 1) := by decide +kernel
theorem dNa_setShifted_12 : decode prog_4_method_8_code 12 = .ok (.istore 5, 2) := by decide +kernel
theorem dNa_setShifted_14 : decode prog_4_method_8_code 14 = .ok (.iload 5, 2) := by decide +kernel
theorem dNa_setShifted_16 : decode prog_4_method_8_code 16 = .ok (.bipush 16, 2) := by decide +kernel
theorem dNa_setShifted_18 : decode prog_4_method_8_code 18 = .ok (.if_icmp .ge 55, 3) := by decide +kernel
theorem dNa_setShifted_21 : decode prog_4_method_8_code 21 = .ok (.aload_n 1, 1) := by decide +kernel
theorem dNa_setShifted_22 : decode prog_4_method_8_code 22 = .ok (.iload 5, 2) := by decide +kernel
theorem dNa_setShifted_24 : decode prog_4_method_8_code 24 = .ok (.iload_n 3, 1) := by decide +kernel
theorem dNa_setShifted_25 : decode prog_4_method_8_code 25 = .ok (.isub, 1) := by decide +kernel
theorem dNa_setShifted_26 : decode prog_4_method_8_code 26 = .ok (.invokevirtual 30, 3) := by decide +kernel
theorem dNa_setShifted_29 : decode prog_4_method_8_code 29 = .ok (.iload 4, 2) := by decide +kernel
theorem dNa_setShifted_31 : decode prog_4_method_8_code 31 = .ok (.ishl, 1) := by decide +kernel
theorem dNa_setShifted_32 : decode prog_4_method_8_code 32 = .ok (.istore 6, 2) := by decide +kernel
theorem dNa_setShifted_34 : decode prog_4_method_8_code 34 = .ok (.aload_n 1, 1) := by decide +kernel
theorem dNa_setShifted_35 : decode prog_4_method_8_code 35 = .ok (.iload 5, 2) := by decide +kernel
theorem dNa_setShifted_37 : decode prog_4_method_8_code 37 = .ok (.iload_n 3, 1) := by decide +kernel
theorem dNa_setShifted_38 : decode prog_4_method_8_code 38 = .ok (.isub, 1) := by decide +kernel
theorem dNa_setShifted_39 : decode prog_4_method_8_code 39 = .ok (.iconst 1, 1) := by decide +kernel
theorem dNa_setShifted_40 : decode prog_4_method_8_code 40 = .ok (.isub, 1) := by decide +kernel
theorem dNa_setShifted_41 : decode prog_4_method_8_code 41 = .ok (.invokevirtual 30, 3) := by decide +kernel
theorem dNa_setShifted_44 : decode prog_4_method_8_code 44 = .ok (.bipush 24, 2) := by decide +kernel
theorem dNa_setShifted_46 : decode prog_4_method_8_code 46 = .ok (.iload 4, 2) := by decide +kernel
theorem dNa_setShifted_48 : decode prog_4_method_8_code 48 = .ok (.isub, 1) := by decide +kernel
theorem dNa_setShifted_49 : decode prog_4_method_8_code 49 = .ok (.iushr, 1) := by decide +kernel
theorem dNa_setShifted_50 : decode prog_4_method_8_code 50 = .ok (.istore 7, 2) := by decide +kernel
theorem dNa_setShifted_52 : decode prog_4_method_8_code 52 = .ok (.aload_n 0, 1) := by decide +kernel
theorem dNa_setShifted_53 : decode prog_4_method_8_code 53 = .ok (.getfield 9, 3) := by decide +kernel
theorem dNa_setShifted_56 : decode prog_4_method_8_code 56 = .ok (.iload 5, 2) := by decide +kernel
theorem dNa_setShifted_58 : decode prog_4_method_8_code 58 = .ok (.iload 6, 2) := by decide +kernel
theorem dNa_setShifted_60 : decode prog_4_method_8_code 60 = .ok (.iload 7, 2) := by decide +kernel
theorem dNa_setShifted_62 : decode prog_4_method_8_code 62 = .ok (.ior, 1) := by decide +kernel
theorem dNa_setShifted_63 : decode prog_4_method_8_code 63 = .ok (.ldc 23, 2) := by decide +kernel
theorem dNa_setShifted_65 : decode prog_4_method_8_code 65 = .ok (.iand, 1) := by decide +kernel
theorem dNa_setShifted_66 : decode prog_4_method_8_code 66 = .ok (.iastore, 1) := by decide +kernel
theorem dNa_setShifted_67 : decode prog_4_method_8_code 67 = .ok (.iinc 5 1, 3) := by decide +kernel
theorem dNa_setShifted_70 : decode prog_4_method_8_code 70 = .ok (.goto (-56), 3) := by decide +kernel
theorem dNa_setShifted_73 : decode prog_4_method_8_code 73 = .ok (.return_, 1) := by decide +kernel
set_option maxHeartbeats 4000000 in
set_option maxRecDepth 100000 in
theorem wNa_setShifted_14 {l : Launch} {G : ek_G} {kd : Nat → Nat} {p : Program} {e : Env} {s : State} {m : MethodId} {args : Array Value} {below : List Frame} {meth : Method} {c : Code} (X : ek_X p s m meth c args G prog_4_method_8_code 8 "ElasticKernel$Natural" none) {q : ek_St} {k14 : (ek_St × Nat × Nat × Int32 × Int32 × Int32) → Option (ek_St)} (hk14 : ∀ q0 : ek_St × Nat × Nat × Int32 × Int32 × Int32, k14 q0 = some q → ∀ (H : Heap) (locs : List Loc) (ls : Array Slot), ek_W G kd q0.1 H → va_S (ek_A G kd) s.heap H locs → lv_has ls 8 [(0, ek_r G q0.2.1), (1, ek_r G q0.2.2.1), (3, .int q0.2.2.2.1), (4, .int q0.2.2.2.2.1), (5, .int q0.2.2.2.2.2)] → W p l e ({ frames := 1, cells := 0, slots := 0, locals := 21 } : Room) s m args below meth c H locs 0 0 (MQ below (ek_Q G kd none q) args s 0 0 (ek_A G kd)) (F0 m 14 ls [])) {I : ek_St} {x0 : Nat} {x1 : Nat} {i3 : Int32} {i4 : Int32} {i5 : Int32} (hf : fNa_setShifted_14 kd k14 I x0 x1 i3 i4 i5 = some q) {H : Heap} {locs : List Loc} {ls : Array Slot} (hw : ek_W G kd I H) (hS : va_S (ek_A G kd) s.heap H locs) (hl : lv_has ls 8 [(0, ek_r G x0), (1, ek_r G x1), (3, .int i3), (4, .int i4), (5, .int i5)]) : W p l e ({ frames := 1, cells := 0, slots := 0, locals := 21 } : Room) s m args below meth c H locs 0 0 (MQ below (ek_Q G kd none q) args s 0 0 (ek_A G kd)) (F0 m 14 ls []) := by
  obtain ⟨hx, hb, hml, hown, hts, hr, hlocks, hK⟩ := id X
  have hA : ∀ q, ek_A G kd q → ek_A G kd q := fun _ h => h
  unfold fNa_setShifted_14 at hf
  refine lv_iload hx hb dNa_setShifted_14 (lv_at hl 4 rfl) ?_
  refine lv_bipush (v := (16 : Int32)) hx hb dNa_setShifted_16 (by decide) ?_
  refine lv_icmp_ge (tgt := 73) hx hb dNa_setShifted_18 (by decide) (fun c1 => ?_) (fun c1 => ?_)
  · have hf := ek_t c1 hf
    exact ek_vret hx hb hr hlocks hw hS hf dNa_setShifted_73
  · have hf := ek_f c1 hf
    refine ek_aload_n hx hb dNa_setShifted_21 rfl (lv_at hl 1 rfl) ?_
    refine lv_iload hx hb dNa_setShifted_22 (lv_at hl 4 rfl) ?_
    refine lv_iload_n hx hb dNa_setShifted_24 rfl (lv_at hl 2 rfl) ?_
    refine lv_isub hx hb dNa_setShifted_25 ?_
    obtain ⟨hx3, hf⟩ := ek_ck_s hf
    refine ek_ci hf hS hA (fun I' v hq => ek_rV (As := [.int (i5 - i3)]) ⟨hx, hb, hml, hown, hts⟩ hK hw 3 rfl (by decide) (by decide) hx3 (mNa_word hq) (cwV 1 hts (lw_V q_382 q_383 q_384 q_5 q_385) rfl rfl rfl (by decide +kernel) ⟨Nat.le_of_ble_eq_true rfl, Nat.le_of_ble_eq_true rfl⟩) rfl hl.1 rfl (Nat.le_of_ble_eq_true rfl) dNa_setShifted_26 ⟨Nat.zero_le _, Nat.zero_le _⟩) (fun I2 ir4 H locs hf hw hS => ?_)
    refine lv_iload hx hb dNa_setShifted_29 (lv_at hl 3 rfl) ?_
    refine lv_ishl hx hb dNa_setShifted_31 ?_
    refine ek_ti hf (fun i6_5 hf => ?_)
    refine ek_istore (lv' := [(6, .int i6_5), (5, .int i5), (0, ek_r G x0), (1, ek_r G x1), (3, .int i3), (4, .int i4)]) hx hb dNa_setShifted_32 hl (by decide) (ek_s1k 4 rfl rfl rfl rfl rfl) (fun ls hl => ?_)
    refine ek_aload_n hx hb dNa_setShifted_34 rfl (lv_at hl 3 rfl) ?_
    refine lv_iload hx hb dNa_setShifted_35 (lv_at hl 1 rfl) ?_
    refine lv_iload_n hx hb dNa_setShifted_37 rfl (lv_at hl 4 rfl) ?_
    refine lv_isub hx hb dNa_setShifted_38 ?_
    refine lv_iconst (v := (1 : Int32)) hx hb dNa_setShifted_39 (by decide) ?_
    refine lv_isub hx hb dNa_setShifted_40 ?_
    obtain ⟨hx7, hf⟩ := ek_ck_s hf
    refine ek_ci hf hS hA (fun I' v hq => ek_rV (As := [.int ((i5 - i3) - ((1 : Int32)))]) ⟨hx, hb, hml, hown, hts⟩ hK hw 3 rfl (by decide) (by decide) hx7 (mNa_word hq) (cwV 1 hts (lw_V q_382 q_383 q_384 q_5 q_385) rfl rfl rfl (by decide +kernel) ⟨Nat.le_of_ble_eq_true rfl, Nat.le_of_ble_eq_true rfl⟩) rfl hl.1 rfl (Nat.le_of_ble_eq_true rfl) dNa_setShifted_41 ⟨Nat.zero_le _, Nat.zero_le _⟩) (fun I6 ir8 H locs hf hw hS => ?_)
    refine lv_bipush (v := (24 : Int32)) hx hb dNa_setShifted_44 (by decide) ?_
    refine lv_iload hx hb dNa_setShifted_46 (lv_at hl 5 rfl) ?_
    refine lv_isub hx hb dNa_setShifted_48 ?_
    refine lv_iushr hx hb dNa_setShifted_49 rfl ?_
    refine ek_ti hf (fun i7_9 hf => ?_)
    refine ek_istore (lv' := [(7, .int i7_9), (6, .int i6_5), (5, .int i5), (0, ek_r G x0), (1, ek_r G x1), (3, .int i3), (4, .int i4)]) hx hb dNa_setShifted_50 hl (by decide) (ek_s1k 0 rfl rfl rfl rfl rfl) (fun ls hl => ?_)
    refine ek_aload_n hx hb dNa_setShifted_52 rfl (lv_at hl 3 rfl) ?_
    refine ek_getr hx hb 3 hts (in_Na) hown hK hw rfl (by decide) (by decide) 0 (by decide) (n := 0) rfl rfl (hts _ q_49) hf dNa_setShifted_53 (fun hf => ?_)
    refine lv_iload hx hb dNa_setShifted_56 (lv_at hl 2 rfl) ?_
    refine lv_iload hx hb dNa_setShifted_58 (lv_at hl 1 rfl) ?_
    refine lv_iload hx hb dNa_setShifted_60 (lv_at hl 0 rfl) ?_
    refine lv_ior hx hb dNa_setShifted_62 ?_
    refine lv_ldc hx hb hown (hts _ q_58) dNa_setShifted_63 ?_
    refine lv_iand hx hb dNa_setShifted_65 ?_
    refine ek_iast hx hb hK hw hS hA 16 rfl hf dNa_setShifted_66 (fun I10 H locs hf hw hS => ?_)
    refine ek_iinc hx hb 2 (fun i5_11 => [(5, .int i5_11), (4, .int i4), (7, .int i7_9), (6, .int i6_5), (0, ek_r G x0), (1, ek_r G x1), (3, .int i3)]) dNa_setShifted_67 hl rfl (v := i5 + (1 : Int32)) rfl hf (by decide) (fun i5_11 => ek_s1k 6 rfl rfl rfl rfl rfl) (fun i5_11 ls hf hl => ?_)
    refine lv_goto (tgt := 14) hx hb dNa_setShifted_70 (by decide) ?_
    exact hk14 (I10, x0, x1, i3, i4, i5_11) hf _ _ _ hw hS (lv_sub hl [4, 5, 6, 1, 0] rfl)
set_option maxHeartbeats 4000000 in
set_option maxRecDepth 100000 in
theorem wNa_setShifted_14_lp {l : Launch} {G : ek_G} {kd : Nat → Nat} {p : Program} {e : Env} {s : State} {m : MethodId} {args : Array Value} {below : List Frame} {meth : Method} {c : Code} (X : ek_X p s m meth c args G prog_4_method_8_code 8 "ElasticKernel$Natural" none) {q : ek_St} (n : Nat) : ∀ q0 : ek_St × Nat × Nat × Int32 × Int32 × Int32, ek_lp (fun (k : (ek_St × Nat × Nat × Int32 × Int32 × Int32) → Option (ek_St)) (q : (ek_St × Nat × Nat × Int32 × Int32 × Int32)) => fNa_setShifted_14 kd k q.1 q.2.1 q.2.2.1 q.2.2.2.1 q.2.2.2.2.1 q.2.2.2.2.2) n q0 = some q → ∀ (H : Heap) (locs : List Loc) (ls : Array Slot), ek_W G kd q0.1 H → va_S (ek_A G kd) s.heap H locs → lv_has ls 8 [(0, ek_r G q0.2.1), (1, ek_r G q0.2.2.1), (3, .int q0.2.2.2.1), (4, .int q0.2.2.2.2.1), (5, .int q0.2.2.2.2.2)] → W p l e ({ frames := 1, cells := 0, slots := 0, locals := 21 } : Room) s m args below meth c H locs 0 0 (MQ below (ek_Q G kd none q) args s 0 0 (ek_A G kd)) (F0 m 14 ls []) :=
  ek_lp_ind (fun k hk q0 hf => fun H locs ls hw hS hl => wNa_setShifted_14 X hk hf hw hS hl) n
set_option maxHeartbeats 4000000 in
set_option maxRecDepth 100000 in
theorem wNa_setShifted_0 {l : Launch} {G : ek_G} {kd : Nat → Nat} {p : Program} {e : Env} {s : State} {m : MethodId} {args : Array Value} {below : List Frame} {meth : Method} {c : Code} (X : ek_X p s m meth c args G prog_4_method_8_code 8 "ElasticKernel$Natural" none) {q : ek_St} {I : ek_St} {x0 : Nat} {x1 : Nat} {i2 : Int32} (hf : fNa_setShifted_0 kd I x0 x1 i2 = some q) {H : Heap} {locs : List Loc} {ls : Array Slot} (hw : ek_W G kd I H) (hS : va_S (ek_A G kd) s.heap H locs) (hl : lv_has ls 8 [(0, ek_r G x0), (1, ek_r G x1), (2, .int i2)]) : W p l e ({ frames := 1, cells := 0, slots := 0, locals := 21 } : Room) s m args below meth c H locs 0 0 (MQ below (ek_Q G kd none q) args s 0 0 (ek_A G kd)) (F0 m 0 ls []) := by
  obtain ⟨hx, hb, hml, hown, hts, hr, hlocks, hK⟩ := id X
  have hA : ∀ q, ek_A G kd q → ek_A G kd q := fun _ h => h
  unfold fNa_setShifted_0 at hf
  refine lv_iload_n hx hb dNa_setShifted_0 rfl (lv_at hl 2 rfl) ?_
  refine lv_bipush (v := (24 : Int32)) hx hb dNa_setShifted_1 (by decide) ?_
  refine ek_idiv hx hb hf dNa_setShifted_3 (fun hf => ?_)
  refine ek_ti hf (fun i3_1 hf => ?_)
  refine ek_istore_n (lv' := [(3, .int i3_1), (2, .int i2), (0, ek_r G x0), (1, ek_r G x1)]) hx hb dNa_setShifted_4 rfl hl (by decide) (ek_s1k 2 rfl rfl rfl rfl rfl) (fun ls hl => ?_)
  refine lv_iload_n hx hb dNa_setShifted_5 rfl (lv_at hl 1 rfl) ?_
  refine lv_bipush (v := (24 : Int32)) hx hb dNa_setShifted_6 (by decide) ?_
  refine ek_irem hx hb hf dNa_setShifted_8 (fun hf => ?_)
  refine ek_ti hf (fun i4_2 hf => ?_)
  refine ek_istore (lv' := [(4, .int i4_2), (3, .int i3_1), (2, .int i2), (0, ek_r G x0), (1, ek_r G x1)]) hx hb dNa_setShifted_9 hl (by decide) (ek_s1k 0 rfl rfl rfl rfl rfl) (fun ls hl => ?_)
  refine lv_iconst (v := (0 : Int32)) hx hb dNa_setShifted_11 (by decide) ?_
  refine ek_istore (lv' := [(5, .int ((0 : Int32))), (4, .int i4_2), (3, .int i3_1), (2, .int i2), (0, ek_r G x0), (1, ek_r G x1)]) hx hb dNa_setShifted_12 hl (by decide) (ek_s1k 0 rfl rfl rfl rfl rfl) (fun ls hl => ?_)
  exact wNa_setShifted_14_lp X ek_N (I, x0, x1, i3_1, i4_2, (0 : Int32)) hf _ _ _ hw hS (lv_sub hl [4, 5, 2, 1, 0] rfl)
set_option maxHeartbeats 4000000 in
set_option maxRecDepth 100000 in
theorem mNa_setShifted {l : Launch} {G : ek_G} {kd : Nat → Nat} {I : ek_St} {x0 : Nat} {x1 : Nat} {i2 : Int32} {q : ek_St} (hf : fNa_setShifted kd I x0 x1 i2 = some q) : ek_M l G kd y_Na_setShifted (.code y_Na_setShifted prog_4_method_8_code 8 none :: lw_g) ({ frames := 1, cells := 0, slots := 0, locals := 21 } : Room) [ek_r G x0, ek_r G x1, .int i2] I none q :=
  ek_body [(0, ek_r G x0), (1, ek_r G x1), (2, .int i2)] (by decide) (by simp [lg_sl, ek_r_cat, ek_c_i, ek_c_l]) (by simp [lv_args, ek_r_cat, ek_c_i, ek_c_l]) (fun p e s m below meth c ls X hw hS hl => wNa_setShifted_0 X hf hw hS hl)
/-! ElasticKernel$Natural.copy(LElasticKernel$Natural;)V -/
def fNa_copy_0 (kd : Nat → Nat) (I : ek_St) (x0 : Nat) (x1 : Nat) : Option (ek_St) :=
  ek_ck (kd x1 = 3) (ek_ck (kd x0 = 3) (ek_ck (kd (x1 + 1) = 116 ∧ kd (x0 + 1) = 116) (ek_let (ek_cp I (x1 + 1) (x0 + 1)) (fun I1 => some I1))))
def fNa_copy (kd : Nat → Nat) (I : ek_St) (x0 : Nat) (x1 : Nat) : Option (ek_St) := fNa_copy_0 kd I x0 x1
theorem dNa_copy_0 : decode prog_4_method_6_code 0 = .ok (.aload_n 1, 1) := by decide +kernel
theorem dNa_copy_1 : decode prog_4_method_6_code 1 = .ok (.getfield 9, 3) := by decide +kernel
theorem dNa_copy_4 : decode prog_4_method_6_code 4 = .ok (.iconst 0, 1) := by decide +kernel
theorem dNa_copy_5 : decode prog_4_method_6_code 5 = .ok (.aload_n 0, 1) := by decide +kernel
theorem dNa_copy_6 : decode prog_4_method_6_code 6 = .ok (.getfield 9, 3) := by decide +kernel
theorem dNa_copy_9 : decode prog_4_method_6_code 9 = .ok (.iconst 0, 1) := by decide +kernel
theorem dNa_copy_10 : decode prog_4_method_6_code 10 = .ok (.bipush 16, 2) := by decide +kernel
theorem dNa_copy_12 : decode prog_4_method_6_code 12 = .ok (.invokestatic 24, 3) := by decide +kernel
theorem dNa_copy_15 : decode prog_4_method_6_code 15 = .ok (.return_, 1) := by decide +kernel
set_option maxHeartbeats 4000000 in
set_option maxRecDepth 100000 in
theorem wNa_copy_0 {l : Launch} {G : ek_G} {kd : Nat → Nat} {p : Program} {e : Env} {s : State} {m : MethodId} {args : Array Value} {below : List Frame} {meth : Method} {c : Code} (X : ek_X p s m meth c args G prog_4_method_6_code 2 "ElasticKernel$Natural" none) {q : ek_St} {I : ek_St} {x0 : Nat} {x1 : Nat} (hf : fNa_copy_0 kd I x0 x1 = some q) {H : Heap} {locs : List Loc} {ls : Array Slot} (hw : ek_W G kd I H) (hS : va_S (ek_A G kd) s.heap H locs) (hl : lv_has ls 2 [(0, ek_r G x0), (1, ek_r G x1)]) : W p l e ({ frames := 1, cells := 0, slots := 0, locals := 38 } : Room) s m args below meth c H locs 0 0 (MQ below (ek_Q G kd none q) args s 0 0 (ek_A G kd)) (F0 m 0 ls []) := by
  obtain ⟨hx, hb, hml, hown, hts, hr, hlocks, hK⟩ := id X
  have hA : ∀ q, ek_A G kd q → ek_A G kd q := fun _ h => h
  unfold fNa_copy_0 at hf
  refine ek_aload_n hx hb dNa_copy_0 rfl (lv_at hl 1 rfl) ?_
  refine ek_getr hx hb 3 hts (in_Na) hown hK hw rfl (by decide) (by decide) 0 (by decide) (n := 0) rfl rfl (hts _ q_49) hf dNa_copy_1 (fun hf => ?_)
  refine lv_iconst (v := (0 : Int32)) hx hb dNa_copy_4 (by decide) ?_
  refine ek_aload_n hx hb dNa_copy_5 rfl (lv_at hl 0 rfl) ?_
  refine ek_getr hx hb 3 hts (in_Na) hown hK hw rfl (by decide) (by decide) 0 (by decide) (n := 0) rfl rfl (hts _ q_49) hf dNa_copy_6 (fun hf => ?_)
  refine lv_iconst (v := (0 : Int32)) hx hb dNa_copy_9 (by decide) ?_
  refine lv_bipush (v := (16 : Int32)) hx hb dNa_copy_10 (by decide) ?_
  refine ek_copy hx hb (hml.trans hl.1.symm) hown (hts (.methodLink "ElasticKernel$Natural" 24 arraycopyName) (by decide +kernel)) (hts (.native arraycopyName) (by decide +kernel)) (hts (.static arraycopyName) (by decide +kernel)) (hts (.initialized "java/lang/System") (by decide +kernel)) hK hw hS hA hf (by decide) (ek_roomN (Nat.le_of_ble_eq_true rfl) (by decide)) dNa_copy_12 (fun I1 H locs hf hw hS => ?_)
  exact ek_vret hx hb hr hlocks hw hS hf dNa_copy_15
set_option maxHeartbeats 4000000 in
set_option maxRecDepth 100000 in
theorem mNa_copy {l : Launch} {G : ek_G} {kd : Nat → Nat} {I : ek_St} {x0 : Nat} {x1 : Nat} {q : ek_St} (hf : fNa_copy kd I x0 x1 = some q) : ek_M l G kd y_Na_copy (.code y_Na_copy prog_4_method_6_code 2 none :: lw_g) ({ frames := 1, cells := 0, slots := 0, locals := 38 } : Room) [ek_r G x0, ek_r G x1] I none q :=
  ek_body [(0, ek_r G x0), (1, ek_r G x1)] (by decide) (by simp [lg_sl, ek_r_cat, ek_c_i, ek_c_l]) (by simp [lv_args, ek_r_cat, ek_c_i, ek_c_l]) (fun p e s m below meth c ls X hw hS hl => wNa_copy_0 X hf hw hS hl)
/-! ElasticKernel$Natural.isZero()Z -/
def fNa_isZero_0 (kd : Nat → Nat) (I : ek_St) (x0 : Nat) : Option (ek_St × Int32) :=
  ek_ck (kd x0 = 3) (ek_bi (fNa_bitLength kd I x0) (fun I1 ir3 => if ir3 = ((0 : Int32)) then (ek_ck (((1 : Int32)) = (0 : Int32) ∨ ((1 : Int32)) = (1 : Int32)) (some (I1, (1 : Int32)))) else (ek_ck (((0 : Int32)) = (0 : Int32) ∨ ((0 : Int32)) = (1 : Int32)) (some (I1, (0 : Int32))))))
def fNa_isZero (kd : Nat → Nat) (I : ek_St) (x0 : Nat) : Option (ek_St × Int32) := fNa_isZero_0 kd I x0
theorem dNa_isZero_0 : decode prog_4_method_3_code 0 = .ok (.aload_n 0, 1) := by decide +kernel
theorem dNa_isZero_1 : decode prog_4_method_3_code 1 = .ok (.invokevirtual 13, 3) := by decide +kernel
theorem dNa_isZero_4 : decode prog_4_method_3_code 4 = .ok (.ifCond .ne 7, 3) := by decide +kernel
theorem dNa_isZero_7 : decode prog_4_method_3_code 7 = .ok (.iconst 1, 1) := by decide +kernel
theorem dNa_isZero_8 : decode prog_4_method_3_code 8 = .ok (.goto 4, 3) := by decide +kernel
theorem dNa_isZero_11 : decode prog_4_method_3_code 11 = .ok (.iconst 0, 1) := by decide +kernel
theorem dNa_isZero_12 : decode prog_4_method_3_code 12 = .ok (.ireturn, 1) := by decide +kernel
set_option maxHeartbeats 4000000 in
set_option maxRecDepth 100000 in
theorem wNa_isZero_0 {l : Launch} {G : ek_G} {kd : Nat → Nat} {p : Program} {e : Env} {s : State} {m : MethodId} {args : Array Value} {below : List Frame} {meth : Method} {c : Code} (X : ek_X p s m meth c args G prog_4_method_3_code 1 "ElasticKernel$Natural" (some .boolean)) {q : ek_St × Int32} {I : ek_St} {x0 : Nat} (hf : fNa_isZero_0 kd I x0 = some q) {H : Heap} {locs : List Loc} {ls : Array Slot} (hw : ek_W G kd I H) (hS : va_S (ek_A G kd) s.heap H locs) (hl : lv_has ls 1 [(0, ek_r G x0)]) : W p l e ({ frames := 2, cells := 0, slots := 0, locals := 42 } : Room) s m args below meth c H locs 0 0 (MQ below (ek_Q G kd (some (.int q.2)) q.1) args s 0 0 (ek_A G kd)) (F0 m 0 ls []) := by
  obtain ⟨hx, hb, hml, hown, hts, hr, hlocks, hK⟩ := id X
  have hA : ∀ q, ek_A G kd q → ek_A G kd q := fun _ h => h
  unfold fNa_isZero_0 at hf
  refine ek_aload_n hx hb dNa_isZero_0 rfl (lv_at hl 0 rfl) ?_
  obtain ⟨hx2, hf⟩ := ek_ck_s hf
  refine ek_ci hf hS hA (fun I' v hq => ek_rV (As := []) ⟨hx, hb, hml, hown, hts⟩ hK hw 3 rfl (by decide) (by decide) hx2 (mNa_bitLength hq) (cwV 0 hts (lw_V q_364 q_365 q_366 q_5 q_367) rfl rfl rfl (by decide +kernel) ⟨Nat.le_of_ble_eq_true rfl, Nat.le_of_ble_eq_true rfl⟩) rfl hl.1 rfl (Nat.le_of_ble_eq_true rfl) dNa_isZero_1 ⟨Nat.zero_le _, Nat.zero_le _⟩) (fun I1 ir3 H locs hf hw hS => ?_)
  refine lv_if_ne (tgt := 11) hx hb dNa_isZero_4 (by decide) (fun c4 => ?_) (fun c4 => ?_)
  · have hf := ek_f c4 hf
    refine lv_iconst (v := (0 : Int32)) hx hb dNa_isZero_11 (by decide) ?_
    exact ek_zret hx hb hr hlocks hw hS hf dNa_isZero_12
  · have hf := ek_t c4 hf
    refine lv_iconst (v := (1 : Int32)) hx hb dNa_isZero_7 (by decide) ?_
    refine lv_goto (tgt := 12) hx hb dNa_isZero_8 (by decide) ?_
    exact ek_zret hx hb hr hlocks hw hS hf dNa_isZero_12
set_option maxHeartbeats 4000000 in
set_option maxRecDepth 100000 in
theorem mNa_isZero {l : Launch} {G : ek_G} {kd : Nat → Nat} {I : ek_St} {x0 : Nat} {q : ek_St × Int32} (hf : fNa_isZero kd I x0 = some q) : ek_M l G kd y_Na_isZero (.code y_Na_isZero prog_4_method_3_code 1 (some .boolean) :: lw_g) ({ frames := 2, cells := 0, slots := 0, locals := 42 } : Room) [ek_r G x0] I (some (.int q.2)) q.1 :=
  ek_body [(0, ek_r G x0)] (by decide) (by simp [lg_sl, ek_r_cat, ek_c_i, ek_c_l]) (by simp [lv_args, ek_r_cat, ek_c_i, ek_c_l]) (fun p e s m below meth c ls X hw hS hl => wNa_isZero_0 X hf hw hS hl)
/-! ElasticKernel$Natural.setProduct(LElasticKernel$Natural;LElasticKernel$Natural;)V -/
def fNa_setProduct_19 (kd : Nat → Nat) (k7 : (ek_St × Nat × Nat × Nat × Int32) → Option (ek_St)) (k19 : (ek_St × Nat × Nat × Nat × Int32 × Int64 × Int32) → Option (ek_St)) (I : ek_St) (x0 : Nat) (x1 : Nat) (x2 : Nat) (i3 : Int32) (j4 : Int64) (i6 : Int32) : Option (ek_St) :=
  if ((16 : Int32)) ≤ (i3 + i6) then (ek_let (i3 + (1 : Int32)) (fun i3_2 => k7 (I, x0, x1, x2, i3_2))) else (ek_ck (kd x1 = 3) (ek_ck (kd (x1 + 1) = 116) (ek_ck (ek_in i3 16) (ek_ck (kd x2 = 3) (ek_ck (kd (x2 + 1) = 116) (ek_ck (ek_in i6 16) (ek_ck (kd x0 = 3) (ek_ck (kd (x0 + 1) = 116) (ek_ck (ek_in (i3 + i6) 16) (ek_let ((((Int32.toInt64 (I (x1 + 1) i3.toNatClampNeg)) * (Int32.toInt64 (I (x2 + 1) i6.toNatClampNeg))) + (Int32.toInt64 (I (x0 + 1) (i3 + i6).toNatClampNeg))) + j4) (fun j7_3 => ek_ck (kd x0 = 3) (ek_ck (kd (x0 + 1) = 116) (ek_ck (ek_in (i3 + i6) 16) (ek_let (ek_up I (x0 + 1) (i3 + i6).toNatClampNeg (Int64.toInt32 (j7_3 &&& ((16777215 : Int64))))) (fun I4 => ek_let (j7_3 >>> (Int32.toInt64 ((24 : Int32)) &&& 63)) (fun j4_5 => ek_let (i6 + (1 : Int32)) (fun i6_6 => k19 (I4, x0, x1, x2, i3, j4_5, i6_6))))))))))))))))))
def fNa_setProduct_7 (kd : Nat → Nat) (k7 : (ek_St × Nat × Nat × Nat × Int32) → Option (ek_St)) (I : ek_St) (x0 : Nat) (x1 : Nat) (x2 : Nat) (i3 : Int32) : Option (ek_St) :=
  if ((16 : Int32)) ≤ i3 then (some I) else (ek_lp (fun (k : (ek_St × Nat × Nat × Nat × Int32 × Int64 × Int32) → Option (ek_St)) (q : (ek_St × Nat × Nat × Nat × Int32 × Int64 × Int32)) => fNa_setProduct_19 kd k7 k q.1 q.2.1 q.2.2.1 q.2.2.2.1 q.2.2.2.2.1 q.2.2.2.2.2.1 q.2.2.2.2.2.2) ek_N (I, x0, x1, x2, i3, (0 : Int64), (0 : Int32)))
def fNa_setProduct_0 (kd : Nat → Nat) (I : ek_St) (x0 : Nat) (x1 : Nat) (x2 : Nat) : Option (ek_St) :=
  ek_ck (kd x0 = 3) (ek_bv (fNa_set kd I x0 ((0 : Int32))) (fun I1 => ek_lp (fun (k : (ek_St × Nat × Nat × Nat × Int32) → Option (ek_St)) (q : (ek_St × Nat × Nat × Nat × Int32)) => fNa_setProduct_7 kd k q.1 q.2.1 q.2.2.1 q.2.2.2.1 q.2.2.2.2) ek_N (I1, x0, x1, x2, (0 : Int32))))
def fNa_setProduct (kd : Nat → Nat) (I : ek_St) (x0 : Nat) (x1 : Nat) (x2 : Nat) : Option (ek_St) := fNa_setProduct_0 kd I x0 x1 x2
theorem dNa_setProduct_0 : decode prog_4_method_9_code 0 = .ok (.aload_n 0, 1) := by decide +kernel
theorem dNa_setProduct_1 : decode prog_4_method_9_code 1 = .ok (.iconst 0, 1) := by decide +kernel
theorem dNa_setProduct_2 : decode prog_4_method_9_code 2 = .ok (.invokevirtual 33, 3) := by decide +kernel
theorem dNa_setProduct_5 : decode prog_4_method_9_code 5 = .ok (.iconst 0, 1) := by decide +kernel
theorem dNa_setProduct_6 : decode prog_4_method_9_code 6 = .ok (.istore_n 3, 1) := by decide +kernel
theorem dNa_setProduct_7 : decode prog_4_method_9_code 7 = .ok (.iload_n 3, 1) := by decide +kernel
theorem dNa_setProduct_8 : decode prog_4_method_9_code 8 = .ok (.bipush 16, 2) := by decide +kernel
theorem dNa_setProduct_10 : decode prog_4_method_9_code 10 = .ok (.if_icmp .ge 85, 3) := by decide +kernel
theorem dNa_setProduct_13 : decode prog_4_method_9_code 13 = .ok (.lconst 0, 1) := by decide +kernel
theorem dNa_setProduct_14 : decode prog_4_method_9_code 14 = .ok (.lstore 4, 2) := by decide +kernel
theorem dNa_setProduct_16 : decode prog_4_method_9_code 16 = .ok (.iconst 0, 1) := by decide +kernel
theorem dNa_setProduct_17 : decode prog_4_method_9_code 17 = .ok (.istore 6, 2) := by decide +kernel
theorem dNa_setProduct_19 : decode prog_4_method_9_code 19 = .ok (.iload_n 3, 1) := by decide +kernel
theorem dNa_setProduct_20 : decode prog_4_method_9_code 20 = .ok (.iload 6, 2) := by decide +kernel
theorem dNa_setProduct_22 : decode prog_4_method_9_code 22 = .ok (.iadd, 1) := by decide +kernel
theorem dNa_setProduct_23 : decode prog_4_method_9_code 23 = .ok (.bipush 16, 2) := by decide +kernel
theorem dNa_setProduct_25 : decode prog_4_method_9_code 25 = .ok (.if_icmp .ge 64, 3) := by decide +kernel
theorem dNa_setProduct_28 : decode prog_4_method_9_code 28 = .ok (.aload_n 1, 1) := by decide +kernel
theorem dNa_setProduct_29 : decode prog_4_method_9_code 29 = .ok (.getfield 9, 3) := by decide +kernel
theorem dNa_setProduct_32 : decode prog_4_method_9_code 32 = .ok (.iload_n 3, 1) := by decide +kernel
theorem dNa_setProduct_33 : decode prog_4_method_9_code 33 = .ok (.iaload, 1) := by decide +kernel
theorem dNa_setProduct_34 : decode prog_4_method_9_code 34 = .ok (.i2l, 1) := by decide +kernel
theorem dNa_setProduct_35 : decode prog_4_method_9_code 35 = .ok (.aload_n 2, 1) := by decide +kernel
theorem dNa_setProduct_36 : decode prog_4_method_9_code 36 = .ok (.getfield 9, 3) := by decide +kernel
theorem dNa_setProduct_39 : decode prog_4_method_9_code 39 = .ok (.iload 6, 2) := by decide +kernel
theorem dNa_setProduct_41 : decode prog_4_method_9_code 41 = .ok (.iaload, 1) := by decide +kernel
theorem dNa_setProduct_42 : decode prog_4_method_9_code 42 = .ok (.i2l, 1) := by decide +kernel
theorem dNa_setProduct_43 : decode prog_4_method_9_code 43 = .ok (.lmul, 1) := by decide +kernel
theorem dNa_setProduct_44 : decode prog_4_method_9_code 44 = .ok (.aload_n 0, 1) := by decide +kernel
theorem dNa_setProduct_45 : decode prog_4_method_9_code 45 = .ok (.getfield 9, 3) := by decide +kernel
theorem dNa_setProduct_48 : decode prog_4_method_9_code 48 = .ok (.iload_n 3, 1) := by decide +kernel
theorem dNa_setProduct_49 : decode prog_4_method_9_code 49 = .ok (.iload 6, 2) := by decide +kernel
theorem dNa_setProduct_51 : decode prog_4_method_9_code 51 = .ok (.iadd, 1) := by decide +kernel
theorem dNa_setProduct_52 : decode prog_4_method_9_code 52 = .ok (.iaload, 1) := by decide +kernel
theorem dNa_setProduct_53 : decode prog_4_method_9_code 53 = .ok (.i2l, 1) := by decide +kernel
theorem dNa_setProduct_54 : decode prog_4_method_9_code 54 = .ok (.ladd, 1) := by decide +kernel
theorem dNa_setProduct_55 : decode prog_4_method_9_code 55 = .ok (.lload 4, 2) := by decide +kernel
theorem dNa_setProduct_57 : decode prog_4_method_9_code 57 = .ok (.ladd, 1) := by decide +kernel
theorem dNa_setProduct_58 : decode prog_4_method_9_code 58 = .ok (.lstore 7, 2) := by decide +kernel
theorem dNa_setProduct_60 : decode prog_4_method_9_code 60 = .ok (.aload_n 0, 1) := by decide +kernel
theorem dNa_setProduct_61 : decode prog_4_method_9_code 61 = .ok (.getfield 9, 3) := by decide +kernel
theorem dNa_setProduct_64 : decode prog_4_method_9_code 64 = .ok (.iload_n 3, 1) := by decide +kernel
theorem dNa_setProduct_65 : decode prog_4_method_9_code 65 = .ok (.iload 6, 2) := by decide +kernel
theorem dNa_setProduct_67 : decode prog_4_method_9_code 67 = .ok (.iadd, 1) := by decide +kernel
theorem dNa_setProduct_68 : decode prog_4_method_9_code 68 = .ok (.lload 7, 2) := by decide +kernel
theorem dNa_setProduct_70 : decode prog_4_method_9_code 70 = .ok (.ldc2_w 37, 3) := by decide +kernel
theorem dNa_setProduct_73 : decode prog_4_method_9_code 73 = .ok (.land, 1) := by decide +kernel
theorem dNa_setProduct_74 : decode prog_4_method_9_code 74 = .ok (.l2i, 1) := by decide +kernel
theorem dNa_setProduct_75 : decode prog_4_method_9_code 75 = .ok (.iastore, 1) := by decide +kernel
theorem dNa_setProduct_76 : decode prog_4_method_9_code 76 = .ok (.lload 7, 2) := by decide +kernel
theorem dNa_setProduct_78 : decode prog_4_method_9_code 78 = .ok (.bipush 24, 2) := by decide +kernel
theorem dNa_setProduct_80 : decode prog_4_method_9_code 80 = .ok (.lshr, 1) := by decide +kernel
theorem dNa_setProduct_81 : decode prog_4_method_9_code 81 = .ok (.lstore 4, 2) := by decide +kernel
theorem dNa_setProduct_83 : decode prog_4_method_9_code 83 = .ok (.iinc 6 1, 3) := by decide +kernel
theorem dNa_setProduct_86 : decode prog_4_method_9_code 86 = .ok (.goto (-67), 3) := by decide +kernel
theorem dNa_setProduct_89 : decode prog_4_method_9_code 89 = .ok (.iinc 3 1, 3) := by decide +kernel
theorem dNa_setProduct_92 : decode prog_4_method_9_code 92 = .ok (.goto (-85), 3) := by decide +kernel
theorem dNa_setProduct_95 : decode prog_4_method_9_code 95 = .ok (.return_, 1) := by decide +kernel
set_option maxHeartbeats 4000000 in
set_option maxRecDepth 100000 in
theorem wNa_setProduct_19 {l : Launch} {G : ek_G} {kd : Nat → Nat} {p : Program} {e : Env} {s : State} {m : MethodId} {args : Array Value} {below : List Frame} {meth : Method} {c : Code} (X : ek_X p s m meth c args G prog_4_method_9_code 9 "ElasticKernel$Natural" none) {q : ek_St} {k7 : (ek_St × Nat × Nat × Nat × Int32) → Option (ek_St)} (hk7 : ∀ q0 : ek_St × Nat × Nat × Nat × Int32, k7 q0 = some q → ∀ (H : Heap) (locs : List Loc) (ls : Array Slot), ek_W G kd q0.1 H → va_S (ek_A G kd) s.heap H locs → lv_has ls 9 [(0, ek_r G q0.2.1), (1, ek_r G q0.2.2.1), (2, ek_r G q0.2.2.2.1), (3, .int q0.2.2.2.2)] → W p l e ({ frames := 1, cells := 0, slots := 0, locals := 22 } : Room) s m args below meth c H locs 0 0 (MQ below (ek_Q G kd none q) args s 0 0 (ek_A G kd)) (F0 m 7 ls [])) {k19 : (ek_St × Nat × Nat × Nat × Int32 × Int64 × Int32) → Option (ek_St)} (hk19 : ∀ q0 : ek_St × Nat × Nat × Nat × Int32 × Int64 × Int32, k19 q0 = some q → ∀ (H : Heap) (locs : List Loc) (ls : Array Slot), ek_W G kd q0.1 H → va_S (ek_A G kd) s.heap H locs → lv_has ls 9 [(0, ek_r G q0.2.1), (1, ek_r G q0.2.2.1), (2, ek_r G q0.2.2.2.1), (3, .int q0.2.2.2.2.1), (4, .long q0.2.2.2.2.2.1), (6, .int q0.2.2.2.2.2.2)] → W p l e ({ frames := 1, cells := 0, slots := 0, locals := 22 } : Room) s m args below meth c H locs 0 0 (MQ below (ek_Q G kd none q) args s 0 0 (ek_A G kd)) (F0 m 19 ls [])) {I : ek_St} {x0 : Nat} {x1 : Nat} {x2 : Nat} {i3 : Int32} {j4 : Int64} {i6 : Int32} (hf : fNa_setProduct_19 kd k7 k19 I x0 x1 x2 i3 j4 i6 = some q) {H : Heap} {locs : List Loc} {ls : Array Slot} (hw : ek_W G kd I H) (hS : va_S (ek_A G kd) s.heap H locs) (hl : lv_has ls 9 [(0, ek_r G x0), (1, ek_r G x1), (2, ek_r G x2), (3, .int i3), (4, .long j4), (6, .int i6)]) : W p l e ({ frames := 1, cells := 0, slots := 0, locals := 22 } : Room) s m args below meth c H locs 0 0 (MQ below (ek_Q G kd none q) args s 0 0 (ek_A G kd)) (F0 m 19 ls []) := by
  obtain ⟨hx, hb, hml, hown, hts, hr, hlocks, hK⟩ := id X
  have hA : ∀ q, ek_A G kd q → ek_A G kd q := fun _ h => h
  unfold fNa_setProduct_19 at hf
  refine lv_iload_n hx hb dNa_setProduct_19 rfl (lv_at hl 3 rfl) ?_
  refine lv_iload hx hb dNa_setProduct_20 (lv_at hl 5 rfl) ?_
  refine lv_iadd hx hb dNa_setProduct_22 ?_
  refine lv_bipush (v := (16 : Int32)) hx hb dNa_setProduct_23 (by decide) ?_
  refine lv_icmp_ge (tgt := 89) hx hb dNa_setProduct_25 (by decide) (fun c1 => ?_) (fun c1 => ?_)
  · have hf := ek_t c1 hf
    refine ek_iinc hx hb 3 (fun i3_2 => [(3, .int i3_2), (2, ek_r G x2), (0, ek_r G x0), (1, ek_r G x1), (4, .long j4), (6, .int i6)]) dNa_setProduct_89 hl rfl (v := i3 + (1 : Int32)) rfl hf (by decide) (fun i3_2 => ek_s1k 2 rfl rfl ek_r_cat rfl rfl) (fun i3_2 ls hf hl => ?_)
    refine lv_goto (tgt := 7) hx hb dNa_setProduct_92 (by decide) ?_
    exact hk7 (I, x0, x1, x2, i3_2) hf _ _ _ hw hS (lv_sub hl [2, 3, 1, 0] rfl)
  · have hf := ek_f c1 hf
    refine ek_aload_n hx hb dNa_setProduct_28 rfl (lv_at hl 1 rfl) ?_
    refine ek_getr hx hb 3 hts (in_Na) hown hK hw rfl (by decide) (by decide) 0 (by decide) (n := 0) rfl rfl (hts _ q_49) hf dNa_setProduct_29 (fun hf => ?_)
    refine lv_iload_n hx hb dNa_setProduct_32 rfl (lv_at hl 3 rfl) ?_
    refine ek_iald hx hb hK hw 16 rfl hf dNa_setProduct_33 (fun hf => ?_)
    refine lv_i2l hx hb dNa_setProduct_34 rfl ?_
    refine ek_aload_n hx hb dNa_setProduct_35 rfl (lv_at hl 2 rfl) ?_
    refine ek_getr hx hb 3 hts (in_Na) hown hK hw rfl (by decide) (by decide) 0 (by decide) (n := 0) rfl rfl (hts _ q_49) hf dNa_setProduct_36 (fun hf => ?_)
    refine lv_iload hx hb dNa_setProduct_39 (lv_at hl 5 rfl) ?_
    refine ek_iald hx hb hK hw 16 rfl hf dNa_setProduct_41 (fun hf => ?_)
    refine lv_i2l hx hb dNa_setProduct_42 rfl ?_
    refine lv_lmul hx hb dNa_setProduct_43 ?_
    refine ek_aload_n hx hb dNa_setProduct_44 rfl (lv_at hl 0 rfl) ?_
    refine ek_getr hx hb 3 hts (in_Na) hown hK hw rfl (by decide) (by decide) 0 (by decide) (n := 0) rfl rfl (hts _ q_49) hf dNa_setProduct_45 (fun hf => ?_)
    refine lv_iload_n hx hb dNa_setProduct_48 rfl (lv_at hl 3 rfl) ?_
    refine lv_iload hx hb dNa_setProduct_49 (lv_at hl 5 rfl) ?_
    refine lv_iadd hx hb dNa_setProduct_51 ?_
    refine ek_iald hx hb hK hw 16 rfl hf dNa_setProduct_52 (fun hf => ?_)
    refine lv_i2l hx hb dNa_setProduct_53 rfl ?_
    refine lv_ladd hx hb dNa_setProduct_54 ?_
    refine lv_lload hx hb dNa_setProduct_55 (lv_at hl 4 rfl) ?_
    refine lv_ladd hx hb dNa_setProduct_57 ?_
    refine ek_tl hf (fun j7_3 hf => ?_)
    refine ek_lstore (lv' := [(7, .long j7_3), (6, .int i6), (0, ek_r G x0), (1, ek_r G x1), (2, ek_r G x2), (3, .int i3), (4, .long j4)]) hx hb dNa_setProduct_58 hl (by decide) (ek_s2k 5 rfl rfl rfl rfl rfl) (fun ls hl => ?_)
    refine ek_aload_n hx hb dNa_setProduct_60 rfl (lv_at hl 2 rfl) ?_
    refine ek_getr hx hb 3 hts (in_Na) hown hK hw rfl (by decide) (by decide) 0 (by decide) (n := 0) rfl rfl (hts _ q_49) hf dNa_setProduct_61 (fun hf => ?_)
    refine lv_iload_n hx hb dNa_setProduct_64 rfl (lv_at hl 5 rfl) ?_
    refine lv_iload hx hb dNa_setProduct_65 (lv_at hl 1 rfl) ?_
    refine lv_iadd hx hb dNa_setProduct_67 ?_
    refine lv_lload hx hb dNa_setProduct_68 (lv_at hl 0 rfl) ?_
    refine lv_ldc2 hx hb hown (hts _ q_277) dNa_setProduct_70 ?_
    refine lv_land hx hb dNa_setProduct_73 ?_
    refine lv_l2i hx hb dNa_setProduct_74 rfl ?_
    refine ek_iast hx hb hK hw hS hA 16 rfl hf dNa_setProduct_75 (fun I4 H locs hf hw hS => ?_)
    refine lv_lload hx hb dNa_setProduct_76 (lv_at hl 0 rfl) ?_
    refine lv_bipush (v := (24 : Int32)) hx hb dNa_setProduct_78 (by decide) ?_
    refine lv_lshr hx hb dNa_setProduct_80 rfl ?_
    refine ek_tl hf (fun j4_5 hf => ?_)
    refine ek_lstore (lv' := [(4, .long j4_5), (3, .int i3), (7, .long j7_3), (6, .int i6), (0, ek_r G x0), (1, ek_r G x1), (2, ek_r G x2)]) hx hb dNa_setProduct_81 hl (by decide) (ek_s2k 5 rfl rfl rfl rfl rfl) (fun ls hl => ?_)
    refine ek_iinc hx hb 3 (fun i6_6 => [(6, .int i6_6), (4, .long j4_5), (3, .int i3), (7, .long j7_3), (0, ek_r G x0), (1, ek_r G x1), (2, ek_r G x2)]) dNa_setProduct_83 hl rfl (v := i6 + (1 : Int32)) rfl hf (by decide) (fun i6_6 => ek_s1 rfl rfl) (fun i6_6 ls hf hl => ?_)
    refine lv_goto (tgt := 19) hx hb dNa_setProduct_86 (by decide) ?_
    exact hk19 (I4, x0, x1, x2, i3, j4_5, i6_6) hf _ _ _ hw hS (lv_sub hl [4, 5, 6, 2, 1, 0] rfl)
set_option maxHeartbeats 4000000 in
set_option maxRecDepth 100000 in
theorem wNa_setProduct_19_lp {l : Launch} {G : ek_G} {kd : Nat → Nat} {p : Program} {e : Env} {s : State} {m : MethodId} {args : Array Value} {below : List Frame} {meth : Method} {c : Code} (X : ek_X p s m meth c args G prog_4_method_9_code 9 "ElasticKernel$Natural" none) {q : ek_St} {k7 : (ek_St × Nat × Nat × Nat × Int32) → Option (ek_St)} (hk7 : ∀ q0 : ek_St × Nat × Nat × Nat × Int32, k7 q0 = some q → ∀ (H : Heap) (locs : List Loc) (ls : Array Slot), ek_W G kd q0.1 H → va_S (ek_A G kd) s.heap H locs → lv_has ls 9 [(0, ek_r G q0.2.1), (1, ek_r G q0.2.2.1), (2, ek_r G q0.2.2.2.1), (3, .int q0.2.2.2.2)] → W p l e ({ frames := 1, cells := 0, slots := 0, locals := 22 } : Room) s m args below meth c H locs 0 0 (MQ below (ek_Q G kd none q) args s 0 0 (ek_A G kd)) (F0 m 7 ls [])) (n : Nat) : ∀ q0 : ek_St × Nat × Nat × Nat × Int32 × Int64 × Int32, ek_lp (fun (k : (ek_St × Nat × Nat × Nat × Int32 × Int64 × Int32) → Option (ek_St)) (q : (ek_St × Nat × Nat × Nat × Int32 × Int64 × Int32)) => fNa_setProduct_19 kd k7 k q.1 q.2.1 q.2.2.1 q.2.2.2.1 q.2.2.2.2.1 q.2.2.2.2.2.1 q.2.2.2.2.2.2) n q0 = some q → ∀ (H : Heap) (locs : List Loc) (ls : Array Slot), ek_W G kd q0.1 H → va_S (ek_A G kd) s.heap H locs → lv_has ls 9 [(0, ek_r G q0.2.1), (1, ek_r G q0.2.2.1), (2, ek_r G q0.2.2.2.1), (3, .int q0.2.2.2.2.1), (4, .long q0.2.2.2.2.2.1), (6, .int q0.2.2.2.2.2.2)] → W p l e ({ frames := 1, cells := 0, slots := 0, locals := 22 } : Room) s m args below meth c H locs 0 0 (MQ below (ek_Q G kd none q) args s 0 0 (ek_A G kd)) (F0 m 19 ls []) :=
  ek_lp_ind (fun k hk q0 hf => fun H locs ls hw hS hl => wNa_setProduct_19 X hk7 hk hf hw hS hl) n
set_option maxHeartbeats 4000000 in
set_option maxRecDepth 100000 in
theorem wNa_setProduct_7 {l : Launch} {G : ek_G} {kd : Nat → Nat} {p : Program} {e : Env} {s : State} {m : MethodId} {args : Array Value} {below : List Frame} {meth : Method} {c : Code} (X : ek_X p s m meth c args G prog_4_method_9_code 9 "ElasticKernel$Natural" none) {q : ek_St} {k7 : (ek_St × Nat × Nat × Nat × Int32) → Option (ek_St)} (hk7 : ∀ q0 : ek_St × Nat × Nat × Nat × Int32, k7 q0 = some q → ∀ (H : Heap) (locs : List Loc) (ls : Array Slot), ek_W G kd q0.1 H → va_S (ek_A G kd) s.heap H locs → lv_has ls 9 [(0, ek_r G q0.2.1), (1, ek_r G q0.2.2.1), (2, ek_r G q0.2.2.2.1), (3, .int q0.2.2.2.2)] → W p l e ({ frames := 1, cells := 0, slots := 0, locals := 22 } : Room) s m args below meth c H locs 0 0 (MQ below (ek_Q G kd none q) args s 0 0 (ek_A G kd)) (F0 m 7 ls [])) {I : ek_St} {x0 : Nat} {x1 : Nat} {x2 : Nat} {i3 : Int32} (hf : fNa_setProduct_7 kd k7 I x0 x1 x2 i3 = some q) {H : Heap} {locs : List Loc} {ls : Array Slot} (hw : ek_W G kd I H) (hS : va_S (ek_A G kd) s.heap H locs) (hl : lv_has ls 9 [(0, ek_r G x0), (1, ek_r G x1), (2, ek_r G x2), (3, .int i3)]) : W p l e ({ frames := 1, cells := 0, slots := 0, locals := 22 } : Room) s m args below meth c H locs 0 0 (MQ below (ek_Q G kd none q) args s 0 0 (ek_A G kd)) (F0 m 7 ls []) := by
  obtain ⟨hx, hb, hml, hown, hts, hr, hlocks, hK⟩ := id X
  have hA : ∀ q, ek_A G kd q → ek_A G kd q := fun _ h => h
  unfold fNa_setProduct_7 at hf
  refine lv_iload_n hx hb dNa_setProduct_7 rfl (lv_at hl 3 rfl) ?_
  refine lv_bipush (v := (16 : Int32)) hx hb dNa_setProduct_8 (by decide) ?_
  refine lv_icmp_ge (tgt := 95) hx hb dNa_setProduct_10 (by decide) (fun c1 => ?_) (fun c1 => ?_)
  · have hf := ek_t c1 hf
    exact ek_vret hx hb hr hlocks hw hS hf dNa_setProduct_95
  · have hf := ek_f c1 hf
    refine lv_lconst (v := (0 : Int64)) hx hb dNa_setProduct_13 (by decide) ?_
    refine ek_lstore (lv' := [(4, .long ((0 : Int64))), (3, .int i3), (0, ek_r G x0), (1, ek_r G x1), (2, ek_r G x2)]) hx hb dNa_setProduct_14 hl (by decide) (ek_s2k 3 rfl rfl rfl rfl rfl) (fun ls hl => ?_)
    refine lv_iconst (v := (0 : Int32)) hx hb dNa_setProduct_16 (by decide) ?_
    refine ek_istore (lv' := [(6, .int ((0 : Int32))), (4, .long ((0 : Int64))), (3, .int i3), (0, ek_r G x0), (1, ek_r G x1), (2, ek_r G x2)]) hx hb dNa_setProduct_17 hl (by decide) (ek_s1 rfl rfl) (fun ls hl => ?_)
    exact wNa_setProduct_19_lp X hk7 ek_N (I, x0, x1, x2, i3, (0 : Int64), (0 : Int32)) hf _ _ _ hw hS (lv_sub hl [3, 4, 5, 2, 1, 0] rfl)
set_option maxHeartbeats 4000000 in
set_option maxRecDepth 100000 in
theorem wNa_setProduct_7_lp {l : Launch} {G : ek_G} {kd : Nat → Nat} {p : Program} {e : Env} {s : State} {m : MethodId} {args : Array Value} {below : List Frame} {meth : Method} {c : Code} (X : ek_X p s m meth c args G prog_4_method_9_code 9 "ElasticKernel$Natural" none) {q : ek_St} (n : Nat) : ∀ q0 : ek_St × Nat × Nat × Nat × Int32, ek_lp (fun (k : (ek_St × Nat × Nat × Nat × Int32) → Option (ek_St)) (q : (ek_St × Nat × Nat × Nat × Int32)) => fNa_setProduct_7 kd k q.1 q.2.1 q.2.2.1 q.2.2.2.1 q.2.2.2.2) n q0 = some q → ∀ (H : Heap) (locs : List Loc) (ls : Array Slot), ek_W G kd q0.1 H → va_S (ek_A G kd) s.heap H locs → lv_has ls 9 [(0, ek_r G q0.2.1), (1, ek_r G q0.2.2.1), (2, ek_r G q0.2.2.2.1), (3, .int q0.2.2.2.2)] → W p l e ({ frames := 1, cells := 0, slots := 0, locals := 22 } : Room) s m args below meth c H locs 0 0 (MQ below (ek_Q G kd none q) args s 0 0 (ek_A G kd)) (F0 m 7 ls []) :=
  ek_lp_ind (fun k hk q0 hf => fun H locs ls hw hS hl => wNa_setProduct_7 X hk hf hw hS hl) n
set_option maxHeartbeats 4000000 in
set_option maxRecDepth 100000 in
theorem wNa_setProduct_0 {l : Launch} {G : ek_G} {kd : Nat → Nat} {p : Program} {e : Env} {s : State} {m : MethodId} {args : Array Value} {below : List Frame} {meth : Method} {c : Code} (X : ek_X p s m meth c args G prog_4_method_9_code 9 "ElasticKernel$Natural" none) {q : ek_St} {I : ek_St} {x0 : Nat} {x1 : Nat} {x2 : Nat} (hf : fNa_setProduct_0 kd I x0 x1 x2 = some q) {H : Heap} {locs : List Loc} {ls : Array Slot} (hw : ek_W G kd I H) (hS : va_S (ek_A G kd) s.heap H locs) (hl : lv_has ls 9 [(0, ek_r G x0), (1, ek_r G x1), (2, ek_r G x2)]) : W p l e ({ frames := 1, cells := 0, slots := 0, locals := 22 } : Room) s m args below meth c H locs 0 0 (MQ below (ek_Q G kd none q) args s 0 0 (ek_A G kd)) (F0 m 0 ls []) := by
  obtain ⟨hx, hb, hml, hown, hts, hr, hlocks, hK⟩ := id X
  have hA : ∀ q, ek_A G kd q → ek_A G kd q := fun _ h => h
  unfold fNa_setProduct_0 at hf
  refine ek_aload_n hx hb dNa_setProduct_0 rfl (lv_at hl 0 rfl) ?_
  refine lv_iconst (v := (0 : Int32)) hx hb dNa_setProduct_1 (by decide) ?_
  obtain ⟨hx2, hf⟩ := ek_ck_s hf
  refine ek_cv hf hS hA (fun I' hq => ek_rV (As := [.int ((0 : Int32))]) ⟨hx, hb, hml, hown, hts⟩ hK hw 3 rfl (by decide) (by decide) hx2 (mNa_set hq) (cwV 1 hts (lw_V q_346 q_55 q_56 q_5 q_57) rfl rfl rfl (by decide +kernel) ⟨Nat.le_of_ble_eq_true rfl, Nat.le_of_ble_eq_true rfl⟩) rfl hl.1 rfl (Nat.le_of_ble_eq_true rfl) dNa_setProduct_2 ⟨Nat.zero_le _, Nat.zero_le _⟩) (fun I1 H locs hf hw hS => ?_)
  refine lv_iconst (v := (0 : Int32)) hx hb dNa_setProduct_5 (by decide) ?_
  refine ek_istore_n (lv' := [(3, .int ((0 : Int32))), (2, ek_r G x2), (0, ek_r G x0), (1, ek_r G x1)]) hx hb dNa_setProduct_6 rfl hl (by decide) (ek_s1k 2 rfl rfl ek_r_cat rfl rfl) (fun ls hl => ?_)
  exact wNa_setProduct_7_lp X ek_N (I1, x0, x1, x2, (0 : Int32)) hf _ _ _ hw hS (lv_sub hl [2, 3, 1, 0] rfl)
set_option maxHeartbeats 4000000 in
set_option maxRecDepth 100000 in
theorem mNa_setProduct {l : Launch} {G : ek_G} {kd : Nat → Nat} {I : ek_St} {x0 : Nat} {x1 : Nat} {x2 : Nat} {q : ek_St} (hf : fNa_setProduct kd I x0 x1 x2 = some q) : ek_M l G kd y_Na_setProduct (.code y_Na_setProduct prog_4_method_9_code 9 none :: lw_g) ({ frames := 1, cells := 0, slots := 0, locals := 22 } : Room) [ek_r G x0, ek_r G x1, ek_r G x2] I none q :=
  ek_body [(0, ek_r G x0), (1, ek_r G x1), (2, ek_r G x2)] (by decide) (by simp [lg_sl, ek_r_cat, ek_c_i, ek_c_l]) (by simp [lv_args, ek_r_cat, ek_c_i, ek_c_l]) (fun p e s m below meth c ls X hw hS hl => wNa_setProduct_0 X hf hw hS hl)
