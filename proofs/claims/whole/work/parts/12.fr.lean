/-! ElasticKernel$Fraction.compare(JJ)I -/
def fFr_compare_0 (kd : Nat → Nat) (I : ek_St) (x0 : Nat) (j1 : Int64) (j3 : Int64) : Option (ek_St × Int32) :=
  ek_ck (kd x0 = 2) (ek_ck (kd x0 = 2) (ek_bi (fNa_compareProducts kd I (x0 + 1) j3 (x0 + 3) j1) (fun I1 ir2 => some (I1, ir2))))
def fFr_compare (kd : Nat → Nat) (I : ek_St) (x0 : Nat) (j1 : Int64) (j3 : Int64) : Option (ek_St × Int32) := fFr_compare_0 kd I x0 j1 j3
theorem dFr_compare_0 : decode prog_3_method_6_code 0 = .ok (.aload_n 0, 1) := by decide +kernel
theorem dFr_compare_1 : decode prog_3_method_6_code 1 = .ok (.getfield 10, 3) := by decide +kernel
theorem dFr_compare_4 : decode prog_3_method_6_code 4 = .ok (.lload_n 3, 1) := by decide +kernel
theorem dFr_compare_5 : decode prog_3_method_6_code 5 = .ok (.aload_n 0, 1) := by decide +kernel
theorem dFr_compare_6 : decode prog_3_method_6_code 6 = .ok (.getfield 16, 3) := by decide +kernel
theorem dFr_compare_9 : decode prog_3_method_6_code 9 = .ok (.lload_n 1, 1) := by decide +kernel
theorem dFr_compare_10 : decode prog_3_method_6_code 10 = .ok (.invokestatic 45, 3) := by decide +kernel
theorem dFr_compare_13 : decode prog_3_method_6_code 13 = .ok (.ireturn, 1) := by decide +kernel
set_option maxHeartbeats 4000000 in
set_option maxRecDepth 100000 in
theorem wFr_compare_0 {l : Launch} {G : ek_G} {kd : Nat → Nat} {p : Program} {e : Env} {s : State} {m : MethodId} {args : Array Value} {below : List Frame} {meth : Method} {c : Code} (X : ek_X p s m meth c args G prog_3_method_6_code 5 "ElasticKernel$Fraction" (some .int)) {q : ek_St × Int32} {I : ek_St} {x0 : Nat} {j1 : Int64} {j3 : Int64} (hf : fFr_compare_0 kd I x0 j1 j3 = some q) {H : Heap} {locs : List Loc} {ls : Array Slot} (hw : ek_W G kd I H) (hS : va_S (ek_A G kd) s.heap H locs) (hl : lv_has ls 5 [(0, ek_r G x0), (1, .long j1), (3, .long j3)]) : W p l e ({ frames := 1, cells := 0, slots := 0, locals := 32 } : Room) s m args below meth c H locs 0 0 (MQ below (ek_Q G kd (some (.int q.2)) q.1) args s 0 0 (ek_A G kd)) (F0 m 0 ls []) := by
  obtain ⟨hx, hb, hml, hown, hts, hr, hlocks, hK⟩ := id X
  have hA : ∀ q, ek_A G kd q → ek_A G kd q := fun _ h => h
  unfold fFr_compare_0 at hf
  refine ek_aload_n hx hb dFr_compare_0 rfl (lv_at hl 0 rfl) ?_
  refine ek_getr hx hb 2 hts (in_Fr) hown hK hw rfl (by decide) (by decide) 0 (by decide) (n := 0) rfl rfl (hts _ q_59) hf dFr_compare_1 (fun hf => ?_)
  refine lv_lload_n hx hb dFr_compare_4 rfl (lv_at hl 2 rfl) ?_
  refine ek_aload_n hx hb dFr_compare_5 rfl (lv_at hl 0 rfl) ?_
  refine ek_getr hx hb 2 hts (in_Fr) hown hK hw rfl (by decide) (by decide) 1 (by decide) (n := 2) rfl rfl (hts _ q_63) hf dFr_compare_6 (fun hf => ?_)
  refine lv_lload_n hx hb dFr_compare_9 rfl (lv_at hl 1 rfl) ?_
  refine ek_ci hf hS hA (fun I' v hq => ek_rS (As := [ek_r G (x0 + 1), .long j3, ek_r G (x0 + 3), .long j1]) ⟨hx, hb, hml, hown, hts⟩ hK hw (mNa_compareProducts hq) (ek_cwS 4 hts q_288 q_289 q_5 q_290 (by decide +kernel) ⟨Nat.le_of_ble_eq_true rfl, Nat.le_of_ble_eq_true rfl⟩) rfl hl.1 rfl (Nat.le_of_ble_eq_true rfl) dFr_compare_10 ⟨Nat.zero_le _, Nat.zero_le _⟩) (fun I1 ir2 H locs hf hw hS => ?_)
  exact ek_iret hx hb hr hlocks hw hS hf dFr_compare_13
set_option maxHeartbeats 4000000 in
set_option maxRecDepth 100000 in
theorem mFr_compare {l : Launch} {G : ek_G} {kd : Nat → Nat} {I : ek_St} {x0 : Nat} {j1 : Int64} {j3 : Int64} {q : ek_St × Int32} (hf : fFr_compare kd I x0 j1 j3 = some q) : ek_M l G kd y_Fr_compare (.code y_Fr_compare prog_3_method_6_code 5 (some .int) :: lw_g) ({ frames := 1, cells := 0, slots := 0, locals := 32 } : Room) [ek_r G x0, .long j1, .long j3] I (some (.int q.2)) q.1 :=
  ek_body [(0, ek_r G x0), (1, .long j1), (3, .long j3)] (by decide) (by simp [lg_sl, ek_r_cat, ek_c_i, ek_c_l]) (by simp [lv_args, ek_r_cat, ek_c_i, ek_c_l]) (fun p e s m below meth c ls X hw hS hl => wFr_compare_0 X hf hw hS hl)
/-! ElasticKernel$Fraction.commonFactor(II)I -/
def fFr_commonFactor_35 (kd : Nat → Nat) (I : ek_St) (i2 : Int32) : Option (ek_St × Int32) :=
  some (I, if ((1 : Int32)) < i2 then i2 else ((1 : Int32)))
def fFr_commonFactor_7 (kd : Nat → Nat) (k7 : (ek_St × Int32 × Int32 × Int32) → Option (ek_St × Int32)) (I : ek_St) (i2 : Int32) (i3 : Int32) (i4 : Int32) : Option (ek_St × Int32) :=
  if ((384 : Int32)) ≤ i4 then (fFr_commonFactor_35 kd I i2) else (if i3 = ((0 : Int32)) then (fFr_commonFactor_35 kd I i2) else (ek_ck (¬ i3 = (0 : Int32)) (ek_let (i2 - i2 / i3 * i3) (fun i5_3 => ek_let (i4 + (1 : Int32)) (fun i4_4 => k7 (I, i3, i5_3, i4_4))))))
def fFr_commonFactor_0 (kd : Nat → Nat) (I : ek_St) (i0 : Int32) (i1 : Int32) : Option (ek_St × Int32) :=
  ek_lp (fun (k : (ek_St × Int32 × Int32 × Int32) → Option (ek_St × Int32)) (q : (ek_St × Int32 × Int32 × Int32)) => fFr_commonFactor_7 kd k q.1 q.2.1 q.2.2.1 q.2.2.2) ek_N (I, i0, i1, (0 : Int32))
def fFr_commonFactor (kd : Nat → Nat) (I : ek_St) (i0 : Int32) (i1 : Int32) : Option (ek_St × Int32) := fFr_commonFactor_0 kd I i0 i1
theorem dFr_commonFactor_0 : decode prog_3_method_8_code 0 = .ok (.iload_n 0, 1) := by decide +kernel
theorem dFr_commonFactor_1 : decode prog_3_method_8_code 1 = .ok (.istore_n 2, 1) := by decide +kernel
theorem dFr_commonFactor_2 : decode prog_3_method_8_code 2 = .ok (.iload_n 1, 1) := by decide +kernel
theorem dFr_commonFactor_3 : decode prog_3_method_8_code 3 = .ok (.istore_n 3, 1) := by decide +kernel
theorem dFr_commonFactor_4 : decode prog_3_method_8_code 4 = .ok (.iconst 0, 1) := by decide +kernel
theorem dFr_commonFactor_5 : decode prog_3_method_8_code 5 = .ok (.istore 4, 2) := by decide +kernel
theorem dFr_commonFactor_7 : decode prog_3_method_8_code 7 = .ok (.iload 4, 2) := by decide +kernel
theorem dFr_commonFactor_9 : decode prog_3_method_8_code 9 = .ok (.sipush 384, 3) := by decide +kernel
theorem dFr_commonFactor_12 : decode prog_3_method_8_code 12 = .ok (.if_icmp .ge 23, 3) := by decide +kernel
theorem dFr_commonFactor_15 : decode prog_3_method_8_code 15 = .ok (.iload_n 3, 1) := by decide +kernel
theorem dFr_commonFactor_16 : decode prog_3_method_8_code 16 = .ok (.ifCond .eq 19, 3) := by decide +kernel
theorem dFr_commonFactor_19 : decode prog_3_method_8_code 19 = .ok (.iload_n 2, 1) := by decide +kernel
theorem dFr_commonFactor_20 : decode prog_3_method_8_code 20 = .ok (.iload_n 3, 1) := by decide +kernel
theorem dFr_commonFactor_21 : decode prog_3_method_8_code 21 = .ok (.irem, 1) := by decide +kernel
theorem dFr_commonFactor_22 : decode prog_3_method_8_code 22 = .ok (.istore 5, 2) := by decide +kernel
theorem dFr_commonFactor_24 : decode prog_3_method_8_code 24 = .ok (.iload_n 3, 1) := by decide +kernel
theorem dFr_commonFactor_25 : decode prog_3_method_8_code 25 = .ok (.istore_n 2, 1) := by decide +kernel
theorem dFr_commonFactor_26 : decode prog_3_method_8_code 26 = .ok (.iload 5, 2) := by decide +kernel
theorem dFr_commonFactor_28 : decode prog_3_method_8_code 28 = .ok (.istore_n 3, 1) := by decide +kernel
theorem dFr_commonFactor_29 : decode prog_3_method_8_code 29 = .ok (.iinc 4 1, 3) := by decide +kernel
theorem dFr_commonFactor_32 : decode prog_3_method_8_code 32 = .ok (.goto (-25), 3) := by decide +kernel
theorem dFr_commonFactor_35 : decode prog_3_method_8_code 35 = .ok (.iconst 1, 1) := by decide +kernel
theorem dFr_commonFactor_36 : decode prog_3_method_8_code 36 = .ok (.iload_n 2, 1) := by decide +kernel
theorem dFr_commonFactor_37 : decode prog_3_method_8_code 37 = .ok (.invokestatic 58, 3) := by decide +kernel
theorem dFr_commonFactor_40 : decode prog_3_method_8_code 40 = .ok (.ireturn, 1) := by decide +kernel
set_option maxHeartbeats 4000000 in
set_option maxRecDepth 100000 in
theorem wFr_commonFactor_35 {l : Launch} {G : ek_G} {kd : Nat → Nat} {p : Program} {e : Env} {s : State} {m : MethodId} {args : Array Value} {below : List Frame} {meth : Method} {c : Code} (X : ek_X p s m meth c args G prog_3_method_8_code 6 "ElasticKernel$Fraction" (some .int)) {q : ek_St × Int32} {I : ek_St} {i2 : Int32} (hf : fFr_commonFactor_35 kd I i2 = some q) {H : Heap} {locs : List Loc} {ls : Array Slot} (hw : ek_W G kd I H) (hS : va_S (ek_A G kd) s.heap H locs) (hl : lv_has ls 6 [(2, .int i2)]) : W p l e ({ frames := 1, cells := 0, slots := 0, locals := 21 } : Room) s m args below meth c H locs 0 0 (MQ below (ek_Q G kd (some (.int q.2)) q.1) args s 0 0 (ek_A G kd)) (F0 m 35 ls []) := by
  obtain ⟨hx, hb, hml, hown, hts, hr, hlocks, hK⟩ := id X
  have hA : ∀ q, ek_A G kd q → ek_A G kd q := fun _ h => h
  unfold fFr_commonFactor_35 at hf
  refine lv_iconst (v := (1 : Int32)) hx hb dFr_commonFactor_35 (by decide) ?_
  refine lv_iload_n hx hb dFr_commonFactor_36 rfl (lv_at hl 0 rfl) ?_
  refine va_mmax hx hb (hml.trans hl.1.symm) hown (hts (.methodLink "ElasticKernel$Fraction" 58 Lib.Math.max.name) (by decide +kernel)) (hts (.static Lib.Math.max.name) (by decide +kernel)) (hts (.initialized "java/lang/Math") (by decide +kernel)) (hts (.code Lib.Math.max.name Lib.Math.max.code 2 (some .int)) (by decide +kernel)) (by decide) (ek_room13 (Nat.le_of_ble_eq_true rfl) (Nat.le_of_ble_eq_true rfl)) (Nat.zero_le _) (Nat.zero_le _) dFr_commonFactor_37 ?_
  exact ek_iret hx hb hr hlocks hw hS hf dFr_commonFactor_40
set_option maxHeartbeats 4000000 in
set_option maxRecDepth 100000 in
theorem wFr_commonFactor_7 {l : Launch} {G : ek_G} {kd : Nat → Nat} {p : Program} {e : Env} {s : State} {m : MethodId} {args : Array Value} {below : List Frame} {meth : Method} {c : Code} (X : ek_X p s m meth c args G prog_3_method_8_code 6 "ElasticKernel$Fraction" (some .int)) {q : ek_St × Int32} {k7 : (ek_St × Int32 × Int32 × Int32) → Option (ek_St × Int32)} (hk7 : ∀ q0 : ek_St × Int32 × Int32 × Int32, k7 q0 = some q → ∀ (H : Heap) (locs : List Loc) (ls : Array Slot), ek_W G kd q0.1 H → va_S (ek_A G kd) s.heap H locs → lv_has ls 6 [(2, .int q0.2.1), (3, .int q0.2.2.1), (4, .int q0.2.2.2)] → W p l e ({ frames := 1, cells := 0, slots := 0, locals := 21 } : Room) s m args below meth c H locs 0 0 (MQ below (ek_Q G kd (some (.int q.2)) q.1) args s 0 0 (ek_A G kd)) (F0 m 7 ls [])) {I : ek_St} {i2 : Int32} {i3 : Int32} {i4 : Int32} (hf : fFr_commonFactor_7 kd k7 I i2 i3 i4 = some q) {H : Heap} {locs : List Loc} {ls : Array Slot} (hw : ek_W G kd I H) (hS : va_S (ek_A G kd) s.heap H locs) (hl : lv_has ls 6 [(2, .int i2), (3, .int i3), (4, .int i4)]) : W p l e ({ frames := 1, cells := 0, slots := 0, locals := 21 } : Room) s m args below meth c H locs 0 0 (MQ below (ek_Q G kd (some (.int q.2)) q.1) args s 0 0 (ek_A G kd)) (F0 m 7 ls []) := by
  obtain ⟨hx, hb, hml, hown, hts, hr, hlocks, hK⟩ := id X
  have hA : ∀ q, ek_A G kd q → ek_A G kd q := fun _ h => h
  unfold fFr_commonFactor_7 at hf
  refine lv_iload hx hb dFr_commonFactor_7 (lv_at hl 2 rfl) ?_
  refine lv_sipush (v := (384 : Int32)) hx hb dFr_commonFactor_9 (by decide) ?_
  refine lv_icmp_ge (tgt := 35) hx hb dFr_commonFactor_12 (by decide) (fun c1 => ?_) (fun c1 => ?_)
  · have hf := ek_t c1 hf
    exact wFr_commonFactor_35 X hf hw hS (lv_sub hl [0] rfl)
  · have hf := ek_f c1 hf
    refine lv_iload_n hx hb dFr_commonFactor_15 rfl (lv_at hl 1 rfl) ?_
    refine lv_if_eq (tgt := 35) hx hb dFr_commonFactor_16 (by decide) (fun c2 => ?_) (fun c2 => ?_)
    · have hf := ek_t c2 hf
      exact wFr_commonFactor_35 X hf hw hS (lv_sub hl [0] rfl)
    · have hf := ek_f c2 hf
      refine lv_iload_n hx hb dFr_commonFactor_19 rfl (lv_at hl 0 rfl) ?_
      refine lv_iload_n hx hb dFr_commonFactor_20 rfl (lv_at hl 1 rfl) ?_
      refine ek_irem hx hb hf dFr_commonFactor_21 (fun hf => ?_)
      refine ek_ti hf (fun i5_3 hf => ?_)
      refine ek_istore (lv' := [(5, .int i5_3), (4, .int i4), (2, .int i2), (3, .int i3)]) hx hb dFr_commonFactor_22 hl (by decide) (ek_s1k 2 rfl rfl rfl rfl rfl) (fun ls hl => ?_)
      refine lv_iload_n hx hb dFr_commonFactor_24 rfl (lv_at hl 3 rfl) ?_
      refine ek_istore_n (lv' := [(2, .int i3), (5, .int i5_3), (4, .int i4), (3, .int i3)]) hx hb dFr_commonFactor_25 rfl hl (by decide) (ek_s1 rfl rfl) (fun ls hl => ?_)
      refine lv_iload hx hb dFr_commonFactor_26 (lv_at hl 1 rfl) ?_
      refine ek_istore_n (lv' := [(3, .int i5_3), (2, .int i3), (5, .int i5_3), (4, .int i4)]) hx hb dFr_commonFactor_28 rfl hl (by decide) (ek_s1k 0 rfl rfl rfl rfl rfl) (fun ls hl => ?_)
      refine ek_iinc hx hb 3 (fun i4_4 => [(4, .int i4_4), (3, .int i5_3), (2, .int i3), (5, .int i5_3)]) dFr_commonFactor_29 hl rfl (v := i4 + (1 : Int32)) rfl hf (by decide) (fun i4_4 => ek_s1k 0 rfl rfl rfl rfl rfl) (fun i4_4 ls hf hl => ?_)
      refine lv_goto (tgt := 7) hx hb dFr_commonFactor_32 (by decide) ?_
      exact hk7 (I, i3, i5_3, i4_4) hf _ _ _ hw hS (lv_sub hl [2, 1, 0] rfl)
set_option maxHeartbeats 4000000 in
set_option maxRecDepth 100000 in
theorem wFr_commonFactor_7_lp {l : Launch} {G : ek_G} {kd : Nat → Nat} {p : Program} {e : Env} {s : State} {m : MethodId} {args : Array Value} {below : List Frame} {meth : Method} {c : Code} (X : ek_X p s m meth c args G prog_3_method_8_code 6 "ElasticKernel$Fraction" (some .int)) {q : ek_St × Int32} (n : Nat) : ∀ q0 : ek_St × Int32 × Int32 × Int32, ek_lp (fun (k : (ek_St × Int32 × Int32 × Int32) → Option (ek_St × Int32)) (q : (ek_St × Int32 × Int32 × Int32)) => fFr_commonFactor_7 kd k q.1 q.2.1 q.2.2.1 q.2.2.2) n q0 = some q → ∀ (H : Heap) (locs : List Loc) (ls : Array Slot), ek_W G kd q0.1 H → va_S (ek_A G kd) s.heap H locs → lv_has ls 6 [(2, .int q0.2.1), (3, .int q0.2.2.1), (4, .int q0.2.2.2)] → W p l e ({ frames := 1, cells := 0, slots := 0, locals := 21 } : Room) s m args below meth c H locs 0 0 (MQ below (ek_Q G kd (some (.int q.2)) q.1) args s 0 0 (ek_A G kd)) (F0 m 7 ls []) :=
  ek_lp_ind (fun k hk q0 hf => fun H locs ls hw hS hl => wFr_commonFactor_7 X hk hf hw hS hl) n
set_option maxHeartbeats 4000000 in
set_option maxRecDepth 100000 in
theorem wFr_commonFactor_0 {l : Launch} {G : ek_G} {kd : Nat → Nat} {p : Program} {e : Env} {s : State} {m : MethodId} {args : Array Value} {below : List Frame} {meth : Method} {c : Code} (X : ek_X p s m meth c args G prog_3_method_8_code 6 "ElasticKernel$Fraction" (some .int)) {q : ek_St × Int32} {I : ek_St} {i0 : Int32} {i1 : Int32} (hf : fFr_commonFactor_0 kd I i0 i1 = some q) {H : Heap} {locs : List Loc} {ls : Array Slot} (hw : ek_W G kd I H) (hS : va_S (ek_A G kd) s.heap H locs) (hl : lv_has ls 6 [(0, .int i0), (1, .int i1)]) : W p l e ({ frames := 1, cells := 0, slots := 0, locals := 21 } : Room) s m args below meth c H locs 0 0 (MQ below (ek_Q G kd (some (.int q.2)) q.1) args s 0 0 (ek_A G kd)) (F0 m 0 ls []) := by
  obtain ⟨hx, hb, hml, hown, hts, hr, hlocks, hK⟩ := id X
  have hA : ∀ q, ek_A G kd q → ek_A G kd q := fun _ h => h
  unfold fFr_commonFactor_0 at hf
  refine lv_iload_n hx hb dFr_commonFactor_0 rfl (lv_at hl 0 rfl) ?_
  refine ek_istore_n (lv' := [(2, .int i0), (1, .int i1), (0, .int i0)]) hx hb dFr_commonFactor_1 rfl hl (by decide) (ek_s1k 1 rfl rfl rfl rfl rfl) (fun ls hl => ?_)
  refine lv_iload_n hx hb dFr_commonFactor_2 rfl (lv_at hl 1 rfl) ?_
  refine ek_istore_n (lv' := [(3, .int i1), (2, .int i0), (1, .int i1), (0, .int i0)]) hx hb dFr_commonFactor_3 rfl hl (by decide) (ek_s1k 0 rfl rfl rfl rfl rfl) (fun ls hl => ?_)
  refine lv_iconst (v := (0 : Int32)) hx hb dFr_commonFactor_4 (by decide) ?_
  refine ek_istore (lv' := [(4, .int ((0 : Int32))), (3, .int i1), (2, .int i0), (1, .int i1), (0, .int i0)]) hx hb dFr_commonFactor_5 hl (by decide) (ek_s1k 0 rfl rfl rfl rfl rfl) (fun ls hl => ?_)
  exact wFr_commonFactor_7_lp X ek_N (I, i0, i1, (0 : Int32)) hf _ _ _ hw hS (lv_sub hl [2, 1, 0] rfl)
set_option maxHeartbeats 4000000 in
set_option maxRecDepth 100000 in
theorem mFr_commonFactor {l : Launch} {G : ek_G} {kd : Nat → Nat} {I : ek_St} {i0 : Int32} {i1 : Int32} {q : ek_St × Int32} (hf : fFr_commonFactor kd I i0 i1 = some q) : ek_M l G kd y_Fr_commonFactor (.code y_Fr_commonFactor prog_3_method_8_code 6 (some .int) :: lw_g) ({ frames := 1, cells := 0, slots := 0, locals := 21 } : Room) [.int i0, .int i1] I (some (.int q.2)) q.1 :=
  ek_body [(0, .int i0), (1, .int i1)] (by decide) (by simp [lg_sl, ek_r_cat, ek_c_i, ek_c_l]) (by simp [lv_args, ek_r_cat, ek_c_i, ek_c_l]) (fun p e s m below meth c ls X hw hS hl => wFr_commonFactor_0 X hf hw hS hl)
/-! ElasticKernel$Fraction.join(III)V -/
def fFr_join_0 (kd : Nat → Nat) (I : ek_St) (x0 : Nat) (i1 : Int32) (i2 : Int32) (i3 : Int32) : Option (ek_St) :=
  ek_bi (fFr_commonFactor kd I (if (0 : Int32) ≤ i2 then i2 else (0 : Int32) - i2) i3) (fun I1 ir2 => ek_ck (¬ ir2 = (0 : Int32)) (ek_let (i2 / ir2) (fun i5_3 => ek_ck (¬ ir2 = (0 : Int32)) (ek_let (i3 / ir2) (fun i6_4 => ek_ck (kd x0 = 2) (ek_ck (kd (x0 + 3) = 3) (ek_bi (fNa_remainder kd I1 (x0 + 3) i6_4) (fun I5 ir7 => ek_bi (fFr_commonFactor kd I5 i6_4 ir7) (fun I8 ir9 => ek_ck (kd x0 = 2) (ek_ck (kd (x0 + 3) = 3) (ek_bv (fNa_divideExactly kd I8 (x0 + 3) ir9) (fun I10 => ek_ck (kd x0 = 2) (ek_ck (¬ ir9 = (0 : Int32)) (ek_ck (kd x0 = 2) (ek_ck (kd (x0 + 1) = 3) (ek_bv (fNa_weigh kd I10 (x0 + 1) ((Int32.toInt64 i1) * (Int32.toInt64 (i6_4 / ir9))) (x0 + 3) (Int32.toInt64 i5_3)) (fun I12 => ek_ck (kd x0 = 2) (ek_ck (kd (x0 + 1) = 3) (ek_bi (fNa_remainder kd I12 (x0 + 1) ir9) (fun I14 ir16 => ek_bi (fFr_commonFactor kd I14 ir9 ir16) (fun I17 ir18 => ek_ck (kd x0 = 2) (ek_ck (kd (x0 + 1) = 3) (ek_bv (fNa_divideExactly kd I17 (x0 + 1) ir18) (fun I19 => ek_ck (kd x0 = 2) (ek_ck (¬ ir18 = (0 : Int32)) (ek_ck (kd (x0 + 3) = 3) (ek_bv (fNa_multiply kd I19 (x0 + 3) (i6_4 / ir18)) (fun I21 => some I21))))))))))))))))))))))))))))
def fFr_join (kd : Nat → Nat) (I : ek_St) (x0 : Nat) (i1 : Int32) (i2 : Int32) (i3 : Int32) : Option (ek_St) := fFr_join_0 kd I x0 i1 i2 i3
theorem dFr_join_0 : decode prog_3_method_7_code 0 = .ok (.iload_n 2, 1) := by decide +kernel
theorem dFr_join_1 : decode prog_3_method_7_code 1 = .ok (.invokestatic 49, 3) := by decide +kernel
theorem dFr_join_4 : decode prog_3_method_7_code 4 = .ok (.iload_n 3, 1) := by decide +kernel
theorem dFr_join_5 : decode prog_3_method_7_code 5 = .ok (.invokestatic 23, 3) := by decide +kernel
theorem dFr_join_8 : decode prog_3_method_7_code 8 = .ok (.istore 4, 2) := by decide +kernel
theorem dFr_join_10 : decode prog_3_method_7_code 10 = .ok (.iload_n 2, 1) := by decide +kernel
theorem dFr_join_11 : decode prog_3_method_7_code 11 = .ok (.iload 4, 2) := by decide +kernel
theorem dFr_join_13 : decode prog_3_method_7_code 13 = .ok (.idiv, 1) := by decide +kernel
theorem dFr_join_14 : decode prog_3_method_7_code 14 = .ok (.istore 5, 2) := by decide +kernel
theorem dFr_join_16 : decode prog_3_method_7_code 16 = .ok (.iload_n 3, 1) := by decide +kernel
theorem dFr_join_17 : decode prog_3_method_7_code 17 = .ok (.iload 4, 2) := by decide +kernel
theorem dFr_join_19 : decode prog_3_method_7_code 19 = .ok (.idiv, 1) := by decide +kernel
theorem dFr_join_20 : decode prog_3_method_7_code 20 = .ok (.istore 6, 2) := by decide +kernel
theorem dFr_join_22 : decode prog_3_method_7_code 22 = .ok (.iload 6, 2) := by decide +kernel
theorem dFr_join_24 : decode prog_3_method_7_code 24 = .ok (.aload_n 0, 1) := by decide +kernel
theorem dFr_join_25 : decode prog_3_method_7_code 25 = .ok (.getfield 16, 3) := by decide +kernel
theorem dFr_join_28 : decode prog_3_method_7_code 28 = .ok (.iload 6, 2) := by decide +kernel
theorem dFr_join_30 : decode prog_3_method_7_code 30 = .ok (.invokevirtual 35, 3) := by decide +kernel
theorem dFr_join_33 : decode prog_3_method_7_code 33 = .ok (.invokestatic 23, 3) := by decide +kernel
theorem dFr_join_36 : decode prog_3_method_7_code 36 = .ok (.istore 7, 2) := by decide +kernel
theorem dFr_join_38 : decode prog_3_method_7_code 38 = .ok (.aload_n 0, 1) := by decide +kernel
theorem dFr_join_39 : decode prog_3_method_7_code 39 = .ok (.getfield 16, 3) := by decide +kernel
theorem dFr_join_42 : decode prog_3_method_7_code 42 = .ok (.iload 7, 2) := by decide +kernel
theorem dFr_join_44 : decode prog_3_method_7_code 44 = .ok (.invokevirtual 39, 3) := by decide +kernel
theorem dFr_join_47 : decode prog_3_method_7_code 47 = .ok (.aload_n 0, 1) := by decide +kernel
theorem dFr_join_48 : decode prog_3_method_7_code 48 = .ok (.getfield 10, 3) := by decide +kernel
theorem dFr_join_51 : decode prog_3_method_7_code 51 = .ok (.iload_n 1, 1) := by decide +kernel
theorem dFr_join_52 : decode prog_3_method_7_code 52 = .ok (.i2l, 1) := by decide +kernel
theorem dFr_join_53 : decode prog_3_method_7_code 53 = .ok (.iload 6, 2) := by decide +kernel
theorem dFr_join_55 : decode prog_3_method_7_code 55 = .ok (.iload 7, 2) := by decide +kernel
theorem dFr_join_57 : decode prog_3_method_7_code 57 = .ok (.idiv, 1) := by decide +kernel
theorem dFr_join_58 : decode prog_3_method_7_code 58 = .ok (.i2l, 1) := by decide +kernel
theorem dFr_join_59 : decode prog_3_method_7_code 59 = .ok (.lmul, 1) := by decide +kernel
theorem dFr_join_60 : decode prog_3_method_7_code 60 = .ok (.aload_n 0, 1) := by decide +kernel
theorem dFr_join_61 : decode prog_3_method_7_code 61 = .ok (.getfield 16, 3) := by decide +kernel
theorem dFr_join_64 : decode prog_3_method_7_code 64 = .ok (.iload 5, 2) := by decide +kernel
theorem dFr_join_66 : decode prog_3_method_7_code 66 = .ok (.i2l, 1) := by decide +kernel
theorem dFr_join_67 : decode prog_3_method_7_code 67 = .ok (.invokevirtual 54, 3) := by decide +kernel
theorem dFr_join_70 : decode prog_3_method_7_code 70 = .ok (.iload 7, 2) := by decide +kernel
theorem dFr_join_72 : decode prog_3_method_7_code 72 = .ok (.aload_n 0, 1) := by decide +kernel
theorem dFr_join_73 : decode prog_3_method_7_code 73 = .ok (.getfield 10, 3) := by decide +kernel
theorem dFr_join_76 : decode prog_3_method_7_code 76 = .ok (.iload 7, 2) := by decide +kernel
theorem dFr_join_78 : decode prog_3_method_7_code 78 = .ok (.invokevirtual 35, 3) := by decide +kernel
theorem dFr_join_81 : decode prog_3_method_7_code 81 = .ok (.invokestatic 23, 3) := by decide +kernel
theorem dFr_join_84 : decode prog_3_method_7_code 84 = .ok (.istore 8, 2) := by decide +kernel
theorem dFr_join_86 : decode prog_3_method_7_code 86 = .ok (.aload_n 0, 1) := by decide +kernel
theorem dFr_join_87 : decode prog_3_method_7_code 87 = .ok (.getfield 10, 3) := by decide +kernel
theorem dFr_join_90 : decode prog_3_method_7_code 90 = .ok (.iload 8, 2) := by decide +kernel
theorem dFr_join_92 : decode prog_3_method_7_code 92 = .ok (.invokevirtual 39, 3) := by decide +kernel
theorem dFr_join_95 : decode prog_3_method_7_code 95 = .ok (.aload_n 0, 1) := by decide +kernel
theorem dFr_join_96 : decode prog_3_method_7_code 96 = .ok (.getfield 16, 3) := by decide +kernel
theorem dFr_join_99 : decode prog_3_method_7_code 99 = .ok (.iload 6, 2) := by decide +kernel
theorem dFr_join_101 : decode prog_3_method_7_code 101 = .ok (.iload 8, 2) := by decide +kernel
theorem dFr_join_103 : decode prog_3_method_7_code 103 = .ok (.idiv, 1) := by decide +kernel
theorem dFr_join_104 : decode prog_3_method_7_code 104 = .ok (.invokevirtual 42, 3) := by decide +kernel
theorem dFr_join_107 : decode prog_3_method_7_code 107 = .ok (.return_, 1) := by decide +kernel
set_option maxHeartbeats 4000000 in
set_option maxRecDepth 100000 in
theorem wFr_join_0 {l : Launch} {G : ek_G} {kd : Nat → Nat} {p : Program} {e : Env} {s : State} {m : MethodId} {args : Array Value} {below : List Frame} {meth : Method} {c : Code} (X : ek_X p s m meth c args G prog_3_method_7_code 9 "ElasticKernel$Fraction" none) {q : ek_St} {I : ek_St} {x0 : Nat} {i1 : Int32} {i2 : Int32} {i3 : Int32} (hf : fFr_join_0 kd I x0 i1 i2 i3 = some q) {H : Heap} {locs : List Loc} {ls : Array Slot} (hw : ek_W G kd I H) (hS : va_S (ek_A G kd) s.heap H locs) (hl : lv_has ls 9 [(0, ek_r G x0), (1, .int i1), (2, .int i2), (3, .int i3)]) : W p l e ({ frames := 2, cells := 0, slots := 0, locals := 51 } : Room) s m args below meth c H locs 0 0 (MQ below (ek_Q G kd none q) args s 0 0 (ek_A G kd)) (F0 m 0 ls []) := by
  obtain ⟨hx, hb, hml, hown, hts, hr, hlocks, hK⟩ := id X
  have hA : ∀ q, ek_A G kd q → ek_A G kd q := fun _ h => h
  unfold fFr_join_0 at hf
  refine lv_iload_n hx hb dFr_join_0 rfl (lv_at hl 2 rfl) ?_
  refine va_mabs hx hb (hml.trans hl.1.symm) hown (hts (.methodLink "ElasticKernel$Fraction" 49 Lib.Math.abs.name) (by decide +kernel)) (hts (.static Lib.Math.abs.name) (by decide +kernel)) (hts (.initialized "java/lang/Math") (by decide +kernel)) (hts (.code Lib.Math.abs.name Lib.Math.abs.code 1 (some .int)) (by decide +kernel)) (by decide) (ek_room13 (Nat.le_of_ble_eq_true rfl) (Nat.le_of_ble_eq_true rfl)) (Nat.zero_le _) (Nat.zero_le _) dFr_join_1 ?_
  refine lv_iload_n hx hb dFr_join_4 rfl (lv_at hl 3 rfl) ?_
  refine ek_ci hf hS hA (fun I' v hq => ek_rS (As := [.int (if (0 : Int32) ≤ i2 then i2 else (0 : Int32) - i2), .int i3]) ⟨hx, hb, hml, hown, hts⟩ hK hw (mFr_commonFactor hq) (ek_cwS 2 hts q_252 q_253 q_4 q_254 (by decide +kernel) ⟨Nat.le_of_ble_eq_true rfl, Nat.le_of_ble_eq_true rfl⟩) rfl hl.1 rfl (Nat.le_of_ble_eq_true rfl) dFr_join_5 ⟨Nat.zero_le _, Nat.zero_le _⟩) (fun I1 ir2 H locs hf hw hS => ?_)
  refine ek_istore (lv' := [(4, .int ir2), (3, .int i3), (0, ek_r G x0), (1, .int i1), (2, .int i2)]) hx hb dFr_join_8 hl (by decide) (ek_s1k 3 rfl rfl rfl rfl rfl) (fun ls hl => ?_)
  refine lv_iload_n hx hb dFr_join_10 rfl (lv_at hl 4 rfl) ?_
  refine lv_iload hx hb dFr_join_11 (lv_at hl 0 rfl) ?_
  refine ek_idiv hx hb hf dFr_join_13 (fun hf => ?_)
  refine ek_ti hf (fun i5_3 hf => ?_)
  refine ek_istore (lv' := [(5, .int i5_3), (4, .int ir2), (3, .int i3), (0, ek_r G x0), (1, .int i1), (2, .int i2)]) hx hb dFr_join_14 hl (by decide) (ek_s1k 0 rfl rfl rfl rfl rfl) (fun ls hl => ?_)
  refine lv_iload_n hx hb dFr_join_16 rfl (lv_at hl 2 rfl) ?_
  refine lv_iload hx hb dFr_join_17 (lv_at hl 1 rfl) ?_
  refine ek_idiv hx hb hf dFr_join_19 (fun hf => ?_)
  refine ek_ti hf (fun i6_4 hf => ?_)
  refine ek_istore (lv' := [(6, .int i6_4), (5, .int i5_3), (4, .int ir2), (3, .int i3), (0, ek_r G x0), (1, .int i1), (2, .int i2)]) hx hb dFr_join_20 hl (by decide) (ek_s1k 0 rfl rfl rfl rfl rfl) (fun ls hl => ?_)
  refine lv_iload hx hb dFr_join_22 (lv_at hl 0 rfl) ?_
  refine ek_aload_n hx hb dFr_join_24 rfl (lv_at hl 4 rfl) ?_
  refine ek_getr hx hb 2 hts (in_Fr) hown hK hw rfl (by decide) (by decide) 1 (by decide) (n := 2) rfl rfl (hts _ q_63) hf dFr_join_25 (fun hf => ?_)
  refine lv_iload hx hb dFr_join_28 (lv_at hl 0 rfl) ?_
  obtain ⟨hx6, hf⟩ := ek_ck_s hf
  refine ek_ci hf hS hA (fun I' v hq => ek_rV (As := [.int i6_4]) ⟨hx, hb, hml, hown, hts⟩ hK hw 3 rfl (by decide) (by decide) hx6 (mNa_remainder hq) (cwV 1 hts (lw_V q_265 q_266 q_267 q_5 q_268) rfl rfl rfl (by decide +kernel) ⟨Nat.le_of_ble_eq_true rfl, Nat.le_of_ble_eq_true rfl⟩) rfl hl.1 rfl (Nat.le_of_ble_eq_true rfl) dFr_join_30 ⟨Nat.zero_le _, Nat.zero_le _⟩) (fun I5 ir7 H locs hf hw hS => ?_)
  refine ek_ci hf hS hA (fun I' v hq => ek_rS (As := [.int i6_4, .int ir7]) ⟨hx, hb, hml, hown, hts⟩ hK hw (mFr_commonFactor hq) (ek_cwS 2 hts q_252 q_253 q_4 q_254 (by decide +kernel) ⟨Nat.le_of_ble_eq_true rfl, Nat.le_of_ble_eq_true rfl⟩) rfl hl.1 rfl (Nat.le_of_ble_eq_true rfl) dFr_join_33 ⟨Nat.zero_le _, Nat.zero_le _⟩) (fun I8 ir9 H locs hf hw hS => ?_)
  refine ek_istore (lv' := [(7, .int ir9), (6, .int i6_4), (5, .int i5_3), (4, .int ir2), (3, .int i3), (0, ek_r G x0), (1, .int i1), (2, .int i2)]) hx hb dFr_join_36 hl (by decide) (ek_s1k 0 rfl rfl rfl rfl rfl) (fun ls hl => ?_)
  refine ek_aload_n hx hb dFr_join_38 rfl (lv_at hl 5 rfl) ?_
  refine ek_getr hx hb 2 hts (in_Fr) hown hK hw rfl (by decide) (by decide) 1 (by decide) (n := 2) rfl rfl (hts _ q_63) hf dFr_join_39 (fun hf => ?_)
  refine lv_iload hx hb dFr_join_42 (lv_at hl 0 rfl) ?_
  obtain ⟨hx11, hf⟩ := ek_ck_s hf
  refine ek_cv hf hS hA (fun I' hq => ek_rV (As := [.int ir9]) ⟨hx, hb, hml, hown, hts⟩ hK hw 3 rfl (by decide) (by decide) hx11 (mNa_divideExactly hq) (cwV 1 hts (lw_V q_269 q_270 q_271 q_5 q_272) rfl rfl rfl (by decide +kernel) ⟨Nat.le_of_ble_eq_true rfl, Nat.le_of_ble_eq_true rfl⟩) rfl hl.1 rfl (Nat.le_of_ble_eq_true rfl) dFr_join_44 ⟨Nat.zero_le _, Nat.zero_le _⟩) (fun I10 H locs hf hw hS => ?_)
  refine ek_aload_n hx hb dFr_join_47 rfl (lv_at hl 5 rfl) ?_
  refine ek_getr hx hb 2 hts (in_Fr) hown hK hw rfl (by decide) (by decide) 0 (by decide) (n := 0) rfl rfl (hts _ q_59) hf dFr_join_48 (fun hf => ?_)
  refine lv_iload_n hx hb dFr_join_51 rfl (lv_at hl 6 rfl) ?_
  refine lv_i2l hx hb dFr_join_52 rfl ?_
  refine lv_iload hx hb dFr_join_53 (lv_at hl 1 rfl) ?_
  refine lv_iload hx hb dFr_join_55 (lv_at hl 0 rfl) ?_
  refine ek_idiv hx hb hf dFr_join_57 (fun hf => ?_)
  refine lv_i2l hx hb dFr_join_58 rfl ?_
  refine lv_lmul hx hb dFr_join_59 ?_
  refine ek_aload_n hx hb dFr_join_60 rfl (lv_at hl 5 rfl) ?_
  refine ek_getr hx hb 2 hts (in_Fr) hown hK hw rfl (by decide) (by decide) 1 (by decide) (n := 2) rfl rfl (hts _ q_63) hf dFr_join_61 (fun hf => ?_)
  refine lv_iload hx hb dFr_join_64 (lv_at hl 2 rfl) ?_
  refine lv_i2l hx hb dFr_join_66 rfl ?_
  obtain ⟨hx13, hf⟩ := ek_ck_s hf
  refine ek_cv hf hS hA (fun I' hq => ek_rV (As := [.long ((Int32.toInt64 i1) * (Int32.toInt64 (i6_4 / ir9))), ek_r G (x0 + 3), .long (Int32.toInt64 i5_3)]) ⟨hx, hb, hml, hown, hts⟩ hK hw 3 rfl (by decide) (by decide) hx13 (mNa_weigh hq) (cwV 3 hts (lw_V q_273 q_274 q_275 q_5 q_276) rfl rfl rfl (by decide +kernel) ⟨Nat.le_of_ble_eq_true rfl, Nat.le_of_ble_eq_true rfl⟩) rfl hl.1 rfl (Nat.le_of_ble_eq_true rfl) dFr_join_67 ⟨Nat.zero_le _, Nat.zero_le _⟩) (fun I12 H locs hf hw hS => ?_)
  refine lv_iload hx hb dFr_join_70 (lv_at hl 0 rfl) ?_
  refine ek_aload_n hx hb dFr_join_72 rfl (lv_at hl 5 rfl) ?_
  refine ek_getr hx hb 2 hts (in_Fr) hown hK hw rfl (by decide) (by decide) 0 (by decide) (n := 0) rfl rfl (hts _ q_59) hf dFr_join_73 (fun hf => ?_)
  refine lv_iload hx hb dFr_join_76 (lv_at hl 0 rfl) ?_
  obtain ⟨hx15, hf⟩ := ek_ck_s hf
  refine ek_ci hf hS hA (fun I' v hq => ek_rV (As := [.int ir9]) ⟨hx, hb, hml, hown, hts⟩ hK hw 3 rfl (by decide) (by decide) hx15 (mNa_remainder hq) (cwV 1 hts (lw_V q_265 q_266 q_267 q_5 q_268) rfl rfl rfl (by decide +kernel) ⟨Nat.le_of_ble_eq_true rfl, Nat.le_of_ble_eq_true rfl⟩) rfl hl.1 rfl (Nat.le_of_ble_eq_true rfl) dFr_join_78 ⟨Nat.zero_le _, Nat.zero_le _⟩) (fun I14 ir16 H locs hf hw hS => ?_)
  refine ek_ci hf hS hA (fun I' v hq => ek_rS (As := [.int ir9, .int ir16]) ⟨hx, hb, hml, hown, hts⟩ hK hw (mFr_commonFactor hq) (ek_cwS 2 hts q_252 q_253 q_4 q_254 (by decide +kernel) ⟨Nat.le_of_ble_eq_true rfl, Nat.le_of_ble_eq_true rfl⟩) rfl hl.1 rfl (Nat.le_of_ble_eq_true rfl) dFr_join_81 ⟨Nat.zero_le _, Nat.zero_le _⟩) (fun I17 ir18 H locs hf hw hS => ?_)
  refine ek_istore (lv' := [(8, .int ir18), (7, .int ir9), (6, .int i6_4), (5, .int i5_3), (4, .int ir2), (3, .int i3), (0, ek_r G x0), (1, .int i1), (2, .int i2)]) hx hb dFr_join_84 hl (by decide) (ek_s1k 0 rfl rfl rfl rfl rfl) (fun ls hl => ?_)
  refine ek_aload_n hx hb dFr_join_86 rfl (lv_at hl 6 rfl) ?_
  refine ek_getr hx hb 2 hts (in_Fr) hown hK hw rfl (by decide) (by decide) 0 (by decide) (n := 0) rfl rfl (hts _ q_59) hf dFr_join_87 (fun hf => ?_)
  refine lv_iload hx hb dFr_join_90 (lv_at hl 0 rfl) ?_
  obtain ⟨hx20, hf⟩ := ek_ck_s hf
  refine ek_cv hf hS hA (fun I' hq => ek_rV (As := [.int ir18]) ⟨hx, hb, hml, hown, hts⟩ hK hw 3 rfl (by decide) (by decide) hx20 (mNa_divideExactly hq) (cwV 1 hts (lw_V q_269 q_270 q_271 q_5 q_272) rfl rfl rfl (by decide +kernel) ⟨Nat.le_of_ble_eq_true rfl, Nat.le_of_ble_eq_true rfl⟩) rfl hl.1 rfl (Nat.le_of_ble_eq_true rfl) dFr_join_92 ⟨Nat.zero_le _, Nat.zero_le _⟩) (fun I19 H locs hf hw hS => ?_)
  refine ek_aload_n hx hb dFr_join_95 rfl (lv_at hl 6 rfl) ?_
  refine ek_getr hx hb 2 hts (in_Fr) hown hK hw rfl (by decide) (by decide) 1 (by decide) (n := 2) rfl rfl (hts _ q_63) hf dFr_join_96 (fun hf => ?_)
  refine lv_iload hx hb dFr_join_99 (lv_at hl 2 rfl) ?_
  refine lv_iload hx hb dFr_join_101 (lv_at hl 0 rfl) ?_
  refine ek_idiv hx hb hf dFr_join_103 (fun hf => ?_)
  obtain ⟨hx22, hf⟩ := ek_ck_s hf
  refine ek_cv hf hS hA (fun I' hq => ek_rV (As := [.int (i6_4 / ir18)]) ⟨hx, hb, hml, hown, hts⟩ hK hw 3 rfl (by decide) (by decide) hx22 (mNa_multiply hq) (cwV 1 hts (lw_V q_278 q_279 q_280 q_5 q_281) rfl rfl rfl (by decide +kernel) ⟨Nat.le_of_ble_eq_true rfl, Nat.le_of_ble_eq_true rfl⟩) rfl hl.1 rfl (Nat.le_of_ble_eq_true rfl) dFr_join_104 ⟨Nat.zero_le _, Nat.zero_le _⟩) (fun I21 H locs hf hw hS => ?_)
  exact ek_vret hx hb hr hlocks hw hS hf dFr_join_107
set_option maxHeartbeats 4000000 in
set_option maxRecDepth 100000 in
theorem mFr_join {l : Launch} {G : ek_G} {kd : Nat → Nat} {I : ek_St} {x0 : Nat} {i1 : Int32} {i2 : Int32} {i3 : Int32} {q : ek_St} (hf : fFr_join kd I x0 i1 i2 i3 = some q) : ek_M l G kd y_Fr_join (.code y_Fr_join prog_3_method_7_code 9 none :: lw_g) ({ frames := 2, cells := 0, slots := 0, locals := 51 } : Room) [ek_r G x0, .int i1, .int i2, .int i3] I none q :=
  ek_body [(0, ek_r G x0), (1, .int i1), (2, .int i2), (3, .int i3)] (by decide) (by simp [lg_sl, ek_r_cat, ek_c_i, ek_c_l]) (by simp [lv_args, ek_r_cat, ek_c_i, ek_c_l]) (fun p e s m below meth c ls X hw hS hl => wFr_join_0 X hf hw hS hl)
/-! ElasticKernel$Fraction.set(II)V -/
def fFr_set_0 (kd : Nat → Nat) (I : ek_St) (x0 : Nat) (i1 : Int32) (i2 : Int32) : Option (ek_St) :=
  ek_bi (fFr_commonFactor kd I i1 i2) (fun I1 ir2 => ek_ck (kd x0 = 2) (ek_ck (¬ ir2 = (0 : Int32)) (ek_ck (kd (x0 + 1) = 3) (ek_bv (fNa_set kd I1 (x0 + 1) (i1 / ir2)) (fun I3 => ek_ck (kd x0 = 2) (ek_ck (¬ ir2 = (0 : Int32)) (ek_ck (kd (x0 + 3) = 3) (ek_bv (fNa_set kd I3 (x0 + 3) (i2 / ir2)) (fun I5 => some I5)))))))))
def fFr_set (kd : Nat → Nat) (I : ek_St) (x0 : Nat) (i1 : Int32) (i2 : Int32) : Option (ek_St) := fFr_set_0 kd I x0 i1 i2
theorem dFr_set_0 : decode prog_3_method_2_code 0 = .ok (.iload_n 1, 1) := by decide +kernel
theorem dFr_set_1 : decode prog_3_method_2_code 1 = .ok (.iload_n 2, 1) := by decide +kernel
theorem dFr_set_2 : decode prog_3_method_2_code 2 = .ok (.invokestatic 23, 3) := by decide +kernel
theorem dFr_set_5 : decode prog_3_method_2_code 5 = .ok (.istore_n 3, 1) := by decide +kernel
theorem dFr_set_6 : decode prog_3_method_2_code 6 = .ok (.aload_n 0, 1) := by decide +kernel
theorem dFr_set_7 : decode prog_3_method_2_code 7 = .ok (.getfield 10, 3) := by decide +kernel
theorem dFr_set_10 : decode prog_3_method_2_code 10 = .ok (.iload_n 1, 1) := by decide +kernel
theorem dFr_set_11 : decode prog_3_method_2_code 11 = .ok (.iload_n 3, 1) := by decide +kernel
theorem dFr_set_12 : decode prog_3_method_2_code 12 = .ok (.idiv, 1) := by decide +kernel
theorem dFr_set_13 : decode prog_3_method_2_code 13 = .ok (.invokevirtual 19, 3) := by decide +kernel
theorem dFr_set_16 : decode prog_3_method_2_code 16 = .ok (.aload_n 0, 1) := by decide +kernel
theorem dFr_set_17 : decode prog_3_method_2_code 17 = .ok (.getfield 16, 3) := by decide +kernel
theorem dFr_set_20 : decode prog_3_method_2_code 20 = .ok (.iload_n 2, 1) := by decide +kernel
theorem dFr_set_21 : decode prog_3_method_2_code 21 = .ok (.iload_n 3, 1) := by decide +kernel
theorem dFr_set_22 : decode prog_3_method_2_code 22 = .ok (.idiv, 1) := by decide +kernel
theorem dFr_set_23 : decode prog_3_method_2_code 23 = .ok (.invokevirtual 19, 3) := by decide +kernel
theorem dFr_set_26 : decode prog_3_method_2_code 26 = .ok (.return_, 1) := by decide +kernel
set_option maxHeartbeats 4000000 in
set_option maxRecDepth 100000 in
theorem wFr_set_0 {l : Launch} {G : ek_G} {kd : Nat → Nat} {p : Program} {e : Env} {s : State} {m : MethodId} {args : Array Value} {below : List Frame} {meth : Method} {c : Code} (X : ek_X p s m meth c args G prog_3_method_2_code 4 "ElasticKernel$Fraction" none) {q : ek_St} {I : ek_St} {x0 : Nat} {i1 : Int32} {i2 : Int32} (hf : fFr_set_0 kd I x0 i1 i2 = some q) {H : Heap} {locs : List Loc} {ls : Array Slot} (hw : ek_W G kd I H) (hS : va_S (ek_A G kd) s.heap H locs) (hl : lv_has ls 4 [(0, ek_r G x0), (1, .int i1), (2, .int i2)]) : W p l e ({ frames := 2, cells := 0, slots := 0, locals := 46 } : Room) s m args below meth c H locs 0 0 (MQ below (ek_Q G kd none q) args s 0 0 (ek_A G kd)) (F0 m 0 ls []) := by
  obtain ⟨hx, hb, hml, hown, hts, hr, hlocks, hK⟩ := id X
  have hA : ∀ q, ek_A G kd q → ek_A G kd q := fun _ h => h
  unfold fFr_set_0 at hf
  refine lv_iload_n hx hb dFr_set_0 rfl (lv_at hl 1 rfl) ?_
  refine lv_iload_n hx hb dFr_set_1 rfl (lv_at hl 2 rfl) ?_
  refine ek_ci hf hS hA (fun I' v hq => ek_rS (As := [.int i1, .int i2]) ⟨hx, hb, hml, hown, hts⟩ hK hw (mFr_commonFactor hq) (ek_cwS 2 hts q_252 q_253 q_4 q_254 (by decide +kernel) ⟨Nat.le_of_ble_eq_true rfl, Nat.le_of_ble_eq_true rfl⟩) rfl hl.1 rfl (Nat.le_of_ble_eq_true rfl) dFr_set_2 ⟨Nat.zero_le _, Nat.zero_le _⟩) (fun I1 ir2 H locs hf hw hS => ?_)
  refine ek_istore_n (lv' := [(3, .int ir2), (2, .int i2), (0, ek_r G x0), (1, .int i1)]) hx hb dFr_set_5 rfl hl (by decide) (ek_s1k 2 rfl rfl rfl rfl rfl) (fun ls hl => ?_)
  refine ek_aload_n hx hb dFr_set_6 rfl (lv_at hl 2 rfl) ?_
  refine ek_getr hx hb 2 hts (in_Fr) hown hK hw rfl (by decide) (by decide) 0 (by decide) (n := 0) rfl rfl (hts _ q_59) hf dFr_set_7 (fun hf => ?_)
  refine lv_iload_n hx hb dFr_set_10 rfl (lv_at hl 3 rfl) ?_
  refine lv_iload_n hx hb dFr_set_11 rfl (lv_at hl 0 rfl) ?_
  refine ek_idiv hx hb hf dFr_set_12 (fun hf => ?_)
  obtain ⟨hx4, hf⟩ := ek_ck_s hf
  refine ek_cv hf hS hA (fun I' hq => ek_rV (As := [.int (i1 / ir2)]) ⟨hx, hb, hml, hown, hts⟩ hK hw 3 rfl (by decide) (by decide) hx4 (mNa_set hq) (cwV 1 hts (lw_V q_54 q_55 q_56 q_5 q_57) rfl rfl rfl (by decide +kernel) ⟨Nat.le_of_ble_eq_true rfl, Nat.le_of_ble_eq_true rfl⟩) rfl hl.1 rfl (Nat.le_of_ble_eq_true rfl) dFr_set_13 ⟨Nat.zero_le _, Nat.zero_le _⟩) (fun I3 H locs hf hw hS => ?_)
  refine ek_aload_n hx hb dFr_set_16 rfl (lv_at hl 2 rfl) ?_
  refine ek_getr hx hb 2 hts (in_Fr) hown hK hw rfl (by decide) (by decide) 1 (by decide) (n := 2) rfl rfl (hts _ q_63) hf dFr_set_17 (fun hf => ?_)
  refine lv_iload_n hx hb dFr_set_20 rfl (lv_at hl 1 rfl) ?_
  refine lv_iload_n hx hb dFr_set_21 rfl (lv_at hl 0 rfl) ?_
  refine ek_idiv hx hb hf dFr_set_22 (fun hf => ?_)
  obtain ⟨hx6, hf⟩ := ek_ck_s hf
  refine ek_cv hf hS hA (fun I' hq => ek_rV (As := [.int (i2 / ir2)]) ⟨hx, hb, hml, hown, hts⟩ hK hw 3 rfl (by decide) (by decide) hx6 (mNa_set hq) (cwV 1 hts (lw_V q_54 q_55 q_56 q_5 q_57) rfl rfl rfl (by decide +kernel) ⟨Nat.le_of_ble_eq_true rfl, Nat.le_of_ble_eq_true rfl⟩) rfl hl.1 rfl (Nat.le_of_ble_eq_true rfl) dFr_set_23 ⟨Nat.zero_le _, Nat.zero_le _⟩) (fun I5 H locs hf hw hS => ?_)
  exact ek_vret hx hb hr hlocks hw hS hf dFr_set_26
set_option maxHeartbeats 4000000 in
set_option maxRecDepth 100000 in
theorem mFr_set {l : Launch} {G : ek_G} {kd : Nat → Nat} {I : ek_St} {x0 : Nat} {i1 : Int32} {i2 : Int32} {q : ek_St} (hf : fFr_set kd I x0 i1 i2 = some q) : ek_M l G kd y_Fr_set (.code y_Fr_set prog_3_method_2_code 4 none :: lw_g) ({ frames := 2, cells := 0, slots := 0, locals := 46 } : Room) [ek_r G x0, .int i1, .int i2] I none q :=
  ek_body [(0, ek_r G x0), (1, .int i1), (2, .int i2)] (by decide) (by simp [lg_sl, ek_r_cat, ek_c_i, ek_c_l]) (by simp [lv_args, ek_r_cat, ek_c_i, ek_c_l]) (fun p e s m below meth c ls X hw hS hl => wFr_set_0 X hf hw hS hl)
/-! ElasticKernel$Fraction.setRatio(LElasticKernel$Fraction;LElasticKernel$Fraction;)V -/
def fFr_setRatio_0 (kd : Nat → Nat) (I : ek_St) (x0 : Nat) (x1 : Nat) (x2 : Nat) : Option (ek_St) :=
  ek_ck (kd x0 = 2) (ek_ck (kd x1 = 2) (ek_ck (kd x2 = 2) (ek_ck (kd (x0 + 1) = 3) (ek_bv (fNa_setProduct kd I (x0 + 1) (x1 + 1) (x2 + 3)) (fun I1 => ek_ck (kd x0 = 2) (ek_ck (kd x1 = 2) (ek_ck (kd x2 = 2) (ek_ck (kd (x0 + 3) = 3) (ek_bv (fNa_setProduct kd I1 (x0 + 3) (x1 + 3) (x2 + 1)) (fun I3 => some I3))))))))))
def fFr_setRatio (kd : Nat → Nat) (I : ek_St) (x0 : Nat) (x1 : Nat) (x2 : Nat) : Option (ek_St) := fFr_setRatio_0 kd I x0 x1 x2
theorem dFr_setRatio_0 : decode prog_3_method_4_code 0 = .ok (.aload_n 0, 1) := by decide +kernel
theorem dFr_setRatio_1 : decode prog_3_method_4_code 1 = .ok (.getfield 10, 3) := by decide +kernel
theorem dFr_setRatio_4 : decode prog_3_method_4_code 4 = .ok (.aload_n 1, 1) := by decide +kernel
theorem dFr_setRatio_5 : decode prog_3_method_4_code 5 = .ok (.getfield 10, 3) := by decide +kernel
theorem dFr_setRatio_8 : decode prog_3_method_4_code 8 = .ok (.aload_n 2, 1) := by decide +kernel
theorem dFr_setRatio_9 : decode prog_3_method_4_code 9 = .ok (.getfield 16, 3) := by decide +kernel
theorem dFr_setRatio_12 : decode prog_3_method_4_code 12 = .ok (.invokevirtual 31, 3) := by decide +kernel
theorem dFr_setRatio_15 : decode prog_3_method_4_code 15 = .ok (.aload_n 0, 1) := by decide +kernel
theorem dFr_setRatio_16 : decode prog_3_method_4_code 16 = .ok (.getfield 16, 3) := by decide +kernel
theorem dFr_setRatio_19 : decode prog_3_method_4_code 19 = .ok (.aload_n 1, 1) := by decide +kernel
theorem dFr_setRatio_20 : decode prog_3_method_4_code 20 = .ok (.getfield 16, 3) := by decide +kernel
theorem dFr_setRatio_23 : decode prog_3_method_4_code 23 = .ok (.aload_n 2, 1) := by decide +kernel
theorem dFr_setRatio_24 : decode prog_3_method_4_code 24 = .ok (.getfield 10, 3) := by decide +kernel
theorem dFr_setRatio_27 : decode prog_3_method_4_code 27 = .ok (.invokevirtual 31, 3) := by decide +kernel
theorem dFr_setRatio_30 : decode prog_3_method_4_code 30 = .ok (.return_, 1) := by decide +kernel
set_option maxHeartbeats 4000000 in
set_option maxRecDepth 100000 in
theorem wFr_setRatio_0 {l : Launch} {G : ek_G} {kd : Nat → Nat} {p : Program} {e : Env} {s : State} {m : MethodId} {args : Array Value} {below : List Frame} {meth : Method} {c : Code} (X : ek_X p s m meth c args G prog_3_method_4_code 3 "ElasticKernel$Fraction" none) {q : ek_St} {I : ek_St} {x0 : Nat} {x1 : Nat} {x2 : Nat} (hf : fFr_setRatio_0 kd I x0 x1 x2 = some q) {H : Heap} {locs : List Loc} {ls : Array Slot} (hw : ek_W G kd I H) (hS : va_S (ek_A G kd) s.heap H locs) (hl : lv_has ls 3 [(0, ek_r G x0), (1, ek_r G x1), (2, ek_r G x2)]) : W p l e ({ frames := 2, cells := 0, slots := 0, locals := 50 } : Room) s m args below meth c H locs 0 0 (MQ below (ek_Q G kd none q) args s 0 0 (ek_A G kd)) (F0 m 0 ls []) := by
  obtain ⟨hx, hb, hml, hown, hts, hr, hlocks, hK⟩ := id X
  have hA : ∀ q, ek_A G kd q → ek_A G kd q := fun _ h => h
  unfold fFr_setRatio_0 at hf
  refine ek_aload_n hx hb dFr_setRatio_0 rfl (lv_at hl 0 rfl) ?_
  refine ek_getr hx hb 2 hts (in_Fr) hown hK hw rfl (by decide) (by decide) 0 (by decide) (n := 0) rfl rfl (hts _ q_59) hf dFr_setRatio_1 (fun hf => ?_)
  refine ek_aload_n hx hb dFr_setRatio_4 rfl (lv_at hl 1 rfl) ?_
  refine ek_getr hx hb 2 hts (in_Fr) hown hK hw rfl (by decide) (by decide) 0 (by decide) (n := 0) rfl rfl (hts _ q_59) hf dFr_setRatio_5 (fun hf => ?_)
  refine ek_aload_n hx hb dFr_setRatio_8 rfl (lv_at hl 2 rfl) ?_
  refine ek_getr hx hb 2 hts (in_Fr) hown hK hw rfl (by decide) (by decide) 1 (by decide) (n := 2) rfl rfl (hts _ q_63) hf dFr_setRatio_9 (fun hf => ?_)
  obtain ⟨hx2, hf⟩ := ek_ck_s hf
  refine ek_cv hf hS hA (fun I' hq => ek_rV (As := [ek_r G (x1 + 1), ek_r G (x2 + 3)]) ⟨hx, hb, hml, hown, hts⟩ hK hw 3 rfl (by decide) (by decide) hx2 (mNa_setProduct hq) (cwV 2 hts (lw_V q_342 q_343 q_344 q_5 q_345) rfl rfl rfl (by decide +kernel) ⟨Nat.le_of_ble_eq_true rfl, Nat.le_of_ble_eq_true rfl⟩) rfl hl.1 rfl (Nat.le_of_ble_eq_true rfl) dFr_setRatio_12 ⟨Nat.zero_le _, Nat.zero_le _⟩) (fun I1 H locs hf hw hS => ?_)
  refine ek_aload_n hx hb dFr_setRatio_15 rfl (lv_at hl 0 rfl) ?_
  refine ek_getr hx hb 2 hts (in_Fr) hown hK hw rfl (by decide) (by decide) 1 (by decide) (n := 2) rfl rfl (hts _ q_63) hf dFr_setRatio_16 (fun hf => ?_)
  refine ek_aload_n hx hb dFr_setRatio_19 rfl (lv_at hl 1 rfl) ?_
  refine ek_getr hx hb 2 hts (in_Fr) hown hK hw rfl (by decide) (by decide) 1 (by decide) (n := 2) rfl rfl (hts _ q_63) hf dFr_setRatio_20 (fun hf => ?_)
  refine ek_aload_n hx hb dFr_setRatio_23 rfl (lv_at hl 2 rfl) ?_
  refine ek_getr hx hb 2 hts (in_Fr) hown hK hw rfl (by decide) (by decide) 0 (by decide) (n := 0) rfl rfl (hts _ q_59) hf dFr_setRatio_24 (fun hf => ?_)
  obtain ⟨hx4, hf⟩ := ek_ck_s hf
  refine ek_cv hf hS hA (fun I' hq => ek_rV (As := [ek_r G (x1 + 3), ek_r G (x2 + 1)]) ⟨hx, hb, hml, hown, hts⟩ hK hw 3 rfl (by decide) (by decide) hx4 (mNa_setProduct hq) (cwV 2 hts (lw_V q_342 q_343 q_344 q_5 q_345) rfl rfl rfl (by decide +kernel) ⟨Nat.le_of_ble_eq_true rfl, Nat.le_of_ble_eq_true rfl⟩) rfl hl.1 rfl (Nat.le_of_ble_eq_true rfl) dFr_setRatio_27 ⟨Nat.zero_le _, Nat.zero_le _⟩) (fun I3 H locs hf hw hS => ?_)
  exact ek_vret hx hb hr hlocks hw hS hf dFr_setRatio_30
set_option maxHeartbeats 4000000 in
set_option maxRecDepth 100000 in
theorem mFr_setRatio {l : Launch} {G : ek_G} {kd : Nat → Nat} {I : ek_St} {x0 : Nat} {x1 : Nat} {x2 : Nat} {q : ek_St} (hf : fFr_setRatio kd I x0 x1 x2 = some q) : ek_M l G kd y_Fr_setRatio (.code y_Fr_setRatio prog_3_method_4_code 3 none :: lw_g) ({ frames := 2, cells := 0, slots := 0, locals := 50 } : Room) [ek_r G x0, ek_r G x1, ek_r G x2] I none q :=
  ek_body [(0, ek_r G x0), (1, ek_r G x1), (2, ek_r G x2)] (by decide) (by simp [lg_sl, ek_r_cat, ek_c_i, ek_c_l]) (by simp [lv_args, ek_r_cat, ek_c_i, ek_c_l]) (fun p e s m below meth c ls X hw hS hl => wFr_setRatio_0 X hf hw hS hl)
/-! ElasticKernel$Fraction.copy(LElasticKernel$Fraction;)V -/
def fFr_copy_0 (kd : Nat → Nat) (I : ek_St) (x0 : Nat) (x1 : Nat) : Option (ek_St) :=
  ek_ck (kd x0 = 2) (ek_ck (kd x1 = 2) (ek_ck (kd (x0 + 1) = 3) (ek_bv (fNa_copy kd I (x0 + 1) (x1 + 1)) (fun I1 => ek_ck (kd x0 = 2) (ek_ck (kd x1 = 2) (ek_ck (kd (x0 + 3) = 3) (ek_bv (fNa_copy kd I1 (x0 + 3) (x1 + 3)) (fun I3 => some I3))))))))
def fFr_copy (kd : Nat → Nat) (I : ek_St) (x0 : Nat) (x1 : Nat) : Option (ek_St) := fFr_copy_0 kd I x0 x1
theorem dFr_copy_0 : decode prog_3_method_3_code 0 = .ok (.aload_n 0, 1) := by decide +kernel
theorem dFr_copy_1 : decode prog_3_method_3_code 1 = .ok (.getfield 10, 3) := by decide +kernel
theorem dFr_copy_4 : decode prog_3_method_3_code 4 = .ok (.aload_n 1, 1) := by decide +kernel
theorem dFr_copy_5 : decode prog_3_method_3_code 5 = .ok (.getfield 10, 3) := by decide +kernel
theorem dFr_copy_8 : decode prog_3_method_3_code 8 = .ok (.invokevirtual 27, 3) := by decide +kernel
theorem dFr_copy_11 : decode prog_3_method_3_code 11 = .ok (.aload_n 0, 1) := by decide +kernel
theorem dFr_copy_12 : decode prog_3_method_3_code 12 = .ok (.getfield 16, 3) := by decide +kernel
theorem dFr_copy_15 : decode prog_3_method_3_code 15 = .ok (.aload_n 1, 1) := by decide +kernel
theorem dFr_copy_16 : decode prog_3_method_3_code 16 = .ok (.getfield 16, 3) := by decide +kernel
theorem dFr_copy_19 : decode prog_3_method_3_code 19 = .ok (.invokevirtual 27, 3) := by decide +kernel
theorem dFr_copy_22 : decode prog_3_method_3_code 22 = .ok (.return_, 1) := by decide +kernel
set_option maxHeartbeats 4000000 in
set_option maxRecDepth 100000 in
theorem wFr_copy_0 {l : Launch} {G : ek_G} {kd : Nat → Nat} {p : Program} {e : Env} {s : State} {m : MethodId} {args : Array Value} {below : List Frame} {meth : Method} {c : Code} (X : ek_X p s m meth c args G prog_3_method_3_code 2 "ElasticKernel$Fraction" none) {q : ek_St} {I : ek_St} {x0 : Nat} {x1 : Nat} (hf : fFr_copy_0 kd I x0 x1 = some q) {H : Heap} {locs : List Loc} {ls : Array Slot} (hw : ek_W G kd I H) (hS : va_S (ek_A G kd) s.heap H locs) (hl : lv_has ls 2 [(0, ek_r G x0), (1, ek_r G x1)]) : W p l e ({ frames := 2, cells := 0, slots := 0, locals := 59 } : Room) s m args below meth c H locs 0 0 (MQ below (ek_Q G kd none q) args s 0 0 (ek_A G kd)) (F0 m 0 ls []) := by
  obtain ⟨hx, hb, hml, hown, hts, hr, hlocks, hK⟩ := id X
  have hA : ∀ q, ek_A G kd q → ek_A G kd q := fun _ h => h
  unfold fFr_copy_0 at hf
  refine ek_aload_n hx hb dFr_copy_0 rfl (lv_at hl 0 rfl) ?_
  refine ek_getr hx hb 2 hts (in_Fr) hown hK hw rfl (by decide) (by decide) 0 (by decide) (n := 0) rfl rfl (hts _ q_59) hf dFr_copy_1 (fun hf => ?_)
  refine ek_aload_n hx hb dFr_copy_4 rfl (lv_at hl 1 rfl) ?_
  refine ek_getr hx hb 2 hts (in_Fr) hown hK hw rfl (by decide) (by decide) 0 (by decide) (n := 0) rfl rfl (hts _ q_59) hf dFr_copy_5 (fun hf => ?_)
  obtain ⟨hx2, hf⟩ := ek_ck_s hf
  refine ek_cv hf hS hA (fun I' hq => ek_rV (As := [ek_r G (x1 + 1)]) ⟨hx, hb, hml, hown, hts⟩ hK hw 3 rfl (by decide) (by decide) hx2 (mNa_copy hq) (cwV 1 hts (lw_V q_323 q_324 q_325 q_5 q_326) rfl rfl rfl (by decide +kernel) ⟨Nat.le_of_ble_eq_true rfl, Nat.le_of_ble_eq_true rfl⟩) rfl hl.1 rfl (Nat.le_of_ble_eq_true rfl) dFr_copy_8 ⟨Nat.zero_le _, Nat.zero_le _⟩) (fun I1 H locs hf hw hS => ?_)
  refine ek_aload_n hx hb dFr_copy_11 rfl (lv_at hl 0 rfl) ?_
  refine ek_getr hx hb 2 hts (in_Fr) hown hK hw rfl (by decide) (by decide) 1 (by decide) (n := 2) rfl rfl (hts _ q_63) hf dFr_copy_12 (fun hf => ?_)
  refine ek_aload_n hx hb dFr_copy_15 rfl (lv_at hl 1 rfl) ?_
  refine ek_getr hx hb 2 hts (in_Fr) hown hK hw rfl (by decide) (by decide) 1 (by decide) (n := 2) rfl rfl (hts _ q_63) hf dFr_copy_16 (fun hf => ?_)
  obtain ⟨hx4, hf⟩ := ek_ck_s hf
  refine ek_cv hf hS hA (fun I' hq => ek_rV (As := [ek_r G (x1 + 3)]) ⟨hx, hb, hml, hown, hts⟩ hK hw 3 rfl (by decide) (by decide) hx4 (mNa_copy hq) (cwV 1 hts (lw_V q_323 q_324 q_325 q_5 q_326) rfl rfl rfl (by decide +kernel) ⟨Nat.le_of_ble_eq_true rfl, Nat.le_of_ble_eq_true rfl⟩) rfl hl.1 rfl (Nat.le_of_ble_eq_true rfl) dFr_copy_19 ⟨Nat.zero_le _, Nat.zero_le _⟩) (fun I3 H locs hf hw hS => ?_)
  exact ek_vret hx hb hr hlocks hw hS hf dFr_copy_22
set_option maxHeartbeats 4000000 in
set_option maxRecDepth 100000 in
theorem mFr_copy {l : Launch} {G : ek_G} {kd : Nat → Nat} {I : ek_St} {x0 : Nat} {x1 : Nat} {q : ek_St} (hf : fFr_copy kd I x0 x1 = some q) : ek_M l G kd y_Fr_copy (.code y_Fr_copy prog_3_method_3_code 2 none :: lw_g) ({ frames := 2, cells := 0, slots := 0, locals := 59 } : Room) [ek_r G x0, ek_r G x1] I none q :=
  ek_body [(0, ek_r G x0), (1, ek_r G x1)] (by decide) (by simp [lg_sl, ek_r_cat, ek_c_i, ek_c_l]) (by simp [lv_args, ek_r_cat, ek_c_i, ek_c_l]) (fun p e s m below meth c ls X hw hS hl => wFr_copy_0 X hf hw hS hl)
/-! ElasticKernel$Fraction.divideBy(I)V -/
def fFr_divideBy_0 (kd : Nat → Nat) (I : ek_St) (x0 : Nat) (i1 : Int32) : Option (ek_St) :=
  ek_ck (kd x0 = 2) (ek_ck (kd (x0 + 1) = 3) (ek_bi (fNa_remainder kd I (x0 + 1) i1) (fun I1 ir3 => ek_bi (fFr_commonFactor kd I1 i1 ir3) (fun I4 ir5 => ek_ck (kd x0 = 2) (ek_ck (kd (x0 + 1) = 3) (ek_bv (fNa_divideExactly kd I4 (x0 + 1) ir5) (fun I6 => ek_ck (kd x0 = 2) (ek_ck (¬ ir5 = (0 : Int32)) (ek_ck (kd (x0 + 3) = 3) (ek_bv (fNa_multiply kd I6 (x0 + 3) (i1 / ir5)) (fun I8 => some I8)))))))))))
def fFr_divideBy (kd : Nat → Nat) (I : ek_St) (x0 : Nat) (i1 : Int32) : Option (ek_St) := fFr_divideBy_0 kd I x0 i1
theorem dFr_divideBy_0 : decode prog_3_method_5_code 0 = .ok (.iload_n 1, 1) := by decide +kernel
theorem dFr_divideBy_1 : decode prog_3_method_5_code 1 = .ok (.aload_n 0, 1) := by decide +kernel
theorem dFr_divideBy_2 : decode prog_3_method_5_code 2 = .ok (.getfield 10, 3) := by decide +kernel
theorem dFr_divideBy_5 : decode prog_3_method_5_code 5 = .ok (.iload_n 1, 1) := by decide +kernel
theorem dFr_divideBy_6 : decode prog_3_method_5_code 6 = .ok (.invokevirtual 35, 3) := by decide +kernel
theorem dFr_divideBy_9 : decode prog_3_method_5_code 9 = .ok (.invokestatic 23, 3) := by decide +kernel
theorem dFr_divideBy_12 : decode prog_3_method_5_code 12 = .ok (.istore_n 2, 1) := by decide +kernel
theorem dFr_divideBy_13 : decode prog_3_method_5_code 13 = .ok (.aload_n 0, 1) := by decide +kernel
theorem dFr_divideBy_14 : decode prog_3_method_5_code 14 = .ok (.getfield 10, 3) := by decide +kernel
theorem dFr_divideBy_17 : decode prog_3_method_5_code 17 = .ok (.iload_n 2, 1) := by decide +kernel
theorem dFr_divideBy_18 : decode prog_3_method_5_code 18 = .ok (.invokevirtual 39, 3) := by decide +kernel
theorem dFr_divideBy_21 : decode prog_3_method_5_code 21 = .ok (.aload_n 0, 1) := by decide +kernel
theorem dFr_divideBy_22 : decode prog_3_method_5_code 22 = .ok (.getfield 16, 3) := by decide +kernel
theorem dFr_divideBy_25 : decode prog_3_method_5_code 25 = .ok (.iload_n 1, 1) := by decide +kernel
theorem dFr_divideBy_26 : decode prog_3_method_5_code 26 = .ok (.iload_n 2, 1) := by decide +kernel
theorem dFr_divideBy_27 : decode prog_3_method_5_code 27 = .ok (.idiv, 1) := by decide +kernel
theorem dFr_divideBy_28 : decode prog_3_method_5_code 28 = .ok (.invokevirtual 42, 3) := by decide +kernel
theorem dFr_divideBy_31 : decode prog_3_method_5_code 31 = .ok (.return_, 1) := by decide +kernel
set_option maxHeartbeats 4000000 in
set_option maxRecDepth 100000 in
theorem wFr_divideBy_0 {l : Launch} {G : ek_G} {kd : Nat → Nat} {p : Program} {e : Env} {s : State} {m : MethodId} {args : Array Value} {below : List Frame} {meth : Method} {c : Code} (X : ek_X p s m meth c args G prog_3_method_5_code 3 "ElasticKernel$Fraction" none) {q : ek_St} {I : ek_St} {x0 : Nat} {i1 : Int32} (hf : fFr_divideBy_0 kd I x0 i1 = some q) {H : Heap} {locs : List Loc} {ls : Array Slot} (hw : ek_W G kd I H) (hS : va_S (ek_A G kd) s.heap H locs) (hl : lv_has ls 3 [(0, ek_r G x0), (1, .int i1)]) : W p l e ({ frames := 2, cells := 0, slots := 0, locals := 51 } : Room) s m args below meth c H locs 0 0 (MQ below (ek_Q G kd none q) args s 0 0 (ek_A G kd)) (F0 m 0 ls []) := by
  obtain ⟨hx, hb, hml, hown, hts, hr, hlocks, hK⟩ := id X
  have hA : ∀ q, ek_A G kd q → ek_A G kd q := fun _ h => h
  unfold fFr_divideBy_0 at hf
  refine lv_iload_n hx hb dFr_divideBy_0 rfl (lv_at hl 1 rfl) ?_
  refine ek_aload_n hx hb dFr_divideBy_1 rfl (lv_at hl 0 rfl) ?_
  refine ek_getr hx hb 2 hts (in_Fr) hown hK hw rfl (by decide) (by decide) 0 (by decide) (n := 0) rfl rfl (hts _ q_59) hf dFr_divideBy_2 (fun hf => ?_)
  refine lv_iload_n hx hb dFr_divideBy_5 rfl (lv_at hl 1 rfl) ?_
  obtain ⟨hx2, hf⟩ := ek_ck_s hf
  refine ek_ci hf hS hA (fun I' v hq => ek_rV (As := [.int i1]) ⟨hx, hb, hml, hown, hts⟩ hK hw 3 rfl (by decide) (by decide) hx2 (mNa_remainder hq) (cwV 1 hts (lw_V q_265 q_266 q_267 q_5 q_268) rfl rfl rfl (by decide +kernel) ⟨Nat.le_of_ble_eq_true rfl, Nat.le_of_ble_eq_true rfl⟩) rfl hl.1 rfl (Nat.le_of_ble_eq_true rfl) dFr_divideBy_6 ⟨Nat.zero_le _, Nat.zero_le _⟩) (fun I1 ir3 H locs hf hw hS => ?_)
  refine ek_ci hf hS hA (fun I' v hq => ek_rS (As := [.int i1, .int ir3]) ⟨hx, hb, hml, hown, hts⟩ hK hw (mFr_commonFactor hq) (ek_cwS 2 hts q_252 q_253 q_4 q_254 (by decide +kernel) ⟨Nat.le_of_ble_eq_true rfl, Nat.le_of_ble_eq_true rfl⟩) rfl hl.1 rfl (Nat.le_of_ble_eq_true rfl) dFr_divideBy_9 ⟨Nat.zero_le _, Nat.zero_le _⟩) (fun I4 ir5 H locs hf hw hS => ?_)
  refine ek_istore_n (lv' := [(2, .int ir5), (1, .int i1), (0, ek_r G x0)]) hx hb dFr_divideBy_12 rfl hl (by decide) (ek_s1k 1 rfl rfl rfl rfl rfl) (fun ls hl => ?_)
  refine ek_aload_n hx hb dFr_divideBy_13 rfl (lv_at hl 2 rfl) ?_
  refine ek_getr hx hb 2 hts (in_Fr) hown hK hw rfl (by decide) (by decide) 0 (by decide) (n := 0) rfl rfl (hts _ q_59) hf dFr_divideBy_14 (fun hf => ?_)
  refine lv_iload_n hx hb dFr_divideBy_17 rfl (lv_at hl 0 rfl) ?_
  obtain ⟨hx7, hf⟩ := ek_ck_s hf
  refine ek_cv hf hS hA (fun I' hq => ek_rV (As := [.int ir5]) ⟨hx, hb, hml, hown, hts⟩ hK hw 3 rfl (by decide) (by decide) hx7 (mNa_divideExactly hq) (cwV 1 hts (lw_V q_269 q_270 q_271 q_5 q_272) rfl rfl rfl (by decide +kernel) ⟨Nat.le_of_ble_eq_true rfl, Nat.le_of_ble_eq_true rfl⟩) rfl hl.1 rfl (Nat.le_of_ble_eq_true rfl) dFr_divideBy_18 ⟨Nat.zero_le _, Nat.zero_le _⟩) (fun I6 H locs hf hw hS => ?_)
  refine ek_aload_n hx hb dFr_divideBy_21 rfl (lv_at hl 2 rfl) ?_
  refine ek_getr hx hb 2 hts (in_Fr) hown hK hw rfl (by decide) (by decide) 1 (by decide) (n := 2) rfl rfl (hts _ q_63) hf dFr_divideBy_22 (fun hf => ?_)
  refine lv_iload_n hx hb dFr_divideBy_25 rfl (lv_at hl 1 rfl) ?_
  refine lv_iload_n hx hb dFr_divideBy_26 rfl (lv_at hl 0 rfl) ?_
  refine ek_idiv hx hb hf dFr_divideBy_27 (fun hf => ?_)
  obtain ⟨hx9, hf⟩ := ek_ck_s hf
  refine ek_cv hf hS hA (fun I' hq => ek_rV (As := [.int (i1 / ir5)]) ⟨hx, hb, hml, hown, hts⟩ hK hw 3 rfl (by decide) (by decide) hx9 (mNa_multiply hq) (cwV 1 hts (lw_V q_278 q_279 q_280 q_5 q_281) rfl rfl rfl (by decide +kernel) ⟨Nat.le_of_ble_eq_true rfl, Nat.le_of_ble_eq_true rfl⟩) rfl hl.1 rfl (Nat.le_of_ble_eq_true rfl) dFr_divideBy_28 ⟨Nat.zero_le _, Nat.zero_le _⟩) (fun I8 H locs hf hw hS => ?_)
  exact ek_vret hx hb hr hlocks hw hS hf dFr_divideBy_31
set_option maxHeartbeats 4000000 in
set_option maxRecDepth 100000 in
theorem mFr_divideBy {l : Launch} {G : ek_G} {kd : Nat → Nat} {I : ek_St} {x0 : Nat} {i1 : Int32} {q : ek_St} (hf : fFr_divideBy kd I x0 i1 = some q) : ek_M l G kd y_Fr_divideBy (.code y_Fr_divideBy prog_3_method_5_code 3 none :: lw_g) ({ frames := 2, cells := 0, slots := 0, locals := 51 } : Room) [ek_r G x0, .int i1] I none q :=
  ek_body [(0, ek_r G x0), (1, .int i1)] (by decide) (by simp [lg_sl, ek_r_cat, ek_c_i, ek_c_l]) (by simp [lv_args, ek_r_cat, ek_c_i, ek_c_l]) (fun p e s m below meth c ls X hw hS hl => wFr_divideBy_0 X hf hw hS hl)
