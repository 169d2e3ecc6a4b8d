/-! java/lang/Integer.numberOfLeadingZeros(I)I -/
def fIg_numberOfLeadingZeros_73 (kd : Nat → Nat) (I : ek_St) (i0 : Int32) (i1 : Int32) : Option (ek_St × Int32) :=
  some (I, i1 - ((Int32.toUInt32 i0 >>> (Int32.toUInt32 ((1 : Int32)) &&& Int32.toUInt32 31)).toInt32))
def fIg_numberOfLeadingZeros_61 (kd : Nat → Nat) (I : ek_St) (i0 : Int32) (i1 : Int32) : Option (ek_St × Int32) :=
  if i0 < ((4 : Int32)) then (fIg_numberOfLeadingZeros_73 kd I i0 i1) else (ek_let (i1 + (-2 : Int32)) (fun i1_2 => ek_let ((Int32.toUInt32 i0 >>> (Int32.toUInt32 ((2 : Int32)) &&& Int32.toUInt32 31)).toInt32) (fun i0_3 => fIg_numberOfLeadingZeros_73 kd I i0_3 i1_2)))
def fIg_numberOfLeadingZeros_48 (kd : Nat → Nat) (I : ek_St) (i0 : Int32) (i1 : Int32) : Option (ek_St × Int32) :=
  if i0 < ((16 : Int32)) then (fIg_numberOfLeadingZeros_61 kd I i0 i1) else (ek_let (i1 + (-4 : Int32)) (fun i1_2 => ek_let ((Int32.toUInt32 i0 >>> (Int32.toUInt32 ((4 : Int32)) &&& Int32.toUInt32 31)).toInt32) (fun i0_3 => fIg_numberOfLeadingZeros_61 kd I i0_3 i1_2)))
def fIg_numberOfLeadingZeros_33 (kd : Nat → Nat) (I : ek_St) (i0 : Int32) (i1 : Int32) : Option (ek_St × Int32) :=
  if i0 < ((256 : Int32)) then (fIg_numberOfLeadingZeros_48 kd I i0 i1) else (ek_let (i1 + (-8 : Int32)) (fun i1_2 => ek_let ((Int32.toUInt32 i0 >>> (Int32.toUInt32 ((8 : Int32)) &&& Int32.toUInt32 31)).toInt32) (fun i0_3 => fIg_numberOfLeadingZeros_48 kd I i0_3 i1_2)))
def fIg_numberOfLeadingZeros_0 (kd : Nat → Nat) (I : ek_St) (i0 : Int32) : Option (ek_St × Int32) :=
  if ((0 : Int32)) < i0 then (if i0 < ((65536 : Int32)) then (fIg_numberOfLeadingZeros_33 kd I i0 ((31 : Int32))) else (ek_let ((31 : Int32) + (-16 : Int32)) (fun i1_3 => ek_let ((Int32.toUInt32 i0 >>> (Int32.toUInt32 ((16 : Int32)) &&& Int32.toUInt32 31)).toInt32) (fun i0_4 => fIg_numberOfLeadingZeros_33 kd I i0_4 i1_3)))) else (if i0 = ((0 : Int32)) then (some (I, (32 : Int32))) else (some (I, (0 : Int32))))
def fIg_numberOfLeadingZeros (kd : Nat → Nat) (I : ek_St) (i0 : Int32) : Option (ek_St × Int32) := fIg_numberOfLeadingZeros_0 kd I i0
theorem dIg_numberOfLeadingZeros_0 : decode prog_12_method_47_code 0 = .ok (.iload_n 0, 1) := by decide +kernel
theorem dIg_numberOfLeadingZeros_1 : decode prog_12_method_47_code 1 = .ok (.ifCond .gt 14, 3) := by decide +kernel
theorem dIg_numberOfLeadingZeros_4 : decode prog_12_method_47_code 4 = .ok (.iload_n 0, 1) := by decide +kernel
theorem dIg_numberOfLeadingZeros_5 : decode prog_12_method_47_code 5 = .ok (.ifCond .ne 8, 3) := by decide +kernel
theorem dIg_numberOfLeadingZeros_8 : decode prog_12_method_47_code 8 = .ok (.bipush 32, 2) := by decide +kernel
theorem dIg_numberOfLeadingZeros_10 : decode prog_12_method_47_code 10 = .ok (.goto 4, 3) := by decide +kernel
theorem dIg_numberOfLeadingZeros_13 : decode prog_12_method_47_code 13 = .ok (.iconst 0, 1) := by decide +kernel
theorem dIg_numberOfLeadingZeros_14 : decode prog_12_method_47_code 14 = .ok (.ireturn, 1) := by decide +kernel
theorem dIg_numberOfLeadingZeros_15 : decode prog_12_method_47_code 15 = .ok (.bipush 31, 2) := by decide +kernel
theorem dIg_numberOfLeadingZeros_17 : decode prog_12_method_47_code 17 = .ok (.istore_n 1, 1) := by decide +kernel
theorem dIg_numberOfLeadingZeros_18 : decode prog_12_method_47_code 18 = .ok (.iload_n 0, 1) := by decide +kernel
theorem dIg_numberOfLeadingZeros_19 : decode prog_12_method_47_code 19 = .ok (.ldc_w 264, 3) := by decide +kernel
theorem dIg_numberOfLeadingZeros_22 : decode prog_12_method_47_code 22 = .ok (.if_icmp .lt 11, 3) := by decide +kernel
theorem dIg_numberOfLeadingZeros_25 : decode prog_12_method_47_code 25 = .ok (.iinc 1 (-16), 3) := by decide +kernel
theorem dIg_numberOfLeadingZeros_28 : decode prog_12_method_47_code 28 = .ok (.iload_n 0, 1) := by decide +kernel
theorem dIg_numberOfLeadingZeros_29 : decode prog_12_method_47_code 29 = .ok (.bipush 16, 2) := by decide +kernel
theorem dIg_numberOfLeadingZeros_31 : decode prog_12_method_47_code 31 = .ok (.iushr, 1) := by decide +kernel
theorem dIg_numberOfLeadingZeros_32 : decode prog_12_method_47_code 32 = .ok (.istore_n 0, 1) := by decide +kernel
theorem dIg_numberOfLeadingZeros_33 : decode prog_12_method_47_code 33 = .ok (.iload_n 0, 1) := by decide +kernel
theorem dIg_numberOfLeadingZeros_34 : decode prog_12_method_47_code 34 = .ok (.sipush 256, 3) := by decide +kernel
theorem dIg_numberOfLeadingZeros_37 : decode prog_12_method_47_code 37 = .ok (.if_icmp .lt 11, 3) := by decide +kernel
theorem dIg_numberOfLeadingZeros_40 : decode prog_12_method_47_code 40 = .ok (.iinc 1 (-8), 3) := by decide +kernel
theorem dIg_numberOfLeadingZeros_43 : decode prog_12_method_47_code 43 = .ok (.iload_n 0, 1) := by decide +kernel
theorem dIg_numberOfLeadingZeros_44 : decode prog_12_method_47_code 44 = .ok (.bipush 8, 2) := by decide +kernel
theorem dIg_numberOfLeadingZeros_46 : decode prog_12_method_47_code 46 = .ok (.iushr, 1) := by decide +kernel
theorem dIg_numberOfLeadingZeros_47 : decode prog_12_method_47_code 47 = .ok (.istore_n 0, 1) := by decide +kernel
theorem dIg_numberOfLeadingZeros_48 : decode prog_12_method_47_code 48 = .ok (.iload_n 0, 1) := by decide +kernel
theorem dIg_numberOfLeadingZeros_49 : decode prog_12_method_47_code 49 = .ok (.bipush 16, 2) := by decide +kernel
theorem dIg_numberOfLeadingZeros_51 : decode prog_12_method_47_code 51 = .ok (.if_icmp .lt 10, 3) := by decide +kernel
theorem dIg_numberOfLeadingZeros_54 : decode prog_12_method_47_code 54 = .ok (.iinc 1 (-4), 3) := by decide +kernel
theorem dIg_numberOfLeadingZeros_57 : decode prog_12_method_47_code 57 = .ok (.iload_n 0, 1) := by decide +kernel
theorem dIg_numberOfLeadingZeros_58 : decode prog_12_method_47_code 58 = .ok (.iconst 4, 1) := by decide +kernel
theorem dIg_numberOfLeadingZeros_59 : decode prog_12_method_47_code 59 = .ok (.iushr, 1) := by decide +kernel
theorem dIg_numberOfLeadingZeros_60 : decode prog_12_method_47_code 60 = .ok (.istore_n 0, 1) := by decide +kernel
theorem dIg_numberOfLeadingZeros_61 : decode prog_12_method_47_code 61 = .ok (.iload_n 0, 1) := by decide +kernel
theorem dIg_numberOfLeadingZeros_62 : decode prog_12_method_47_code 62 = .ok (.iconst 4, 1) := by decide +kernel
theorem dIg_numberOfLeadingZeros_63 : decode prog_12_method_47_code 63 = .ok (.if_icmp .lt 10, 3) := by decide +kernel
theorem dIg_numberOfLeadingZeros_66 : decode prog_12_method_47_code 66 = .ok (.iinc 1 (-2), 3) := by decide +kernel
theorem dIg_numberOfLeadingZeros_69 : decode prog_12_method_47_code 69 = .ok (.iload_n 0, 1) := by decide +kernel
theorem dIg_numberOfLeadingZeros_70 : decode prog_12_method_47_code 70 = .ok (.iconst 2, 1) := by decide +kernel
theorem dIg_numberOfLeadingZeros_71 : decode prog_12_method_47_code 71 = .ok (.iushr, 1) := by decide +kernel
theorem dIg_numberOfLeadingZeros_72 : decode prog_12_method_47_code 72 = .ok (.istore_n 0, 1) := by decide +kernel
theorem dIg_numberOfLeadingZeros_73 : decode prog_12_method_47_code 73 = .ok (.iload_n 1, 1) := by decide +kernel
theorem dIg_numberOfLeadingZeros_74 : decode prog_12_method_47_code 74 = .ok (.iload_n 0, 1) := by decide +kernel
theorem dIg_numberOfLeadingZeros_75 : decode prog_12_method_47_code 75 = .ok (.iconst 1, 1) := by decide +kernel
theorem dIg_numberOfLeadingZeros_76 : decode prog_12_method_47_code 76 = .ok (.iushr, 1) := by decide +kernel
theorem dIg_numberOfLeadingZeros_77 : decode prog_12_method_47_code 77 = .ok (.isub, 1) := by decide +kernel
theorem dIg_numberOfLeadingZeros_78 : decode prog_12_method_47_code 78 = .ok (.ireturn, 1) := by decide +kernel
set_option maxHeartbeats 4000000 in
set_option maxRecDepth 100000 in
theorem wIg_numberOfLeadingZeros_73 {l : Launch} {G : ek_G} {kd : Nat → Nat} {p : Program} {e : Env} {s : State} {m : MethodId} {args : Array Value} {below : List Frame} {meth : Method} {c : Code} (X : ek_X p s m meth c args G prog_12_method_47_code 2 "java/lang/Integer" (some .int)) {q : ek_St × Int32} {I : ek_St} {i0 : Int32} {i1 : Int32} (hf : fIg_numberOfLeadingZeros_73 kd I i0 i1 = some q) {H : Heap} {locs : List Loc} {ls : Array Slot} (hw : ek_W G kd I H) (hS : va_S (ek_A G kd) s.heap H locs) (hl : lv_has ls 2 [(0, .int i0), (1, .int i1)]) : W p l e ({ frames := 0, cells := 0, slots := 0, locals := 0 } : Room) s m args below meth c H locs 0 0 (MQ below (ek_Q G kd (some (.int q.2)) q.1) args s 0 0 (ek_A G kd)) (F0 m 73 ls []) := by
  obtain ⟨hx, hb, hml, hown, hts, hr, hlocks, hK⟩ := id X
  have hA : ∀ q, ek_A G kd q → ek_A G kd q := fun _ h => h
  unfold fIg_numberOfLeadingZeros_73 at hf
  refine lv_iload_n hx hb dIg_numberOfLeadingZeros_73 rfl (lv_at hl 1 rfl) ?_
  refine lv_iload_n hx hb dIg_numberOfLeadingZeros_74 rfl (lv_at hl 0 rfl) ?_
  refine lv_iconst (v := (1 : Int32)) hx hb dIg_numberOfLeadingZeros_75 (by decide) ?_
  refine lv_iushr hx hb dIg_numberOfLeadingZeros_76 rfl ?_
  refine lv_isub hx hb dIg_numberOfLeadingZeros_77 ?_
  exact ek_iret hx hb hr hlocks hw hS hf dIg_numberOfLeadingZeros_78
set_option maxHeartbeats 4000000 in
set_option maxRecDepth 100000 in
theorem wIg_numberOfLeadingZeros_61 {l : Launch} {G : ek_G} {kd : Nat → Nat} {p : Program} {e : Env} {s : State} {m : MethodId} {args : Array Value} {below : List Frame} {meth : Method} {c : Code} (X : ek_X p s m meth c args G prog_12_method_47_code 2 "java/lang/Integer" (some .int)) {q : ek_St × Int32} {I : ek_St} {i0 : Int32} {i1 : Int32} (hf : fIg_numberOfLeadingZeros_61 kd I i0 i1 = some q) {H : Heap} {locs : List Loc} {ls : Array Slot} (hw : ek_W G kd I H) (hS : va_S (ek_A G kd) s.heap H locs) (hl : lv_has ls 2 [(0, .int i0), (1, .int i1)]) : W p l e ({ frames := 0, cells := 0, slots := 0, locals := 0 } : Room) s m args below meth c H locs 0 0 (MQ below (ek_Q G kd (some (.int q.2)) q.1) args s 0 0 (ek_A G kd)) (F0 m 61 ls []) := by
  obtain ⟨hx, hb, hml, hown, hts, hr, hlocks, hK⟩ := id X
  have hA : ∀ q, ek_A G kd q → ek_A G kd q := fun _ h => h
  unfold fIg_numberOfLeadingZeros_61 at hf
  refine lv_iload_n hx hb dIg_numberOfLeadingZeros_61 rfl (lv_at hl 0 rfl) ?_
  refine lv_iconst (v := (4 : Int32)) hx hb dIg_numberOfLeadingZeros_62 (by decide) ?_
  refine lv_icmp_lt (tgt := 73) hx hb dIg_numberOfLeadingZeros_63 (by decide) (fun c1 => ?_) (fun c1 => ?_)
  · have hf := ek_t c1 hf
    exact wIg_numberOfLeadingZeros_73 X hf hw hS (lv_sub hl [0, 1] rfl)
  · have hf := ek_f c1 hf
    refine ek_iinc hx hb 1 (fun i1_2 => [(1, .int i1_2), (0, .int i0)]) dIg_numberOfLeadingZeros_66 hl rfl (v := i1 + (-2 : Int32)) rfl hf (by decide) (fun i1_2 => ek_s1k 0 rfl rfl rfl rfl rfl) (fun i1_2 ls hf hl => ?_)
    refine lv_iload_n hx hb dIg_numberOfLeadingZeros_69 rfl (lv_at hl 1 rfl) ?_
    refine lv_iconst (v := (2 : Int32)) hx hb dIg_numberOfLeadingZeros_70 (by decide) ?_
    refine lv_iushr hx hb dIg_numberOfLeadingZeros_71 rfl ?_
    refine ek_ti hf (fun i0_3 hf => ?_)
    refine ek_istore_n (lv' := [(0, .int i0_3), (1, .int i1_2)]) hx hb dIg_numberOfLeadingZeros_72 rfl hl (by decide) (ek_s1 rfl rfl) (fun ls hl => ?_)
    exact wIg_numberOfLeadingZeros_73 X hf hw hS (lv_sub hl [0, 1] rfl)
set_option maxHeartbeats 4000000 in
set_option maxRecDepth 100000 in
theorem wIg_numberOfLeadingZeros_48 {l : Launch} {G : ek_G} {kd : Nat → Nat} {p : Program} {e : Env} {s : State} {m : MethodId} {args : Array Value} {below : List Frame} {meth : Method} {c : Code} (X : ek_X p s m meth c args G prog_12_method_47_code 2 "java/lang/Integer" (some .int)) {q : ek_St × Int32} {I : ek_St} {i0 : Int32} {i1 : Int32} (hf : fIg_numberOfLeadingZeros_48 kd I i0 i1 = some q) {H : Heap} {locs : List Loc} {ls : Array Slot} (hw : ek_W G kd I H) (hS : va_S (ek_A G kd) s.heap H locs) (hl : lv_has ls 2 [(0, .int i0), (1, .int i1)]) : W p l e ({ frames := 0, cells := 0, slots := 0, locals := 0 } : Room) s m args below meth c H locs 0 0 (MQ below (ek_Q G kd (some (.int q.2)) q.1) args s 0 0 (ek_A G kd)) (F0 m 48 ls []) := by
  obtain ⟨hx, hb, hml, hown, hts, hr, hlocks, hK⟩ := id X
  have hA : ∀ q, ek_A G kd q → ek_A G kd q := fun _ h => h
  unfold fIg_numberOfLeadingZeros_48 at hf
  refine lv_iload_n hx hb dIg_numberOfLeadingZeros_48 rfl (lv_at hl 0 rfl) ?_
  refine lv_bipush (v := (16 : Int32)) hx hb dIg_numberOfLeadingZeros_49 (by decide) ?_
  refine lv_icmp_lt (tgt := 61) hx hb dIg_numberOfLeadingZeros_51 (by decide) (fun c1 => ?_) (fun c1 => ?_)
  · have hf := ek_t c1 hf
    exact wIg_numberOfLeadingZeros_61 X hf hw hS (lv_sub hl [0, 1] rfl)
  · have hf := ek_f c1 hf
    refine ek_iinc hx hb 1 (fun i1_2 => [(1, .int i1_2), (0, .int i0)]) dIg_numberOfLeadingZeros_54 hl rfl (v := i1 + (-4 : Int32)) rfl hf (by decide) (fun i1_2 => ek_s1k 0 rfl rfl rfl rfl rfl) (fun i1_2 ls hf hl => ?_)
    refine lv_iload_n hx hb dIg_numberOfLeadingZeros_57 rfl (lv_at hl 1 rfl) ?_
    refine lv_iconst (v := (4 : Int32)) hx hb dIg_numberOfLeadingZeros_58 (by decide) ?_
    refine lv_iushr hx hb dIg_numberOfLeadingZeros_59 rfl ?_
    refine ek_ti hf (fun i0_3 hf => ?_)
    refine ek_istore_n (lv' := [(0, .int i0_3), (1, .int i1_2)]) hx hb dIg_numberOfLeadingZeros_60 rfl hl (by decide) (ek_s1 rfl rfl) (fun ls hl => ?_)
    exact wIg_numberOfLeadingZeros_61 X hf hw hS (lv_sub hl [0, 1] rfl)
set_option maxHeartbeats 4000000 in
set_option maxRecDepth 100000 in
theorem wIg_numberOfLeadingZeros_33 {l : Launch} {G : ek_G} {kd : Nat → Nat} {p : Program} {e : Env} {s : State} {m : MethodId} {args : Array Value} {below : List Frame} {meth : Method} {c : Code} (X : ek_X p s m meth c args G prog_12_method_47_code 2 "java/lang/Integer" (some .int)) {q : ek_St × Int32} {I : ek_St} {i0 : Int32} {i1 : Int32} (hf : fIg_numberOfLeadingZeros_33 kd I i0 i1 = some q) {H : Heap} {locs : List Loc} {ls : Array Slot} (hw : ek_W G kd I H) (hS : va_S (ek_A G kd) s.heap H locs) (hl : lv_has ls 2 [(0, .int i0), (1, .int i1)]) : W p l e ({ frames := 0, cells := 0, slots := 0, locals := 0 } : Room) s m args below meth c H locs 0 0 (MQ below (ek_Q G kd (some (.int q.2)) q.1) args s 0 0 (ek_A G kd)) (F0 m 33 ls []) := by
  obtain ⟨hx, hb, hml, hown, hts, hr, hlocks, hK⟩ := id X
  have hA : ∀ q, ek_A G kd q → ek_A G kd q := fun _ h => h
  unfold fIg_numberOfLeadingZeros_33 at hf
  refine lv_iload_n hx hb dIg_numberOfLeadingZeros_33 rfl (lv_at hl 0 rfl) ?_
  refine lv_sipush (v := (256 : Int32)) hx hb dIg_numberOfLeadingZeros_34 (by decide) ?_
  refine lv_icmp_lt (tgt := 48) hx hb dIg_numberOfLeadingZeros_37 (by decide) (fun c1 => ?_) (fun c1 => ?_)
  · have hf := ek_t c1 hf
    exact wIg_numberOfLeadingZeros_48 X hf hw hS (lv_sub hl [0, 1] rfl)
  · have hf := ek_f c1 hf
    refine ek_iinc hx hb 1 (fun i1_2 => [(1, .int i1_2), (0, .int i0)]) dIg_numberOfLeadingZeros_40 hl rfl (v := i1 + (-8 : Int32)) rfl hf (by decide) (fun i1_2 => ek_s1k 0 rfl rfl rfl rfl rfl) (fun i1_2 ls hf hl => ?_)
    refine lv_iload_n hx hb dIg_numberOfLeadingZeros_43 rfl (lv_at hl 1 rfl) ?_
    refine lv_bipush (v := (8 : Int32)) hx hb dIg_numberOfLeadingZeros_44 (by decide) ?_
    refine lv_iushr hx hb dIg_numberOfLeadingZeros_46 rfl ?_
    refine ek_ti hf (fun i0_3 hf => ?_)
    refine ek_istore_n (lv' := [(0, .int i0_3), (1, .int i1_2)]) hx hb dIg_numberOfLeadingZeros_47 rfl hl (by decide) (ek_s1 rfl rfl) (fun ls hl => ?_)
    exact wIg_numberOfLeadingZeros_48 X hf hw hS (lv_sub hl [0, 1] rfl)
set_option maxHeartbeats 4000000 in
set_option maxRecDepth 100000 in
theorem wIg_numberOfLeadingZeros_0 {l : Launch} {G : ek_G} {kd : Nat → Nat} {p : Program} {e : Env} {s : State} {m : MethodId} {args : Array Value} {below : List Frame} {meth : Method} {c : Code} (X : ek_X p s m meth c args G prog_12_method_47_code 2 "java/lang/Integer" (some .int)) {q : ek_St × Int32} {I : ek_St} {i0 : Int32} (hf : fIg_numberOfLeadingZeros_0 kd I i0 = some q) {H : Heap} {locs : List Loc} {ls : Array Slot} (hw : ek_W G kd I H) (hS : va_S (ek_A G kd) s.heap H locs) (hl : lv_has ls 2 [(0, .int i0)]) : W p l e ({ frames := 0, cells := 0, slots := 0, locals := 0 } : Room) s m args below meth c H locs 0 0 (MQ below (ek_Q G kd (some (.int q.2)) q.1) args s 0 0 (ek_A G kd)) (F0 m 0 ls []) := by
  obtain ⟨hx, hb, hml, hown, hts, hr, hlocks, hK⟩ := id X
  have hA : ∀ q, ek_A G kd q → ek_A G kd q := fun _ h => h
  unfold fIg_numberOfLeadingZeros_0 at hf
  refine lv_iload_n hx hb dIg_numberOfLeadingZeros_0 rfl (lv_at hl 0 rfl) ?_
  refine lv_if_gt (tgt := 15) hx hb dIg_numberOfLeadingZeros_1 (by decide) (fun c1 => ?_) (fun c1 => ?_)
  · have hf := ek_t c1 hf
    refine lv_bipush (v := (31 : Int32)) hx hb dIg_numberOfLeadingZeros_15 (by decide) ?_
    refine ek_istore_n (lv' := [(1, .int ((31 : Int32))), (0, .int i0)]) hx hb dIg_numberOfLeadingZeros_17 rfl hl (by decide) (ek_s1k 0 rfl rfl rfl rfl rfl) (fun ls hl => ?_)
    refine lv_iload_n hx hb dIg_numberOfLeadingZeros_18 rfl (lv_at hl 1 rfl) ?_
    refine lv_ldcw hx hb hown (hts _ q_371) dIg_numberOfLeadingZeros_19 ?_
    refine lv_icmp_lt (tgt := 33) hx hb dIg_numberOfLeadingZeros_22 (by decide) (fun c2 => ?_) (fun c2 => ?_)
    · have hf := ek_t c2 hf
      exact wIg_numberOfLeadingZeros_33 X hf hw hS (lv_sub hl [1, 0] rfl)
    · have hf := ek_f c2 hf
      refine ek_iinc hx hb 0 (fun i1_3 => [(1, .int i1_3), (0, .int i0)]) dIg_numberOfLeadingZeros_25 hl rfl (v := (31 : Int32) + (-16 : Int32)) rfl hf (by decide) (fun i1_3 => ek_s1k 1 rfl rfl rfl rfl rfl) (fun i1_3 ls hf hl => ?_)
      refine lv_iload_n hx hb dIg_numberOfLeadingZeros_28 rfl (lv_at hl 1 rfl) ?_
      refine lv_bipush (v := (16 : Int32)) hx hb dIg_numberOfLeadingZeros_29 (by decide) ?_
      refine lv_iushr hx hb dIg_numberOfLeadingZeros_31 rfl ?_
      refine ek_ti hf (fun i0_4 hf => ?_)
      refine ek_istore_n (lv' := [(0, .int i0_4), (1, .int i1_3)]) hx hb dIg_numberOfLeadingZeros_32 rfl hl (by decide) (ek_s1 rfl rfl) (fun ls hl => ?_)
      exact wIg_numberOfLeadingZeros_33 X hf hw hS (lv_sub hl [0, 1] rfl)
  · have hf := ek_f c1 hf
    refine lv_iload_n hx hb dIg_numberOfLeadingZeros_4 rfl (lv_at hl 0 rfl) ?_
    refine lv_if_ne (tgt := 13) hx hb dIg_numberOfLeadingZeros_5 (by decide) (fun c5 => ?_) (fun c5 => ?_)
    · have hf := ek_f c5 hf
      refine lv_iconst (v := (0 : Int32)) hx hb dIg_numberOfLeadingZeros_13 (by decide) ?_
      exact ek_iret hx hb hr hlocks hw hS hf dIg_numberOfLeadingZeros_14
    · have hf := ek_t c5 hf
      refine lv_bipush (v := (32 : Int32)) hx hb dIg_numberOfLeadingZeros_8 (by decide) ?_
      refine lv_goto (tgt := 14) hx hb dIg_numberOfLeadingZeros_10 (by decide) ?_
      exact ek_iret hx hb hr hlocks hw hS hf dIg_numberOfLeadingZeros_14
set_option maxHeartbeats 4000000 in
set_option maxRecDepth 100000 in
theorem mIg_numberOfLeadingZeros {l : Launch} {G : ek_G} {kd : Nat → Nat} {I : ek_St} {i0 : Int32} {q : ek_St × Int32} (hf : fIg_numberOfLeadingZeros kd I i0 = some q) : ek_M l G kd y_Ig_numberOfLeadingZeros (.code y_Ig_numberOfLeadingZeros prog_12_method_47_code 2 (some .int) :: lw_g) ({ frames := 0, cells := 0, slots := 0, locals := 0 } : Room) [.int i0] I (some (.int q.2)) q.1 :=
  ek_body [(0, .int i0)] (by decide) (by simp [lg_sl, ek_r_cat, ek_c_i, ek_c_l]) (by simp [lv_args, ek_r_cat, ek_c_i, ek_c_l]) (fun p e s m below meth c ls X hw hS hl => wIg_numberOfLeadingZeros_0 X hf hw hS hl)
