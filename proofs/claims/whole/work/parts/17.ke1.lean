/-! ElasticKernel.arePeriods(III)Z -/
def fKe_arePeriods_26 (kd : Nat → Nat) (I : ek_St) : Option (ek_St × Int32) :=
  ek_ck (((0 : Int32)) = (0 : Int32) ∨ ((0 : Int32)) = (1 : Int32)) (some (I, (0 : Int32)))
def fKe_arePeriods_0 (kd : Nat → Nat) (I : ek_St) (i0 : Int32) (i1 : Int32) (i2 : Int32) : Option (ek_St × Int32) :=
  if i0 < ((1 : Int32)) then (fKe_arePeriods_26 kd I) else (if i1 < i0 then (fKe_arePeriods_26 kd I) else (if i2 < i1 then (fKe_arePeriods_26 kd I) else (if ((20000 : Int32)) < i2 then (fKe_arePeriods_26 kd I) else (ek_ck (((1 : Int32)) = (0 : Int32) ∨ ((1 : Int32)) = (1 : Int32)) (some (I, (1 : Int32)))))))
def fKe_arePeriods (kd : Nat → Nat) (I : ek_St) (i0 : Int32) (i1 : Int32) (i2 : Int32) : Option (ek_St × Int32) := fKe_arePeriods_0 kd I i0 i1 i2
theorem dKe_arePeriods_0 : decode prog_1_method_12_code 0 = .ok (.iload_n 0, 1) := by decide +kernel
theorem dKe_arePeriods_1 : decode prog_1_method_12_code 1 = .ok (.iconst 1, 1) := by decide +kernel
theorem dKe_arePeriods_2 : decode prog_1_method_12_code 2 = .ok (.if_icmp .lt 24, 3) := by decide +kernel
theorem dKe_arePeriods_5 : decode prog_1_method_12_code 5 = .ok (.iload_n 0, 1) := by decide +kernel
theorem dKe_arePeriods_6 : decode prog_1_method_12_code 6 = .ok (.iload_n 1, 1) := by decide +kernel
theorem dKe_arePeriods_7 : decode prog_1_method_12_code 7 = .ok (.if_icmp .gt 19, 3) := by decide +kernel
theorem dKe_arePeriods_10 : decode prog_1_method_12_code 10 = .ok (.iload_n 1, 1) := by decide +kernel
theorem dKe_arePeriods_11 : decode prog_1_method_12_code 11 = .ok (.iload_n 2, 1) := by decide +kernel
theorem dKe_arePeriods_12 : decode prog_1_method_12_code 12 = .ok (.if_icmp .gt 14, 3) := by decide +kernel
theorem dKe_arePeriods_15 : decode prog_1_method_12_code 15 = .ok (.iload_n 2, 1) := by decide +kernel
theorem dKe_arePeriods_16 : decode prog_1_method_12_code 16 = .ok (.sipush 20000, 3) := by decide +kernel
theorem dKe_arePeriods_19 : decode prog_1_method_12_code 19 = .ok (.if_icmp .gt 7, 3) := by decide +kernel
theorem dKe_arePeriods_22 : decode prog_1_method_12_code 22 = .ok (.iconst 1, 1) := by decide +kernel
theorem dKe_arePeriods_23 : decode prog_1_method_12_code 23 = .ok (.goto 4, 3) := by decide +kernel
theorem dKe_arePeriods_26 : decode prog_1_method_12_code 26 = .ok (.iconst 0, 1) := by decide +kernel
theorem dKe_arePeriods_27 : decode prog_1_method_12_code 27 = .ok (.ireturn, 1) := by decide +kernel
set_option maxHeartbeats 4000000 in
set_option maxRecDepth 100000 in
theorem wKe_arePeriods_26 {l : Launch} {G : ek_G} {kd : Nat → Nat} {p : Program} {e : Env} {s : State} {m : MethodId} {args : Array Value} {below : List Frame} {meth : Method} {c : Code} (X : ek_X p s m meth c args G prog_1_method_12_code 3 "ElasticKernel" (some .boolean)) {q : ek_St × Int32} {I : ek_St} (hf : fKe_arePeriods_26 kd I = some q) {H : Heap} {locs : List Loc} {ls : Array Slot} (hw : ek_W G kd I H) (hS : va_S (ek_A G kd) s.heap H locs) (hl : lv_has ls 3 []) : W p l e ({ frames := 0, cells := 0, slots := 0, locals := 0 } : Room) s m args below meth c H locs 0 0 (MQ below (ek_Q G kd (some (.int q.2)) q.1) args s 0 0 (ek_A G kd)) (F0 m 26 ls []) := by
  obtain ⟨hx, hb, hml, hown, hts, hr, hlocks, hK⟩ := id X
  have hA : ∀ q, ek_A G kd q → ek_A G kd q := fun _ h => h
  unfold fKe_arePeriods_26 at hf
  refine lv_iconst (v := (0 : Int32)) hx hb dKe_arePeriods_26 (by decide) ?_
  exact ek_zret hx hb hr hlocks hw hS hf dKe_arePeriods_27
set_option maxHeartbeats 4000000 in
set_option maxRecDepth 100000 in
theorem wKe_arePeriods_0 {l : Launch} {G : ek_G} {kd : Nat → Nat} {p : Program} {e : Env} {s : State} {m : MethodId} {args : Array Value} {below : List Frame} {meth : Method} {c : Code} (X : ek_X p s m meth c args G prog_1_method_12_code 3 "ElasticKernel" (some .boolean)) {q : ek_St × Int32} {I : ek_St} {i0 : Int32} {i1 : Int32} {i2 : Int32} (hf : fKe_arePeriods_0 kd I i0 i1 i2 = some q) {H : Heap} {locs : List Loc} {ls : Array Slot} (hw : ek_W G kd I H) (hS : va_S (ek_A G kd) s.heap H locs) (hl : lv_has ls 3 [(0, .int i0), (1, .int i1), (2, .int i2)]) : W p l e ({ frames := 0, cells := 0, slots := 0, locals := 0 } : Room) s m args below meth c H locs 0 0 (MQ below (ek_Q G kd (some (.int q.2)) q.1) args s 0 0 (ek_A G kd)) (F0 m 0 ls []) := by
  obtain ⟨hx, hb, hml, hown, hts, hr, hlocks, hK⟩ := id X
  have hA : ∀ q, ek_A G kd q → ek_A G kd q := fun _ h => h
  unfold fKe_arePeriods_0 at hf
  refine lv_iload_n hx hb dKe_arePeriods_0 rfl (lv_at hl 0 rfl) ?_
  refine lv_iconst (v := (1 : Int32)) hx hb dKe_arePeriods_1 (by decide) ?_
  refine lv_icmp_lt (tgt := 26) hx hb dKe_arePeriods_2 (by decide) (fun c1 => ?_) (fun c1 => ?_)
  · have hf := ek_t c1 hf
    exact wKe_arePeriods_26 X hf hw hS (lv_sub hl [] rfl)
  · have hf := ek_f c1 hf
    refine lv_iload_n hx hb dKe_arePeriods_5 rfl (lv_at hl 0 rfl) ?_
    refine lv_iload_n hx hb dKe_arePeriods_6 rfl (lv_at hl 1 rfl) ?_
    refine lv_icmp_gt (tgt := 26) hx hb dKe_arePeriods_7 (by decide) (fun c2 => ?_) (fun c2 => ?_)
    · have hf := ek_t c2 hf
      exact wKe_arePeriods_26 X hf hw hS (lv_sub hl [] rfl)
    · have hf := ek_f c2 hf
      refine lv_iload_n hx hb dKe_arePeriods_10 rfl (lv_at hl 1 rfl) ?_
      refine lv_iload_n hx hb dKe_arePeriods_11 rfl (lv_at hl 2 rfl) ?_
      refine lv_icmp_gt (tgt := 26) hx hb dKe_arePeriods_12 (by decide) (fun c3 => ?_) (fun c3 => ?_)
      · have hf := ek_t c3 hf
        exact wKe_arePeriods_26 X hf hw hS (lv_sub hl [] rfl)
      · have hf := ek_f c3 hf
        refine lv_iload_n hx hb dKe_arePeriods_15 rfl (lv_at hl 2 rfl) ?_
        refine lv_sipush (v := (20000 : Int32)) hx hb dKe_arePeriods_16 (by decide) ?_
        refine lv_icmp_gt (tgt := 26) hx hb dKe_arePeriods_19 (by decide) (fun c4 => ?_) (fun c4 => ?_)
        · have hf := ek_t c4 hf
          exact wKe_arePeriods_26 X hf hw hS (lv_sub hl [] rfl)
        · have hf := ek_f c4 hf
          refine lv_iconst (v := (1 : Int32)) hx hb dKe_arePeriods_22 (by decide) ?_
          refine lv_goto (tgt := 27) hx hb dKe_arePeriods_23 (by decide) ?_
          exact ek_zret hx hb hr hlocks hw hS hf dKe_arePeriods_27
set_option maxHeartbeats 4000000 in
set_option maxRecDepth 100000 in
theorem mKe_arePeriods {l : Launch} {G : ek_G} {kd : Nat → Nat} {I : ek_St} {i0 : Int32} {i1 : Int32} {i2 : Int32} {q : ek_St × Int32} (hf : fKe_arePeriods kd I i0 i1 i2 = some q) : ek_M l G kd y_Ke_arePeriods (.code y_Ke_arePeriods prog_1_method_12_code 3 (some .boolean) :: lw_g) ({ frames := 0, cells := 0, slots := 0, locals := 0 } : Room) [.int i0, .int i1, .int i2] I (some (.int q.2)) q.1 :=
  ek_body [(0, .int i0), (1, .int i1), (2, .int i2)] (by decide) (by simp [lg_sl, ek_r_cat, ek_c_i, ek_c_l]) (by simp [lv_args, ek_r_cat, ek_c_i, ek_c_l]) (fun p e s m below meth c ls X hw hS hl => wKe_arePeriods_0 X hf hw hS hl)
/-! ElasticKernel.isRefused(I)Z -/
def fKe_isRefused_0 (kd : Nat → Nat) (I : ek_St) (x0 : Nat) (i1 : Int32) : Option (ek_St × Int32) :=
  ek_ck (kd x0 = 7) (ek_ck (kd x0 = 7) (ek_ck (kd (x0 + 75) = 5) (ek_bi (fSp_firstTooMuch kd I (x0 + 75) (x0 + 1) i1) (fun I1 ir3 => if ir3 = ((0 : Int32)) then (ek_ck (((0 : Int32)) = (0 : Int32) ∨ ((0 : Int32)) = (1 : Int32)) (some (I1, (0 : Int32)))) else (ek_ck (kd x0 = 7) (ek_let (ek_up I1 x0 7 ir3) (fun I5 => ek_ck (((1 : Int32)) = (0 : Int32) ∨ ((1 : Int32)) = (1 : Int32)) (some (I5, (1 : Int32))))))))))
def fKe_isRefused (kd : Nat → Nat) (I : ek_St) (x0 : Nat) (i1 : Int32) : Option (ek_St × Int32) := fKe_isRefused_0 kd I x0 i1
theorem dKe_isRefused_0 : decode prog_1_method_14_code 0 = .ok (.aload_n 0, 1) := by decide +kernel
theorem dKe_isRefused_1 : decode prog_1_method_14_code 1 = .ok (.getfield 19, 3) := by decide +kernel
theorem dKe_isRefused_4 : decode prog_1_method_14_code 4 = .ok (.aload_n 0, 1) := by decide +kernel
theorem dKe_isRefused_5 : decode prog_1_method_14_code 5 = .ok (.getfield 10, 3) := by decide +kernel
theorem dKe_isRefused_8 : decode prog_1_method_14_code 8 = .ok (.iload_n 1, 1) := by decide +kernel
theorem dKe_isRefused_9 : decode prog_1_method_14_code 9 = .ok (.invokevirtual 172, 3) := by decide +kernel
theorem dKe_isRefused_12 : decode prog_1_method_14_code 12 = .ok (.istore_n 2, 1) := by decide +kernel
theorem dKe_isRefused_13 : decode prog_1_method_14_code 13 = .ok (.iload_n 2, 1) := by decide +kernel
theorem dKe_isRefused_14 : decode prog_1_method_14_code 14 = .ok (.ifCond .ne 5, 3) := by decide +kernel
theorem dKe_isRefused_17 : decode prog_1_method_14_code 17 = .ok (.iconst 0, 1) := by decide +kernel
theorem dKe_isRefused_18 : decode prog_1_method_14_code 18 = .ok (.ireturn, 1) := by decide +kernel
theorem dKe_isRefused_19 : decode prog_1_method_14_code 19 = .ok (.aload_n 0, 1) := by decide +kernel
theorem dKe_isRefused_20 : decode prog_1_method_14_code 20 = .ok (.iload_n 2, 1) := by decide +kernel
theorem dKe_isRefused_21 : decode prog_1_method_14_code 21 = .ok (.putfield 154, 3) := by decide +kernel
theorem dKe_isRefused_24 : decode prog_1_method_14_code 24 = .ok (.iconst 1, 1) := by decide +kernel
theorem dKe_isRefused_25 : decode prog_1_method_14_code 25 = .ok (.ireturn, 1) := by decide +kernel
set_option maxHeartbeats 4000000 in
set_option maxRecDepth 100000 in
theorem wKe_isRefused_0 {l : Launch} {G : ek_G} {kd : Nat → Nat} {p : Program} {e : Env} {s : State} {m : MethodId} {args : Array Value} {below : List Frame} {meth : Method} {c : Code} (X : ek_X p s m meth c args G prog_1_method_14_code 3 "ElasticKernel" (some .boolean)) {q : ek_St × Int32} {I : ek_St} {x0 : Nat} {i1 : Int32} (hf : fKe_isRefused_0 kd I x0 i1 = some q) {H : Heap} {locs : List Loc} {ls : Array Slot} (hw : ek_W G kd I H) (hS : va_S (ek_A G kd) s.heap H locs) (hl : lv_has ls 3 [(0, ek_r G x0), (1, .int i1)]) : W p l e ({ frames := 4, cells := 0, slots := 0, locals := 103 } : Room) s m args below meth c H locs 0 0 (MQ below (ek_Q G kd (some (.int q.2)) q.1) args s 0 0 (ek_A G kd)) (F0 m 0 ls []) := by
  obtain ⟨hx, hb, hml, hown, hts, hr, hlocks, hK⟩ := id X
  have hA : ∀ q, ek_A G kd q → ek_A G kd q := fun _ h => h
  unfold fKe_isRefused_0 at hf
  refine ek_aload_n hx hb dKe_isRefused_0 rfl (lv_at hl 0 rfl) ?_
  refine ek_getr hx hb 7 hts (in_Ke) hown hK hw rfl (by decide) (by decide) 1 (by decide) (n := 74) rfl rfl (hts _ q_194) hf dKe_isRefused_1 (fun hf => ?_)
  refine ek_aload_n hx hb dKe_isRefused_4 rfl (lv_at hl 0 rfl) ?_
  refine ek_getr hx hb 7 hts (in_Ke) hown hK hw rfl (by decide) (by decide) 0 (by decide) (n := 0) rfl rfl (hts _ q_193) hf dKe_isRefused_5 (fun hf => ?_)
  refine lv_iload_n hx hb dKe_isRefused_8 rfl (lv_at hl 1 rfl) ?_
  obtain ⟨hx2, hf⟩ := ek_ck_s hf
  refine ek_ci hf hS hA (fun I' v hq => ek_rV (As := [ek_r G (x0 + 1), .int i1]) ⟨hx, hb, hml, hown, hts⟩ hK hw 5 rfl (by decide) (by decide) hx2 (mSp_firstTooMuch hq) (cwV 2 hts (lw_V q_244 q_245 q_246 q_6 q_247) rfl rfl rfl (by decide +kernel) ⟨Nat.le_of_ble_eq_true rfl, Nat.le_of_ble_eq_true rfl⟩) rfl hl.1 rfl (Nat.le_of_ble_eq_true rfl) dKe_isRefused_9 ⟨Nat.zero_le _, Nat.zero_le _⟩) (fun I1 ir3 H locs hf hw hS => ?_)
  refine ek_istore_n (lv' := [(2, .int ir3), (1, .int i1), (0, ek_r G x0)]) hx hb dKe_isRefused_12 rfl hl (by decide) (ek_s1k 1 rfl rfl rfl rfl rfl) (fun ls hl => ?_)
  refine lv_iload_n hx hb dKe_isRefused_13 rfl (lv_at hl 0 rfl) ?_
  refine lv_if_ne (tgt := 19) hx hb dKe_isRefused_14 (by decide) (fun c4 => ?_) (fun c4 => ?_)
  · have hf := ek_f c4 hf
    refine ek_aload_n hx hb dKe_isRefused_19 rfl (lv_at hl 2 rfl) ?_
    refine lv_iload_n hx hb dKe_isRefused_20 rfl (lv_at hl 0 rfl) ?_
    refine ek_puti hx hb 7 hts (in_Ke) ty_Ke ty_Ke_ok nm_Ke hown hK hw hS hA rfl (by decide) (by decide) 7 (by decide) rfl (hts _ q_200) rfl rfl rfl hf dKe_isRefused_21 (fun I5 H locs hf hw hS => ?_)
    refine lv_iconst (v := (1 : Int32)) hx hb dKe_isRefused_24 (by decide) ?_
    exact ek_zret hx hb hr hlocks hw hS hf dKe_isRefused_25
  · have hf := ek_t c4 hf
    refine lv_iconst (v := (0 : Int32)) hx hb dKe_isRefused_17 (by decide) ?_
    exact ek_zret hx hb hr hlocks hw hS hf dKe_isRefused_18
set_option maxHeartbeats 4000000 in
set_option maxRecDepth 100000 in
theorem mKe_isRefused {l : Launch} {G : ek_G} {kd : Nat → Nat} {I : ek_St} {x0 : Nat} {i1 : Int32} {q : ek_St × Int32} (hf : fKe_isRefused kd I x0 i1 = some q) : ek_M l G kd y_Ke_isRefused (.code y_Ke_isRefused prog_1_method_14_code 3 (some .boolean) :: lw_g) ({ frames := 4, cells := 0, slots := 0, locals := 103 } : Room) [ek_r G x0, .int i1] I (some (.int q.2)) q.1 :=
  ek_body [(0, ek_r G x0), (1, .int i1)] (by decide) (by simp [lg_sl, ek_r_cat, ek_c_i, ek_c_l]) (by simp [lv_args, ek_r_cat, ek_c_i, ek_c_l]) (fun p e s m below meth c ls X hw hS hl => wKe_isRefused_0 X hf hw hS hl)
/-! ElasticKernel.isWithin(II)Z -/
def fKe_isWithin_14 (kd : Nat → Nat) (I : ek_St) : Option (ek_St × Int32) :=
  ek_ck (((0 : Int32)) = (0 : Int32) ∨ ((0 : Int32)) = (1 : Int32)) (some (I, (0 : Int32)))
def fKe_isWithin_0 (kd : Nat → Nat) (I : ek_St) (i0 : Int32) (i1 : Int32) : Option (ek_St × Int32) :=
  if i0 < ((1 : Int32)) then (fKe_isWithin_14 kd I) else (if i1 < i0 then (fKe_isWithin_14 kd I) else (ek_ck (((1 : Int32)) = (0 : Int32) ∨ ((1 : Int32)) = (1 : Int32)) (some (I, (1 : Int32)))))
def fKe_isWithin (kd : Nat → Nat) (I : ek_St) (i0 : Int32) (i1 : Int32) : Option (ek_St × Int32) := fKe_isWithin_0 kd I i0 i1
theorem dKe_isWithin_0 : decode prog_1_method_11_code 0 = .ok (.iload_n 0, 1) := by decide +kernel
theorem dKe_isWithin_1 : decode prog_1_method_11_code 1 = .ok (.iconst 1, 1) := by decide +kernel
theorem dKe_isWithin_2 : decode prog_1_method_11_code 2 = .ok (.if_icmp .lt 12, 3) := by decide +kernel
theorem dKe_isWithin_5 : decode prog_1_method_11_code 5 = .ok (.iload_n 0, 1) := by decide +kernel
theorem dKe_isWithin_6 : decode prog_1_method_11_code 6 = .ok (.iload_n 1, 1) := by decide +kernel
theorem dKe_isWithin_7 : decode prog_1_method_11_code 7 = .ok (.if_icmp .gt 7, 3) := by decide +kernel
theorem dKe_isWithin_10 : decode prog_1_method_11_code 10 = .ok (.iconst 1, 1) := by decide +kernel
theorem dKe_isWithin_11 : decode prog_1_method_11_code 11 = .ok (.goto 4, 3) := by decide +kernel
theorem dKe_isWithin_14 : decode prog_1_method_11_code 14 = .ok (.iconst 0, 1) := by decide +kernel
theorem dKe_isWithin_15 : decode prog_1_method_11_code 15 = .ok (.ireturn, 1) := by decide +kernel
set_option maxHeartbeats 4000000 in
set_option maxRecDepth 100000 in
theorem wKe_isWithin_14 {l : Launch} {G : ek_G} {kd : Nat → Nat} {p : Program} {e : Env} {s : State} {m : MethodId} {args : Array Value} {below : List Frame} {meth : Method} {c : Code} (X : ek_X p s m meth c args G prog_1_method_11_code 2 "ElasticKernel" (some .boolean)) {q : ek_St × Int32} {I : ek_St} (hf : fKe_isWithin_14 kd I = some q) {H : Heap} {locs : List Loc} {ls : Array Slot} (hw : ek_W G kd I H) (hS : va_S (ek_A G kd) s.heap H locs) (hl : lv_has ls 2 []) : W p l e ({ frames := 0, cells := 0, slots := 0, locals := 0 } : Room) s m args below meth c H locs 0 0 (MQ below (ek_Q G kd (some (.int q.2)) q.1) args s 0 0 (ek_A G kd)) (F0 m 14 ls []) := by
  obtain ⟨hx, hb, hml, hown, hts, hr, hlocks, hK⟩ := id X
  have hA : ∀ q, ek_A G kd q → ek_A G kd q := fun _ h => h
  unfold fKe_isWithin_14 at hf
  refine lv_iconst (v := (0 : Int32)) hx hb dKe_isWithin_14 (by decide) ?_
  exact ek_zret hx hb hr hlocks hw hS hf dKe_isWithin_15
set_option maxHeartbeats 4000000 in
set_option maxRecDepth 100000 in
theorem wKe_isWithin_0 {l : Launch} {G : ek_G} {kd : Nat → Nat} {p : Program} {e : Env} {s : State} {m : MethodId} {args : Array Value} {below : List Frame} {meth : Method} {c : Code} (X : ek_X p s m meth c args G prog_1_method_11_code 2 "ElasticKernel" (some .boolean)) {q : ek_St × Int32} {I : ek_St} {i0 : Int32} {i1 : Int32} (hf : fKe_isWithin_0 kd I i0 i1 = some q) {H : Heap} {locs : List Loc} {ls : Array Slot} (hw : ek_W G kd I H) (hS : va_S (ek_A G kd) s.heap H locs) (hl : lv_has ls 2 [(0, .int i0), (1, .int i1)]) : W p l e ({ frames := 0, cells := 0, slots := 0, locals := 0 } : Room) s m args below meth c H locs 0 0 (MQ below (ek_Q G kd (some (.int q.2)) q.1) args s 0 0 (ek_A G kd)) (F0 m 0 ls []) := by
  obtain ⟨hx, hb, hml, hown, hts, hr, hlocks, hK⟩ := id X
  have hA : ∀ q, ek_A G kd q → ek_A G kd q := fun _ h => h
  unfold fKe_isWithin_0 at hf
  refine lv_iload_n hx hb dKe_isWithin_0 rfl (lv_at hl 0 rfl) ?_
  refine lv_iconst (v := (1 : Int32)) hx hb dKe_isWithin_1 (by decide) ?_
  refine lv_icmp_lt (tgt := 14) hx hb dKe_isWithin_2 (by decide) (fun c1 => ?_) (fun c1 => ?_)
  · have hf := ek_t c1 hf
    exact wKe_isWithin_14 X hf hw hS (lv_sub hl [] rfl)
  · have hf := ek_f c1 hf
    refine lv_iload_n hx hb dKe_isWithin_5 rfl (lv_at hl 0 rfl) ?_
    refine lv_iload_n hx hb dKe_isWithin_6 rfl (lv_at hl 1 rfl) ?_
    refine lv_icmp_gt (tgt := 14) hx hb dKe_isWithin_7 (by decide) (fun c2 => ?_) (fun c2 => ?_)
    · have hf := ek_t c2 hf
      exact wKe_isWithin_14 X hf hw hS (lv_sub hl [] rfl)
    · have hf := ek_f c2 hf
      refine lv_iconst (v := (1 : Int32)) hx hb dKe_isWithin_10 (by decide) ?_
      refine lv_goto (tgt := 15) hx hb dKe_isWithin_11 (by decide) ?_
      exact ek_zret hx hb hr hlocks hw hS hf dKe_isWithin_15
set_option maxHeartbeats 4000000 in
set_option maxRecDepth 100000 in
theorem mKe_isWithin {l : Launch} {G : ek_G} {kd : Nat → Nat} {I : ek_St} {i0 : Int32} {i1 : Int32} {q : ek_St × Int32} (hf : fKe_isWithin kd I i0 i1 = some q) : ek_M l G kd y_Ke_isWithin (.code y_Ke_isWithin prog_1_method_11_code 2 (some .boolean) :: lw_g) ({ frames := 0, cells := 0, slots := 0, locals := 0 } : Room) [.int i0, .int i1] I (some (.int q.2)) q.1 :=
  ek_body [(0, .int i0), (1, .int i1)] (by decide) (by simp [lg_sl, ek_r_cat, ek_c_i, ek_c_l]) (by simp [lv_args, ek_r_cat, ek_c_i, ek_c_l]) (fun p e s m below meth c ls X hw hS hl => wKe_isWithin_0 X hf hw hS hl)
/-! ElasticKernel.solve()V -/
def fKe_solve_128 (kd : Nat → Nat) (k70 : (ek_St × Nat × Int32) → Option (ek_St)) (I : ek_St) (x0 : Nat) (i1 : Int32) : Option (ek_St) :=
  ek_let (i1 + (1 : Int32)) (fun i1_1 => k70 (I, x0, i1_1))
def fKe_solve_106 (kd : Nat → Nat) (k70 : (ek_St × Nat × Int32) → Option (ek_St)) (I : ek_St) (x0 : Nat) (i1 : Int32) (x2 : Nat) : Option (ek_St) :=
  ek_ck (kd x2 = 6) (ek_bi (fTa_holdsUpChange kd I x2) (fun I1 ir3 => if ir3 = ((0 : Int32)) then (fKe_solve_128 kd k70 I1 x0 i1) else (ek_ck (kd x0 = 7) (ek_ck (kd x2 = 6) (ek_ck (kd x0 = 7) (ek_let (ek_up I1 x0 6 (if (I1 x0 6) < (I1 x2 8) then (I1 x2 8) else (I1 x0 6))) (fun I5 => fKe_solve_128 kd k70 I5 x0 i1)))))))
def fKe_solve_70 (kd : Nat → Nat) (k70 : (ek_St × Nat × Int32) → Option (ek_St)) (I : ek_St) (x0 : Nat) (i1 : Int32) : Option (ek_St) :=
  ek_ck (kd x0 = 7) (ek_ck (kd (x0 + 1) = 4) (if (I (x0 + 1) 1) ≤ i1 then (some I) else (ek_ck (kd x0 = 7) (ek_ck (kd (x0 + 1) = 4) (ek_ck (kd ((x0 + 1) + 1) = 60) (ek_ck (ek_in i1 12) (ek_let ((I ((x0 + 1) + 1) i1.toNatClampNeg).toNatClampNeg) (fun x2_2 => ek_ck (kd x2_2 = 6) (ek_bi (fTa_isSolved kd I x2_2) (fun I3 ir5 => if ir5 = ((0 : Int32)) then (fKe_solve_106 kd k70 I3 x0 i1 x2_2) else (ek_ck (kd x0 = 7) (ek_ck (kd (x0 + 75) = 5) (ek_bv (fSp_setLoad kd I3 (x0 + 75) x2_2) (fun I7 => fKe_solve_106 kd k70 I7 x0 i1 x2_2))))))))))))))
def fKe_solve_53 (kd : Nat → Nat) (I : ek_St) (x0 : Nat) : Option (ek_St) :=
  ek_ck (kd x0 = 7) (ek_ck (kd x0 = 7) (ek_ck (kd x0 = 7) (ek_let (ek_up I x0 6 (if (I x0 6) < (I x0 2) then (I x0 2) else (I x0 6))) (fun I1 => ek_lp (fun (k : (ek_St × Nat × Int32) → Option (ek_St)) (q : (ek_St × Nat × Int32)) => fKe_solve_70 kd k q.1 q.2.1 q.2.2) ek_N (I1, x0, (0 : Int32))))))
def fKe_solve_0 (kd : Nat → Nat) (I : ek_St) (x0 : Nat) : Option (ek_St) :=
  ek_ck (kd x0 = 7) (ek_ck (kd x0 = 7) (ek_let (ek_up I x0 5 ((I x0 5) + ((1 : Int32)))) (fun I1 => ek_ck (kd x0 = 7) (ek_ck (kd x0 = 7) (ek_ck (kd x0 = 7) (ek_ck (kd (x0 + 75) = 5) (ek_bi (fSp_haveRoom kd I1 (x0 + 75) (x0 + 1) (I1 x0 3)) (fun I2 ir4 => if ir4 = ((0 : Int32)) then (ek_ck (kd x0 = 7) (ek_ck (kd x0 = 7) (ek_ck (kd x0 = 7) (ek_ck (kd (x0 + 75) = 5) (ek_bv (fSp_press kd I2 (x0 + 75) (x0 + 1) (I2 x0 3)) (fun I6 => fKe_solve_53 kd I6 x0)))))) else (ek_ck (kd x0 = 7) (ek_ck (kd (x0 + 75) = 5) (ek_bv (fSp_relax kd I2 (x0 + 75)) (fun I8 => fKe_solve_53 kd I8 x0))))))))))))
def fKe_solve (kd : Nat → Nat) (I : ek_St) (x0 : Nat) : Option (ek_St) := fKe_solve_0 kd I x0
theorem dKe_solve_0 : decode prog_1_method_15_code 0 = .ok (.aload_n 0, 1) := by decide +kernel
theorem dKe_solve_1 : decode prog_1_method_15_code 1 = .ok (.dup, 1) := by decide +kernel
theorem dKe_solve_2 : decode prog_1_method_15_code 2 = .ok (.getfield 144, 3) := by decide +kernel
theorem dKe_solve_5 : decode prog_1_method_15_code 5 = .ok (.iconst 1, 1) := by decide +kernel
theorem dKe_solve_6 : decode prog_1_method_15_code 6 = .ok (.iadd, 1) := by decide +kernel
theorem dKe_solve_7 : decode prog_1_method_15_code 7 = .ok (.putfield 144, 3) := by decide +kernel
theorem dKe_solve_10 : decode prog_1_method_15_code 10 = .ok (.aload_n 0, 1) := by decide +kernel
theorem dKe_solve_11 : decode prog_1_method_15_code 11 = .ok (.getfield 19, 3) := by decide +kernel
theorem dKe_solve_14 : decode prog_1_method_15_code 14 = .ok (.aload_n 0, 1) := by decide +kernel
theorem dKe_solve_15 : decode prog_1_method_15_code 15 = .ok (.getfield 10, 3) := by decide +kernel
theorem dKe_solve_18 : decode prog_1_method_15_code 18 = .ok (.aload_n 0, 1) := by decide +kernel
theorem dKe_solve_19 : decode prog_1_method_15_code 19 = .ok (.getfield 23, 3) := by decide +kernel
theorem dKe_solve_22 : decode prog_1_method_15_code 22 = .ok (.invokevirtual 176, 3) := by decide +kernel
theorem dKe_solve_25 : decode prog_1_method_15_code 25 = .ok (.ifCond .eq 13, 3) := by decide +kernel
theorem dKe_solve_28 : decode prog_1_method_15_code 28 = .ok (.aload_n 0, 1) := by decide +kernel
theorem dKe_solve_29 : decode prog_1_method_15_code 29 = .ok (.getfield 19, 3) := by decide +kernel
theorem dKe_solve_32 : decode prog_1_method_15_code 32 = .ok (.invokevirtual 180, 3) := by decide +kernel
theorem dKe_solve_35 : decode prog_1_method_15_code 35 = .ok (.goto 18, 3) := by decide +kernel
theorem dKe_solve_38 : decode prog_1_method_15_code 38 = .ok (.aload_n 0, 1) := by decide +kernel
theorem dKe_solve_39 : decode prog_1_method_15_code 39 = .ok (.getfield 19, 3) := by decide +kernel
theorem dKe_solve_42 : decode prog_1_method_15_code 42 = .ok (.aload_n 0, 1) := by decide +kernel
theorem dKe_solve_43 : decode prog_1_method_15_code 43 = .ok (.getfield 10, 3) := by decide +kernel
theorem dKe_solve_46 : decode prog_1_method_15_code 46 = .ok (.aload_n 0, 1) := by decide +kernel
theorem dKe_solve_47 : decode prog_1_method_15_code 47 = .ok (.getfield 23, 3) := by decide +kernel
theorem dKe_solve_50 : decode prog_1_method_15_code 50 = .ok (.invokevirtual 183, 3) := by decide +kernel
theorem dKe_solve_53 : decode prog_1_method_15_code 53 = .ok (.aload_n 0, 1) := by decide +kernel
theorem dKe_solve_54 : decode prog_1_method_15_code 54 = .ok (.aload_n 0, 1) := by decide +kernel
theorem dKe_solve_55 : decode prog_1_method_15_code 55 = .ok (.getfield 56, 3) := by decide +kernel
theorem dKe_solve_58 : decode prog_1_method_15_code 58 = .ok (.aload_n 0, 1) := by decide +kernel
theorem dKe_solve_59 : decode prog_1_method_15_code 59 = .ok (.getfield 59, 3) := by decide +kernel
theorem dKe_solve_62 : decode prog_1_method_15_code 62 = .ok (.invokestatic 98, 3) := by decide +kernel
theorem dKe_solve_65 : decode prog_1_method_15_code 65 = .ok (.putfield 56, 3) := by decide +kernel
theorem dKe_solve_68 : decode prog_1_method_15_code 68 = .ok (.iconst 0, 1) := by decide +kernel
theorem dKe_solve_69 : decode prog_1_method_15_code 69 = .ok (.istore_n 1, 1) := by decide +kernel
theorem dKe_solve_70 : decode prog_1_method_15_code 70 = .ok (.iload_n 1, 1) := by decide +kernel
theorem dKe_solve_71 : decode prog_1_method_15_code 71 = .ok (.aload_n 0, 1) := by decide +kernel
theorem dKe_solve_72 : decode prog_1_method_15_code 72 = .ok (.getfield 10, 3) := by decide +kernel
theorem dKe_solve_75 : decode prog_1_method_15_code 75 = .ok (.getfield 151, 3) := by decide +kernel
theorem dKe_solve_78 : decode prog_1_method_15_code 78 = .ok (.if_icmp .ge 56, 3) := by decide +kernel
theorem dKe_solve_81 : decode prog_1_method_15_code 81 = .ok (.aload_n 0, 1) := by decide +kernel
theorem dKe_solve_82 : decode prog_1_method_15_code 82 = .ok (.getfield 10, 3) := by decide +kernel
theorem dKe_solve_85 : decode prog_1_method_15_code 85 = .ok (.getfield 187, 3) := by decide +kernel
theorem dKe_solve_88 : decode prog_1_method_15_code 88 = .ok (.iload_n 1, 1) := by decide +kernel
theorem dKe_solve_89 : decode prog_1_method_15_code 89 = .ok (.aaload, 1) := by decide +kernel
theorem dKe_solve_90 : decode prog_1_method_15_code 90 = .ok (.astore_n 2, 1) := by decide +kernel
theorem dKe_solve_91 : decode prog_1_method_15_code 91 = .ok (.aload_n 2, 1) := by decide +kernel
theorem dKe_solve_92 : decode prog_1_method_15_code 92 = .ok (.invokevirtual 191, 3) := by decide +kernel
theorem dKe_solve_95 : decode prog_1_method_15_code 95 = .ok (.ifCond .eq 11, 3) := by decide +kernel
theorem dKe_solve_98 : decode prog_1_method_15_code 98 = .ok (.aload_n 0, 1) := by decide +kernel
theorem dKe_solve_99 : decode prog_1_method_15_code 99 = .ok (.getfield 19, 3) := by decide +kernel
theorem dKe_solve_102 : decode prog_1_method_15_code 102 = .ok (.aload_n 2, 1) := by decide +kernel
theorem dKe_solve_103 : decode prog_1_method_15_code 103 = .ok (.invokevirtual 194, 3) := by decide +kernel
theorem dKe_solve_106 : decode prog_1_method_15_code 106 = .ok (.aload_n 2, 1) := by decide +kernel
theorem dKe_solve_107 : decode prog_1_method_15_code 107 = .ok (.invokevirtual 197, 3) := by decide +kernel
theorem dKe_solve_110 : decode prog_1_method_15_code 110 = .ok (.ifCond .eq 18, 3) := by decide +kernel
theorem dKe_solve_113 : decode prog_1_method_15_code 113 = .ok (.aload_n 0, 1) := by decide +kernel
theorem dKe_solve_114 : decode prog_1_method_15_code 114 = .ok (.aload_n 0, 1) := by decide +kernel
theorem dKe_solve_115 : decode prog_1_method_15_code 115 = .ok (.getfield 56, 3) := by decide +kernel
theorem dKe_solve_118 : decode prog_1_method_15_code 118 = .ok (.aload_n 2, 1) := by decide +kernel
theorem dKe_solve_119 : decode prog_1_method_15_code 119 = .ok (.getfield 114, 3) := by decide +kernel
theorem dKe_solve_122 : decode prog_1_method_15_code 122 = .ok (.invokestatic 98, 3) := by decide +kernel
theorem dKe_solve_125 : decode prog_1_method_15_code 125 = .ok (.putfield 56, 3) := by decide +kernel
theorem dKe_solve_128 : decode prog_1_method_15_code 128 = .ok (.iinc 1 1, 3) := by decide +kernel
theorem dKe_solve_131 : decode prog_1_method_15_code 131 = .ok (.goto (-61), 3) := by decide +kernel
theorem dKe_solve_134 : decode prog_1_method_15_code 134 = .ok (.return_, 1) := by decide +kernel
set_option maxHeartbeats 4000000 in
set_option maxRecDepth 100000 in
theorem wKe_solve_128 {l : Launch} {G : ek_G} {kd : Nat → Nat} {p : Program} {e : Env} {s : State} {m : MethodId} {args : Array Value} {below : List Frame} {meth : Method} {c : Code} (X : ek_X p s m meth c args G prog_1_method_15_code 3 "ElasticKernel" none) {q : ek_St} {k70 : (ek_St × Nat × Int32) → Option (ek_St)} (hk70 : ∀ q0 : ek_St × Nat × Int32, k70 q0 = some q → ∀ (H : Heap) (locs : List Loc) (ls : Array Slot), ek_W G kd q0.1 H → va_S (ek_A G kd) s.heap H locs → lv_has ls 3 [(0, ek_r G q0.2.1), (1, .int q0.2.2)] → W p l e ({ frames := 5, cells := 0, slots := 0, locals := 127 } : Room) s m args below meth c H locs 0 0 (MQ below (ek_Q G kd none q) args s 0 0 (ek_A G kd)) (F0 m 70 ls [])) {I : ek_St} {x0 : Nat} {i1 : Int32} (hf : fKe_solve_128 kd k70 I x0 i1 = some q) {H : Heap} {locs : List Loc} {ls : Array Slot} (hw : ek_W G kd I H) (hS : va_S (ek_A G kd) s.heap H locs) (hl : lv_has ls 3 [(0, ek_r G x0), (1, .int i1)]) : W p l e ({ frames := 5, cells := 0, slots := 0, locals := 127 } : Room) s m args below meth c H locs 0 0 (MQ below (ek_Q G kd none q) args s 0 0 (ek_A G kd)) (F0 m 128 ls []) := by
  obtain ⟨hx, hb, hml, hown, hts, hr, hlocks, hK⟩ := id X
  have hA : ∀ q, ek_A G kd q → ek_A G kd q := fun _ h => h
  unfold fKe_solve_128 at hf
  refine ek_iinc hx hb 1 (fun i1_1 => [(1, .int i1_1), (0, ek_r G x0)]) dKe_solve_128 hl rfl (v := i1 + (1 : Int32)) rfl hf (by decide) (fun i1_1 => ek_s1k 0 rfl rfl ek_r_cat rfl rfl) (fun i1_1 ls hf hl => ?_)
  refine lv_goto (tgt := 70) hx hb dKe_solve_131 (by decide) ?_
  exact hk70 (I, x0, i1_1) hf _ _ _ hw hS (lv_sub hl [1, 0] rfl)
set_option maxHeartbeats 4000000 in
set_option maxRecDepth 100000 in
theorem wKe_solve_106 {l : Launch} {G : ek_G} {kd : Nat → Nat} {p : Program} {e : Env} {s : State} {m : MethodId} {args : Array Value} {below : List Frame} {meth : Method} {c : Code} (X : ek_X p s m meth c args G prog_1_method_15_code 3 "ElasticKernel" none) {q : ek_St} {k70 : (ek_St × Nat × Int32) → Option (ek_St)} (hk70 : ∀ q0 : ek_St × Nat × Int32, k70 q0 = some q → ∀ (H : Heap) (locs : List Loc) (ls : Array Slot), ek_W G kd q0.1 H → va_S (ek_A G kd) s.heap H locs → lv_has ls 3 [(0, ek_r G q0.2.1), (1, .int q0.2.2)] → W p l e ({ frames := 5, cells := 0, slots := 0, locals := 127 } : Room) s m args below meth c H locs 0 0 (MQ below (ek_Q G kd none q) args s 0 0 (ek_A G kd)) (F0 m 70 ls [])) {I : ek_St} {x0 : Nat} {i1 : Int32} {x2 : Nat} (hf : fKe_solve_106 kd k70 I x0 i1 x2 = some q) {H : Heap} {locs : List Loc} {ls : Array Slot} (hw : ek_W G kd I H) (hS : va_S (ek_A G kd) s.heap H locs) (hl : lv_has ls 3 [(0, ek_r G x0), (1, .int i1), (2, ek_r G x2)]) : W p l e ({ frames := 5, cells := 0, slots := 0, locals := 127 } : Room) s m args below meth c H locs 0 0 (MQ below (ek_Q G kd none q) args s 0 0 (ek_A G kd)) (F0 m 106 ls []) := by
  obtain ⟨hx, hb, hml, hown, hts, hr, hlocks, hK⟩ := id X
  have hA : ∀ q, ek_A G kd q → ek_A G kd q := fun _ h => h
  unfold fKe_solve_106 at hf
  refine ek_aload_n hx hb dKe_solve_106 rfl (lv_at hl 2 rfl) ?_
  obtain ⟨hx2, hf⟩ := ek_ck_s hf
  refine ek_ci hf hS hA (fun I' v hq => ek_rV (As := []) ⟨hx, hb, hml, hown, hts⟩ hK hw 6 rfl (by decide) (by decide) hx2 (mTa_holdsUpChange hq) (cwV 0 hts (lw_V q_409 q_410 q_411 q_3 q_412) rfl rfl rfl (by decide +kernel) ⟨Nat.le_of_ble_eq_true rfl, Nat.le_of_ble_eq_true rfl⟩) rfl hl.1 rfl (Nat.le_of_ble_eq_true rfl) dKe_solve_107 ⟨Nat.zero_le _, Nat.zero_le _⟩) (fun I1 ir3 H locs hf hw hS => ?_)
  refine lv_if_eq (tgt := 128) hx hb dKe_solve_110 (by decide) (fun c4 => ?_) (fun c4 => ?_)
  · have hf := ek_t c4 hf
    exact wKe_solve_128 X hk70 hf hw hS (lv_sub hl [0, 1] rfl)
  · have hf := ek_f c4 hf
    refine ek_aload_n hx hb dKe_solve_113 rfl (lv_at hl 0 rfl) ?_
    refine ek_aload_n hx hb dKe_solve_114 rfl (lv_at hl 0 rfl) ?_
    refine ek_geti hx hb 7 hts (in_Ke) hown hK hw rfl (by decide) (by decide) 6 (by decide) rfl (hts _ q_199) hf dKe_solve_115 (fun hf => ?_)
    refine ek_aload_n hx hb dKe_solve_118 rfl (lv_at hl 2 rfl) ?_
    refine ek_getiN hx hb 6 hts (in_Ta) hown hK hw rfl (by decide) (by decide) 8 (by decide) rfl (va_Nw.use rfl (hK.2 _ n_92)) hf dKe_solve_119 (fun hf => ?_)
    refine va_mmax hx hb (hml.trans hl.1.symm) hown (hts (.methodLink "ElasticKernel" 98 Lib.Math.max.name) (by decide +kernel)) (hts (.static Lib.Math.max.name) (by decide +kernel)) (hts (.initialized "java/lang/Math") (by decide +kernel)) (hts (.code Lib.Math.max.name Lib.Math.max.code 2 (some .int)) (by decide +kernel)) (by decide) (ek_room13 (Nat.le_of_ble_eq_true rfl) (Nat.le_of_ble_eq_true rfl)) (Nat.zero_le _) (Nat.zero_le _) dKe_solve_122 ?_
    refine ek_puti hx hb 7 hts (in_Ke) ty_Ke ty_Ke_ok nm_Ke hown hK hw hS hA rfl (by decide) (by decide) 6 (by decide) rfl (hts _ q_199) rfl rfl rfl hf dKe_solve_125 (fun I5 H locs hf hw hS => ?_)
    exact wKe_solve_128 X hk70 hf hw hS (lv_sub hl [0, 1] rfl)
set_option maxHeartbeats 4000000 in
set_option maxRecDepth 100000 in
theorem wKe_solve_70 {l : Launch} {G : ek_G} {kd : Nat → Nat} {p : Program} {e : Env} {s : State} {m : MethodId} {args : Array Value} {below : List Frame} {meth : Method} {c : Code} (X : ek_X p s m meth c args G prog_1_method_15_code 3 "ElasticKernel" none) {q : ek_St} {k70 : (ek_St × Nat × Int32) → Option (ek_St)} (hk70 : ∀ q0 : ek_St × Nat × Int32, k70 q0 = some q → ∀ (H : Heap) (locs : List Loc) (ls : Array Slot), ek_W G kd q0.1 H → va_S (ek_A G kd) s.heap H locs → lv_has ls 3 [(0, ek_r G q0.2.1), (1, .int q0.2.2)] → W p l e ({ frames := 5, cells := 0, slots := 0, locals := 127 } : Room) s m args below meth c H locs 0 0 (MQ below (ek_Q G kd none q) args s 0 0 (ek_A G kd)) (F0 m 70 ls [])) {I : ek_St} {x0 : Nat} {i1 : Int32} (hf : fKe_solve_70 kd k70 I x0 i1 = some q) {H : Heap} {locs : List Loc} {ls : Array Slot} (hw : ek_W G kd I H) (hS : va_S (ek_A G kd) s.heap H locs) (hl : lv_has ls 3 [(0, ek_r G x0), (1, .int i1)]) : W p l e ({ frames := 5, cells := 0, slots := 0, locals := 127 } : Room) s m args below meth c H locs 0 0 (MQ below (ek_Q G kd none q) args s 0 0 (ek_A G kd)) (F0 m 70 ls []) := by
  obtain ⟨hx, hb, hml, hown, hts, hr, hlocks, hK⟩ := id X
  have hA : ∀ q, ek_A G kd q → ek_A G kd q := fun _ h => h
  unfold fKe_solve_70 at hf
  refine lv_iload_n hx hb dKe_solve_70 rfl (lv_at hl 1 rfl) ?_
  refine ek_aload_n hx hb dKe_solve_71 rfl (lv_at hl 0 rfl) ?_
  refine ek_getr hx hb 7 hts (in_Ke) hown hK hw rfl (by decide) (by decide) 0 (by decide) (n := 0) rfl rfl (hts _ q_193) hf dKe_solve_72 (fun hf => ?_)
  refine ek_getiN hx hb 4 hts (in_Ro) hown hK hw rfl (by decide) (by decide) 1 (by decide) rfl (va_Nw.use rfl (hK.2 _ n_141)) hf dKe_solve_75 (fun hf => ?_)
  refine lv_icmp_ge (tgt := 134) hx hb dKe_solve_78 (by decide) (fun c1 => ?_) (fun c1 => ?_)
  · have hf := ek_t c1 hf
    exact ek_vret hx hb hr hlocks hw hS hf dKe_solve_134
  · have hf := ek_f c1 hf
    refine ek_aload_n hx hb dKe_solve_81 rfl (lv_at hl 0 rfl) ?_
    refine ek_getr hx hb 7 hts (in_Ke) hown hK hw rfl (by decide) (by decide) 0 (by decide) (n := 0) rfl rfl (hts _ q_193) hf dKe_solve_82 (fun hf => ?_)
    refine ek_getrN hx hb 4 hts (in_Ro) hown hK hw rfl (by decide) (by decide) 0 (by decide) (n := 0) rfl rfl (va_Nw.use rfl (hK.2 _ n_138)) hf dKe_solve_85 (fun hf => ?_)
    refine lv_iload_n hx hb dKe_solve_88 rfl (lv_at hl 1 rfl) ?_
    refine ek_aald hx hb hK hw hf dKe_solve_89 (fun hf => ?_)
    refine ek_tr hf (fun x2_2 hf => ?_)
    refine ek_astore_n (lv' := [(2, ek_r G x2_2), (1, .int i1), (0, ek_r G x0)]) hx hb dKe_solve_90 rfl hl (by decide) (ek_s1k 1 rfl rfl rfl ek_r_cat rfl) (fun ls hl => ?_)
    refine ek_aload_n hx hb dKe_solve_91 rfl (lv_at hl 0 rfl) ?_
    obtain ⟨hx4, hf⟩ := ek_ck_s hf
    refine ek_ci hf hS hA (fun I' v hq => ek_rV (As := []) ⟨hx, hb, hml, hown, hts⟩ hK hw 6 rfl (by decide) (by decide) hx4 (mTa_isSolved hq) (cwV 0 hts (lw_V q_394 q_312 q_313 q_3 q_314) rfl rfl rfl (by decide +kernel) ⟨Nat.le_of_ble_eq_true rfl, Nat.le_of_ble_eq_true rfl⟩) rfl hl.1 rfl (Nat.le_of_ble_eq_true rfl) dKe_solve_92 ⟨Nat.zero_le _, Nat.zero_le _⟩) (fun I3 ir5 H locs hf hw hS => ?_)
    refine lv_if_eq (tgt := 106) hx hb dKe_solve_95 (by decide) (fun c6 => ?_) (fun c6 => ?_)
    · have hf := ek_t c6 hf
      exact wKe_solve_106 X hk70 hf hw hS (lv_sub hl [2, 1, 0] rfl)
    · have hf := ek_f c6 hf
      refine ek_aload_n hx hb dKe_solve_98 rfl (lv_at hl 2 rfl) ?_
      refine ek_getr hx hb 7 hts (in_Ke) hown hK hw rfl (by decide) (by decide) 1 (by decide) (n := 74) rfl rfl (hts _ q_194) hf dKe_solve_99 (fun hf => ?_)
      refine ek_aload_n hx hb dKe_solve_102 rfl (lv_at hl 0 rfl) ?_
      obtain ⟨hx8, hf⟩ := ek_ck_s hf
      refine ek_cv hf hS hA (fun I' hq => ek_rV (As := [ek_r G x2_2]) ⟨hx, hb, hml, hown, hts⟩ hK hw 5 rfl (by decide) (by decide) hx8 (mSp_setLoad hq) (cwV 1 hts (lw_V q_395 q_396 q_397 q_6 q_398) rfl rfl rfl (by decide +kernel) ⟨Nat.le_of_ble_eq_true rfl, Nat.le_of_ble_eq_true rfl⟩) rfl hl.1 rfl (Nat.le_of_ble_eq_true rfl) dKe_solve_103 ⟨Nat.zero_le _, Nat.zero_le _⟩) (fun I7 H locs hf hw hS => ?_)
      exact wKe_solve_106 X hk70 hf hw hS (lv_sub hl [2, 1, 0] rfl)
set_option maxHeartbeats 4000000 in
set_option maxRecDepth 100000 in
theorem wKe_solve_70_lp {l : Launch} {G : ek_G} {kd : Nat → Nat} {p : Program} {e : Env} {s : State} {m : MethodId} {args : Array Value} {below : List Frame} {meth : Method} {c : Code} (X : ek_X p s m meth c args G prog_1_method_15_code 3 "ElasticKernel" none) {q : ek_St} (n : Nat) : ∀ q0 : ek_St × Nat × Int32, ek_lp (fun (k : (ek_St × Nat × Int32) → Option (ek_St)) (q : (ek_St × Nat × Int32)) => fKe_solve_70 kd k q.1 q.2.1 q.2.2) n q0 = some q → ∀ (H : Heap) (locs : List Loc) (ls : Array Slot), ek_W G kd q0.1 H → va_S (ek_A G kd) s.heap H locs → lv_has ls 3 [(0, ek_r G q0.2.1), (1, .int q0.2.2)] → W p l e ({ frames := 5, cells := 0, slots := 0, locals := 127 } : Room) s m args below meth c H locs 0 0 (MQ below (ek_Q G kd none q) args s 0 0 (ek_A G kd)) (F0 m 70 ls []) :=
  ek_lp_ind (fun k hk q0 hf => fun H locs ls hw hS hl => wKe_solve_70 X hk hf hw hS hl) n
set_option maxHeartbeats 4000000 in
set_option maxRecDepth 100000 in
theorem wKe_solve_53 {l : Launch} {G : ek_G} {kd : Nat → Nat} {p : Program} {e : Env} {s : State} {m : MethodId} {args : Array Value} {below : List Frame} {meth : Method} {c : Code} (X : ek_X p s m meth c args G prog_1_method_15_code 3 "ElasticKernel" none) {q : ek_St} {I : ek_St} {x0 : Nat} (hf : fKe_solve_53 kd I x0 = some q) {H : Heap} {locs : List Loc} {ls : Array Slot} (hw : ek_W G kd I H) (hS : va_S (ek_A G kd) s.heap H locs) (hl : lv_has ls 3 [(0, ek_r G x0)]) : W p l e ({ frames := 5, cells := 0, slots := 0, locals := 127 } : Room) s m args below meth c H locs 0 0 (MQ below (ek_Q G kd none q) args s 0 0 (ek_A G kd)) (F0 m 53 ls []) := by
  obtain ⟨hx, hb, hml, hown, hts, hr, hlocks, hK⟩ := id X
  have hA : ∀ q, ek_A G kd q → ek_A G kd q := fun _ h => h
  unfold fKe_solve_53 at hf
  refine ek_aload_n hx hb dKe_solve_53 rfl (lv_at hl 0 rfl) ?_
  refine ek_aload_n hx hb dKe_solve_54 rfl (lv_at hl 0 rfl) ?_
  refine ek_geti hx hb 7 hts (in_Ke) hown hK hw rfl (by decide) (by decide) 6 (by decide) rfl (hts _ q_199) hf dKe_solve_55 (fun hf => ?_)
  refine ek_aload_n hx hb dKe_solve_58 rfl (lv_at hl 0 rfl) ?_
  refine ek_geti hx hb 7 hts (in_Ke) hown hK hw rfl (by decide) (by decide) 2 (by decide) rfl (hts _ q_195) hf dKe_solve_59 (fun hf => ?_)
  refine va_mmax hx hb (hml.trans hl.1.symm) hown (hts (.methodLink "ElasticKernel" 98 Lib.Math.max.name) (by decide +kernel)) (hts (.static Lib.Math.max.name) (by decide +kernel)) (hts (.initialized "java/lang/Math") (by decide +kernel)) (hts (.code Lib.Math.max.name Lib.Math.max.code 2 (some .int)) (by decide +kernel)) (by decide) (ek_room13 (Nat.le_of_ble_eq_true rfl) (Nat.le_of_ble_eq_true rfl)) (Nat.zero_le _) (Nat.zero_le _) dKe_solve_62 ?_
  refine ek_puti hx hb 7 hts (in_Ke) ty_Ke ty_Ke_ok nm_Ke hown hK hw hS hA rfl (by decide) (by decide) 6 (by decide) rfl (hts _ q_199) rfl rfl rfl hf dKe_solve_65 (fun I1 H locs hf hw hS => ?_)
  refine lv_iconst (v := (0 : Int32)) hx hb dKe_solve_68 (by decide) ?_
  refine ek_istore_n (lv' := [(1, .int ((0 : Int32))), (0, ek_r G x0)]) hx hb dKe_solve_69 rfl hl (by decide) (ek_s1k 0 rfl rfl ek_r_cat rfl rfl) (fun ls hl => ?_)
  exact wKe_solve_70_lp X ek_N (I1, x0, (0 : Int32)) hf _ _ _ hw hS (lv_sub hl [1, 0] rfl)
set_option maxHeartbeats 4000000 in
set_option maxRecDepth 100000 in
theorem wKe_solve_0 {l : Launch} {G : ek_G} {kd : Nat → Nat} {p : Program} {e : Env} {s : State} {m : MethodId} {args : Array Value} {below : List Frame} {meth : Method} {c : Code} (X : ek_X p s m meth c args G prog_1_method_15_code 3 "ElasticKernel" none) {q : ek_St} {I : ek_St} {x0 : Nat} (hf : fKe_solve_0 kd I x0 = some q) {H : Heap} {locs : List Loc} {ls : Array Slot} (hw : ek_W G kd I H) (hS : va_S (ek_A G kd) s.heap H locs) (hl : lv_has ls 3 [(0, ek_r G x0)]) : W p l e ({ frames := 5, cells := 0, slots := 0, locals := 127 } : Room) s m args below meth c H locs 0 0 (MQ below (ek_Q G kd none q) args s 0 0 (ek_A G kd)) (F0 m 0 ls []) := by
  obtain ⟨hx, hb, hml, hown, hts, hr, hlocks, hK⟩ := id X
  have hA : ∀ q, ek_A G kd q → ek_A G kd q := fun _ h => h
  unfold fKe_solve_0 at hf
  refine ek_aload_n hx hb dKe_solve_0 rfl (lv_at hl 0 rfl) ?_
  refine lv_dup hx hb dKe_solve_1 ek_r_cat ?_
  refine ek_geti hx hb 7 hts (in_Ke) hown hK hw rfl (by decide) (by decide) 5 (by decide) rfl (hts _ q_198) hf dKe_solve_2 (fun hf => ?_)
  refine lv_iconst (v := (1 : Int32)) hx hb dKe_solve_5 (by decide) ?_
  refine lv_iadd hx hb dKe_solve_6 ?_
  refine ek_puti hx hb 7 hts (in_Ke) ty_Ke ty_Ke_ok nm_Ke hown hK hw hS hA rfl (by decide) (by decide) 5 (by decide) rfl (hts _ q_198) rfl rfl rfl hf dKe_solve_7 (fun I1 H locs hf hw hS => ?_)
  refine ek_aload_n hx hb dKe_solve_10 rfl (lv_at hl 0 rfl) ?_
  refine ek_getr hx hb 7 hts (in_Ke) hown hK hw rfl (by decide) (by decide) 1 (by decide) (n := 74) rfl rfl (hts _ q_194) hf dKe_solve_11 (fun hf => ?_)
  refine ek_aload_n hx hb dKe_solve_14 rfl (lv_at hl 0 rfl) ?_
  refine ek_getr hx hb 7 hts (in_Ke) hown hK hw rfl (by decide) (by decide) 0 (by decide) (n := 0) rfl rfl (hts _ q_193) hf dKe_solve_15 (fun hf => ?_)
  refine ek_aload_n hx hb dKe_solve_18 rfl (lv_at hl 0 rfl) ?_
  refine ek_geti hx hb 7 hts (in_Ke) hown hK hw rfl (by decide) (by decide) 3 (by decide) rfl (hts _ q_196) hf dKe_solve_19 (fun hf => ?_)
  obtain ⟨hx3, hf⟩ := ek_ck_s hf
  refine ek_ci hf hS hA (fun I' v hq => ek_rV (As := [ek_r G (x0 + 1), .int (I1 x0 3)]) ⟨hx, hb, hml, hown, hts⟩ hK hw 5 rfl (by decide) (by decide) hx3 (mSp_haveRoom hq) (cwV 2 hts (lw_V q_299 q_300 q_301 q_6 q_302) rfl rfl rfl (by decide +kernel) ⟨Nat.le_of_ble_eq_true rfl, Nat.le_of_ble_eq_true rfl⟩) rfl hl.1 rfl (Nat.le_of_ble_eq_true rfl) dKe_solve_22 ⟨Nat.zero_le _, Nat.zero_le _⟩) (fun I2 ir4 H locs hf hw hS => ?_)
  refine lv_if_eq (tgt := 38) hx hb dKe_solve_25 (by decide) (fun c5 => ?_) (fun c5 => ?_)
  · have hf := ek_t c5 hf
    refine ek_aload_n hx hb dKe_solve_38 rfl (lv_at hl 0 rfl) ?_
    refine ek_getr hx hb 7 hts (in_Ke) hown hK hw rfl (by decide) (by decide) 1 (by decide) (n := 74) rfl rfl (hts _ q_194) hf dKe_solve_39 (fun hf => ?_)
    refine ek_aload_n hx hb dKe_solve_42 rfl (lv_at hl 0 rfl) ?_
    refine ek_getr hx hb 7 hts (in_Ke) hown hK hw rfl (by decide) (by decide) 0 (by decide) (n := 0) rfl rfl (hts _ q_193) hf dKe_solve_43 (fun hf => ?_)
    refine ek_aload_n hx hb dKe_solve_46 rfl (lv_at hl 0 rfl) ?_
    refine ek_geti hx hb 7 hts (in_Ke) hown hK hw rfl (by decide) (by decide) 3 (by decide) rfl (hts _ q_196) hf dKe_solve_47 (fun hf => ?_)
    obtain ⟨hx7, hf⟩ := ek_ck_s hf
    refine ek_cv hf hS hA (fun I' hq => ek_rV (As := [ek_r G (x0 + 1), .int (I2 x0 3)]) ⟨hx, hb, hml, hown, hts⟩ hK hw 5 rfl (by decide) (by decide) hx7 (mSp_press hq) (cwV 2 hts (lw_V q_330 q_331 q_332 q_6 q_333) rfl rfl rfl (by decide +kernel) ⟨Nat.le_of_ble_eq_true rfl, Nat.le_of_ble_eq_true rfl⟩) rfl hl.1 rfl (Nat.le_of_ble_eq_true rfl) dKe_solve_50 ⟨Nat.zero_le _, Nat.zero_le _⟩) (fun I6 H locs hf hw hS => ?_)
    exact wKe_solve_53 X hf hw hS (lv_sub hl [0] rfl)
  · have hf := ek_f c5 hf
    refine ek_aload_n hx hb dKe_solve_28 rfl (lv_at hl 0 rfl) ?_
    refine ek_getr hx hb 7 hts (in_Ke) hown hK hw rfl (by decide) (by decide) 1 (by decide) (n := 74) rfl rfl (hts _ q_194) hf dKe_solve_29 (fun hf => ?_)
    obtain ⟨hx9, hf⟩ := ek_ck_s hf
    refine ek_cv hf hS hA (fun I' hq => ek_rV (As := []) ⟨hx, hb, hml, hown, hts⟩ hK hw 5 rfl (by decide) (by decide) hx9 (mSp_relax hq) (cwV 0 hts (lw_V q_315 q_316 q_317 q_6 q_318) rfl rfl rfl (by decide +kernel) ⟨Nat.le_of_ble_eq_true rfl, Nat.le_of_ble_eq_true rfl⟩) rfl hl.1 rfl (Nat.le_of_ble_eq_true rfl) dKe_solve_32 ⟨Nat.zero_le _, Nat.zero_le _⟩) (fun I8 H locs hf hw hS => ?_)
    refine lv_goto (tgt := 53) hx hb dKe_solve_35 (by decide) ?_
    exact wKe_solve_53 X hf hw hS (lv_sub hl [0] rfl)
set_option maxHeartbeats 4000000 in
set_option maxRecDepth 100000 in
theorem mKe_solve {l : Launch} {G : ek_G} {kd : Nat → Nat} {I : ek_St} {x0 : Nat} {q : ek_St} (hf : fKe_solve kd I x0 = some q) : ek_M l G kd y_Ke_solve (.code y_Ke_solve prog_1_method_15_code 3 none :: lw_g) ({ frames := 5, cells := 0, slots := 0, locals := 127 } : Room) [ek_r G x0] I none q :=
  ek_body [(0, ek_r G x0)] (by decide) (by simp [lg_sl, ek_r_cat, ek_c_i, ek_c_l]) (by simp [lv_args, ek_r_cat, ek_c_i, ek_c_l]) (fun p e s m below meth c ls X hw hS hl => wKe_solve_0 X hf hw hS hl)
/-! ElasticKernel.add(IIIII)I -/
def fKe_add_0 (kd : Nat → Nat) (I : ek_St) (x0 : Nat) (i1 : Int32) (i2 : Int32) (i3 : Int32) (i4 : Int32) (i5 : Int32) : Option (ek_St × Int32) :=
  ek_bi (fKe_isWithin kd I i1 ((99 : Int32))) (fun I1 ir2 => if ir2 = ((0 : Int32)) then (some (I1, (-1 : Int32))) else (ek_bi (fKe_arePeriods kd I1 i2 i3 i4) (fun I4 ir5 => if ir5 = ((0 : Int32)) then (some (I4, (-1 : Int32))) else (ek_bi (fKe_isWithin kd I4 i5 ((1000 : Int32))) (fun I7 ir8 => if ir8 = ((0 : Int32)) then (some (I7, (-1 : Int32))) else (ek_ck (kd x0 = 7) (ek_ck (kd (x0 + 1) = 4) (ek_bi (fRo_enter kd I7 (x0 + 1) i1) (fun I10 xr12 => if xr12 = ((0 : Nat)) then (some (I10, (-1 : Int32))) else (ek_ck (kd xr12 = 6) (ek_bv (fTa_announce kd I10 xr12 i2 i3 i4 i5) (fun I14 => ek_ck (kd x0 = 7) (ek_ck (kd x0 = 7) (ek_bi (fKe_isRefused kd I14 x0 (I14 x0 3)) (fun I16 ir18 => if ir18 = ((0 : Int32)) then (ek_ck (kd x0 = 7) (ek_bv (fKe_solve kd I16 x0) (fun I20 => ek_ck (kd x0 = 7) (ek_ck (kd x0 = 7) (some (I20, (I20 x0 6) - (I20 x0 2))))))) else (ek_ck (kd x0 = 7) (ek_ck (kd (x0 + 1) = 4) (ek_bv (fRo_drop kd I16 (x0 + 1) xr12) (fun I22 => some (I22, (-1 : Int32)))))))))))))))))))))
def fKe_add (kd : Nat → Nat) (I : ek_St) (x0 : Nat) (i1 : Int32) (i2 : Int32) (i3 : Int32) (i4 : Int32) (i5 : Int32) : Option (ek_St × Int32) := fKe_add_0 kd I x0 i1 i2 i3 i4 i5
theorem dKe_add_0 : decode prog_1_method_2_code 0 = .ok (.iload_n 1, 1) := by decide +kernel
theorem dKe_add_1 : decode prog_1_method_2_code 1 = .ok (.bipush 99, 2) := by decide +kernel
theorem dKe_add_3 : decode prog_1_method_2_code 3 = .ok (.invokestatic 27, 3) := by decide +kernel
theorem dKe_add_6 : decode prog_1_method_2_code 6 = .ok (.ifCond .eq 24, 3) := by decide +kernel
theorem dKe_add_9 : decode prog_1_method_2_code 9 = .ok (.iload_n 2, 1) := by decide +kernel
theorem dKe_add_10 : decode prog_1_method_2_code 10 = .ok (.iload_n 3, 1) := by decide +kernel
theorem dKe_add_11 : decode prog_1_method_2_code 11 = .ok (.iload 4, 2) := by decide +kernel
theorem dKe_add_13 : decode prog_1_method_2_code 13 = .ok (.invokestatic 31, 3) := by decide +kernel
theorem dKe_add_16 : decode prog_1_method_2_code 16 = .ok (.ifCond .eq 14, 3) := by decide +kernel
theorem dKe_add_19 : decode prog_1_method_2_code 19 = .ok (.iload 5, 2) := by decide +kernel
theorem dKe_add_21 : decode prog_1_method_2_code 21 = .ok (.sipush 1000, 3) := by decide +kernel
theorem dKe_add_24 : decode prog_1_method_2_code 24 = .ok (.invokestatic 27, 3) := by decide +kernel
theorem dKe_add_27 : decode prog_1_method_2_code 27 = .ok (.ifCond .ne 5, 3) := by decide +kernel
theorem dKe_add_30 : decode prog_1_method_2_code 30 = .ok (.iconst (-1), 1) := by decide +kernel
theorem dKe_add_31 : decode prog_1_method_2_code 31 = .ok (.ireturn, 1) := by decide +kernel
theorem dKe_add_32 : decode prog_1_method_2_code 32 = .ok (.aload_n 0, 1) := by decide +kernel
theorem dKe_add_33 : decode prog_1_method_2_code 33 = .ok (.getfield 10, 3) := by decide +kernel
theorem dKe_add_36 : decode prog_1_method_2_code 36 = .ok (.iload_n 1, 1) := by decide +kernel
theorem dKe_add_37 : decode prog_1_method_2_code 37 = .ok (.invokevirtual 35, 3) := by decide +kernel
theorem dKe_add_40 : decode prog_1_method_2_code 40 = .ok (.astore 6, 2) := by decide +kernel
theorem dKe_add_42 : decode prog_1_method_2_code 42 = .ok (.aload 6, 2) := by decide +kernel
theorem dKe_add_44 : decode prog_1_method_2_code 44 = .ok (.ifnonnull 5, 3) := by decide +kernel
theorem dKe_add_47 : decode prog_1_method_2_code 47 = .ok (.iconst (-1), 1) := by decide +kernel
theorem dKe_add_48 : decode prog_1_method_2_code 48 = .ok (.ireturn, 1) := by decide +kernel
theorem dKe_add_49 : decode prog_1_method_2_code 49 = .ok (.aload 6, 2) := by decide +kernel
theorem dKe_add_51 : decode prog_1_method_2_code 51 = .ok (.iload_n 2, 1) := by decide +kernel
theorem dKe_add_52 : decode prog_1_method_2_code 52 = .ok (.iload_n 3, 1) := by decide +kernel
theorem dKe_add_53 : decode prog_1_method_2_code 53 = .ok (.iload 4, 2) := by decide +kernel
theorem dKe_add_55 : decode prog_1_method_2_code 55 = .ok (.iload 5, 2) := by decide +kernel
theorem dKe_add_57 : decode prog_1_method_2_code 57 = .ok (.invokevirtual 39, 3) := by decide +kernel
theorem dKe_add_60 : decode prog_1_method_2_code 60 = .ok (.aload_n 0, 1) := by decide +kernel
theorem dKe_add_61 : decode prog_1_method_2_code 61 = .ok (.aload_n 0, 1) := by decide +kernel
theorem dKe_add_62 : decode prog_1_method_2_code 62 = .ok (.getfield 23, 3) := by decide +kernel
theorem dKe_add_65 : decode prog_1_method_2_code 65 = .ok (.invokevirtual 45, 3) := by decide +kernel
theorem dKe_add_68 : decode prog_1_method_2_code 68 = .ok (.ifCond .eq 14, 3) := by decide +kernel
theorem dKe_add_71 : decode prog_1_method_2_code 71 = .ok (.aload_n 0, 1) := by decide +kernel
theorem dKe_add_72 : decode prog_1_method_2_code 72 = .ok (.getfield 10, 3) := by decide +kernel
theorem dKe_add_75 : decode prog_1_method_2_code 75 = .ok (.aload 6, 2) := by decide +kernel
theorem dKe_add_77 : decode prog_1_method_2_code 77 = .ok (.invokevirtual 49, 3) := by decide +kernel
theorem dKe_add_80 : decode prog_1_method_2_code 80 = .ok (.iconst (-1), 1) := by decide +kernel
theorem dKe_add_81 : decode prog_1_method_2_code 81 = .ok (.ireturn, 1) := by decide +kernel
theorem dKe_add_82 : decode prog_1_method_2_code 82 = .ok (.aload_n 0, 1) := by decide +kernel
theorem dKe_add_83 : decode prog_1_method_2_code 83 = .ok (.invokevirtual 53, 3) := by decide +kernel
theorem dKe_add_86 : decode prog_1_method_2_code 86 = .ok (.aload_n 0, 1) := by decide +kernel
theorem dKe_add_87 : decode prog_1_method_2_code 87 = .ok (.getfield 56, 3) := by decide +kernel
theorem dKe_add_90 : decode prog_1_method_2_code 90 = .ok (.aload_n 0, 1) := by decide +kernel
theorem dKe_add_91 : decode prog_1_method_2_code 91 = .ok (.getfield 59, 3) := by decide +kernel
theorem dKe_add_94 : decode prog_1_method_2_code 94 = .ok (.isub, 1) := by decide +kernel
theorem dKe_add_95 : decode prog_1_method_2_code 95 = .ok (.ireturn, 1) := by decide +kernel
set_option maxHeartbeats 4000000 in
set_option maxRecDepth 100000 in
theorem wKe_add_0 {l : Launch} {G : ek_G} {kd : Nat → Nat} {p : Program} {e : Env} {s : State} {m : MethodId} {args : Array Value} {below : List Frame} {meth : Method} {c : Code} (X : ek_X p s m meth c args G prog_1_method_2_code 7 "ElasticKernel" (some .int)) {q : ek_St × Int32} {I : ek_St} {x0 : Nat} {i1 : Int32} {i2 : Int32} {i3 : Int32} {i4 : Int32} {i5 : Int32} (hf : fKe_add_0 kd I x0 i1 i2 i3 i4 i5 = some q) {H : Heap} {locs : List Loc} {ls : Array Slot} (hw : ek_W G kd I H) (hS : va_S (ek_A G kd) s.heap H locs) (hl : lv_has ls 7 [(0, ek_r G x0), (1, .int i1), (2, .int i2), (3, .int i3), (4, .int i4), (5, .int i5)]) : W p l e ({ frames := 6, cells := 0, slots := 0, locals := 149 } : Room) s m args below meth c H locs 0 0 (MQ below (ek_Q G kd (some (.int q.2)) q.1) args s 0 0 (ek_A G kd)) (F0 m 0 ls []) := by
  obtain ⟨hx, hb, hml, hown, hts, hr, hlocks, hK⟩ := id X
  have hA : ∀ q, ek_A G kd q → ek_A G kd q := fun _ h => h
  unfold fKe_add_0 at hf
  refine lv_iload_n hx hb dKe_add_0 rfl (lv_at hl 1 rfl) ?_
  refine lv_bipush (v := (99 : Int32)) hx hb dKe_add_1 (by decide) ?_
  refine ek_ci hf hS hA (fun I' v hq => ek_rS (As := [.int i1, .int ((99 : Int32))]) ⟨hx, hb, hml, hown, hts⟩ hK hw (mKe_isWithin hq) (ek_cwS 2 hts q_222 q_223 q_1 q_224 (by decide +kernel) ⟨Nat.le_of_ble_eq_true rfl, Nat.le_of_ble_eq_true rfl⟩) rfl hl.1 rfl (Nat.le_of_ble_eq_true rfl) dKe_add_3 ⟨Nat.zero_le _, Nat.zero_le _⟩) (fun I1 ir2 H locs hf hw hS => ?_)
  refine lv_if_eq (tgt := 30) hx hb dKe_add_6 (by decide) (fun c3 => ?_) (fun c3 => ?_)
  · have hf := ek_t c3 hf
    refine lv_iconst (v := (-1 : Int32)) hx hb dKe_add_30 (by decide) ?_
    exact ek_iret hx hb hr hlocks hw hS hf dKe_add_31
  · have hf := ek_f c3 hf
    refine lv_iload_n hx hb dKe_add_9 rfl (lv_at hl 2 rfl) ?_
    refine lv_iload_n hx hb dKe_add_10 rfl (lv_at hl 3 rfl) ?_
    refine lv_iload hx hb dKe_add_11 (lv_at hl 4 rfl) ?_
    refine ek_ci hf hS hA (fun I' v hq => ek_rS (As := [.int i2, .int i3, .int i4]) ⟨hx, hb, hml, hown, hts⟩ hK hw (mKe_arePeriods hq) (ek_cwS 3 hts q_225 q_226 q_1 q_227 (by decide +kernel) ⟨Nat.le_of_ble_eq_true rfl, Nat.le_of_ble_eq_true rfl⟩) rfl hl.1 rfl (Nat.le_of_ble_eq_true rfl) dKe_add_13 ⟨Nat.zero_le _, Nat.zero_le _⟩) (fun I4 ir5 H locs hf hw hS => ?_)
    refine lv_if_eq (tgt := 30) hx hb dKe_add_16 (by decide) (fun c6 => ?_) (fun c6 => ?_)
    · have hf := ek_t c6 hf
      refine lv_iconst (v := (-1 : Int32)) hx hb dKe_add_30 (by decide) ?_
      exact ek_iret hx hb hr hlocks hw hS hf dKe_add_31
    · have hf := ek_f c6 hf
      refine lv_iload hx hb dKe_add_19 (lv_at hl 5 rfl) ?_
      refine lv_sipush (v := (1000 : Int32)) hx hb dKe_add_21 (by decide) ?_
      refine ek_ci hf hS hA (fun I' v hq => ek_rS (As := [.int i5, .int ((1000 : Int32))]) ⟨hx, hb, hml, hown, hts⟩ hK hw (mKe_isWithin hq) (ek_cwS 2 hts q_222 q_223 q_1 q_224 (by decide +kernel) ⟨Nat.le_of_ble_eq_true rfl, Nat.le_of_ble_eq_true rfl⟩) rfl hl.1 rfl (Nat.le_of_ble_eq_true rfl) dKe_add_24 ⟨Nat.zero_le _, Nat.zero_le _⟩) (fun I7 ir8 H locs hf hw hS => ?_)
      refine lv_if_ne (tgt := 32) hx hb dKe_add_27 (by decide) (fun c9 => ?_) (fun c9 => ?_)
      · have hf := ek_f c9 hf
        refine ek_aload_n hx hb dKe_add_32 rfl (lv_at hl 0 rfl) ?_
        refine ek_getr hx hb 7 hts (in_Ke) hown hK hw rfl (by decide) (by decide) 0 (by decide) (n := 0) rfl rfl (hts _ q_193) hf dKe_add_33 (fun hf => ?_)
        refine lv_iload_n hx hb dKe_add_36 rfl (lv_at hl 1 rfl) ?_
        obtain ⟨hx11, hf⟩ := ek_ck_s hf
        refine ek_cr hf hS hA (fun I' v hq => ek_rV (As := [.int i1]) ⟨hx, hb, hml, hown, hts⟩ hK hw 4 rfl (by decide) (by decide) hx11 (mRo_enter hq) (cwV 1 hts (lw_V q_228 q_229 q_230 q_2 q_231) rfl rfl rfl (by decide +kernel) ⟨Nat.le_of_ble_eq_true rfl, Nat.le_of_ble_eq_true rfl⟩) rfl hl.1 rfl (Nat.le_of_ble_eq_true rfl) dKe_add_37 ⟨Nat.zero_le _, Nat.zero_le _⟩) (fun I10 xr12 H locs hf hw hS => ?_)
        refine ek_astore (lv' := [(6, ek_r G xr12), (5, .int i5), (0, ek_r G x0), (1, .int i1), (2, .int i2), (3, .int i3), (4, .int i4)]) hx hb dKe_add_40 hl (by decide) (ek_s1k 5 rfl rfl rfl ek_r_cat rfl) (fun ls hl => ?_)
        refine ek_aload hx hb dKe_add_42 (lv_at hl 0 rfl) ?_
        refine ek_ifnonnull (tgt := 49) hx hb dKe_add_44 (by decide) (fun c13 => ?_) (fun c13 => ?_)
        · have hf := ek_f c13 hf
          refine ek_aload hx hb dKe_add_49 (lv_at hl 0 rfl) ?_
          refine lv_iload_n hx hb dKe_add_51 rfl (lv_at hl 4 rfl) ?_
          refine lv_iload_n hx hb dKe_add_52 rfl (lv_at hl 5 rfl) ?_
          refine lv_iload hx hb dKe_add_53 (lv_at hl 6 rfl) ?_
          refine lv_iload hx hb dKe_add_55 (lv_at hl 1 rfl) ?_
          obtain ⟨hx15, hf⟩ := ek_ck_s hf
          refine ek_cv hf hS hA (fun I' hq => ek_rV (As := [.int i2, .int i3, .int i4, .int i5]) ⟨hx, hb, hml, hown, hts⟩ hK hw 6 rfl (by decide) (by decide) hx15 (mTa_announce hq) (cwV 4 hts (lw_V q_236 q_237 q_238 q_3 q_239) rfl rfl rfl (by decide +kernel) ⟨Nat.le_of_ble_eq_true rfl, Nat.le_of_ble_eq_true rfl⟩) rfl hl.1 rfl (Nat.le_of_ble_eq_true rfl) dKe_add_57 ⟨Nat.zero_le _, Nat.zero_le _⟩) (fun I14 H locs hf hw hS => ?_)
          refine ek_aload_n hx hb dKe_add_60 rfl (lv_at hl 2 rfl) ?_
          refine ek_aload_n hx hb dKe_add_61 rfl (lv_at hl 2 rfl) ?_
          refine ek_geti hx hb 7 hts (in_Ke) hown hK hw rfl (by decide) (by decide) 3 (by decide) rfl (hts _ q_196) hf dKe_add_62 (fun hf => ?_)
          obtain ⟨hx17, hf⟩ := ek_ck_s hf
          refine ek_ci hf hS hA (fun I' v hq => ek_rV (As := [.int (I14 x0 3)]) ⟨hx, hb, hml, hown, hts⟩ hK hw 7 rfl (by decide) (by decide) hx17 (mKe_isRefused hq) (cwV 1 hts (lw_V q_240 q_242 p_0 q_1 q_243) rfl rfl rfl (by decide +kernel) ⟨Nat.le_of_ble_eq_true rfl, Nat.le_of_ble_eq_true rfl⟩) rfl hl.1 rfl (Nat.le_of_ble_eq_true rfl) dKe_add_65 ⟨Nat.zero_le _, Nat.zero_le _⟩) (fun I16 ir18 H locs hf hw hS => ?_)
          refine lv_if_eq (tgt := 82) hx hb dKe_add_68 (by decide) (fun c19 => ?_) (fun c19 => ?_)
          · have hf := ek_t c19 hf
            refine ek_aload_n hx hb dKe_add_82 rfl (lv_at hl 2 rfl) ?_
            obtain ⟨hx21, hf⟩ := ek_ck_s hf
            refine ek_cv hf hS hA (fun I' hq => ek_rV (As := []) ⟨hx, hb, hml, hown, hts⟩ hK hw 7 rfl (by decide) (by decide) hx21 (mKe_solve hq) (cwV 0 hts (lw_V q_295 q_297 p_1 q_1 q_298) rfl rfl rfl (by decide +kernel) ⟨Nat.le_of_ble_eq_true rfl, Nat.le_of_ble_eq_true rfl⟩) rfl hl.1 rfl (Nat.le_of_ble_eq_true rfl) dKe_add_83 ⟨Nat.zero_le _, Nat.zero_le _⟩) (fun I20 H locs hf hw hS => ?_)
            refine ek_aload_n hx hb dKe_add_86 rfl (lv_at hl 2 rfl) ?_
            refine ek_geti hx hb 7 hts (in_Ke) hown hK hw rfl (by decide) (by decide) 6 (by decide) rfl (hts _ q_199) hf dKe_add_87 (fun hf => ?_)
            refine ek_aload_n hx hb dKe_add_90 rfl (lv_at hl 2 rfl) ?_
            refine ek_geti hx hb 7 hts (in_Ke) hown hK hw rfl (by decide) (by decide) 2 (by decide) rfl (hts _ q_195) hf dKe_add_91 (fun hf => ?_)
            refine lv_isub hx hb dKe_add_94 ?_
            exact ek_iret hx hb hr hlocks hw hS hf dKe_add_95
          · have hf := ek_f c19 hf
            refine ek_aload_n hx hb dKe_add_71 rfl (lv_at hl 2 rfl) ?_
            refine ek_getr hx hb 7 hts (in_Ke) hown hK hw rfl (by decide) (by decide) 0 (by decide) (n := 0) rfl rfl (hts _ q_193) hf dKe_add_72 (fun hf => ?_)
            refine ek_aload hx hb dKe_add_75 (lv_at hl 0 rfl) ?_
            obtain ⟨hx23, hf⟩ := ek_ck_s hf
            refine ek_cv hf hS hA (fun I' hq => ek_rV (As := [ek_r G xr12]) ⟨hx, hb, hml, hown, hts⟩ hK hw 4 rfl (by decide) (by decide) hx23 (mRo_drop hq) (cwV 1 hts (lw_V q_291 q_292 q_293 q_2 q_294) rfl rfl rfl (by decide +kernel) ⟨Nat.le_of_ble_eq_true rfl, Nat.le_of_ble_eq_true rfl⟩) rfl hl.1 rfl (Nat.le_of_ble_eq_true rfl) dKe_add_77 ⟨Nat.zero_le _, Nat.zero_le _⟩) (fun I22 H locs hf hw hS => ?_)
            refine lv_iconst (v := (-1 : Int32)) hx hb dKe_add_80 (by decide) ?_
            exact ek_iret hx hb hr hlocks hw hS hf dKe_add_81
        · have hf := ek_t c13 hf
          refine lv_iconst (v := (-1 : Int32)) hx hb dKe_add_47 (by decide) ?_
          exact ek_iret hx hb hr hlocks hw hS hf dKe_add_48
      · have hf := ek_t c9 hf
        refine lv_iconst (v := (-1 : Int32)) hx hb dKe_add_30 (by decide) ?_
        exact ek_iret hx hb hr hlocks hw hS hf dKe_add_31
set_option maxHeartbeats 4000000 in
set_option maxRecDepth 100000 in
theorem mKe_add {l : Launch} {G : ek_G} {kd : Nat → Nat} {I : ek_St} {x0 : Nat} {i1 : Int32} {i2 : Int32} {i3 : Int32} {i4 : Int32} {i5 : Int32} {q : ek_St × Int32} (hf : fKe_add kd I x0 i1 i2 i3 i4 i5 = some q) : ek_M l G kd y_Ke_add (.code y_Ke_add prog_1_method_2_code 7 (some .int) :: lw_g) ({ frames := 6, cells := 0, slots := 0, locals := 149 } : Room) [ek_r G x0, .int i1, .int i2, .int i3, .int i4, .int i5] I (some (.int q.2)) q.1 :=
  ek_body [(0, ek_r G x0), (1, .int i1), (2, .int i2), (3, .int i3), (4, .int i4), (5, .int i5)] (by decide) (by simp [lg_sl, ek_r_cat, ek_c_i, ek_c_l]) (by simp [lv_args, ek_r_cat, ek_c_i, ek_c_l]) (fun p e s m below meth c ls X hw hS hl => wKe_add_0 X hf hw hS hl)
/-! ElasticKernel.leave(I)Z -/
def fKe_leave_46 (kd : Nat → Nat) (I : ek_St) (x0 : Nat) : Option (ek_St × Int32) :=
  ek_ck (kd x0 = 7) (ek_bv (fKe_solve kd I x0) (fun I1 => ek_ck (((1 : Int32)) = (0 : Int32) ∨ ((1 : Int32)) = (1 : Int32)) (some (I1, (1 : Int32)))))
def fKe_leave_0 (kd : Nat → Nat) (I : ek_St) (x0 : Nat) (i1 : Int32) : Option (ek_St × Int32) :=
  ek_ck (kd x0 = 7) (ek_ck (kd (x0 + 1) = 4) (ek_bi (fRo_find kd I (x0 + 1) i1) (fun I1 xr3 => if xr3 = ((0 : Nat)) then (ek_ck (((0 : Int32)) = (0 : Int32) ∨ ((0 : Int32)) = (1 : Int32)) (some (I1, (0 : Int32)))) else (ek_ck (kd xr3 = 6) (if (I1 xr3 5) = ((2 : Int32)) then (ek_ck (((0 : Int32)) = (0 : Int32) ∨ ((0 : Int32)) = (1 : Int32)) (some (I1, (0 : Int32)))) else (ek_ck (kd xr3 = 6) (if (I1 xr3 5) = ((0 : Int32)) then (ek_ck (kd x0 = 7) (ek_ck (kd (x0 + 1) = 4) (ek_bv (fRo_drop kd I1 (x0 + 1) xr3) (fun I8 => fKe_leave_46 kd I8 x0)))) else (ek_ck (kd xr3 = 6) (ek_let (ek_up I1 xr3 5 ((2 : Int32))) (fun I7 => fKe_leave_46 kd I7 x0))))))))))
def fKe_leave (kd : Nat → Nat) (I : ek_St) (x0 : Nat) (i1 : Int32) : Option (ek_St × Int32) := fKe_leave_0 kd I x0 i1
theorem dKe_leave_0 : decode prog_1_method_3_code 0 = .ok (.aload_n 0, 1) := by decide +kernel
theorem dKe_leave_1 : decode prog_1_method_3_code 1 = .ok (.getfield 10, 3) := by decide +kernel
theorem dKe_leave_4 : decode prog_1_method_3_code 4 = .ok (.iload_n 1, 1) := by decide +kernel
theorem dKe_leave_5 : decode prog_1_method_3_code 5 = .ok (.invokevirtual 62, 3) := by decide +kernel
theorem dKe_leave_8 : decode prog_1_method_3_code 8 = .ok (.astore_n 2, 1) := by decide +kernel
theorem dKe_leave_9 : decode prog_1_method_3_code 9 = .ok (.aload_n 2, 1) := by decide +kernel
theorem dKe_leave_10 : decode prog_1_method_3_code 10 = .ok (.ifnull 11, 3) := by decide +kernel
theorem dKe_leave_13 : decode prog_1_method_3_code 13 = .ok (.aload_n 2, 1) := by decide +kernel
theorem dKe_leave_14 : decode prog_1_method_3_code 14 = .ok (.getfield 65, 3) := by decide +kernel
theorem dKe_leave_17 : decode prog_1_method_3_code 17 = .ok (.iconst 2, 1) := by decide +kernel
theorem dKe_leave_18 : decode prog_1_method_3_code 18 = .ok (.if_icmp .ne 5, 3) := by decide +kernel
theorem dKe_leave_21 : decode prog_1_method_3_code 21 = .ok (.iconst 0, 1) := by decide +kernel
theorem dKe_leave_22 : decode prog_1_method_3_code 22 = .ok (.ireturn, 1) := by decide +kernel
theorem dKe_leave_23 : decode prog_1_method_3_code 23 = .ok (.aload_n 2, 1) := by decide +kernel
theorem dKe_leave_24 : decode prog_1_method_3_code 24 = .ok (.getfield 65, 3) := by decide +kernel
theorem dKe_leave_27 : decode prog_1_method_3_code 27 = .ok (.ifCond .ne 14, 3) := by decide +kernel
theorem dKe_leave_30 : decode prog_1_method_3_code 30 = .ok (.aload_n 0, 1) := by decide +kernel
theorem dKe_leave_31 : decode prog_1_method_3_code 31 = .ok (.getfield 10, 3) := by decide +kernel
theorem dKe_leave_34 : decode prog_1_method_3_code 34 = .ok (.aload_n 2, 1) := by decide +kernel
theorem dKe_leave_35 : decode prog_1_method_3_code 35 = .ok (.invokevirtual 49, 3) := by decide +kernel
theorem dKe_leave_38 : decode prog_1_method_3_code 38 = .ok (.goto 8, 3) := by decide +kernel
theorem dKe_leave_41 : decode prog_1_method_3_code 41 = .ok (.aload_n 2, 1) := by decide +kernel
theorem dKe_leave_42 : decode prog_1_method_3_code 42 = .ok (.iconst 2, 1) := by decide +kernel
theorem dKe_leave_43 : decode prog_1_method_3_code 43 = .ok (.putfield 65, 3) := by decide +kernel
theorem dKe_leave_46 : decode prog_1_method_3_code 46 = .ok (.aload_n 0, 1) := by decide +kernel
theorem dKe_leave_47 : decode prog_1_method_3_code 47 = .ok (.invokevirtual 53, 3) := by decide +kernel
theorem dKe_leave_50 : decode prog_1_method_3_code 50 = .ok (.iconst 1, 1) := by decide +kernel
theorem dKe_leave_51 : decode prog_1_method_3_code 51 = .ok (.ireturn, 1) := by decide +kernel
set_option maxHeartbeats 4000000 in
set_option maxRecDepth 100000 in
theorem wKe_leave_46 {l : Launch} {G : ek_G} {kd : Nat → Nat} {p : Program} {e : Env} {s : State} {m : MethodId} {args : Array Value} {below : List Frame} {meth : Method} {c : Code} (X : ek_X p s m meth c args G prog_1_method_3_code 3 "ElasticKernel" (some .boolean)) {q : ek_St × Int32} {I : ek_St} {x0 : Nat} (hf : fKe_leave_46 kd I x0 = some q) {H : Heap} {locs : List Loc} {ls : Array Slot} (hw : ek_W G kd I H) (hS : va_S (ek_A G kd) s.heap H locs) (hl : lv_has ls 3 [(0, ek_r G x0)]) : W p l e ({ frames := 6, cells := 0, slots := 0, locals := 149 } : Room) s m args below meth c H locs 0 0 (MQ below (ek_Q G kd (some (.int q.2)) q.1) args s 0 0 (ek_A G kd)) (F0 m 46 ls []) := by
  obtain ⟨hx, hb, hml, hown, hts, hr, hlocks, hK⟩ := id X
  have hA : ∀ q, ek_A G kd q → ek_A G kd q := fun _ h => h
  unfold fKe_leave_46 at hf
  refine ek_aload_n hx hb dKe_leave_46 rfl (lv_at hl 0 rfl) ?_
  obtain ⟨hx2, hf⟩ := ek_ck_s hf
  refine ek_cv hf hS hA (fun I' hq => ek_rV (As := []) ⟨hx, hb, hml, hown, hts⟩ hK hw 7 rfl (by decide) (by decide) hx2 (mKe_solve hq) (cwV 0 hts (lw_V q_295 q_297 p_1 q_1 q_298) rfl rfl rfl (by decide +kernel) ⟨Nat.le_of_ble_eq_true rfl, Nat.le_of_ble_eq_true rfl⟩) rfl hl.1 rfl (Nat.le_of_ble_eq_true rfl) dKe_leave_47 ⟨Nat.zero_le _, Nat.zero_le _⟩) (fun I1 H locs hf hw hS => ?_)
  refine lv_iconst (v := (1 : Int32)) hx hb dKe_leave_50 (by decide) ?_
  exact ek_zret hx hb hr hlocks hw hS hf dKe_leave_51
set_option maxHeartbeats 4000000 in
set_option maxRecDepth 100000 in
theorem wKe_leave_0 {l : Launch} {G : ek_G} {kd : Nat → Nat} {p : Program} {e : Env} {s : State} {m : MethodId} {args : Array Value} {below : List Frame} {meth : Method} {c : Code} (X : ek_X p s m meth c args G prog_1_method_3_code 3 "ElasticKernel" (some .boolean)) {q : ek_St × Int32} {I : ek_St} {x0 : Nat} {i1 : Int32} (hf : fKe_leave_0 kd I x0 i1 = some q) {H : Heap} {locs : List Loc} {ls : Array Slot} (hw : ek_W G kd I H) (hS : va_S (ek_A G kd) s.heap H locs) (hl : lv_has ls 3 [(0, ek_r G x0), (1, .int i1)]) : W p l e ({ frames := 6, cells := 0, slots := 0, locals := 149 } : Room) s m args below meth c H locs 0 0 (MQ below (ek_Q G kd (some (.int q.2)) q.1) args s 0 0 (ek_A G kd)) (F0 m 0 ls []) := by
  obtain ⟨hx, hb, hml, hown, hts, hr, hlocks, hK⟩ := id X
  have hA : ∀ q, ek_A G kd q → ek_A G kd q := fun _ h => h
  unfold fKe_leave_0 at hf
  refine ek_aload_n hx hb dKe_leave_0 rfl (lv_at hl 0 rfl) ?_
  refine ek_getr hx hb 7 hts (in_Ke) hown hK hw rfl (by decide) (by decide) 0 (by decide) (n := 0) rfl rfl (hts _ q_193) hf dKe_leave_1 (fun hf => ?_)
  refine lv_iload_n hx hb dKe_leave_4 rfl (lv_at hl 1 rfl) ?_
  obtain ⟨hx2, hf⟩ := ek_ck_s hf
  refine ek_cr hf hS hA (fun I' v hq => ek_rV (As := [.int i1]) ⟨hx, hb, hml, hown, hts⟩ hK hw 4 rfl (by decide) (by decide) hx2 (mRo_find hq) (cwV 1 hts (lw_V q_417 q_233 q_234 q_2 q_235) rfl rfl rfl (by decide +kernel) ⟨Nat.le_of_ble_eq_true rfl, Nat.le_of_ble_eq_true rfl⟩) rfl hl.1 rfl (Nat.le_of_ble_eq_true rfl) dKe_leave_5 ⟨Nat.zero_le _, Nat.zero_le _⟩) (fun I1 xr3 H locs hf hw hS => ?_)
  refine ek_astore_n (lv' := [(2, ek_r G xr3), (1, .int i1), (0, ek_r G x0)]) hx hb dKe_leave_8 rfl hl (by decide) (ek_s1k 1 rfl rfl rfl ek_r_cat rfl) (fun ls hl => ?_)
  refine ek_aload_n hx hb dKe_leave_9 rfl (lv_at hl 0 rfl) ?_
  refine ek_ifnull (tgt := 21) hx hb dKe_leave_10 (by decide) (fun c4 => ?_) (fun c4 => ?_)
  · have hf := ek_t c4 hf
    refine lv_iconst (v := (0 : Int32)) hx hb dKe_leave_21 (by decide) ?_
    exact ek_zret hx hb hr hlocks hw hS hf dKe_leave_22
  · have hf := ek_f c4 hf
    refine ek_aload_n hx hb dKe_leave_13 rfl (lv_at hl 0 rfl) ?_
    refine ek_getiN hx hb 6 hts (in_Ta) hown hK hw rfl (by decide) (by decide) 5 (by decide) rfl (va_Nw.use rfl (hK.2 _ n_85)) hf dKe_leave_14 (fun hf => ?_)
    refine lv_iconst (v := (2 : Int32)) hx hb dKe_leave_17 (by decide) ?_
    refine lv_icmp_ne (tgt := 23) hx hb dKe_leave_18 (by decide) (fun c5 => ?_) (fun c5 => ?_)
    · have hf := ek_f c5 hf
      refine ek_aload_n hx hb dKe_leave_23 rfl (lv_at hl 0 rfl) ?_
      refine ek_getiN hx hb 6 hts (in_Ta) hown hK hw rfl (by decide) (by decide) 5 (by decide) rfl (va_Nw.use rfl (hK.2 _ n_85)) hf dKe_leave_24 (fun hf => ?_)
      refine lv_if_ne (tgt := 41) hx hb dKe_leave_27 (by decide) (fun c6 => ?_) (fun c6 => ?_)
      · have hf := ek_f c6 hf
        refine ek_aload_n hx hb dKe_leave_41 rfl (lv_at hl 0 rfl) ?_
        refine lv_iconst (v := (2 : Int32)) hx hb dKe_leave_42 (by decide) ?_
        refine ek_putiN hx hb 6 hts (in_Ta) ty_Ta ty_Ta_ok nm_Ta hown hK hw hS hA rfl (by decide) (by decide) 5 (by decide) rfl (va_Nw.use rfl (hK.2 _ n_85)) rfl rfl rfl hf dKe_leave_43 (fun I7 H locs hf hw hS => ?_)
        exact wKe_leave_46 X hf hw hS (lv_sub hl [2] rfl)
      · have hf := ek_t c6 hf
        refine ek_aload_n hx hb dKe_leave_30 rfl (lv_at hl 2 rfl) ?_
        refine ek_getr hx hb 7 hts (in_Ke) hown hK hw rfl (by decide) (by decide) 0 (by decide) (n := 0) rfl rfl (hts _ q_193) hf dKe_leave_31 (fun hf => ?_)
        refine ek_aload_n hx hb dKe_leave_34 rfl (lv_at hl 0 rfl) ?_
        obtain ⟨hx9, hf⟩ := ek_ck_s hf
        refine ek_cv hf hS hA (fun I' hq => ek_rV (As := [ek_r G xr3]) ⟨hx, hb, hml, hown, hts⟩ hK hw 4 rfl (by decide) (by decide) hx9 (mRo_drop hq) (cwV 1 hts (lw_V q_291 q_292 q_293 q_2 q_294) rfl rfl rfl (by decide +kernel) ⟨Nat.le_of_ble_eq_true rfl, Nat.le_of_ble_eq_true rfl⟩) rfl hl.1 rfl (Nat.le_of_ble_eq_true rfl) dKe_leave_35 ⟨Nat.zero_le _, Nat.zero_le _⟩) (fun I8 H locs hf hw hS => ?_)
        refine lv_goto (tgt := 46) hx hb dKe_leave_38 (by decide) ?_
        exact wKe_leave_46 X hf hw hS (lv_sub hl [2] rfl)
    · have hf := ek_t c5 hf
      refine lv_iconst (v := (0 : Int32)) hx hb dKe_leave_21 (by decide) ?_
      exact ek_zret hx hb hr hlocks hw hS hf dKe_leave_22
set_option maxHeartbeats 4000000 in
set_option maxRecDepth 100000 in
theorem mKe_leave {l : Launch} {G : ek_G} {kd : Nat → Nat} {I : ek_St} {x0 : Nat} {i1 : Int32} {q : ek_St × Int32} (hf : fKe_leave kd I x0 i1 = some q) : ek_M l G kd y_Ke_leave (.code y_Ke_leave prog_1_method_3_code 3 (some .boolean) :: lw_g) ({ frames := 6, cells := 0, slots := 0, locals := 149 } : Room) [ek_r G x0, .int i1] I (some (.int q.2)) q.1 :=
  ek_body [(0, ek_r G x0), (1, .int i1)] (by decide) (by simp [lg_sl, ek_r_cat, ek_c_i, ek_c_l]) (by simp [lv_args, ek_r_cat, ek_c_i, ek_c_l]) (fun p e s m below meth c ls X hw hS hl => wKe_leave_0 X hf hw hS hl)
/-! ElasticKernel.load(I)Z -/
def fKe_load_0 (kd : Nat → Nat) (I : ek_St) (x0 : Nat) (i1 : Int32) : Option (ek_St × Int32) :=
  ek_bi (fKe_isWithin kd I i1 ((1000 : Int32))) (fun I1 ir2 => if ir2 = ((0 : Int32)) then (ek_ck (((0 : Int32)) = (0 : Int32) ∨ ((0 : Int32)) = (1 : Int32)) (some (I1, (0 : Int32)))) else (ek_ck (kd x0 = 7) (ek_bi (fKe_isRefused kd I1 x0 i1) (fun I4 ir6 => if ir6 = ((0 : Int32)) then (ek_ck (kd x0 = 7) (ek_let (ek_up I4 x0 3 i1) (fun I8 => ek_ck (kd x0 = 7) (ek_bv (fKe_solve kd I8 x0) (fun I9 => ek_ck (((1 : Int32)) = (0 : Int32) ∨ ((1 : Int32)) = (1 : Int32)) (some (I9, (1 : Int32)))))))) else (ek_ck (((0 : Int32)) = (0 : Int32) ∨ ((0 : Int32)) = (1 : Int32)) (some (I4, (0 : Int32))))))))
def fKe_load (kd : Nat → Nat) (I : ek_St) (x0 : Nat) (i1 : Int32) : Option (ek_St × Int32) := fKe_load_0 kd I x0 i1
theorem dKe_load_0 : decode prog_1_method_4_code 0 = .ok (.iload_n 1, 1) := by decide +kernel
theorem dKe_load_1 : decode prog_1_method_4_code 1 = .ok (.sipush 1000, 3) := by decide +kernel
theorem dKe_load_4 : decode prog_1_method_4_code 4 = .ok (.invokestatic 27, 3) := by decide +kernel
theorem dKe_load_7 : decode prog_1_method_4_code 7 = .ok (.ifCond .eq 11, 3) := by decide +kernel
theorem dKe_load_10 : decode prog_1_method_4_code 10 = .ok (.aload_n 0, 1) := by decide +kernel
theorem dKe_load_11 : decode prog_1_method_4_code 11 = .ok (.iload_n 1, 1) := by decide +kernel
theorem dKe_load_12 : decode prog_1_method_4_code 12 = .ok (.invokevirtual 45, 3) := by decide +kernel
theorem dKe_load_15 : decode prog_1_method_4_code 15 = .ok (.ifCond .eq 5, 3) := by decide +kernel
theorem dKe_load_18 : decode prog_1_method_4_code 18 = .ok (.iconst 0, 1) := by decide +kernel
theorem dKe_load_19 : decode prog_1_method_4_code 19 = .ok (.ireturn, 1) := by decide +kernel
theorem dKe_load_20 : decode prog_1_method_4_code 20 = .ok (.aload_n 0, 1) := by decide +kernel
theorem dKe_load_21 : decode prog_1_method_4_code 21 = .ok (.iload_n 1, 1) := by decide +kernel
theorem dKe_load_22 : decode prog_1_method_4_code 22 = .ok (.putfield 23, 3) := by decide +kernel
theorem dKe_load_25 : decode prog_1_method_4_code 25 = .ok (.aload_n 0, 1) := by decide +kernel
theorem dKe_load_26 : decode prog_1_method_4_code 26 = .ok (.invokevirtual 53, 3) := by decide +kernel
theorem dKe_load_29 : decode prog_1_method_4_code 29 = .ok (.iconst 1, 1) := by decide +kernel
theorem dKe_load_30 : decode prog_1_method_4_code 30 = .ok (.ireturn, 1) := by decide +kernel
set_option maxHeartbeats 4000000 in
set_option maxRecDepth 100000 in
theorem wKe_load_0 {l : Launch} {G : ek_G} {kd : Nat → Nat} {p : Program} {e : Env} {s : State} {m : MethodId} {args : Array Value} {below : List Frame} {meth : Method} {c : Code} (X : ek_X p s m meth c args G prog_1_method_4_code 2 "ElasticKernel" (some .boolean)) {q : ek_St × Int32} {I : ek_St} {x0 : Nat} {i1 : Int32} (hf : fKe_load_0 kd I x0 i1 = some q) {H : Heap} {locs : List Loc} {ls : Array Slot} (hw : ek_W G kd I H) (hS : va_S (ek_A G kd) s.heap H locs) (hl : lv_has ls 2 [(0, ek_r G x0), (1, .int i1)]) : W p l e ({ frames := 6, cells := 0, slots := 0, locals := 149 } : Room) s m args below meth c H locs 0 0 (MQ below (ek_Q G kd (some (.int q.2)) q.1) args s 0 0 (ek_A G kd)) (F0 m 0 ls []) := by
  obtain ⟨hx, hb, hml, hown, hts, hr, hlocks, hK⟩ := id X
  have hA : ∀ q, ek_A G kd q → ek_A G kd q := fun _ h => h
  unfold fKe_load_0 at hf
  refine lv_iload_n hx hb dKe_load_0 rfl (lv_at hl 1 rfl) ?_
  refine lv_sipush (v := (1000 : Int32)) hx hb dKe_load_1 (by decide) ?_
  refine ek_ci hf hS hA (fun I' v hq => ek_rS (As := [.int i1, .int ((1000 : Int32))]) ⟨hx, hb, hml, hown, hts⟩ hK hw (mKe_isWithin hq) (ek_cwS 2 hts q_222 q_223 q_1 q_224 (by decide +kernel) ⟨Nat.le_of_ble_eq_true rfl, Nat.le_of_ble_eq_true rfl⟩) rfl hl.1 rfl (Nat.le_of_ble_eq_true rfl) dKe_load_4 ⟨Nat.zero_le _, Nat.zero_le _⟩) (fun I1 ir2 H locs hf hw hS => ?_)
  refine lv_if_eq (tgt := 18) hx hb dKe_load_7 (by decide) (fun c3 => ?_) (fun c3 => ?_)
  · have hf := ek_t c3 hf
    refine lv_iconst (v := (0 : Int32)) hx hb dKe_load_18 (by decide) ?_
    exact ek_zret hx hb hr hlocks hw hS hf dKe_load_19
  · have hf := ek_f c3 hf
    refine ek_aload_n hx hb dKe_load_10 rfl (lv_at hl 0 rfl) ?_
    refine lv_iload_n hx hb dKe_load_11 rfl (lv_at hl 1 rfl) ?_
    obtain ⟨hx5, hf⟩ := ek_ck_s hf
    refine ek_ci hf hS hA (fun I' v hq => ek_rV (As := [.int i1]) ⟨hx, hb, hml, hown, hts⟩ hK hw 7 rfl (by decide) (by decide) hx5 (mKe_isRefused hq) (cwV 1 hts (lw_V q_240 q_242 p_0 q_1 q_243) rfl rfl rfl (by decide +kernel) ⟨Nat.le_of_ble_eq_true rfl, Nat.le_of_ble_eq_true rfl⟩) rfl hl.1 rfl (Nat.le_of_ble_eq_true rfl) dKe_load_12 ⟨Nat.zero_le _, Nat.zero_le _⟩) (fun I4 ir6 H locs hf hw hS => ?_)
    refine lv_if_eq (tgt := 20) hx hb dKe_load_15 (by decide) (fun c7 => ?_) (fun c7 => ?_)
    · have hf := ek_t c7 hf
      refine ek_aload_n hx hb dKe_load_20 rfl (lv_at hl 0 rfl) ?_
      refine lv_iload_n hx hb dKe_load_21 rfl (lv_at hl 1 rfl) ?_
      refine ek_puti hx hb 7 hts (in_Ke) ty_Ke ty_Ke_ok nm_Ke hown hK hw hS hA rfl (by decide) (by decide) 3 (by decide) rfl (hts _ q_196) rfl rfl rfl hf dKe_load_22 (fun I8 H locs hf hw hS => ?_)
      refine ek_aload_n hx hb dKe_load_25 rfl (lv_at hl 0 rfl) ?_
      obtain ⟨hx10, hf⟩ := ek_ck_s hf
      refine ek_cv hf hS hA (fun I' hq => ek_rV (As := []) ⟨hx, hb, hml, hown, hts⟩ hK hw 7 rfl (by decide) (by decide) hx10 (mKe_solve hq) (cwV 0 hts (lw_V q_295 q_297 p_1 q_1 q_298) rfl rfl rfl (by decide +kernel) ⟨Nat.le_of_ble_eq_true rfl, Nat.le_of_ble_eq_true rfl⟩) rfl hl.1 rfl (Nat.le_of_ble_eq_true rfl) dKe_load_26 ⟨Nat.zero_le _, Nat.zero_le _⟩) (fun I9 H locs hf hw hS => ?_)
      refine lv_iconst (v := (1 : Int32)) hx hb dKe_load_29 (by decide) ?_
      exact ek_zret hx hb hr hlocks hw hS hf dKe_load_30
    · have hf := ek_f c7 hf
      refine lv_iconst (v := (0 : Int32)) hx hb dKe_load_18 (by decide) ?_
      exact ek_zret hx hb hr hlocks hw hS hf dKe_load_19
set_option maxHeartbeats 4000000 in
set_option maxRecDepth 100000 in
theorem mKe_load {l : Launch} {G : ek_G} {kd : Nat → Nat} {I : ek_St} {x0 : Nat} {i1 : Int32} {q : ek_St × Int32} (hf : fKe_load kd I x0 i1 = some q) : ek_M l G kd y_Ke_load (.code y_Ke_load prog_1_method_4_code 2 (some .boolean) :: lw_g) ({ frames := 6, cells := 0, slots := 0, locals := 149 } : Room) [ek_r G x0, .int i1] I (some (.int q.2)) q.1 :=
  ek_body [(0, ek_r G x0), (1, .int i1)] (by decide) (by simp [lg_sl, ek_r_cat, ek_c_i, ek_c_l]) (by simp [lv_args, ek_r_cat, ek_c_i, ek_c_l]) (fun p e s m below meth c ls X hw hS hl => wKe_load_0 X hf hw hS hl)
/-! ElasticKernel.use(II)Z -/
def fKe_use_0 (kd : Nat → Nat) (I : ek_St) (x0 : Nat) (i1 : Int32) (i2 : Int32) : Option (ek_St × Int32) :=
  ek_ck (kd x0 = 7) (ek_ck (kd (x0 + 1) = 4) (ek_bi (fRo_find kd I (x0 + 1) i1) (fun I1 xr3 => if xr3 = ((0 : Nat)) then (ek_ck (((0 : Int32)) = (0 : Int32) ∨ ((0 : Int32)) = (1 : Int32)) (some (I1, (0 : Int32)))) else (if i2 < ((0 : Int32)) then (ek_ck (((0 : Int32)) = (0 : Int32) ∨ ((0 : Int32)) = (1 : Int32)) (some (I1, (0 : Int32)))) else (ek_ck (kd xr3 = 6) (if i2 ≤ (I1 xr3 1) then (ek_ck (kd xr3 = 6) (ek_let (ek_up I1 xr3 10 i2) (fun I7 => ek_ck (((1 : Int32)) = (0 : Int32) ∨ ((1 : Int32)) = (1 : Int32)) (some (I7, (1 : Int32)))))) else (ek_ck (((0 : Int32)) = (0 : Int32) ∨ ((0 : Int32)) = (1 : Int32)) (some (I1, (0 : Int32))))))))))
def fKe_use (kd : Nat → Nat) (I : ek_St) (x0 : Nat) (i1 : Int32) (i2 : Int32) : Option (ek_St × Int32) := fKe_use_0 kd I x0 i1 i2
theorem dKe_use_0 : decode prog_1_method_5_code 0 = .ok (.aload_n 0, 1) := by decide +kernel
theorem dKe_use_1 : decode prog_1_method_5_code 1 = .ok (.getfield 10, 3) := by decide +kernel
theorem dKe_use_4 : decode prog_1_method_5_code 4 = .ok (.iload_n 1, 1) := by decide +kernel
theorem dKe_use_5 : decode prog_1_method_5_code 5 = .ok (.invokevirtual 62, 3) := by decide +kernel
theorem dKe_use_8 : decode prog_1_method_5_code 8 = .ok (.astore_n 3, 1) := by decide +kernel
theorem dKe_use_9 : decode prog_1_method_5_code 9 = .ok (.aload_n 3, 1) := by decide +kernel
theorem dKe_use_10 : decode prog_1_method_5_code 10 = .ok (.ifnull 15, 3) := by decide +kernel
theorem dKe_use_13 : decode prog_1_method_5_code 13 = .ok (.iload_n 2, 1) := by decide +kernel
theorem dKe_use_14 : decode prog_1_method_5_code 14 = .ok (.ifCond .lt 11, 3) := by decide +kernel
theorem dKe_use_17 : decode prog_1_method_5_code 17 = .ok (.iload_n 2, 1) := by decide +kernel
theorem dKe_use_18 : decode prog_1_method_5_code 18 = .ok (.aload_n 3, 1) := by decide +kernel
theorem dKe_use_19 : decode prog_1_method_5_code 19 = .ok (.getfield 68, 3) := by decide +kernel
theorem dKe_use_22 : decode prog_1_method_5_code 22 = .ok (.if_icmp .le 5, 3) := by decide +kernel
theorem dKe_use_25 : decode prog_1_method_5_code 25 = .ok (.iconst 0, 1) := by decide +kernel
theorem dKe_use_26 : decode prog_1_method_5_code 26 = .ok (.ireturn, 1) := by decide +kernel
theorem dKe_use_27 : decode prog_1_method_5_code 27 = .ok (.aload_n 3, 1) := by decide +kernel
theorem dKe_use_28 : decode prog_1_method_5_code 28 = .ok (.iload_n 2, 1) := by decide +kernel
theorem dKe_use_29 : decode prog_1_method_5_code 29 = .ok (.putfield 71, 3) := by decide +kernel
theorem dKe_use_32 : decode prog_1_method_5_code 32 = .ok (.iconst 1, 1) := by decide +kernel
theorem dKe_use_33 : decode prog_1_method_5_code 33 = .ok (.ireturn, 1) := by decide +kernel
set_option maxHeartbeats 4000000 in
set_option maxRecDepth 100000 in
theorem wKe_use_0 {l : Launch} {G : ek_G} {kd : Nat → Nat} {p : Program} {e : Env} {s : State} {m : MethodId} {args : Array Value} {below : List Frame} {meth : Method} {c : Code} (X : ek_X p s m meth c args G prog_1_method_5_code 4 "ElasticKernel" (some .boolean)) {q : ek_St × Int32} {I : ek_St} {x0 : Nat} {i1 : Int32} {i2 : Int32} (hf : fKe_use_0 kd I x0 i1 i2 = some q) {H : Heap} {locs : List Loc} {ls : Array Slot} (hw : ek_W G kd I H) (hS : va_S (ek_A G kd) s.heap H locs) (hl : lv_has ls 4 [(0, ek_r G x0), (1, .int i1), (2, .int i2)]) : W p l e ({ frames := 1, cells := 0, slots := 0, locals := 22 } : Room) s m args below meth c H locs 0 0 (MQ below (ek_Q G kd (some (.int q.2)) q.1) args s 0 0 (ek_A G kd)) (F0 m 0 ls []) := by
  obtain ⟨hx, hb, hml, hown, hts, hr, hlocks, hK⟩ := id X
  have hA : ∀ q, ek_A G kd q → ek_A G kd q := fun _ h => h
  unfold fKe_use_0 at hf
  refine ek_aload_n hx hb dKe_use_0 rfl (lv_at hl 0 rfl) ?_
  refine ek_getr hx hb 7 hts (in_Ke) hown hK hw rfl (by decide) (by decide) 0 (by decide) (n := 0) rfl rfl (hts _ q_193) hf dKe_use_1 (fun hf => ?_)
  refine lv_iload_n hx hb dKe_use_4 rfl (lv_at hl 1 rfl) ?_
  obtain ⟨hx2, hf⟩ := ek_ck_s hf
  refine ek_cr hf hS hA (fun I' v hq => ek_rV (As := [.int i1]) ⟨hx, hb, hml, hown, hts⟩ hK hw 4 rfl (by decide) (by decide) hx2 (mRo_find hq) (cwV 1 hts (lw_V q_417 q_233 q_234 q_2 q_235) rfl rfl rfl (by decide +kernel) ⟨Nat.le_of_ble_eq_true rfl, Nat.le_of_ble_eq_true rfl⟩) rfl hl.1 rfl (Nat.le_of_ble_eq_true rfl) dKe_use_5 ⟨Nat.zero_le _, Nat.zero_le _⟩) (fun I1 xr3 H locs hf hw hS => ?_)
  refine ek_astore_n (lv' := [(3, ek_r G xr3), (2, .int i2), (0, ek_r G x0), (1, .int i1)]) hx hb dKe_use_8 rfl hl (by decide) (ek_s1k 2 rfl rfl rfl ek_r_cat rfl) (fun ls hl => ?_)
  refine ek_aload_n hx hb dKe_use_9 rfl (lv_at hl 0 rfl) ?_
  refine ek_ifnull (tgt := 25) hx hb dKe_use_10 (by decide) (fun c4 => ?_) (fun c4 => ?_)
  · have hf := ek_t c4 hf
    refine lv_iconst (v := (0 : Int32)) hx hb dKe_use_25 (by decide) ?_
    exact ek_zret hx hb hr hlocks hw hS hf dKe_use_26
  · have hf := ek_f c4 hf
    refine lv_iload_n hx hb dKe_use_13 rfl (lv_at hl 1 rfl) ?_
    refine lv_if_lt (tgt := 25) hx hb dKe_use_14 (by decide) (fun c5 => ?_) (fun c5 => ?_)
    · have hf := ek_t c5 hf
      refine lv_iconst (v := (0 : Int32)) hx hb dKe_use_25 (by decide) ?_
      exact ek_zret hx hb hr hlocks hw hS hf dKe_use_26
    · have hf := ek_f c5 hf
      refine lv_iload_n hx hb dKe_use_17 rfl (lv_at hl 1 rfl) ?_
      refine ek_aload_n hx hb dKe_use_18 rfl (lv_at hl 0 rfl) ?_
      refine ek_getiN hx hb 6 hts (in_Ta) hown hK hw rfl (by decide) (by decide) 1 (by decide) rfl (va_Nw.use rfl (hK.2 _ n_77)) hf dKe_use_19 (fun hf => ?_)
      refine lv_icmp_le (tgt := 27) hx hb dKe_use_22 (by decide) (fun c6 => ?_) (fun c6 => ?_)
      · have hf := ek_t c6 hf
        refine ek_aload_n hx hb dKe_use_27 rfl (lv_at hl 0 rfl) ?_
        refine lv_iload_n hx hb dKe_use_28 rfl (lv_at hl 1 rfl) ?_
        refine ek_putiN hx hb 6 hts (in_Ta) ty_Ta ty_Ta_ok nm_Ta hown hK hw hS hA rfl (by decide) (by decide) 10 (by decide) rfl (va_Nw.use rfl (hK.2 _ n_96)) rfl rfl rfl hf dKe_use_29 (fun I7 H locs hf hw hS => ?_)
        refine lv_iconst (v := (1 : Int32)) hx hb dKe_use_32 (by decide) ?_
        exact ek_zret hx hb hr hlocks hw hS hf dKe_use_33
      · have hf := ek_f c6 hf
        refine lv_iconst (v := (0 : Int32)) hx hb dKe_use_25 (by decide) ?_
        exact ek_zret hx hb hr hlocks hw hS hf dKe_use_26
set_option maxHeartbeats 4000000 in
set_option maxRecDepth 100000 in
theorem mKe_use {l : Launch} {G : ek_G} {kd : Nat → Nat} {I : ek_St} {x0 : Nat} {i1 : Int32} {i2 : Int32} {q : ek_St × Int32} (hf : fKe_use kd I x0 i1 i2 = some q) : ek_M l G kd y_Ke_use (.code y_Ke_use prog_1_method_5_code 4 (some .boolean) :: lw_g) ({ frames := 1, cells := 0, slots := 0, locals := 22 } : Room) [ek_r G x0, .int i1, .int i2] I (some (.int q.2)) q.1 :=
  ek_body [(0, ek_r G x0), (1, .int i1), (2, .int i2)] (by decide) (by simp [lg_sl, ek_r_cat, ek_c_i, ek_c_l]) (by simp [lv_args, ek_r_cat, ek_c_i, ek_c_l]) (fun p e s m below meth c ls X hw hS hl => wKe_use_0 X hf hw hS hl)
/-! ElasticKernel.countIfLate(LElasticKernel$Task;)V -/
def fKe_countIfLate_0 (kd : Nat → Nat) (I : ek_St) (x0 : Nat) (x1 : Nat) : Option (ek_St) :=
  ek_ck (kd x1 = 6) (if (I x1 9) ≤ ((0 : Int32)) then (some I) else (ek_ck (kd x0 = 7) (ek_ck (kd x0 = 7) (ek_let (ek_up I x0 4 ((I x0 4) + ((1 : Int32)))) (fun I2 => some I2)))))
def fKe_countIfLate (kd : Nat → Nat) (I : ek_St) (x0 : Nat) (x1 : Nat) : Option (ek_St) := fKe_countIfLate_0 kd I x0 x1
theorem dKe_countIfLate_0 : decode prog_1_method_18_code 0 = .ok (.aload_n 1, 1) := by decide +kernel
theorem dKe_countIfLate_1 : decode prog_1_method_18_code 1 = .ok (.getfield 117, 3) := by decide +kernel
theorem dKe_countIfLate_4 : decode prog_1_method_18_code 4 = .ok (.ifCond .le 13, 3) := by decide +kernel
theorem dKe_countIfLate_7 : decode prog_1_method_18_code 7 = .ok (.aload_n 0, 1) := by decide +kernel
theorem dKe_countIfLate_8 : decode prog_1_method_18_code 8 = .ok (.dup, 1) := by decide +kernel
theorem dKe_countIfLate_9 : decode prog_1_method_18_code 9 = .ok (.getfield 141, 3) := by decide +kernel
theorem dKe_countIfLate_12 : decode prog_1_method_18_code 12 = .ok (.iconst 1, 1) := by decide +kernel
theorem dKe_countIfLate_13 : decode prog_1_method_18_code 13 = .ok (.iadd, 1) := by decide +kernel
theorem dKe_countIfLate_14 : decode prog_1_method_18_code 14 = .ok (.putfield 141, 3) := by decide +kernel
theorem dKe_countIfLate_17 : decode prog_1_method_18_code 17 = .ok (.return_, 1) := by decide +kernel
set_option maxHeartbeats 4000000 in
set_option maxRecDepth 100000 in
theorem wKe_countIfLate_0 {l : Launch} {G : ek_G} {kd : Nat → Nat} {p : Program} {e : Env} {s : State} {m : MethodId} {args : Array Value} {below : List Frame} {meth : Method} {c : Code} (X : ek_X p s m meth c args G prog_1_method_18_code 2 "ElasticKernel" none) {q : ek_St} {I : ek_St} {x0 : Nat} {x1 : Nat} (hf : fKe_countIfLate_0 kd I x0 x1 = some q) {H : Heap} {locs : List Loc} {ls : Array Slot} (hw : ek_W G kd I H) (hS : va_S (ek_A G kd) s.heap H locs) (hl : lv_has ls 2 [(0, ek_r G x0), (1, ek_r G x1)]) : W p l e ({ frames := 0, cells := 0, slots := 0, locals := 0 } : Room) s m args below meth c H locs 0 0 (MQ below (ek_Q G kd none q) args s 0 0 (ek_A G kd)) (F0 m 0 ls []) := by
  obtain ⟨hx, hb, hml, hown, hts, hr, hlocks, hK⟩ := id X
  have hA : ∀ q, ek_A G kd q → ek_A G kd q := fun _ h => h
  unfold fKe_countIfLate_0 at hf
  refine ek_aload_n hx hb dKe_countIfLate_0 rfl (lv_at hl 1 rfl) ?_
  refine ek_getiN hx hb 6 hts (in_Ta) hown hK hw rfl (by decide) (by decide) 9 (by decide) rfl (va_Nw.use rfl (hK.2 _ n_94)) hf dKe_countIfLate_1 (fun hf => ?_)
  refine lv_if_le (tgt := 17) hx hb dKe_countIfLate_4 (by decide) (fun c1 => ?_) (fun c1 => ?_)
  · have hf := ek_t c1 hf
    exact ek_vret hx hb hr hlocks hw hS hf dKe_countIfLate_17
  · have hf := ek_f c1 hf
    refine ek_aload_n hx hb dKe_countIfLate_7 rfl (lv_at hl 0 rfl) ?_
    refine lv_dup hx hb dKe_countIfLate_8 ek_r_cat ?_
    refine ek_geti hx hb 7 hts (in_Ke) hown hK hw rfl (by decide) (by decide) 4 (by decide) rfl (hts _ q_197) hf dKe_countIfLate_9 (fun hf => ?_)
    refine lv_iconst (v := (1 : Int32)) hx hb dKe_countIfLate_12 (by decide) ?_
    refine lv_iadd hx hb dKe_countIfLate_13 ?_
    refine ek_puti hx hb 7 hts (in_Ke) ty_Ke ty_Ke_ok nm_Ke hown hK hw hS hA rfl (by decide) (by decide) 4 (by decide) rfl (hts _ q_197) rfl rfl rfl hf dKe_countIfLate_14 (fun I2 H locs hf hw hS => ?_)
    exact ek_vret hx hb hr hlocks hw hS hf dKe_countIfLate_17
set_option maxHeartbeats 4000000 in
set_option maxRecDepth 100000 in
theorem mKe_countIfLate {l : Launch} {G : ek_G} {kd : Nat → Nat} {I : ek_St} {x0 : Nat} {x1 : Nat} {q : ek_St} (hf : fKe_countIfLate kd I x0 x1 = some q) : ek_M l G kd y_Ke_countIfLate (.code y_Ke_countIfLate prog_1_method_18_code 2 none :: lw_g) ({ frames := 0, cells := 0, slots := 0, locals := 0 } : Room) [ek_r G x0, ek_r G x1] I none q :=
  ek_body [(0, ek_r G x0), (1, ek_r G x1)] (by decide) (by simp [lg_sl, ek_r_cat, ek_c_i, ek_c_l]) (by simp [lv_args, ek_r_cat, ek_c_i, ek_c_l]) (fun p e s m below meth c ls X hw hS hl => wKe_countIfLate_0 X hf hw hS hl)
/-! ElasticKernel.dismissLeavers()V -/
def fKe_dismissLeavers_56 (kd : Nat → Nat) (k10 : (ek_St × Nat × Int32) → Option (ek_St)) (I : ek_St) (x0 : Nat) (i1 : Int32) : Option (ek_St) :=
  ek_let (i1 + (-1 : Int32)) (fun i1_1 => k10 (I, x0, i1_1))
def fKe_dismissLeavers_10 (kd : Nat → Nat) (k10 : (ek_St × Nat × Int32) → Option (ek_St)) (I : ek_St) (x0 : Nat) (i1 : Int32) : Option (ek_St) :=
  if i1 < ((0 : Int32)) then (some I) else (ek_ck (kd x0 = 7) (ek_ck (kd (x0 + 1) = 4) (ek_ck (kd ((x0 + 1) + 1) = 60) (ek_ck (ek_in i1 12) (ek_let ((I ((x0 + 1) + 1) i1.toNatClampNeg).toNatClampNeg) (fun x2_2 => ek_ck (kd x2_2 = 6) (if (I x2_2 5) = ((2 : Int32)) then (ek_ck (kd x2_2 = 6) (ek_ck (kd x0 = 7) (if (I x2_2 8) = (I x0 2) then (ek_ck (kd x0 = 7) (ek_bv (fKe_countIfLate kd I x0 x2_2) (fun I5 => ek_ck (kd x0 = 7) (ek_ck (kd (x0 + 1) = 4) (ek_bv (fRo_drop kd I5 (x0 + 1) x2_2) (fun I7 => fKe_dismissLeavers_56 kd k10 I7 x0 i1)))))) else (fKe_dismissLeavers_56 kd k10 I x0 i1)))) else (fKe_dismissLeavers_56 kd k10 I x0 i1))))))))
def fKe_dismissLeavers_0 (kd : Nat → Nat) (I : ek_St) (x0 : Nat) : Option (ek_St) :=
  ek_ck (kd x0 = 7) (ek_ck (kd (x0 + 1) = 4) (ek_let ((I (x0 + 1) 1) - ((1 : Int32))) (fun i1_1 => ek_lp (fun (k : (ek_St × Nat × Int32) → Option (ek_St)) (q : (ek_St × Nat × Int32)) => fKe_dismissLeavers_10 kd k q.1 q.2.1 q.2.2) ek_N (I, x0, i1_1))))
def fKe_dismissLeavers (kd : Nat → Nat) (I : ek_St) (x0 : Nat) : Option (ek_St) := fKe_dismissLeavers_0 kd I x0
theorem dKe_dismissLeavers_0 : decode prog_1_method_17_code 0 = .ok (.aload_n 0, 1) := by decide +kernel
theorem dKe_dismissLeavers_1 : decode prog_1_method_17_code 1 = .ok (.getfield 10, 3) := by decide +kernel
theorem dKe_dismissLeavers_4 : decode prog_1_method_17_code 4 = .ok (.getfield 151, 3) := by decide +kernel
theorem dKe_dismissLeavers_7 : decode prog_1_method_17_code 7 = .ok (.iconst 1, 1) := by decide +kernel
theorem dKe_dismissLeavers_8 : decode prog_1_method_17_code 8 = .ok (.isub, 1) := by decide +kernel
theorem dKe_dismissLeavers_9 : decode prog_1_method_17_code 9 = .ok (.istore_n 1, 1) := by decide +kernel
theorem dKe_dismissLeavers_10 : decode prog_1_method_17_code 10 = .ok (.iload_n 1, 1) := by decide +kernel
theorem dKe_dismissLeavers_11 : decode prog_1_method_17_code 11 = .ok (.ifCond .lt 51, 3) := by decide +kernel
theorem dKe_dismissLeavers_14 : decode prog_1_method_17_code 14 = .ok (.aload_n 0, 1) := by decide +kernel
theorem dKe_dismissLeavers_15 : decode prog_1_method_17_code 15 = .ok (.getfield 10, 3) := by decide +kernel
theorem dKe_dismissLeavers_18 : decode prog_1_method_17_code 18 = .ok (.getfield 187, 3) := by decide +kernel
theorem dKe_dismissLeavers_21 : decode prog_1_method_17_code 21 = .ok (.iload_n 1, 1) := by decide +kernel
theorem dKe_dismissLeavers_22 : decode prog_1_method_17_code 22 = .ok (.aaload, 1) := by decide +kernel
theorem dKe_dismissLeavers_23 : decode prog_1_method_17_code 23 = .ok (.astore_n 2, 1) := by decide +kernel
theorem dKe_dismissLeavers_24 : decode prog_1_method_17_code 24 = .ok (.aload_n 2, 1) := by decide +kernel
theorem dKe_dismissLeavers_25 : decode prog_1_method_17_code 25 = .ok (.getfield 65, 3) := by decide +kernel
theorem dKe_dismissLeavers_28 : decode prog_1_method_17_code 28 = .ok (.iconst 2, 1) := by decide +kernel
theorem dKe_dismissLeavers_29 : decode prog_1_method_17_code 29 = .ok (.if_icmp .ne 27, 3) := by decide +kernel
theorem dKe_dismissLeavers_32 : decode prog_1_method_17_code 32 = .ok (.aload_n 2, 1) := by decide +kernel
theorem dKe_dismissLeavers_33 : decode prog_1_method_17_code 33 = .ok (.getfield 114, 3) := by decide +kernel
theorem dKe_dismissLeavers_36 : decode prog_1_method_17_code 36 = .ok (.aload_n 0, 1) := by decide +kernel
theorem dKe_dismissLeavers_37 : decode prog_1_method_17_code 37 = .ok (.getfield 59, 3) := by decide +kernel
theorem dKe_dismissLeavers_40 : decode prog_1_method_17_code 40 = .ok (.if_icmp .ne 16, 3) := by decide +kernel
theorem dKe_dismissLeavers_43 : decode prog_1_method_17_code 43 = .ok (.aload_n 0, 1) := by decide +kernel
theorem dKe_dismissLeavers_44 : decode prog_1_method_17_code 44 = .ok (.aload_n 2, 1) := by decide +kernel
theorem dKe_dismissLeavers_45 : decode prog_1_method_17_code 45 = .ok (.invokevirtual 203, 3) := by decide +kernel
theorem dKe_dismissLeavers_48 : decode prog_1_method_17_code 48 = .ok (.aload_n 0, 1) := by decide +kernel
theorem dKe_dismissLeavers_49 : decode prog_1_method_17_code 49 = .ok (.getfield 10, 3) := by decide +kernel
theorem dKe_dismissLeavers_52 : decode prog_1_method_17_code 52 = .ok (.aload_n 2, 1) := by decide +kernel
theorem dKe_dismissLeavers_53 : decode prog_1_method_17_code 53 = .ok (.invokevirtual 49, 3) := by decide +kernel
theorem dKe_dismissLeavers_56 : decode prog_1_method_17_code 56 = .ok (.iinc 1 (-1), 3) := by decide +kernel
theorem dKe_dismissLeavers_59 : decode prog_1_method_17_code 59 = .ok (.goto (-49), 3) := by decide +kernel
theorem dKe_dismissLeavers_62 : decode prog_1_method_17_code 62 = .ok (.return_, 1) := by decide +kernel
set_option maxHeartbeats 4000000 in
set_option maxRecDepth 100000 in
theorem wKe_dismissLeavers_56 {l : Launch} {G : ek_G} {kd : Nat → Nat} {p : Program} {e : Env} {s : State} {m : MethodId} {args : Array Value} {below : List Frame} {meth : Method} {c : Code} (X : ek_X p s m meth c args G prog_1_method_17_code 3 "ElasticKernel" none) {q : ek_St} {k10 : (ek_St × Nat × Int32) → Option (ek_St)} (hk10 : ∀ q0 : ek_St × Nat × Int32, k10 q0 = some q → ∀ (H : Heap) (locs : List Loc) (ls : Array Slot), ek_W G kd q0.1 H → va_S (ek_A G kd) s.heap H locs → lv_has ls 3 [(0, ek_r G q0.2.1), (1, .int q0.2.2)] → W p l e ({ frames := 1, cells := 0, slots := 0, locals := 23 } : Room) s m args below meth c H locs 0 0 (MQ below (ek_Q G kd none q) args s 0 0 (ek_A G kd)) (F0 m 10 ls [])) {I : ek_St} {x0 : Nat} {i1 : Int32} (hf : fKe_dismissLeavers_56 kd k10 I x0 i1 = some q) {H : Heap} {locs : List Loc} {ls : Array Slot} (hw : ek_W G kd I H) (hS : va_S (ek_A G kd) s.heap H locs) (hl : lv_has ls 3 [(0, ek_r G x0), (1, .int i1)]) : W p l e ({ frames := 1, cells := 0, slots := 0, locals := 23 } : Room) s m args below meth c H locs 0 0 (MQ below (ek_Q G kd none q) args s 0 0 (ek_A G kd)) (F0 m 56 ls []) := by
  obtain ⟨hx, hb, hml, hown, hts, hr, hlocks, hK⟩ := id X
  have hA : ∀ q, ek_A G kd q → ek_A G kd q := fun _ h => h
  unfold fKe_dismissLeavers_56 at hf
  refine ek_iinc hx hb 1 (fun i1_1 => [(1, .int i1_1), (0, ek_r G x0)]) dKe_dismissLeavers_56 hl rfl (v := i1 + (-1 : Int32)) rfl hf (by decide) (fun i1_1 => ek_s1k 0 rfl rfl ek_r_cat rfl rfl) (fun i1_1 ls hf hl => ?_)
  refine lv_goto (tgt := 10) hx hb dKe_dismissLeavers_59 (by decide) ?_
  exact hk10 (I, x0, i1_1) hf _ _ _ hw hS (lv_sub hl [1, 0] rfl)
set_option maxHeartbeats 4000000 in
set_option maxRecDepth 100000 in
theorem wKe_dismissLeavers_10 {l : Launch} {G : ek_G} {kd : Nat → Nat} {p : Program} {e : Env} {s : State} {m : MethodId} {args : Array Value} {below : List Frame} {meth : Method} {c : Code} (X : ek_X p s m meth c args G prog_1_method_17_code 3 "ElasticKernel" none) {q : ek_St} {k10 : (ek_St × Nat × Int32) → Option (ek_St)} (hk10 : ∀ q0 : ek_St × Nat × Int32, k10 q0 = some q → ∀ (H : Heap) (locs : List Loc) (ls : Array Slot), ek_W G kd q0.1 H → va_S (ek_A G kd) s.heap H locs → lv_has ls 3 [(0, ek_r G q0.2.1), (1, .int q0.2.2)] → W p l e ({ frames := 1, cells := 0, slots := 0, locals := 23 } : Room) s m args below meth c H locs 0 0 (MQ below (ek_Q G kd none q) args s 0 0 (ek_A G kd)) (F0 m 10 ls [])) {I : ek_St} {x0 : Nat} {i1 : Int32} (hf : fKe_dismissLeavers_10 kd k10 I x0 i1 = some q) {H : Heap} {locs : List Loc} {ls : Array Slot} (hw : ek_W G kd I H) (hS : va_S (ek_A G kd) s.heap H locs) (hl : lv_has ls 3 [(0, ek_r G x0), (1, .int i1)]) : W p l e ({ frames := 1, cells := 0, slots := 0, locals := 23 } : Room) s m args below meth c H locs 0 0 (MQ below (ek_Q G kd none q) args s 0 0 (ek_A G kd)) (F0 m 10 ls []) := by
  obtain ⟨hx, hb, hml, hown, hts, hr, hlocks, hK⟩ := id X
  have hA : ∀ q, ek_A G kd q → ek_A G kd q := fun _ h => h
  unfold fKe_dismissLeavers_10 at hf
  refine lv_iload_n hx hb dKe_dismissLeavers_10 rfl (lv_at hl 1 rfl) ?_
  refine lv_if_lt (tgt := 62) hx hb dKe_dismissLeavers_11 (by decide) (fun c1 => ?_) (fun c1 => ?_)
  · have hf := ek_t c1 hf
    exact ek_vret hx hb hr hlocks hw hS hf dKe_dismissLeavers_62
  · have hf := ek_f c1 hf
    refine ek_aload_n hx hb dKe_dismissLeavers_14 rfl (lv_at hl 0 rfl) ?_
    refine ek_getr hx hb 7 hts (in_Ke) hown hK hw rfl (by decide) (by decide) 0 (by decide) (n := 0) rfl rfl (hts _ q_193) hf dKe_dismissLeavers_15 (fun hf => ?_)
    refine ek_getrN hx hb 4 hts (in_Ro) hown hK hw rfl (by decide) (by decide) 0 (by decide) (n := 0) rfl rfl (va_Nw.use rfl (hK.2 _ n_138)) hf dKe_dismissLeavers_18 (fun hf => ?_)
    refine lv_iload_n hx hb dKe_dismissLeavers_21 rfl (lv_at hl 1 rfl) ?_
    refine ek_aald hx hb hK hw hf dKe_dismissLeavers_22 (fun hf => ?_)
    refine ek_tr hf (fun x2_2 hf => ?_)
    refine ek_astore_n (lv' := [(2, ek_r G x2_2), (1, .int i1), (0, ek_r G x0)]) hx hb dKe_dismissLeavers_23 rfl hl (by decide) (ek_s1k 1 rfl rfl rfl ek_r_cat rfl) (fun ls hl => ?_)
    refine ek_aload_n hx hb dKe_dismissLeavers_24 rfl (lv_at hl 0 rfl) ?_
    refine ek_getiN hx hb 6 hts (in_Ta) hown hK hw rfl (by decide) (by decide) 5 (by decide) rfl (va_Nw.use rfl (hK.2 _ n_85)) hf dKe_dismissLeavers_25 (fun hf => ?_)
    refine lv_iconst (v := (2 : Int32)) hx hb dKe_dismissLeavers_28 (by decide) ?_
    refine lv_icmp_ne (tgt := 56) hx hb dKe_dismissLeavers_29 (by decide) (fun c3 => ?_) (fun c3 => ?_)
    · have hf := ek_f c3 hf
      exact wKe_dismissLeavers_56 X hk10 hf hw hS (lv_sub hl [2, 1] rfl)
    · have hf := ek_t c3 hf
      refine ek_aload_n hx hb dKe_dismissLeavers_32 rfl (lv_at hl 0 rfl) ?_
      refine ek_getiN hx hb 6 hts (in_Ta) hown hK hw rfl (by decide) (by decide) 8 (by decide) rfl (va_Nw.use rfl (hK.2 _ n_92)) hf dKe_dismissLeavers_33 (fun hf => ?_)
      refine ek_aload_n hx hb dKe_dismissLeavers_36 rfl (lv_at hl 2 rfl) ?_
      refine ek_geti hx hb 7 hts (in_Ke) hown hK hw rfl (by decide) (by decide) 2 (by decide) rfl (hts _ q_195) hf dKe_dismissLeavers_37 (fun hf => ?_)
      refine lv_icmp_ne (tgt := 56) hx hb dKe_dismissLeavers_40 (by decide) (fun c4 => ?_) (fun c4 => ?_)
      · have hf := ek_f c4 hf
        exact wKe_dismissLeavers_56 X hk10 hf hw hS (lv_sub hl [2, 1] rfl)
      · have hf := ek_t c4 hf
        refine ek_aload_n hx hb dKe_dismissLeavers_43 rfl (lv_at hl 2 rfl) ?_
        refine ek_aload_n hx hb dKe_dismissLeavers_44 rfl (lv_at hl 0 rfl) ?_
        obtain ⟨hx6, hf⟩ := ek_ck_s hf
        refine ek_cv hf hS hA (fun I' hq => ek_rV (As := [ek_r G x2_2]) ⟨hx, hb, hml, hown, hts⟩ hK hw 7 rfl (by decide) (by decide) hx6 (mKe_countIfLate hq) (cwV 1 hts (lw_V q_538 q_540 p_11 q_1 q_541) rfl rfl rfl (by decide +kernel) ⟨Nat.le_of_ble_eq_true rfl, Nat.le_of_ble_eq_true rfl⟩) rfl hl.1 rfl (Nat.le_of_ble_eq_true rfl) dKe_dismissLeavers_45 ⟨Nat.zero_le _, Nat.zero_le _⟩) (fun I5 H locs hf hw hS => ?_)
        refine ek_aload_n hx hb dKe_dismissLeavers_48 rfl (lv_at hl 2 rfl) ?_
        refine ek_getr hx hb 7 hts (in_Ke) hown hK hw rfl (by decide) (by decide) 0 (by decide) (n := 0) rfl rfl (hts _ q_193) hf dKe_dismissLeavers_49 (fun hf => ?_)
        refine ek_aload_n hx hb dKe_dismissLeavers_52 rfl (lv_at hl 0 rfl) ?_
        obtain ⟨hx8, hf⟩ := ek_ck_s hf
        refine ek_cv hf hS hA (fun I' hq => ek_rV (As := [ek_r G x2_2]) ⟨hx, hb, hml, hown, hts⟩ hK hw 4 rfl (by decide) (by decide) hx8 (mRo_drop hq) (cwV 1 hts (lw_V q_291 q_292 q_293 q_2 q_294) rfl rfl rfl (by decide +kernel) ⟨Nat.le_of_ble_eq_true rfl, Nat.le_of_ble_eq_true rfl⟩) rfl hl.1 rfl (Nat.le_of_ble_eq_true rfl) dKe_dismissLeavers_53 ⟨Nat.zero_le _, Nat.zero_le _⟩) (fun I7 H locs hf hw hS => ?_)
        exact wKe_dismissLeavers_56 X hk10 hf hw hS (lv_sub hl [2, 1] rfl)
set_option maxHeartbeats 4000000 in
set_option maxRecDepth 100000 in
theorem wKe_dismissLeavers_10_lp {l : Launch} {G : ek_G} {kd : Nat → Nat} {p : Program} {e : Env} {s : State} {m : MethodId} {args : Array Value} {below : List Frame} {meth : Method} {c : Code} (X : ek_X p s m meth c args G prog_1_method_17_code 3 "ElasticKernel" none) {q : ek_St} (n : Nat) : ∀ q0 : ek_St × Nat × Int32, ek_lp (fun (k : (ek_St × Nat × Int32) → Option (ek_St)) (q : (ek_St × Nat × Int32)) => fKe_dismissLeavers_10 kd k q.1 q.2.1 q.2.2) n q0 = some q → ∀ (H : Heap) (locs : List Loc) (ls : Array Slot), ek_W G kd q0.1 H → va_S (ek_A G kd) s.heap H locs → lv_has ls 3 [(0, ek_r G q0.2.1), (1, .int q0.2.2)] → W p l e ({ frames := 1, cells := 0, slots := 0, locals := 23 } : Room) s m args below meth c H locs 0 0 (MQ below (ek_Q G kd none q) args s 0 0 (ek_A G kd)) (F0 m 10 ls []) :=
  ek_lp_ind (fun k hk q0 hf => fun H locs ls hw hS hl => wKe_dismissLeavers_10 X hk hf hw hS hl) n
set_option maxHeartbeats 4000000 in
set_option maxRecDepth 100000 in
theorem wKe_dismissLeavers_0 {l : Launch} {G : ek_G} {kd : Nat → Nat} {p : Program} {e : Env} {s : State} {m : MethodId} {args : Array Value} {below : List Frame} {meth : Method} {c : Code} (X : ek_X p s m meth c args G prog_1_method_17_code 3 "ElasticKernel" none) {q : ek_St} {I : ek_St} {x0 : Nat} (hf : fKe_dismissLeavers_0 kd I x0 = some q) {H : Heap} {locs : List Loc} {ls : Array Slot} (hw : ek_W G kd I H) (hS : va_S (ek_A G kd) s.heap H locs) (hl : lv_has ls 3 [(0, ek_r G x0)]) : W p l e ({ frames := 1, cells := 0, slots := 0, locals := 23 } : Room) s m args below meth c H locs 0 0 (MQ below (ek_Q G kd none q) args s 0 0 (ek_A G kd)) (F0 m 0 ls []) := by
  obtain ⟨hx, hb, hml, hown, hts, hr, hlocks, hK⟩ := id X
  have hA : ∀ q, ek_A G kd q → ek_A G kd q := fun _ h => h
  unfold fKe_dismissLeavers_0 at hf
  refine ek_aload_n hx hb dKe_dismissLeavers_0 rfl (lv_at hl 0 rfl) ?_
  refine ek_getr hx hb 7 hts (in_Ke) hown hK hw rfl (by decide) (by decide) 0 (by decide) (n := 0) rfl rfl (hts _ q_193) hf dKe_dismissLeavers_1 (fun hf => ?_)
  refine ek_getiN hx hb 4 hts (in_Ro) hown hK hw rfl (by decide) (by decide) 1 (by decide) rfl (va_Nw.use rfl (hK.2 _ n_141)) hf dKe_dismissLeavers_4 (fun hf => ?_)
  refine lv_iconst (v := (1 : Int32)) hx hb dKe_dismissLeavers_7 (by decide) ?_
  refine lv_isub hx hb dKe_dismissLeavers_8 ?_
  refine ek_ti hf (fun i1_1 hf => ?_)
  refine ek_istore_n (lv' := [(1, .int i1_1), (0, ek_r G x0)]) hx hb dKe_dismissLeavers_9 rfl hl (by decide) (ek_s1k 0 rfl rfl ek_r_cat rfl rfl) (fun ls hl => ?_)
  exact wKe_dismissLeavers_10_lp X ek_N (I, x0, i1_1) hf _ _ _ hw hS (lv_sub hl [1, 0] rfl)
set_option maxHeartbeats 4000000 in
set_option maxRecDepth 100000 in
theorem mKe_dismissLeavers {l : Launch} {G : ek_G} {kd : Nat → Nat} {I : ek_St} {x0 : Nat} {q : ek_St} (hf : fKe_dismissLeavers kd I x0 = some q) : ek_M l G kd y_Ke_dismissLeavers (.code y_Ke_dismissLeavers prog_1_method_17_code 3 none :: lw_g) ({ frames := 1, cells := 0, slots := 0, locals := 23 } : Room) [ek_r G x0] I none q :=
  ek_body [(0, ek_r G x0)] (by decide) (by simp [lg_sl, ek_r_cat, ek_c_i, ek_c_l]) (by simp [lv_args, ek_r_cat, ek_c_i, ek_c_l]) (fun p e s m below meth c ls X hw hS hl => wKe_dismissLeavers_0 X hf hw hS hl)
/-! ElasticKernel.beginTick()V -/
def fKe_beginTick_100 (kd : Nat → Nat) (k23 : (ek_St × Nat × Int32 × Int32) → Option (ek_St)) (I : ek_St) (x0 : Nat) (i1 : Int32) (i2 : Int32) : Option (ek_St) :=
  ek_let (i2 + (1 : Int32)) (fun i2_1 => k23 (I, x0, i1, i2_1))
def fKe_beginTick_86 (kd : Nat → Nat) (k23 : (ek_St × Nat × Int32 × Int32) → Option (ek_St)) (I : ek_St) (x0 : Nat) (i1 : Int32) (i2 : Int32) (x3 : Nat) : Option (ek_St) :=
  ek_ck (kd x0 = 7) (ek_bv (fKe_countIfLate kd I x0 x3) (fun I1 => ek_ck (kd x0 = 7) (ek_ck (kd x3 = 6) (ek_bv (fTa_release kd I1 x3 (I1 x0 2) i1) (fun I3 => fKe_beginTick_100 kd k23 I3 x0 i1 i2)))))
def fKe_beginTick_60 (kd : Nat → Nat) (k23 : (ek_St × Nat × Int32 × Int32) → Option (ek_St)) (I : ek_St) (x0 : Nat) (i1 : Int32) (i2 : Int32) (x3 : Nat) (t0 : Int32) : Option (ek_St) :=
  if t0 = ((0 : Int32)) then (ek_ck (kd x3 = 6) (if (I x3 5) = ((1 : Int32)) then (ek_ck (kd x3 = 6) (ek_ck (kd x0 = 7) (if (I x3 8) = (I x0 2) then (fKe_beginTick_86 kd k23 I x0 i1 i2 x3) else (fKe_beginTick_100 kd k23 I x0 i1 i2)))) else (fKe_beginTick_100 kd k23 I x0 i1 i2))) else (fKe_beginTick_86 kd k23 I x0 i1 i2 x3)
def fKe_beginTick_59 (kd : Nat → Nat) (k23 : (ek_St × Nat × Int32 × Int32) → Option (ek_St)) (I : ek_St) (x0 : Nat) (i1 : Int32) (i2 : Int32) (x3 : Nat) : Option (ek_St) :=
  fKe_beginTick_60 kd k23 I x0 i1 i2 x3 ((0 : Int32))
def fKe_beginTick_23 (kd : Nat → Nat) (k23 : (ek_St × Nat × Int32 × Int32) → Option (ek_St)) (I : ek_St) (x0 : Nat) (i1 : Int32) (i2 : Int32) : Option (ek_St) :=
  ek_ck (kd x0 = 7) (ek_ck (kd (x0 + 1) = 4) (if (I (x0 + 1) 1) ≤ i2 then (some I) else (ek_ck (kd x0 = 7) (ek_ck (kd (x0 + 1) = 4) (ek_ck (kd ((x0 + 1) + 1) = 60) (ek_ck (ek_in i2 12) (ek_let ((I ((x0 + 1) + 1) i2.toNatClampNeg).toNatClampNeg) (fun x3_2 => ek_ck (kd x3_2 = 6) (if (I x3_2 5) = ((0 : Int32)) then (if i1 = ((0 : Int32)) then (fKe_beginTick_59 kd k23 I x0 i1 i2 x3_2) else (fKe_beginTick_60 kd k23 I x0 i1 i2 x3_2 ((1 : Int32)))) else (fKe_beginTick_59 kd k23 I x0 i1 i2 x3_2))))))))))
def fKe_beginTick_20 (kd : Nat → Nat) (I : ek_St) (x0 : Nat) (t0 : Int32) : Option (ek_St) :=
  ek_lp (fun (k : (ek_St × Nat × Int32 × Int32) → Option (ek_St)) (q : (ek_St × Nat × Int32 × Int32)) => fKe_beginTick_23 kd k q.1 q.2.1 q.2.2.1 q.2.2.2) ek_N (I, x0, t0, (0 : Int32))
def fKe_beginTick_0 (kd : Nat → Nat) (I : ek_St) (x0 : Nat) : Option (ek_St) :=
  ek_ck (kd x0 = 7) (ek_bv (fKe_dismissLeavers kd I x0) (fun I1 => ek_ck (kd x0 = 7) (ek_ck (kd x0 = 7) (if (I1 x0 2) < (I1 x0 6) then (fKe_beginTick_20 kd I1 x0 ((0 : Int32))) else (fKe_beginTick_20 kd I1 x0 ((1 : Int32)))))))
def fKe_beginTick (kd : Nat → Nat) (I : ek_St) (x0 : Nat) : Option (ek_St) := fKe_beginTick_0 kd I x0
theorem dKe_beginTick_0 : decode prog_1_method_16_code 0 = .ok (.aload_n 0, 1) := by decide +kernel
theorem dKe_beginTick_1 : decode prog_1_method_16_code 1 = .ok (.invokevirtual 200, 3) := by decide +kernel
theorem dKe_beginTick_4 : decode prog_1_method_16_code 4 = .ok (.aload_n 0, 1) := by decide +kernel
theorem dKe_beginTick_5 : decode prog_1_method_16_code 5 = .ok (.getfield 59, 3) := by decide +kernel
theorem dKe_beginTick_8 : decode prog_1_method_16_code 8 = .ok (.aload_n 0, 1) := by decide +kernel
theorem dKe_beginTick_9 : decode prog_1_method_16_code 9 = .ok (.getfield 56, 3) := by decide +kernel
theorem dKe_beginTick_12 : decode prog_1_method_16_code 12 = .ok (.if_icmp .lt 7, 3) := by decide +kernel
theorem dKe_beginTick_15 : decode prog_1_method_16_code 15 = .ok (.iconst 1, 1) := by decide +kernel
theorem dKe_beginTick_16 : decode prog_1_method_16_code 16 = .ok (.goto 4, 3) := by decide +kernel
theorem dKe_beginTick_19 : decode prog_1_method_16_code 19 = .ok (.iconst 0, 1) := by decide +kernel
theorem dKe_beginTick_20 : decode prog_1_method_16_code 20 = .ok (.istore_n 1, 1) := by decide +kernel
theorem dKe_beginTick_21 : decode prog_1_method_16_code 21 = .ok (.iconst 0, 1) := by decide +kernel
theorem dKe_beginTick_22 : decode prog_1_method_16_code 22 = .ok (.istore_n 2, 1) := by decide +kernel
theorem dKe_beginTick_23 : decode prog_1_method_16_code 23 = .ok (.iload_n 2, 1) := by decide +kernel
theorem dKe_beginTick_24 : decode prog_1_method_16_code 24 = .ok (.aload_n 0, 1) := by decide +kernel
theorem dKe_beginTick_25 : decode prog_1_method_16_code 25 = .ok (.getfield 10, 3) := by decide +kernel
theorem dKe_beginTick_28 : decode prog_1_method_16_code 28 = .ok (.getfield 151, 3) := by decide +kernel
theorem dKe_beginTick_31 : decode prog_1_method_16_code 31 = .ok (.if_icmp .ge 75, 3) := by decide +kernel
theorem dKe_beginTick_34 : decode prog_1_method_16_code 34 = .ok (.aload_n 0, 1) := by decide +kernel
theorem dKe_beginTick_35 : decode prog_1_method_16_code 35 = .ok (.getfield 10, 3) := by decide +kernel
theorem dKe_beginTick_38 : decode prog_1_method_16_code 38 = .ok (.getfield 187, 3) := by decide +kernel
theorem dKe_beginTick_41 : decode prog_1_method_16_code 41 = .ok (.iload_n 2, 1) := by decide +kernel
theorem dKe_beginTick_42 : decode prog_1_method_16_code 42 = .ok (.aaload, 1) := by decide +kernel
theorem dKe_beginTick_43 : decode prog_1_method_16_code 43 = .ok (.astore_n 3, 1) := by decide +kernel
theorem dKe_beginTick_44 : decode prog_1_method_16_code 44 = .ok (.aload_n 3, 1) := by decide +kernel
theorem dKe_beginTick_45 : decode prog_1_method_16_code 45 = .ok (.getfield 65, 3) := by decide +kernel
theorem dKe_beginTick_48 : decode prog_1_method_16_code 48 = .ok (.ifCond .ne 11, 3) := by decide +kernel
theorem dKe_beginTick_51 : decode prog_1_method_16_code 51 = .ok (.iload_n 1, 1) := by decide +kernel
theorem dKe_beginTick_52 : decode prog_1_method_16_code 52 = .ok (.ifCond .eq 7, 3) := by decide +kernel
theorem dKe_beginTick_55 : decode prog_1_method_16_code 55 = .ok (.iconst 1, 1) := by decide +kernel
theorem dKe_beginTick_56 : decode prog_1_method_16_code 56 = .ok (.goto 4, 3) := by decide +kernel
theorem dKe_beginTick_59 : decode prog_1_method_16_code 59 = .ok (.iconst 0, 1) := by decide +kernel
theorem dKe_beginTick_60 : decode prog_1_method_16_code 60 = .ok (.istore 4, 2) := by decide +kernel
theorem dKe_beginTick_62 : decode prog_1_method_16_code 62 = .ok (.iload 4, 2) := by decide +kernel
theorem dKe_beginTick_64 : decode prog_1_method_16_code 64 = .ok (.ifCond .ne 22, 3) := by decide +kernel
theorem dKe_beginTick_67 : decode prog_1_method_16_code 67 = .ok (.aload_n 3, 1) := by decide +kernel
theorem dKe_beginTick_68 : decode prog_1_method_16_code 68 = .ok (.getfield 65, 3) := by decide +kernel
theorem dKe_beginTick_71 : decode prog_1_method_16_code 71 = .ok (.iconst 1, 1) := by decide +kernel
theorem dKe_beginTick_72 : decode prog_1_method_16_code 72 = .ok (.if_icmp .ne 28, 3) := by decide +kernel
theorem dKe_beginTick_75 : decode prog_1_method_16_code 75 = .ok (.aload_n 3, 1) := by decide +kernel
theorem dKe_beginTick_76 : decode prog_1_method_16_code 76 = .ok (.getfield 114, 3) := by decide +kernel
theorem dKe_beginTick_79 : decode prog_1_method_16_code 79 = .ok (.aload_n 0, 1) := by decide +kernel
theorem dKe_beginTick_80 : decode prog_1_method_16_code 80 = .ok (.getfield 59, 3) := by decide +kernel
theorem dKe_beginTick_83 : decode prog_1_method_16_code 83 = .ok (.if_icmp .ne 17, 3) := by decide +kernel
theorem dKe_beginTick_86 : decode prog_1_method_16_code 86 = .ok (.aload_n 0, 1) := by decide +kernel
theorem dKe_beginTick_87 : decode prog_1_method_16_code 87 = .ok (.aload_n 3, 1) := by decide +kernel
theorem dKe_beginTick_88 : decode prog_1_method_16_code 88 = .ok (.invokevirtual 203, 3) := by decide +kernel
theorem dKe_beginTick_91 : decode prog_1_method_16_code 91 = .ok (.aload_n 3, 1) := by decide +kernel
theorem dKe_beginTick_92 : decode prog_1_method_16_code 92 = .ok (.aload_n 0, 1) := by decide +kernel
theorem dKe_beginTick_93 : decode prog_1_method_16_code 93 = .ok (.getfield 59, 3) := by decide +kernel
theorem dKe_beginTick_96 : decode prog_1_method_16_code 96 = .ok (.iload_n 1, 1) := by decide +kernel
theorem dKe_beginTick_97 : decode prog_1_method_16_code 97 = .ok (.invokevirtual 206, 3) := by decide +kernel
theorem dKe_beginTick_100 : decode prog_1_method_16_code 100 = .ok (.iinc 2 1, 3) := by decide +kernel
theorem dKe_beginTick_103 : decode prog_1_method_16_code 103 = .ok (.goto (-80), 3) := by decide +kernel
theorem dKe_beginTick_106 : decode prog_1_method_16_code 106 = .ok (.return_, 1) := by decide +kernel
set_option maxHeartbeats 4000000 in
set_option maxRecDepth 100000 in
theorem wKe_beginTick_100 {l : Launch} {G : ek_G} {kd : Nat → Nat} {p : Program} {e : Env} {s : State} {m : MethodId} {args : Array Value} {below : List Frame} {meth : Method} {c : Code} (X : ek_X p s m meth c args G prog_1_method_16_code 5 "ElasticKernel" none) {q : ek_St} {k23 : (ek_St × Nat × Int32 × Int32) → Option (ek_St)} (hk23 : ∀ q0 : ek_St × Nat × Int32 × Int32, k23 q0 = some q → ∀ (H : Heap) (locs : List Loc) (ls : Array Slot), ek_W G kd q0.1 H → va_S (ek_A G kd) s.heap H locs → lv_has ls 5 [(0, ek_r G q0.2.1), (1, .int q0.2.2.1), (2, .int q0.2.2.2)] → W p l e ({ frames := 2, cells := 0, slots := 0, locals := 45 } : Room) s m args below meth c H locs 0 0 (MQ below (ek_Q G kd none q) args s 0 0 (ek_A G kd)) (F0 m 23 ls [])) {I : ek_St} {x0 : Nat} {i1 : Int32} {i2 : Int32} (hf : fKe_beginTick_100 kd k23 I x0 i1 i2 = some q) {H : Heap} {locs : List Loc} {ls : Array Slot} (hw : ek_W G kd I H) (hS : va_S (ek_A G kd) s.heap H locs) (hl : lv_has ls 5 [(0, ek_r G x0), (1, .int i1), (2, .int i2)]) : W p l e ({ frames := 2, cells := 0, slots := 0, locals := 45 } : Room) s m args below meth c H locs 0 0 (MQ below (ek_Q G kd none q) args s 0 0 (ek_A G kd)) (F0 m 100 ls []) := by
  obtain ⟨hx, hb, hml, hown, hts, hr, hlocks, hK⟩ := id X
  have hA : ∀ q, ek_A G kd q → ek_A G kd q := fun _ h => h
  unfold fKe_beginTick_100 at hf
  refine ek_iinc hx hb 2 (fun i2_1 => [(2, .int i2_1), (1, .int i1), (0, ek_r G x0)]) dKe_beginTick_100 hl rfl (v := i2 + (1 : Int32)) rfl hf (by decide) (fun i2_1 => ek_s1k 1 rfl rfl rfl rfl rfl) (fun i2_1 ls hf hl => ?_)
  refine lv_goto (tgt := 23) hx hb dKe_beginTick_103 (by decide) ?_
  exact hk23 (I, x0, i1, i2_1) hf _ _ _ hw hS (lv_sub hl [2, 1, 0] rfl)
set_option maxHeartbeats 4000000 in
set_option maxRecDepth 100000 in
theorem wKe_beginTick_86 {l : Launch} {G : ek_G} {kd : Nat → Nat} {p : Program} {e : Env} {s : State} {m : MethodId} {args : Array Value} {below : List Frame} {meth : Method} {c : Code} (X : ek_X p s m meth c args G prog_1_method_16_code 5 "ElasticKernel" none) {q : ek_St} {k23 : (ek_St × Nat × Int32 × Int32) → Option (ek_St)} (hk23 : ∀ q0 : ek_St × Nat × Int32 × Int32, k23 q0 = some q → ∀ (H : Heap) (locs : List Loc) (ls : Array Slot), ek_W G kd q0.1 H → va_S (ek_A G kd) s.heap H locs → lv_has ls 5 [(0, ek_r G q0.2.1), (1, .int q0.2.2.1), (2, .int q0.2.2.2)] → W p l e ({ frames := 2, cells := 0, slots := 0, locals := 45 } : Room) s m args below meth c H locs 0 0 (MQ below (ek_Q G kd none q) args s 0 0 (ek_A G kd)) (F0 m 23 ls [])) {I : ek_St} {x0 : Nat} {i1 : Int32} {i2 : Int32} {x3 : Nat} (hf : fKe_beginTick_86 kd k23 I x0 i1 i2 x3 = some q) {H : Heap} {locs : List Loc} {ls : Array Slot} (hw : ek_W G kd I H) (hS : va_S (ek_A G kd) s.heap H locs) (hl : lv_has ls 5 [(0, ek_r G x0), (1, .int i1), (2, .int i2), (3, ek_r G x3)]) : W p l e ({ frames := 2, cells := 0, slots := 0, locals := 45 } : Room) s m args below meth c H locs 0 0 (MQ below (ek_Q G kd none q) args s 0 0 (ek_A G kd)) (F0 m 86 ls []) := by
  obtain ⟨hx, hb, hml, hown, hts, hr, hlocks, hK⟩ := id X
  have hA : ∀ q, ek_A G kd q → ek_A G kd q := fun _ h => h
  unfold fKe_beginTick_86 at hf
  refine ek_aload_n hx hb dKe_beginTick_86 rfl (lv_at hl 0 rfl) ?_
  refine ek_aload_n hx hb dKe_beginTick_87 rfl (lv_at hl 3 rfl) ?_
  obtain ⟨hx2, hf⟩ := ek_ck_s hf
  refine ek_cv hf hS hA (fun I' hq => ek_rV (As := [ek_r G x3]) ⟨hx, hb, hml, hown, hts⟩ hK hw 7 rfl (by decide) (by decide) hx2 (mKe_countIfLate hq) (cwV 1 hts (lw_V q_538 q_540 p_11 q_1 q_541) rfl rfl rfl (by decide +kernel) ⟨Nat.le_of_ble_eq_true rfl, Nat.le_of_ble_eq_true rfl⟩) rfl hl.1 rfl (Nat.le_of_ble_eq_true rfl) dKe_beginTick_88 ⟨Nat.zero_le _, Nat.zero_le _⟩) (fun I1 H locs hf hw hS => ?_)
  refine ek_aload_n hx hb dKe_beginTick_91 rfl (lv_at hl 3 rfl) ?_
  refine ek_aload_n hx hb dKe_beginTick_92 rfl (lv_at hl 0 rfl) ?_
  refine ek_geti hx hb 7 hts (in_Ke) hown hK hw rfl (by decide) (by decide) 2 (by decide) rfl (hts _ q_195) hf dKe_beginTick_93 (fun hf => ?_)
  refine lv_iload_n hx hb dKe_beginTick_96 rfl (lv_at hl 1 rfl) ?_
  obtain ⟨hx4, hf⟩ := ek_ck_s hf
  refine ek_cv hf hS hA (fun I' hq => ek_rV (As := [.int (I1 x0 2), .int i1]) ⟨hx, hb, hml, hown, hts⟩ hK hw 6 rfl (by decide) (by decide) hx4 (mTa_release hq) (cwV 2 hts (lw_V q_542 q_543 q_544 q_3 q_545) rfl rfl rfl (by decide +kernel) ⟨Nat.le_of_ble_eq_true rfl, Nat.le_of_ble_eq_true rfl⟩) rfl hl.1 rfl (Nat.le_of_ble_eq_true rfl) dKe_beginTick_97 ⟨Nat.zero_le _, Nat.zero_le _⟩) (fun I3 H locs hf hw hS => ?_)
  exact wKe_beginTick_100 X hk23 hf hw hS (lv_sub hl [0, 1, 2] rfl)
set_option maxHeartbeats 4000000 in
set_option maxRecDepth 100000 in
theorem wKe_beginTick_60 {l : Launch} {G : ek_G} {kd : Nat → Nat} {p : Program} {e : Env} {s : State} {m : MethodId} {args : Array Value} {below : List Frame} {meth : Method} {c : Code} (X : ek_X p s m meth c args G prog_1_method_16_code 5 "ElasticKernel" none) {q : ek_St} {k23 : (ek_St × Nat × Int32 × Int32) → Option (ek_St)} (hk23 : ∀ q0 : ek_St × Nat × Int32 × Int32, k23 q0 = some q → ∀ (H : Heap) (locs : List Loc) (ls : Array Slot), ek_W G kd q0.1 H → va_S (ek_A G kd) s.heap H locs → lv_has ls 5 [(0, ek_r G q0.2.1), (1, .int q0.2.2.1), (2, .int q0.2.2.2)] → W p l e ({ frames := 2, cells := 0, slots := 0, locals := 45 } : Room) s m args below meth c H locs 0 0 (MQ below (ek_Q G kd none q) args s 0 0 (ek_A G kd)) (F0 m 23 ls [])) {I : ek_St} {x0 : Nat} {i1 : Int32} {i2 : Int32} {x3 : Nat} {t0 : Int32} (hf : fKe_beginTick_60 kd k23 I x0 i1 i2 x3 t0 = some q) {H : Heap} {locs : List Loc} {ls : Array Slot} (hw : ek_W G kd I H) (hS : va_S (ek_A G kd) s.heap H locs) (hl : lv_has ls 5 [(0, ek_r G x0), (1, .int i1), (2, .int i2), (3, ek_r G x3)]) : W p l e ({ frames := 2, cells := 0, slots := 0, locals := 45 } : Room) s m args below meth c H locs 0 0 (MQ below (ek_Q G kd none q) args s 0 0 (ek_A G kd)) (F0 m 60 ls [.int t0]) := by
  obtain ⟨hx, hb, hml, hown, hts, hr, hlocks, hK⟩ := id X
  have hA : ∀ q, ek_A G kd q → ek_A G kd q := fun _ h => h
  unfold fKe_beginTick_60 at hf
  refine ek_istore (lv' := [(4, .int t0), (3, ek_r G x3), (0, ek_r G x0), (1, .int i1), (2, .int i2)]) hx hb dKe_beginTick_60 hl (by decide) (ek_s1k 3 rfl rfl ek_r_cat rfl rfl) (fun ls hl => ?_)
  refine lv_iload hx hb dKe_beginTick_62 (lv_at hl 0 rfl) ?_
  refine lv_if_ne (tgt := 86) hx hb dKe_beginTick_64 (by decide) (fun c1 => ?_) (fun c1 => ?_)
  · have hf := ek_f c1 hf
    exact wKe_beginTick_86 X hk23 hf hw hS (lv_sub hl [2, 3, 4, 1] rfl)
  · have hf := ek_t c1 hf
    refine ek_aload_n hx hb dKe_beginTick_67 rfl (lv_at hl 1 rfl) ?_
    refine ek_getiN hx hb 6 hts (in_Ta) hown hK hw rfl (by decide) (by decide) 5 (by decide) rfl (va_Nw.use rfl (hK.2 _ n_85)) hf dKe_beginTick_68 (fun hf => ?_)
    refine lv_iconst (v := (1 : Int32)) hx hb dKe_beginTick_71 (by decide) ?_
    refine lv_icmp_ne (tgt := 100) hx hb dKe_beginTick_72 (by decide) (fun c2 => ?_) (fun c2 => ?_)
    · have hf := ek_f c2 hf
      exact wKe_beginTick_100 X hk23 hf hw hS (lv_sub hl [2, 3, 4] rfl)
    · have hf := ek_t c2 hf
      refine ek_aload_n hx hb dKe_beginTick_75 rfl (lv_at hl 1 rfl) ?_
      refine ek_getiN hx hb 6 hts (in_Ta) hown hK hw rfl (by decide) (by decide) 8 (by decide) rfl (va_Nw.use rfl (hK.2 _ n_92)) hf dKe_beginTick_76 (fun hf => ?_)
      refine ek_aload_n hx hb dKe_beginTick_79 rfl (lv_at hl 2 rfl) ?_
      refine ek_geti hx hb 7 hts (in_Ke) hown hK hw rfl (by decide) (by decide) 2 (by decide) rfl (hts _ q_195) hf dKe_beginTick_80 (fun hf => ?_)
      refine lv_icmp_ne (tgt := 100) hx hb dKe_beginTick_83 (by decide) (fun c3 => ?_) (fun c3 => ?_)
      · have hf := ek_f c3 hf
        exact wKe_beginTick_100 X hk23 hf hw hS (lv_sub hl [2, 3, 4] rfl)
      · have hf := ek_t c3 hf
        exact wKe_beginTick_86 X hk23 hf hw hS (lv_sub hl [2, 3, 4, 1] rfl)
set_option maxHeartbeats 4000000 in
set_option maxRecDepth 100000 in
theorem wKe_beginTick_59 {l : Launch} {G : ek_G} {kd : Nat → Nat} {p : Program} {e : Env} {s : State} {m : MethodId} {args : Array Value} {below : List Frame} {meth : Method} {c : Code} (X : ek_X p s m meth c args G prog_1_method_16_code 5 "ElasticKernel" none) {q : ek_St} {k23 : (ek_St × Nat × Int32 × Int32) → Option (ek_St)} (hk23 : ∀ q0 : ek_St × Nat × Int32 × Int32, k23 q0 = some q → ∀ (H : Heap) (locs : List Loc) (ls : Array Slot), ek_W G kd q0.1 H → va_S (ek_A G kd) s.heap H locs → lv_has ls 5 [(0, ek_r G q0.2.1), (1, .int q0.2.2.1), (2, .int q0.2.2.2)] → W p l e ({ frames := 2, cells := 0, slots := 0, locals := 45 } : Room) s m args below meth c H locs 0 0 (MQ below (ek_Q G kd none q) args s 0 0 (ek_A G kd)) (F0 m 23 ls [])) {I : ek_St} {x0 : Nat} {i1 : Int32} {i2 : Int32} {x3 : Nat} (hf : fKe_beginTick_59 kd k23 I x0 i1 i2 x3 = some q) {H : Heap} {locs : List Loc} {ls : Array Slot} (hw : ek_W G kd I H) (hS : va_S (ek_A G kd) s.heap H locs) (hl : lv_has ls 5 [(0, ek_r G x0), (1, .int i1), (2, .int i2), (3, ek_r G x3)]) : W p l e ({ frames := 2, cells := 0, slots := 0, locals := 45 } : Room) s m args below meth c H locs 0 0 (MQ below (ek_Q G kd none q) args s 0 0 (ek_A G kd)) (F0 m 59 ls []) := by
  obtain ⟨hx, hb, hml, hown, hts, hr, hlocks, hK⟩ := id X
  have hA : ∀ q, ek_A G kd q → ek_A G kd q := fun _ h => h
  unfold fKe_beginTick_59 at hf
  refine lv_iconst (v := (0 : Int32)) hx hb dKe_beginTick_59 (by decide) ?_
  exact wKe_beginTick_60 X hk23 hf hw hS (lv_sub hl [0, 1, 2, 3] rfl)
set_option maxHeartbeats 4000000 in
set_option maxRecDepth 100000 in
theorem wKe_beginTick_23 {l : Launch} {G : ek_G} {kd : Nat → Nat} {p : Program} {e : Env} {s : State} {m : MethodId} {args : Array Value} {below : List Frame} {meth : Method} {c : Code} (X : ek_X p s m meth c args G prog_1_method_16_code 5 "ElasticKernel" none) {q : ek_St} {k23 : (ek_St × Nat × Int32 × Int32) → Option (ek_St)} (hk23 : ∀ q0 : ek_St × Nat × Int32 × Int32, k23 q0 = some q → ∀ (H : Heap) (locs : List Loc) (ls : Array Slot), ek_W G kd q0.1 H → va_S (ek_A G kd) s.heap H locs → lv_has ls 5 [(0, ek_r G q0.2.1), (1, .int q0.2.2.1), (2, .int q0.2.2.2)] → W p l e ({ frames := 2, cells := 0, slots := 0, locals := 45 } : Room) s m args below meth c H locs 0 0 (MQ below (ek_Q G kd none q) args s 0 0 (ek_A G kd)) (F0 m 23 ls [])) {I : ek_St} {x0 : Nat} {i1 : Int32} {i2 : Int32} (hf : fKe_beginTick_23 kd k23 I x0 i1 i2 = some q) {H : Heap} {locs : List Loc} {ls : Array Slot} (hw : ek_W G kd I H) (hS : va_S (ek_A G kd) s.heap H locs) (hl : lv_has ls 5 [(0, ek_r G x0), (1, .int i1), (2, .int i2)]) : W p l e ({ frames := 2, cells := 0, slots := 0, locals := 45 } : Room) s m args below meth c H locs 0 0 (MQ below (ek_Q G kd none q) args s 0 0 (ek_A G kd)) (F0 m 23 ls []) := by
  obtain ⟨hx, hb, hml, hown, hts, hr, hlocks, hK⟩ := id X
  have hA : ∀ q, ek_A G kd q → ek_A G kd q := fun _ h => h
  unfold fKe_beginTick_23 at hf
  refine lv_iload_n hx hb dKe_beginTick_23 rfl (lv_at hl 2 rfl) ?_
  refine ek_aload_n hx hb dKe_beginTick_24 rfl (lv_at hl 0 rfl) ?_
  refine ek_getr hx hb 7 hts (in_Ke) hown hK hw rfl (by decide) (by decide) 0 (by decide) (n := 0) rfl rfl (hts _ q_193) hf dKe_beginTick_25 (fun hf => ?_)
  refine ek_getiN hx hb 4 hts (in_Ro) hown hK hw rfl (by decide) (by decide) 1 (by decide) rfl (va_Nw.use rfl (hK.2 _ n_141)) hf dKe_beginTick_28 (fun hf => ?_)
  refine lv_icmp_ge (tgt := 106) hx hb dKe_beginTick_31 (by decide) (fun c1 => ?_) (fun c1 => ?_)
  · have hf := ek_t c1 hf
    exact ek_vret hx hb hr hlocks hw hS hf dKe_beginTick_106
  · have hf := ek_f c1 hf
    refine ek_aload_n hx hb dKe_beginTick_34 rfl (lv_at hl 0 rfl) ?_
    refine ek_getr hx hb 7 hts (in_Ke) hown hK hw rfl (by decide) (by decide) 0 (by decide) (n := 0) rfl rfl (hts _ q_193) hf dKe_beginTick_35 (fun hf => ?_)
    refine ek_getrN hx hb 4 hts (in_Ro) hown hK hw rfl (by decide) (by decide) 0 (by decide) (n := 0) rfl rfl (va_Nw.use rfl (hK.2 _ n_138)) hf dKe_beginTick_38 (fun hf => ?_)
    refine lv_iload_n hx hb dKe_beginTick_41 rfl (lv_at hl 2 rfl) ?_
    refine ek_aald hx hb hK hw hf dKe_beginTick_42 (fun hf => ?_)
    refine ek_tr hf (fun x3_2 hf => ?_)
    refine ek_astore_n (lv' := [(3, ek_r G x3_2), (2, .int i2), (0, ek_r G x0), (1, .int i1)]) hx hb dKe_beginTick_43 rfl hl (by decide) (ek_s1k 2 rfl rfl rfl ek_r_cat rfl) (fun ls hl => ?_)
    refine ek_aload_n hx hb dKe_beginTick_44 rfl (lv_at hl 0 rfl) ?_
    refine ek_getiN hx hb 6 hts (in_Ta) hown hK hw rfl (by decide) (by decide) 5 (by decide) rfl (va_Nw.use rfl (hK.2 _ n_85)) hf dKe_beginTick_45 (fun hf => ?_)
    refine lv_if_ne (tgt := 59) hx hb dKe_beginTick_48 (by decide) (fun c3 => ?_) (fun c3 => ?_)
    · have hf := ek_f c3 hf
      exact wKe_beginTick_59 X hk23 hf hw hS (lv_sub hl [2, 3, 1, 0] rfl)
    · have hf := ek_t c3 hf
      refine lv_iload_n hx hb dKe_beginTick_51 rfl (lv_at hl 3 rfl) ?_
      refine lv_if_eq (tgt := 59) hx hb dKe_beginTick_52 (by decide) (fun c4 => ?_) (fun c4 => ?_)
      · have hf := ek_t c4 hf
        exact wKe_beginTick_59 X hk23 hf hw hS (lv_sub hl [2, 3, 1, 0] rfl)
      · have hf := ek_f c4 hf
        refine lv_iconst (v := (1 : Int32)) hx hb dKe_beginTick_55 (by decide) ?_
        refine lv_goto (tgt := 60) hx hb dKe_beginTick_56 (by decide) ?_
        exact wKe_beginTick_60 X hk23 hf hw hS (lv_sub hl [2, 3, 1, 0] rfl)
set_option maxHeartbeats 4000000 in
set_option maxRecDepth 100000 in
theorem wKe_beginTick_23_lp {l : Launch} {G : ek_G} {kd : Nat → Nat} {p : Program} {e : Env} {s : State} {m : MethodId} {args : Array Value} {below : List Frame} {meth : Method} {c : Code} (X : ek_X p s m meth c args G prog_1_method_16_code 5 "ElasticKernel" none) {q : ek_St} (n : Nat) : ∀ q0 : ek_St × Nat × Int32 × Int32, ek_lp (fun (k : (ek_St × Nat × Int32 × Int32) → Option (ek_St)) (q : (ek_St × Nat × Int32 × Int32)) => fKe_beginTick_23 kd k q.1 q.2.1 q.2.2.1 q.2.2.2) n q0 = some q → ∀ (H : Heap) (locs : List Loc) (ls : Array Slot), ek_W G kd q0.1 H → va_S (ek_A G kd) s.heap H locs → lv_has ls 5 [(0, ek_r G q0.2.1), (1, .int q0.2.2.1), (2, .int q0.2.2.2)] → W p l e ({ frames := 2, cells := 0, slots := 0, locals := 45 } : Room) s m args below meth c H locs 0 0 (MQ below (ek_Q G kd none q) args s 0 0 (ek_A G kd)) (F0 m 23 ls []) :=
  ek_lp_ind (fun k hk q0 hf => fun H locs ls hw hS hl => wKe_beginTick_23 X hk hf hw hS hl) n
set_option maxHeartbeats 4000000 in
set_option maxRecDepth 100000 in
theorem wKe_beginTick_20 {l : Launch} {G : ek_G} {kd : Nat → Nat} {p : Program} {e : Env} {s : State} {m : MethodId} {args : Array Value} {below : List Frame} {meth : Method} {c : Code} (X : ek_X p s m meth c args G prog_1_method_16_code 5 "ElasticKernel" none) {q : ek_St} {I : ek_St} {x0 : Nat} {t0 : Int32} (hf : fKe_beginTick_20 kd I x0 t0 = some q) {H : Heap} {locs : List Loc} {ls : Array Slot} (hw : ek_W G kd I H) (hS : va_S (ek_A G kd) s.heap H locs) (hl : lv_has ls 5 [(0, ek_r G x0)]) : W p l e ({ frames := 2, cells := 0, slots := 0, locals := 45 } : Room) s m args below meth c H locs 0 0 (MQ below (ek_Q G kd none q) args s 0 0 (ek_A G kd)) (F0 m 20 ls [.int t0]) := by
  obtain ⟨hx, hb, hml, hown, hts, hr, hlocks, hK⟩ := id X
  have hA : ∀ q, ek_A G kd q → ek_A G kd q := fun _ h => h
  unfold fKe_beginTick_20 at hf
  refine ek_istore_n (lv' := [(1, .int t0), (0, ek_r G x0)]) hx hb dKe_beginTick_20 rfl hl (by decide) (ek_s1k 0 rfl rfl ek_r_cat rfl rfl) (fun ls hl => ?_)
  refine lv_iconst (v := (0 : Int32)) hx hb dKe_beginTick_21 (by decide) ?_
  refine ek_istore_n (lv' := [(2, .int ((0 : Int32))), (1, .int t0), (0, ek_r G x0)]) hx hb dKe_beginTick_22 rfl hl (by decide) (ek_s1k 0 rfl rfl rfl rfl rfl) (fun ls hl => ?_)
  exact wKe_beginTick_23_lp X ek_N (I, x0, t0, (0 : Int32)) hf _ _ _ hw hS (lv_sub hl [2, 1, 0] rfl)
set_option maxHeartbeats 4000000 in
set_option maxRecDepth 100000 in
theorem wKe_beginTick_0 {l : Launch} {G : ek_G} {kd : Nat → Nat} {p : Program} {e : Env} {s : State} {m : MethodId} {args : Array Value} {below : List Frame} {meth : Method} {c : Code} (X : ek_X p s m meth c args G prog_1_method_16_code 5 "ElasticKernel" none) {q : ek_St} {I : ek_St} {x0 : Nat} (hf : fKe_beginTick_0 kd I x0 = some q) {H : Heap} {locs : List Loc} {ls : Array Slot} (hw : ek_W G kd I H) (hS : va_S (ek_A G kd) s.heap H locs) (hl : lv_has ls 5 [(0, ek_r G x0)]) : W p l e ({ frames := 2, cells := 0, slots := 0, locals := 45 } : Room) s m args below meth c H locs 0 0 (MQ below (ek_Q G kd none q) args s 0 0 (ek_A G kd)) (F0 m 0 ls []) := by
  obtain ⟨hx, hb, hml, hown, hts, hr, hlocks, hK⟩ := id X
  have hA : ∀ q, ek_A G kd q → ek_A G kd q := fun _ h => h
  unfold fKe_beginTick_0 at hf
  refine ek_aload_n hx hb dKe_beginTick_0 rfl (lv_at hl 0 rfl) ?_
  obtain ⟨hx2, hf⟩ := ek_ck_s hf
  refine ek_cv hf hS hA (fun I' hq => ek_rV (As := []) ⟨hx, hb, hml, hown, hts⟩ hK hw 7 rfl (by decide) (by decide) hx2 (mKe_dismissLeavers hq) (cwV 0 hts (lw_V q_534 q_536 p_10 q_1 q_537) rfl rfl rfl (by decide +kernel) ⟨Nat.le_of_ble_eq_true rfl, Nat.le_of_ble_eq_true rfl⟩) rfl hl.1 rfl (Nat.le_of_ble_eq_true rfl) dKe_beginTick_1 ⟨Nat.zero_le _, Nat.zero_le _⟩) (fun I1 H locs hf hw hS => ?_)
  refine ek_aload_n hx hb dKe_beginTick_4 rfl (lv_at hl 0 rfl) ?_
  refine ek_geti hx hb 7 hts (in_Ke) hown hK hw rfl (by decide) (by decide) 2 (by decide) rfl (hts _ q_195) hf dKe_beginTick_5 (fun hf => ?_)
  refine ek_aload_n hx hb dKe_beginTick_8 rfl (lv_at hl 0 rfl) ?_
  refine ek_geti hx hb 7 hts (in_Ke) hown hK hw rfl (by decide) (by decide) 6 (by decide) rfl (hts _ q_199) hf dKe_beginTick_9 (fun hf => ?_)
  refine lv_icmp_lt (tgt := 19) hx hb dKe_beginTick_12 (by decide) (fun c3 => ?_) (fun c3 => ?_)
  · have hf := ek_t c3 hf
    refine lv_iconst (v := (0 : Int32)) hx hb dKe_beginTick_19 (by decide) ?_
    exact wKe_beginTick_20 X hf hw hS (lv_sub hl [0] rfl)
  · have hf := ek_f c3 hf
    refine lv_iconst (v := (1 : Int32)) hx hb dKe_beginTick_15 (by decide) ?_
    refine lv_goto (tgt := 20) hx hb dKe_beginTick_16 (by decide) ?_
    exact wKe_beginTick_20 X hf hw hS (lv_sub hl [0] rfl)
set_option maxHeartbeats 4000000 in
set_option maxRecDepth 100000 in
theorem mKe_beginTick {l : Launch} {G : ek_G} {kd : Nat → Nat} {I : ek_St} {x0 : Nat} {q : ek_St} (hf : fKe_beginTick kd I x0 = some q) : ek_M l G kd y_Ke_beginTick (.code y_Ke_beginTick prog_1_method_16_code 5 none :: lw_g) ({ frames := 2, cells := 0, slots := 0, locals := 45 } : Room) [ek_r G x0] I none q :=
  ek_body [(0, ek_r G x0)] (by decide) (by simp [lg_sl, ek_r_cat, ek_c_i, ek_c_l]) (by simp [lv_args, ek_r_cat, ek_c_i, ek_c_l]) (fun p e s m below meth c ls X hw hS hl => wKe_beginTick_0 X hf hw hS hl)
/-! ElasticKernel.mostUrgent()LElasticKernel$Task; -/
def fKe_mostUrgent_49 (kd : Nat → Nat) (k4 : (ek_St × Nat × Nat × Int32) → Option (ek_St × Nat)) (I : ek_St) (x0 : Nat) (x1 : Nat) (i2 : Int32) : Option (ek_St × Nat) :=
  ek_let (i2 + (1 : Int32)) (fun i2_1 => k4 (I, x0, x1, i2_1))
def fKe_mostUrgent_47 (kd : Nat → Nat) (k4 : (ek_St × Nat × Nat × Int32) → Option (ek_St × Nat)) (I : ek_St) (x0 : Nat) (i2 : Int32) (x3 : Nat) : Option (ek_St × Nat) :=
  fKe_mostUrgent_49 kd k4 I x0 x3 i2
def fKe_mostUrgent_4 (kd : Nat → Nat) (k4 : (ek_St × Nat × Nat × Int32) → Option (ek_St × Nat)) (I : ek_St) (x0 : Nat) (x1 : Nat) (i2 : Int32) : Option (ek_St × Nat) :=
  ek_ck (kd x0 = 7) (ek_ck (kd (x0 + 1) = 4) (if (I (x0 + 1) 1) ≤ i2 then (some (I, x1)) else (ek_ck (kd x0 = 7) (ek_ck (kd (x0 + 1) = 4) (ek_ck (kd ((x0 + 1) + 1) = 60) (ek_ck (ek_in i2 12) (ek_let ((I ((x0 + 1) + 1) i2.toNatClampNeg).toNatClampNeg) (fun x3_2 => ek_ck (kd x3_2 = 6) (if (I x3_2 9) ≤ ((0 : Int32)) then (fKe_mostUrgent_49 kd k4 I x0 x1 i2) else (if x1 = ((0 : Nat)) then (fKe_mostUrgent_47 kd k4 I x0 i2 x3_2) else (ek_ck (kd x3_2 = 6) (ek_ck (kd x1 = 6) (if (I x1 8) ≤ (I x3_2 8) then (fKe_mostUrgent_49 kd k4 I x0 x1 i2) else (fKe_mostUrgent_47 kd k4 I x0 i2 x3_2))))))))))))))
def fKe_mostUrgent_0 (kd : Nat → Nat) (I : ek_St) (x0 : Nat) : Option (ek_St × Nat) :=
  ek_let ((0 : Nat)) (fun x1_1 => ek_lp (fun (k : (ek_St × Nat × Nat × Int32) → Option (ek_St × Nat)) (q : (ek_St × Nat × Nat × Int32)) => fKe_mostUrgent_4 kd k q.1 q.2.1 q.2.2.1 q.2.2.2) ek_N (I, x0, x1_1, (0 : Int32)))
def fKe_mostUrgent (kd : Nat → Nat) (I : ek_St) (x0 : Nat) : Option (ek_St × Nat) := fKe_mostUrgent_0 kd I x0
theorem dKe_mostUrgent_0 : decode prog_1_method_19_code 0 = .ok (.aconst_null, 1) := by decide +kernel
theorem dKe_mostUrgent_1 : decode prog_1_method_19_code 1 = .ok (.astore_n 1, 1) := by decide +kernel
theorem dKe_mostUrgent_2 : decode prog_1_method_19_code 2 = .ok (.iconst 0, 1) := by decide +kernel
theorem dKe_mostUrgent_3 : decode prog_1_method_19_code 3 = .ok (.istore_n 2, 1) := by decide +kernel
theorem dKe_mostUrgent_4 : decode prog_1_method_19_code 4 = .ok (.iload_n 2, 1) := by decide +kernel
theorem dKe_mostUrgent_5 : decode prog_1_method_19_code 5 = .ok (.aload_n 0, 1) := by decide +kernel
theorem dKe_mostUrgent_6 : decode prog_1_method_19_code 6 = .ok (.getfield 10, 3) := by decide +kernel
theorem dKe_mostUrgent_9 : decode prog_1_method_19_code 9 = .ok (.getfield 151, 3) := by decide +kernel
theorem dKe_mostUrgent_12 : decode prog_1_method_19_code 12 = .ok (.if_icmp .ge 43, 3) := by decide +kernel
theorem dKe_mostUrgent_15 : decode prog_1_method_19_code 15 = .ok (.aload_n 0, 1) := by decide +kernel
theorem dKe_mostUrgent_16 : decode prog_1_method_19_code 16 = .ok (.getfield 10, 3) := by decide +kernel
theorem dKe_mostUrgent_19 : decode prog_1_method_19_code 19 = .ok (.getfield 187, 3) := by decide +kernel
theorem dKe_mostUrgent_22 : decode prog_1_method_19_code 22 = .ok (.iload_n 2, 1) := by decide +kernel
theorem dKe_mostUrgent_23 : decode prog_1_method_19_code 23 = .ok (.aaload, 1) := by decide +kernel
theorem dKe_mostUrgent_24 : decode prog_1_method_19_code 24 = .ok (.astore_n 3, 1) := by decide +kernel
theorem dKe_mostUrgent_25 : decode prog_1_method_19_code 25 = .ok (.aload_n 3, 1) := by decide +kernel
theorem dKe_mostUrgent_26 : decode prog_1_method_19_code 26 = .ok (.getfield 117, 3) := by decide +kernel
theorem dKe_mostUrgent_29 : decode prog_1_method_19_code 29 = .ok (.ifCond .le 20, 3) := by decide +kernel
theorem dKe_mostUrgent_32 : decode prog_1_method_19_code 32 = .ok (.aload_n 1, 1) := by decide +kernel
theorem dKe_mostUrgent_33 : decode prog_1_method_19_code 33 = .ok (.ifnull 14, 3) := by decide +kernel
theorem dKe_mostUrgent_36 : decode prog_1_method_19_code 36 = .ok (.aload_n 3, 1) := by decide +kernel
theorem dKe_mostUrgent_37 : decode prog_1_method_19_code 37 = .ok (.getfield 114, 3) := by decide +kernel
theorem dKe_mostUrgent_40 : decode prog_1_method_19_code 40 = .ok (.aload_n 1, 1) := by decide +kernel
theorem dKe_mostUrgent_41 : decode prog_1_method_19_code 41 = .ok (.getfield 114, 3) := by decide +kernel
theorem dKe_mostUrgent_44 : decode prog_1_method_19_code 44 = .ok (.if_icmp .ge 5, 3) := by decide +kernel
theorem dKe_mostUrgent_47 : decode prog_1_method_19_code 47 = .ok (.aload_n 3, 1) := by decide +kernel
theorem dKe_mostUrgent_48 : decode prog_1_method_19_code 48 = .ok (.astore_n 1, 1) := by decide +kernel
theorem dKe_mostUrgent_49 : decode prog_1_method_19_code 49 = .ok (.iinc 2 1, 3) := by decide +kernel
theorem dKe_mostUrgent_52 : decode prog_1_method_19_code 52 = .ok (.goto (-48), 3) := by decide +kernel
theorem dKe_mostUrgent_55 : decode prog_1_method_19_code 55 = .ok (.aload_n 1, 1) := by decide +kernel
theorem dKe_mostUrgent_56 : decode prog_1_method_19_code 56 = .ok (.areturn, 1) := by decide +kernel
set_option maxHeartbeats 4000000 in
set_option maxRecDepth 100000 in
theorem wKe_mostUrgent_49 {l : Launch} {G : ek_G} {kd : Nat → Nat} {p : Program} {e : Env} {s : State} {m : MethodId} {args : Array Value} {below : List Frame} {meth : Method} {c : Code} (X : ek_X p s m meth c args G prog_1_method_19_code 4 "ElasticKernel" (some (.object "ElasticKernel$Task"))) {q : ek_St × Nat} {k4 : (ek_St × Nat × Nat × Int32) → Option (ek_St × Nat)} (hk4 : ∀ q0 : ek_St × Nat × Nat × Int32, k4 q0 = some q → ∀ (H : Heap) (locs : List Loc) (ls : Array Slot), ek_W G kd q0.1 H → va_S (ek_A G kd) s.heap H locs → lv_has ls 4 [(0, ek_r G q0.2.1), (1, ek_r G q0.2.2.1), (2, .int q0.2.2.2)] → W p l e ({ frames := 0, cells := 0, slots := 0, locals := 0 } : Room) s m args below meth c H locs 0 0 (MQ below (ek_Q G kd (some (ek_r G q.2)) q.1) args s 0 0 (ek_A G kd)) (F0 m 4 ls [])) {I : ek_St} {x0 : Nat} {x1 : Nat} {i2 : Int32} (hf : fKe_mostUrgent_49 kd k4 I x0 x1 i2 = some q) {H : Heap} {locs : List Loc} {ls : Array Slot} (hw : ek_W G kd I H) (hS : va_S (ek_A G kd) s.heap H locs) (hl : lv_has ls 4 [(0, ek_r G x0), (1, ek_r G x1), (2, .int i2)]) : W p l e ({ frames := 0, cells := 0, slots := 0, locals := 0 } : Room) s m args below meth c H locs 0 0 (MQ below (ek_Q G kd (some (ek_r G q.2)) q.1) args s 0 0 (ek_A G kd)) (F0 m 49 ls []) := by
  obtain ⟨hx, hb, hml, hown, hts, hr, hlocks, hK⟩ := id X
  have hA : ∀ q, ek_A G kd q → ek_A G kd q := fun _ h => h
  unfold fKe_mostUrgent_49 at hf
  refine ek_iinc hx hb 2 (fun i2_1 => [(2, .int i2_1), (1, ek_r G x1), (0, ek_r G x0)]) dKe_mostUrgent_49 hl rfl (v := i2 + (1 : Int32)) rfl hf (by decide) (fun i2_1 => ek_s1k 1 rfl rfl ek_r_cat rfl rfl) (fun i2_1 ls hf hl => ?_)
  refine lv_goto (tgt := 4) hx hb dKe_mostUrgent_52 (by decide) ?_
  exact hk4 (I, x0, x1, i2_1) hf _ _ _ hw hS (lv_sub hl [2, 1, 0] rfl)
set_option maxHeartbeats 4000000 in
set_option maxRecDepth 100000 in
theorem wKe_mostUrgent_47 {l : Launch} {G : ek_G} {kd : Nat → Nat} {p : Program} {e : Env} {s : State} {m : MethodId} {args : Array Value} {below : List Frame} {meth : Method} {c : Code} (X : ek_X p s m meth c args G prog_1_method_19_code 4 "ElasticKernel" (some (.object "ElasticKernel$Task"))) {q : ek_St × Nat} {k4 : (ek_St × Nat × Nat × Int32) → Option (ek_St × Nat)} (hk4 : ∀ q0 : ek_St × Nat × Nat × Int32, k4 q0 = some q → ∀ (H : Heap) (locs : List Loc) (ls : Array Slot), ek_W G kd q0.1 H → va_S (ek_A G kd) s.heap H locs → lv_has ls 4 [(0, ek_r G q0.2.1), (1, ek_r G q0.2.2.1), (2, .int q0.2.2.2)] → W p l e ({ frames := 0, cells := 0, slots := 0, locals := 0 } : Room) s m args below meth c H locs 0 0 (MQ below (ek_Q G kd (some (ek_r G q.2)) q.1) args s 0 0 (ek_A G kd)) (F0 m 4 ls [])) {I : ek_St} {x0 : Nat} {i2 : Int32} {x3 : Nat} (hf : fKe_mostUrgent_47 kd k4 I x0 i2 x3 = some q) {H : Heap} {locs : List Loc} {ls : Array Slot} (hw : ek_W G kd I H) (hS : va_S (ek_A G kd) s.heap H locs) (hl : lv_has ls 4 [(0, ek_r G x0), (2, .int i2), (3, ek_r G x3)]) : W p l e ({ frames := 0, cells := 0, slots := 0, locals := 0 } : Room) s m args below meth c H locs 0 0 (MQ below (ek_Q G kd (some (ek_r G q.2)) q.1) args s 0 0 (ek_A G kd)) (F0 m 47 ls []) := by
  obtain ⟨hx, hb, hml, hown, hts, hr, hlocks, hK⟩ := id X
  have hA : ∀ q, ek_A G kd q → ek_A G kd q := fun _ h => h
  unfold fKe_mostUrgent_47 at hf
  refine ek_aload_n hx hb dKe_mostUrgent_47 rfl (lv_at hl 2 rfl) ?_
  refine ek_astore_n (lv' := [(1, ek_r G x3), (0, ek_r G x0), (2, .int i2), (3, ek_r G x3)]) hx hb dKe_mostUrgent_48 rfl hl (by decide) (ek_s1k 0 rfl rfl ek_r_cat ek_r_cat rfl) (fun ls hl => ?_)
  exact wKe_mostUrgent_49 X hk4 hf hw hS (lv_sub hl [1, 0, 2] rfl)
set_option maxHeartbeats 4000000 in
set_option maxRecDepth 100000 in
theorem wKe_mostUrgent_4 {l : Launch} {G : ek_G} {kd : Nat → Nat} {p : Program} {e : Env} {s : State} {m : MethodId} {args : Array Value} {below : List Frame} {meth : Method} {c : Code} (X : ek_X p s m meth c args G prog_1_method_19_code 4 "ElasticKernel" (some (.object "ElasticKernel$Task"))) {q : ek_St × Nat} {k4 : (ek_St × Nat × Nat × Int32) → Option (ek_St × Nat)} (hk4 : ∀ q0 : ek_St × Nat × Nat × Int32, k4 q0 = some q → ∀ (H : Heap) (locs : List Loc) (ls : Array Slot), ek_W G kd q0.1 H → va_S (ek_A G kd) s.heap H locs → lv_has ls 4 [(0, ek_r G q0.2.1), (1, ek_r G q0.2.2.1), (2, .int q0.2.2.2)] → W p l e ({ frames := 0, cells := 0, slots := 0, locals := 0 } : Room) s m args below meth c H locs 0 0 (MQ below (ek_Q G kd (some (ek_r G q.2)) q.1) args s 0 0 (ek_A G kd)) (F0 m 4 ls [])) {I : ek_St} {x0 : Nat} {x1 : Nat} {i2 : Int32} (hf : fKe_mostUrgent_4 kd k4 I x0 x1 i2 = some q) {H : Heap} {locs : List Loc} {ls : Array Slot} (hw : ek_W G kd I H) (hS : va_S (ek_A G kd) s.heap H locs) (hl : lv_has ls 4 [(0, ek_r G x0), (1, ek_r G x1), (2, .int i2)]) : W p l e ({ frames := 0, cells := 0, slots := 0, locals := 0 } : Room) s m args below meth c H locs 0 0 (MQ below (ek_Q G kd (some (ek_r G q.2)) q.1) args s 0 0 (ek_A G kd)) (F0 m 4 ls []) := by
  obtain ⟨hx, hb, hml, hown, hts, hr, hlocks, hK⟩ := id X
  have hA : ∀ q, ek_A G kd q → ek_A G kd q := fun _ h => h
  unfold fKe_mostUrgent_4 at hf
  refine lv_iload_n hx hb dKe_mostUrgent_4 rfl (lv_at hl 2 rfl) ?_
  refine ek_aload_n hx hb dKe_mostUrgent_5 rfl (lv_at hl 0 rfl) ?_
  refine ek_getr hx hb 7 hts (in_Ke) hown hK hw rfl (by decide) (by decide) 0 (by decide) (n := 0) rfl rfl (hts _ q_193) hf dKe_mostUrgent_6 (fun hf => ?_)
  refine ek_getiN hx hb 4 hts (in_Ro) hown hK hw rfl (by decide) (by decide) 1 (by decide) rfl (va_Nw.use rfl (hK.2 _ n_141)) hf dKe_mostUrgent_9 (fun hf => ?_)
  refine lv_icmp_ge (tgt := 55) hx hb dKe_mostUrgent_12 (by decide) (fun c1 => ?_) (fun c1 => ?_)
  · have hf := ek_t c1 hf
    refine ek_aload_n hx hb dKe_mostUrgent_55 rfl (lv_at hl 1 rfl) ?_
    exact ek_aret hx hb hr hlocks hw hS hf dKe_mostUrgent_56
  · have hf := ek_f c1 hf
    refine ek_aload_n hx hb dKe_mostUrgent_15 rfl (lv_at hl 0 rfl) ?_
    refine ek_getr hx hb 7 hts (in_Ke) hown hK hw rfl (by decide) (by decide) 0 (by decide) (n := 0) rfl rfl (hts _ q_193) hf dKe_mostUrgent_16 (fun hf => ?_)
    refine ek_getrN hx hb 4 hts (in_Ro) hown hK hw rfl (by decide) (by decide) 0 (by decide) (n := 0) rfl rfl (va_Nw.use rfl (hK.2 _ n_138)) hf dKe_mostUrgent_19 (fun hf => ?_)
    refine lv_iload_n hx hb dKe_mostUrgent_22 rfl (lv_at hl 2 rfl) ?_
    refine ek_aald hx hb hK hw hf dKe_mostUrgent_23 (fun hf => ?_)
    refine ek_tr hf (fun x3_2 hf => ?_)
    refine ek_astore_n (lv' := [(3, ek_r G x3_2), (2, .int i2), (0, ek_r G x0), (1, ek_r G x1)]) hx hb dKe_mostUrgent_24 rfl hl (by decide) (ek_s1k 2 rfl rfl rfl ek_r_cat rfl) (fun ls hl => ?_)
    refine ek_aload_n hx hb dKe_mostUrgent_25 rfl (lv_at hl 0 rfl) ?_
    refine ek_getiN hx hb 6 hts (in_Ta) hown hK hw rfl (by decide) (by decide) 9 (by decide) rfl (va_Nw.use rfl (hK.2 _ n_94)) hf dKe_mostUrgent_26 (fun hf => ?_)
    refine lv_if_le (tgt := 49) hx hb dKe_mostUrgent_29 (by decide) (fun c3 => ?_) (fun c3 => ?_)
    · have hf := ek_t c3 hf
      exact wKe_mostUrgent_49 X hk4 hf hw hS (lv_sub hl [2, 3, 1] rfl)
    · have hf := ek_f c3 hf
      refine ek_aload_n hx hb dKe_mostUrgent_32 rfl (lv_at hl 3 rfl) ?_
      refine ek_ifnull (tgt := 47) hx hb dKe_mostUrgent_33 (by decide) (fun c4 => ?_) (fun c4 => ?_)
      · have hf := ek_t c4 hf
        exact wKe_mostUrgent_47 X hk4 hf hw hS (lv_sub hl [2, 1, 0] rfl)
      · have hf := ek_f c4 hf
        refine ek_aload_n hx hb dKe_mostUrgent_36 rfl (lv_at hl 0 rfl) ?_
        refine ek_getiN hx hb 6 hts (in_Ta) hown hK hw rfl (by decide) (by decide) 8 (by decide) rfl (va_Nw.use rfl (hK.2 _ n_92)) hf dKe_mostUrgent_37 (fun hf => ?_)
        refine ek_aload_n hx hb dKe_mostUrgent_40 rfl (lv_at hl 3 rfl) ?_
        refine ek_getiN hx hb 6 hts (in_Ta) hown hK hw rfl (by decide) (by decide) 8 (by decide) rfl (va_Nw.use rfl (hK.2 _ n_92)) hf dKe_mostUrgent_41 (fun hf => ?_)
        refine lv_icmp_ge (tgt := 49) hx hb dKe_mostUrgent_44 (by decide) (fun c5 => ?_) (fun c5 => ?_)
        · have hf := ek_t c5 hf
          exact wKe_mostUrgent_49 X hk4 hf hw hS (lv_sub hl [2, 3, 1] rfl)
        · have hf := ek_f c5 hf
          exact wKe_mostUrgent_47 X hk4 hf hw hS (lv_sub hl [2, 1, 0] rfl)
set_option maxHeartbeats 4000000 in
set_option maxRecDepth 100000 in
theorem wKe_mostUrgent_4_lp {l : Launch} {G : ek_G} {kd : Nat → Nat} {p : Program} {e : Env} {s : State} {m : MethodId} {args : Array Value} {below : List Frame} {meth : Method} {c : Code} (X : ek_X p s m meth c args G prog_1_method_19_code 4 "ElasticKernel" (some (.object "ElasticKernel$Task"))) {q : ek_St × Nat} (n : Nat) : ∀ q0 : ek_St × Nat × Nat × Int32, ek_lp (fun (k : (ek_St × Nat × Nat × Int32) → Option (ek_St × Nat)) (q : (ek_St × Nat × Nat × Int32)) => fKe_mostUrgent_4 kd k q.1 q.2.1 q.2.2.1 q.2.2.2) n q0 = some q → ∀ (H : Heap) (locs : List Loc) (ls : Array Slot), ek_W G kd q0.1 H → va_S (ek_A G kd) s.heap H locs → lv_has ls 4 [(0, ek_r G q0.2.1), (1, ek_r G q0.2.2.1), (2, .int q0.2.2.2)] → W p l e ({ frames := 0, cells := 0, slots := 0, locals := 0 } : Room) s m args below meth c H locs 0 0 (MQ below (ek_Q G kd (some (ek_r G q.2)) q.1) args s 0 0 (ek_A G kd)) (F0 m 4 ls []) :=
  ek_lp_ind (fun k hk q0 hf => fun H locs ls hw hS hl => wKe_mostUrgent_4 X hk hf hw hS hl) n
set_option maxHeartbeats 4000000 in
set_option maxRecDepth 100000 in
theorem wKe_mostUrgent_0 {l : Launch} {G : ek_G} {kd : Nat → Nat} {p : Program} {e : Env} {s : State} {m : MethodId} {args : Array Value} {below : List Frame} {meth : Method} {c : Code} (X : ek_X p s m meth c args G prog_1_method_19_code 4 "ElasticKernel" (some (.object "ElasticKernel$Task"))) {q : ek_St × Nat} {I : ek_St} {x0 : Nat} (hf : fKe_mostUrgent_0 kd I x0 = some q) {H : Heap} {locs : List Loc} {ls : Array Slot} (hw : ek_W G kd I H) (hS : va_S (ek_A G kd) s.heap H locs) (hl : lv_has ls 4 [(0, ek_r G x0)]) : W p l e ({ frames := 0, cells := 0, slots := 0, locals := 0 } : Room) s m args below meth c H locs 0 0 (MQ below (ek_Q G kd (some (ek_r G q.2)) q.1) args s 0 0 (ek_A G kd)) (F0 m 0 ls []) := by
  obtain ⟨hx, hb, hml, hown, hts, hr, hlocks, hK⟩ := id X
  have hA : ∀ q, ek_A G kd q → ek_A G kd q := fun _ h => h
  unfold fKe_mostUrgent_0 at hf
  refine ek_null (G := G) hx hb dKe_mostUrgent_0 ?_
  refine ek_tr hf (fun x1_1 hf => ?_)
  refine ek_astore_n (lv' := [(1, ek_r G x1_1), (0, ek_r G x0)]) hx hb dKe_mostUrgent_1 rfl hl (by decide) (ek_s1k 0 rfl rfl ek_r_cat ek_r_cat rfl) (fun ls hl => ?_)
  refine lv_iconst (v := (0 : Int32)) hx hb dKe_mostUrgent_2 (by decide) ?_
  refine ek_istore_n (lv' := [(2, .int ((0 : Int32))), (1, ek_r G x1_1), (0, ek_r G x0)]) hx hb dKe_mostUrgent_3 rfl hl (by decide) (ek_s1k 0 rfl rfl ek_r_cat rfl rfl) (fun ls hl => ?_)
  exact wKe_mostUrgent_4_lp X ek_N (I, x0, x1_1, (0 : Int32)) hf _ _ _ hw hS (lv_sub hl [2, 1, 0] rfl)
set_option maxHeartbeats 4000000 in
set_option maxRecDepth 100000 in
theorem mKe_mostUrgent {l : Launch} {G : ek_G} {kd : Nat → Nat} {I : ek_St} {x0 : Nat} {q : ek_St × Nat} (hf : fKe_mostUrgent kd I x0 = some q) : ek_M l G kd y_Ke_mostUrgent (.code y_Ke_mostUrgent prog_1_method_19_code 4 (some (.object "ElasticKernel$Task")) :: lw_g) ({ frames := 0, cells := 0, slots := 0, locals := 0 } : Room) [ek_r G x0] I (some (ek_r G q.2)) q.1 :=
  ek_body [(0, ek_r G x0)] (by decide) (by simp [lg_sl, ek_r_cat, ek_c_i, ek_c_l]) (by simp [lv_args, ek_r_cat, ek_c_i, ek_c_l]) (fun p e s m below meth c ls X hw hS hl => wKe_mostUrgent_0 X hf hw hS hl)
/-! ElasticKernel.ticksAlike(LElasticKernel$Task;)I -/
def fKe_ticksAlike_59 (kd : Nat → Nat) (k17 : (ek_St × Nat × Int32 × Int32) → Option (ek_St × Int32)) (I : ek_St) (x0 : Nat) (i2 : Int32) (i3 : Int32) (t0 : Int32) : Option (ek_St × Int32) :=
  ek_ck (kd x0 = 7) (ek_let (if (t0 - (I x0 2)) < i2 then (t0 - (I x0 2)) else i2) (fun i2_1 => ek_let (i3 + (1 : Int32)) (fun i3_2 => k17 (I, x0, i2_1, i3_2))))
def fKe_ticksAlike_17 (kd : Nat → Nat) (k17 : (ek_St × Nat × Int32 × Int32) → Option (ek_St × Int32)) (I : ek_St) (x0 : Nat) (i2 : Int32) (i3 : Int32) : Option (ek_St × Int32) :=
  ek_ck (kd x0 = 7) (ek_ck (kd (x0 + 1) = 4) (if (I (x0 + 1) 1) ≤ i3 then (some (I, i2)) else (ek_ck (kd x0 = 7) (ek_ck (kd (x0 + 1) = 4) (ek_ck (kd ((x0 + 1) + 1) = 60) (ek_ck (ek_in i3 12) (ek_let ((I ((x0 + 1) + 1) i3.toNatClampNeg).toNatClampNeg) (fun x4_2 => ek_ck (kd x4_2 = 6) (if (I x4_2 5) = ((0 : Int32)) then (ek_ck (kd x0 = 7) (fKe_ticksAlike_59 kd k17 I x0 i2 i3 (I x0 6))) else (ek_ck (kd x4_2 = 6) (fKe_ticksAlike_59 kd k17 I x0 i2 i3 (I x4_2 8))))))))))))
def fKe_ticksAlike_14 (kd : Nat → Nat) (I : ek_St) (x0 : Nat) (t0 : Int32) : Option (ek_St × Int32) :=
  ek_lp (fun (k : (ek_St × Nat × Int32 × Int32) → Option (ek_St × Int32)) (q : (ek_St × Nat × Int32 × Int32)) => fKe_ticksAlike_17 kd k q.1 q.2.1 q.2.2.1 q.2.2.2) ek_N (I, x0, t0, (0 : Int32))
def fKe_ticksAlike_0 (kd : Nat → Nat) (I : ek_St) (x0 : Nat) (x1 : Nat) : Option (ek_St × Int32) :=
  if x1 = ((0 : Nat)) then (fKe_ticksAlike_14 kd I x0 ((5000 : Int32))) else (ek_ck (kd x1 = 6) (fKe_ticksAlike_14 kd I x0 (I x1 9)))
def fKe_ticksAlike (kd : Nat → Nat) (I : ek_St) (x0 : Nat) (x1 : Nat) : Option (ek_St × Int32) := fKe_ticksAlike_0 kd I x0 x1
theorem dKe_ticksAlike_0 : decode prog_1_method_20_code 0 = .ok (.aload_n 1, 1) := by decide +kernel
theorem dKe_ticksAlike_1 : decode prog_1_method_20_code 1 = .ok (.ifnonnull 9, 3) := by decide +kernel
theorem dKe_ticksAlike_4 : decode prog_1_method_20_code 4 = .ok (.sipush 5000, 3) := by decide +kernel
theorem dKe_ticksAlike_7 : decode prog_1_method_20_code 7 = .ok (.goto 7, 3) := by decide +kernel
theorem dKe_ticksAlike_10 : decode prog_1_method_20_code 10 = .ok (.aload_n 1, 1) := by decide +kernel
theorem dKe_ticksAlike_11 : decode prog_1_method_20_code 11 = .ok (.getfield 117, 3) := by decide +kernel
theorem dKe_ticksAlike_14 : decode prog_1_method_20_code 14 = .ok (.istore_n 2, 1) := by decide +kernel
theorem dKe_ticksAlike_15 : decode prog_1_method_20_code 15 = .ok (.iconst 0, 1) := by decide +kernel
theorem dKe_ticksAlike_16 : decode prog_1_method_20_code 16 = .ok (.istore_n 3, 1) := by decide +kernel
theorem dKe_ticksAlike_17 : decode prog_1_method_20_code 17 = .ok (.iload_n 3, 1) := by decide +kernel
theorem dKe_ticksAlike_18 : decode prog_1_method_20_code 18 = .ok (.aload_n 0, 1) := by decide +kernel
theorem dKe_ticksAlike_19 : decode prog_1_method_20_code 19 = .ok (.getfield 10, 3) := by decide +kernel
theorem dKe_ticksAlike_22 : decode prog_1_method_20_code 22 = .ok (.getfield 151, 3) := by decide +kernel
theorem dKe_ticksAlike_25 : decode prog_1_method_20_code 25 = .ok (.if_icmp .ge 54, 3) := by decide +kernel
theorem dKe_ticksAlike_28 : decode prog_1_method_20_code 28 = .ok (.aload_n 0, 1) := by decide +kernel
theorem dKe_ticksAlike_29 : decode prog_1_method_20_code 29 = .ok (.getfield 10, 3) := by decide +kernel
theorem dKe_ticksAlike_32 : decode prog_1_method_20_code 32 = .ok (.getfield 187, 3) := by decide +kernel
theorem dKe_ticksAlike_35 : decode prog_1_method_20_code 35 = .ok (.iload_n 3, 1) := by decide +kernel
theorem dKe_ticksAlike_36 : decode prog_1_method_20_code 36 = .ok (.aaload, 1) := by decide +kernel
theorem dKe_ticksAlike_37 : decode prog_1_method_20_code 37 = .ok (.astore 4, 2) := by decide +kernel
theorem dKe_ticksAlike_39 : decode prog_1_method_20_code 39 = .ok (.aload 4, 2) := by decide +kernel
theorem dKe_ticksAlike_41 : decode prog_1_method_20_code 41 = .ok (.getfield 65, 3) := by decide +kernel
theorem dKe_ticksAlike_44 : decode prog_1_method_20_code 44 = .ok (.ifCond .ne 10, 3) := by decide +kernel
theorem dKe_ticksAlike_47 : decode prog_1_method_20_code 47 = .ok (.aload_n 0, 1) := by decide +kernel
theorem dKe_ticksAlike_48 : decode prog_1_method_20_code 48 = .ok (.getfield 56, 3) := by decide +kernel
theorem dKe_ticksAlike_51 : decode prog_1_method_20_code 51 = .ok (.goto 8, 3) := by decide +kernel
theorem dKe_ticksAlike_54 : decode prog_1_method_20_code 54 = .ok (.aload 4, 2) := by decide +kernel
theorem dKe_ticksAlike_56 : decode prog_1_method_20_code 56 = .ok (.getfield 114, 3) := by decide +kernel
theorem dKe_ticksAlike_59 : decode prog_1_method_20_code 59 = .ok (.istore 5, 2) := by decide +kernel
theorem dKe_ticksAlike_61 : decode prog_1_method_20_code 61 = .ok (.iload_n 2, 1) := by decide +kernel
theorem dKe_ticksAlike_62 : decode prog_1_method_20_code 62 = .ok (.iload 5, 2) := by decide +kernel
theorem dKe_ticksAlike_64 : decode prog_1_method_20_code 64 = .ok (.aload_n 0, 1) := by decide +kernel
theorem dKe_ticksAlike_65 : decode prog_1_method_20_code 65 = .ok (.getfield 59, 3) := by decide +kernel
theorem dKe_ticksAlike_68 : decode prog_1_method_20_code 68 = .ok (.isub, 1) := by decide +kernel
theorem dKe_ticksAlike_69 : decode prog_1_method_20_code 69 = .ok (.invokestatic 92, 3) := by decide +kernel
theorem dKe_ticksAlike_72 : decode prog_1_method_20_code 72 = .ok (.istore_n 2, 1) := by decide +kernel
theorem dKe_ticksAlike_73 : decode prog_1_method_20_code 73 = .ok (.iinc 3 1, 3) := by decide +kernel
theorem dKe_ticksAlike_76 : decode prog_1_method_20_code 76 = .ok (.goto (-59), 3) := by decide +kernel
theorem dKe_ticksAlike_79 : decode prog_1_method_20_code 79 = .ok (.iload_n 2, 1) := by decide +kernel
theorem dKe_ticksAlike_80 : decode prog_1_method_20_code 80 = .ok (.ireturn, 1) := by decide +kernel
set_option maxHeartbeats 4000000 in
set_option maxRecDepth 100000 in
theorem wKe_ticksAlike_59 {l : Launch} {G : ek_G} {kd : Nat → Nat} {p : Program} {e : Env} {s : State} {m : MethodId} {args : Array Value} {below : List Frame} {meth : Method} {c : Code} (X : ek_X p s m meth c args G prog_1_method_20_code 6 "ElasticKernel" (some .int)) {q : ek_St × Int32} {k17 : (ek_St × Nat × Int32 × Int32) → Option (ek_St × Int32)} (hk17 : ∀ q0 : ek_St × Nat × Int32 × Int32, k17 q0 = some q → ∀ (H : Heap) (locs : List Loc) (ls : Array Slot), ek_W G kd q0.1 H → va_S (ek_A G kd) s.heap H locs → lv_has ls 6 [(0, ek_r G q0.2.1), (2, .int q0.2.2.1), (3, .int q0.2.2.2)] → W p l e ({ frames := 1, cells := 0, slots := 0, locals := 21 } : Room) s m args below meth c H locs 0 0 (MQ below (ek_Q G kd (some (.int q.2)) q.1) args s 0 0 (ek_A G kd)) (F0 m 17 ls [])) {I : ek_St} {x0 : Nat} {i2 : Int32} {i3 : Int32} {t0 : Int32} (hf : fKe_ticksAlike_59 kd k17 I x0 i2 i3 t0 = some q) {H : Heap} {locs : List Loc} {ls : Array Slot} (hw : ek_W G kd I H) (hS : va_S (ek_A G kd) s.heap H locs) (hl : lv_has ls 6 [(0, ek_r G x0), (2, .int i2), (3, .int i3)]) : W p l e ({ frames := 1, cells := 0, slots := 0, locals := 21 } : Room) s m args below meth c H locs 0 0 (MQ below (ek_Q G kd (some (.int q.2)) q.1) args s 0 0 (ek_A G kd)) (F0 m 59 ls [.int t0]) := by
  obtain ⟨hx, hb, hml, hown, hts, hr, hlocks, hK⟩ := id X
  have hA : ∀ q, ek_A G kd q → ek_A G kd q := fun _ h => h
  unfold fKe_ticksAlike_59 at hf
  refine ek_istore (lv' := [(5, .int t0), (0, ek_r G x0), (2, .int i2), (3, .int i3)]) hx hb dKe_ticksAlike_59 hl (by decide) (ek_s1 rfl rfl) (fun ls hl => ?_)
  refine lv_iload_n hx hb dKe_ticksAlike_61 rfl (lv_at hl 2 rfl) ?_
  refine lv_iload hx hb dKe_ticksAlike_62 (lv_at hl 0 rfl) ?_
  refine ek_aload_n hx hb dKe_ticksAlike_64 rfl (lv_at hl 1 rfl) ?_
  refine ek_geti hx hb 7 hts (in_Ke) hown hK hw rfl (by decide) (by decide) 2 (by decide) rfl (hts _ q_195) hf dKe_ticksAlike_65 (fun hf => ?_)
  refine lv_isub hx hb dKe_ticksAlike_68 ?_
  refine va_mmin hx hb (hml.trans hl.1.symm) hown (hts (.methodLink "ElasticKernel" 92 Lib.Math.min.name) (by decide +kernel)) (hts (.static Lib.Math.min.name) (by decide +kernel)) (hts (.initialized "java/lang/Math") (by decide +kernel)) (hts (.code Lib.Math.min.name Lib.Math.min.code 2 (some .int)) (by decide +kernel)) (by decide) (ek_room13 (Nat.le_of_ble_eq_true rfl) (Nat.le_of_ble_eq_true rfl)) (Nat.zero_le _) (Nat.zero_le _) dKe_ticksAlike_69 ?_
  refine ek_ti hf (fun i2_1 hf => ?_)
  refine ek_istore_n (lv' := [(2, .int i2_1), (5, .int t0), (0, ek_r G x0), (3, .int i3)]) hx hb dKe_ticksAlike_72 rfl hl (by decide) (ek_s1 rfl rfl) (fun ls hl => ?_)
  refine ek_iinc hx hb 3 (fun i3_2 => [(3, .int i3_2), (2, .int i2_1), (5, .int t0), (0, ek_r G x0)]) dKe_ticksAlike_73 hl rfl (v := i3 + (1 : Int32)) rfl hf (by decide) (fun i3_2 => ek_s1k 0 rfl rfl rfl rfl rfl) (fun i3_2 ls hf hl => ?_)
  refine lv_goto (tgt := 17) hx hb dKe_ticksAlike_76 (by decide) ?_
  exact hk17 (I, x0, i2_1, i3_2) hf _ _ _ hw hS (lv_sub hl [3, 1, 0] rfl)
set_option maxHeartbeats 4000000 in
set_option maxRecDepth 100000 in
theorem wKe_ticksAlike_17 {l : Launch} {G : ek_G} {kd : Nat → Nat} {p : Program} {e : Env} {s : State} {m : MethodId} {args : Array Value} {below : List Frame} {meth : Method} {c : Code} (X : ek_X p s m meth c args G prog_1_method_20_code 6 "ElasticKernel" (some .int)) {q : ek_St × Int32} {k17 : (ek_St × Nat × Int32 × Int32) → Option (ek_St × Int32)} (hk17 : ∀ q0 : ek_St × Nat × Int32 × Int32, k17 q0 = some q → ∀ (H : Heap) (locs : List Loc) (ls : Array Slot), ek_W G kd q0.1 H → va_S (ek_A G kd) s.heap H locs → lv_has ls 6 [(0, ek_r G q0.2.1), (2, .int q0.2.2.1), (3, .int q0.2.2.2)] → W p l e ({ frames := 1, cells := 0, slots := 0, locals := 21 } : Room) s m args below meth c H locs 0 0 (MQ below (ek_Q G kd (some (.int q.2)) q.1) args s 0 0 (ek_A G kd)) (F0 m 17 ls [])) {I : ek_St} {x0 : Nat} {i2 : Int32} {i3 : Int32} (hf : fKe_ticksAlike_17 kd k17 I x0 i2 i3 = some q) {H : Heap} {locs : List Loc} {ls : Array Slot} (hw : ek_W G kd I H) (hS : va_S (ek_A G kd) s.heap H locs) (hl : lv_has ls 6 [(0, ek_r G x0), (2, .int i2), (3, .int i3)]) : W p l e ({ frames := 1, cells := 0, slots := 0, locals := 21 } : Room) s m args below meth c H locs 0 0 (MQ below (ek_Q G kd (some (.int q.2)) q.1) args s 0 0 (ek_A G kd)) (F0 m 17 ls []) := by
  obtain ⟨hx, hb, hml, hown, hts, hr, hlocks, hK⟩ := id X
  have hA : ∀ q, ek_A G kd q → ek_A G kd q := fun _ h => h
  unfold fKe_ticksAlike_17 at hf
  refine lv_iload_n hx hb dKe_ticksAlike_17 rfl (lv_at hl 2 rfl) ?_
  refine ek_aload_n hx hb dKe_ticksAlike_18 rfl (lv_at hl 0 rfl) ?_
  refine ek_getr hx hb 7 hts (in_Ke) hown hK hw rfl (by decide) (by decide) 0 (by decide) (n := 0) rfl rfl (hts _ q_193) hf dKe_ticksAlike_19 (fun hf => ?_)
  refine ek_getiN hx hb 4 hts (in_Ro) hown hK hw rfl (by decide) (by decide) 1 (by decide) rfl (va_Nw.use rfl (hK.2 _ n_141)) hf dKe_ticksAlike_22 (fun hf => ?_)
  refine lv_icmp_ge (tgt := 79) hx hb dKe_ticksAlike_25 (by decide) (fun c1 => ?_) (fun c1 => ?_)
  · have hf := ek_t c1 hf
    refine lv_iload_n hx hb dKe_ticksAlike_79 rfl (lv_at hl 1 rfl) ?_
    exact ek_iret hx hb hr hlocks hw hS hf dKe_ticksAlike_80
  · have hf := ek_f c1 hf
    refine ek_aload_n hx hb dKe_ticksAlike_28 rfl (lv_at hl 0 rfl) ?_
    refine ek_getr hx hb 7 hts (in_Ke) hown hK hw rfl (by decide) (by decide) 0 (by decide) (n := 0) rfl rfl (hts _ q_193) hf dKe_ticksAlike_29 (fun hf => ?_)
    refine ek_getrN hx hb 4 hts (in_Ro) hown hK hw rfl (by decide) (by decide) 0 (by decide) (n := 0) rfl rfl (va_Nw.use rfl (hK.2 _ n_138)) hf dKe_ticksAlike_32 (fun hf => ?_)
    refine lv_iload_n hx hb dKe_ticksAlike_35 rfl (lv_at hl 2 rfl) ?_
    refine ek_aald hx hb hK hw hf dKe_ticksAlike_36 (fun hf => ?_)
    refine ek_tr hf (fun x4_2 hf => ?_)
    refine ek_astore (lv' := [(4, ek_r G x4_2), (3, .int i3), (0, ek_r G x0), (2, .int i2)]) hx hb dKe_ticksAlike_37 hl (by decide) (ek_s1k 2 rfl rfl rfl ek_r_cat rfl) (fun ls hl => ?_)
    refine ek_aload hx hb dKe_ticksAlike_39 (lv_at hl 0 rfl) ?_
    refine ek_getiN hx hb 6 hts (in_Ta) hown hK hw rfl (by decide) (by decide) 5 (by decide) rfl (va_Nw.use rfl (hK.2 _ n_85)) hf dKe_ticksAlike_41 (fun hf => ?_)
    refine lv_if_ne (tgt := 54) hx hb dKe_ticksAlike_44 (by decide) (fun c3 => ?_) (fun c3 => ?_)
    · have hf := ek_f c3 hf
      refine ek_aload hx hb dKe_ticksAlike_54 (lv_at hl 0 rfl) ?_
      refine ek_getiN hx hb 6 hts (in_Ta) hown hK hw rfl (by decide) (by decide) 8 (by decide) rfl (va_Nw.use rfl (hK.2 _ n_92)) hf dKe_ticksAlike_56 (fun hf => ?_)
      exact wKe_ticksAlike_59 X hk17 hf hw hS (lv_sub hl [2, 3, 1] rfl)
    · have hf := ek_t c3 hf
      refine ek_aload_n hx hb dKe_ticksAlike_47 rfl (lv_at hl 2 rfl) ?_
      refine ek_geti hx hb 7 hts (in_Ke) hown hK hw rfl (by decide) (by decide) 6 (by decide) rfl (hts _ q_199) hf dKe_ticksAlike_48 (fun hf => ?_)
      refine lv_goto (tgt := 59) hx hb dKe_ticksAlike_51 (by decide) ?_
      exact wKe_ticksAlike_59 X hk17 hf hw hS (lv_sub hl [2, 3, 1] rfl)
set_option maxHeartbeats 4000000 in
set_option maxRecDepth 100000 in
theorem wKe_ticksAlike_17_lp {l : Launch} {G : ek_G} {kd : Nat → Nat} {p : Program} {e : Env} {s : State} {m : MethodId} {args : Array Value} {below : List Frame} {meth : Method} {c : Code} (X : ek_X p s m meth c args G prog_1_method_20_code 6 "ElasticKernel" (some .int)) {q : ek_St × Int32} (n : Nat) : ∀ q0 : ek_St × Nat × Int32 × Int32, ek_lp (fun (k : (ek_St × Nat × Int32 × Int32) → Option (ek_St × Int32)) (q : (ek_St × Nat × Int32 × Int32)) => fKe_ticksAlike_17 kd k q.1 q.2.1 q.2.2.1 q.2.2.2) n q0 = some q → ∀ (H : Heap) (locs : List Loc) (ls : Array Slot), ek_W G kd q0.1 H → va_S (ek_A G kd) s.heap H locs → lv_has ls 6 [(0, ek_r G q0.2.1), (2, .int q0.2.2.1), (3, .int q0.2.2.2)] → W p l e ({ frames := 1, cells := 0, slots := 0, locals := 21 } : Room) s m args below meth c H locs 0 0 (MQ below (ek_Q G kd (some (.int q.2)) q.1) args s 0 0 (ek_A G kd)) (F0 m 17 ls []) :=
  ek_lp_ind (fun k hk q0 hf => fun H locs ls hw hS hl => wKe_ticksAlike_17 X hk hf hw hS hl) n
set_option maxHeartbeats 4000000 in
set_option maxRecDepth 100000 in
theorem wKe_ticksAlike_14 {l : Launch} {G : ek_G} {kd : Nat → Nat} {p : Program} {e : Env} {s : State} {m : MethodId} {args : Array Value} {below : List Frame} {meth : Method} {c : Code} (X : ek_X p s m meth c args G prog_1_method_20_code 6 "ElasticKernel" (some .int)) {q : ek_St × Int32} {I : ek_St} {x0 : Nat} {t0 : Int32} (hf : fKe_ticksAlike_14 kd I x0 t0 = some q) {H : Heap} {locs : List Loc} {ls : Array Slot} (hw : ek_W G kd I H) (hS : va_S (ek_A G kd) s.heap H locs) (hl : lv_has ls 6 [(0, ek_r G x0)]) : W p l e ({ frames := 1, cells := 0, slots := 0, locals := 21 } : Room) s m args below meth c H locs 0 0 (MQ below (ek_Q G kd (some (.int q.2)) q.1) args s 0 0 (ek_A G kd)) (F0 m 14 ls [.int t0]) := by
  obtain ⟨hx, hb, hml, hown, hts, hr, hlocks, hK⟩ := id X
  have hA : ∀ q, ek_A G kd q → ek_A G kd q := fun _ h => h
  unfold fKe_ticksAlike_14 at hf
  refine ek_istore_n (lv' := [(2, .int t0), (0, ek_r G x0)]) hx hb dKe_ticksAlike_14 rfl hl (by decide) (ek_s1 rfl rfl) (fun ls hl => ?_)
  refine lv_iconst (v := (0 : Int32)) hx hb dKe_ticksAlike_15 (by decide) ?_
  refine ek_istore_n (lv' := [(3, .int ((0 : Int32))), (2, .int t0), (0, ek_r G x0)]) hx hb dKe_ticksAlike_16 rfl hl (by decide) (ek_s1k 0 rfl rfl rfl rfl rfl) (fun ls hl => ?_)
  exact wKe_ticksAlike_17_lp X ek_N (I, x0, t0, (0 : Int32)) hf _ _ _ hw hS (lv_sub hl [2, 1, 0] rfl)
set_option maxHeartbeats 4000000 in
set_option maxRecDepth 100000 in
theorem wKe_ticksAlike_0 {l : Launch} {G : ek_G} {kd : Nat → Nat} {p : Program} {e : Env} {s : State} {m : MethodId} {args : Array Value} {below : List Frame} {meth : Method} {c : Code} (X : ek_X p s m meth c args G prog_1_method_20_code 6 "ElasticKernel" (some .int)) {q : ek_St × Int32} {I : ek_St} {x0 : Nat} {x1 : Nat} (hf : fKe_ticksAlike_0 kd I x0 x1 = some q) {H : Heap} {locs : List Loc} {ls : Array Slot} (hw : ek_W G kd I H) (hS : va_S (ek_A G kd) s.heap H locs) (hl : lv_has ls 6 [(0, ek_r G x0), (1, ek_r G x1)]) : W p l e ({ frames := 1, cells := 0, slots := 0, locals := 21 } : Room) s m args below meth c H locs 0 0 (MQ below (ek_Q G kd (some (.int q.2)) q.1) args s 0 0 (ek_A G kd)) (F0 m 0 ls []) := by
  obtain ⟨hx, hb, hml, hown, hts, hr, hlocks, hK⟩ := id X
  have hA : ∀ q, ek_A G kd q → ek_A G kd q := fun _ h => h
  unfold fKe_ticksAlike_0 at hf
  refine ek_aload_n hx hb dKe_ticksAlike_0 rfl (lv_at hl 1 rfl) ?_
  refine ek_ifnonnull (tgt := 10) hx hb dKe_ticksAlike_1 (by decide) (fun c1 => ?_) (fun c1 => ?_)
  · have hf := ek_f c1 hf
    refine ek_aload_n hx hb dKe_ticksAlike_10 rfl (lv_at hl 1 rfl) ?_
    refine ek_getiN hx hb 6 hts (in_Ta) hown hK hw rfl (by decide) (by decide) 9 (by decide) rfl (va_Nw.use rfl (hK.2 _ n_94)) hf dKe_ticksAlike_11 (fun hf => ?_)
    exact wKe_ticksAlike_14 X hf hw hS (lv_sub hl [0] rfl)
  · have hf := ek_t c1 hf
    refine lv_sipush (v := (5000 : Int32)) hx hb dKe_ticksAlike_4 (by decide) ?_
    refine lv_goto (tgt := 14) hx hb dKe_ticksAlike_7 (by decide) ?_
    exact wKe_ticksAlike_14 X hf hw hS (lv_sub hl [0] rfl)
set_option maxHeartbeats 4000000 in
set_option maxRecDepth 100000 in
theorem mKe_ticksAlike {l : Launch} {G : ek_G} {kd : Nat → Nat} {I : ek_St} {x0 : Nat} {x1 : Nat} {q : ek_St × Int32} (hf : fKe_ticksAlike kd I x0 x1 = some q) : ek_M l G kd y_Ke_ticksAlike (.code y_Ke_ticksAlike prog_1_method_20_code 6 (some .int) :: lw_g) ({ frames := 1, cells := 0, slots := 0, locals := 21 } : Room) [ek_r G x0, ek_r G x1] I (some (.int q.2)) q.1 :=
  ek_body [(0, ek_r G x0), (1, ek_r G x1)] (by decide) (by simp [lg_sl, ek_r_cat, ek_c_i, ek_c_l]) (by simp [lv_args, ek_r_cat, ek_c_i, ek_c_l]) (fun p e s m below meth c ls X hw hS hl => wKe_ticksAlike_0 X hf hw hS hl)
/-! ElasticKernel.tick(I)I -/
def fKe_tick_84 (kd : Nat → Nat) (k24 : (ek_St × Nat × Int32 × Int32) → Option (ek_St × Int32)) (I : ek_St) (x0 : Nat) (i3 : Int32) (x4 : Nat) (i5 : Int32) (t0 : Int32) : Option (ek_St × Int32) :=
  if x4 = ((0 : Nat)) then (k24 (I, x0, t0, i3)) else (ek_ck (kd x0 = 7) (ek_ck (kd x4 = 6) (ek_bv (fTa_work kd I x4 i5 (I x0 2)) (fun I2 => k24 (I2, x0, t0, i3)))))
def fKe_tick_24 (kd : Nat → Nat) (k24 : (ek_St × Nat × Int32 × Int32) → Option (ek_St × Int32)) (I : ek_St) (x0 : Nat) (i2 : Int32) (i3 : Int32) : Option (ek_St × Int32) :=
  if i3 ≤ ((0 : Int32)) then (some (I, i2)) else (ek_ck (kd x0 = 7) (ek_bv (fKe_beginTick kd I x0) (fun I2 => ek_ck (kd x0 = 7) (ek_bi (fKe_mostUrgent kd I2 x0) (fun I4 xr6 => ek_ck (kd x0 = 7) (ek_bi (fKe_ticksAlike kd I4 x0 xr6) (fun I7 ir9 => ek_let (if ((1 : Int32)) < (if ir9 < i3 then ir9 else i3) then (if ir9 < i3 then ir9 else i3) else ((1 : Int32))) (fun i5_10 => ek_ck (kd x0 = 7) (ek_ck (kd x0 = 7) (ek_let (ek_up I7 x0 2 ((I7 x0 2) + i5_10)) (fun I11 => ek_let (i3 - i5_10) (fun i3_12 => if xr6 = ((0 : Nat)) then (fKe_tick_84 kd k24 I11 x0 i3_12 xr6 i5_10 ((0 : Int32))) else (ek_ck (kd xr6 = 6) (fKe_tick_84 kd k24 I11 x0 i3_12 xr6 i5_10 (I11 xr6 0)))))))))))))))
def fKe_tick_0 (kd : Nat → Nat) (I : ek_St) (x0 : Nat) (i1 : Int32) : Option (ek_St × Int32) :=
  ek_bi (fKe_isWithin kd I i1 ((5000 : Int32))) (fun I1 ir2 => if ir2 = ((0 : Int32)) then (none) else (ek_lp (fun (k : (ek_St × Nat × Int32 × Int32) → Option (ek_St × Int32)) (q : (ek_St × Nat × Int32 × Int32)) => fKe_tick_24 kd k q.1 q.2.1 q.2.2.1 q.2.2.2) ek_N (I1, x0, (0 : Int32), i1)))
def fKe_tick (kd : Nat → Nat) (I : ek_St) (x0 : Nat) (i1 : Int32) : Option (ek_St × Int32) := fKe_tick_0 kd I x0 i1
theorem dKe_tick_0 : decode prog_1_method_6_code 0 = .ok (.iload_n 1, 1) := by decide +kernel
theorem dKe_tick_1 : decode prog_1_method_6_code 1 = .ok (.sipush 5000, 3) := by decide +kernel
theorem dKe_tick_4 : decode prog_1_method_6_code 4 = .ok (.invokestatic 27, 3) := by decide +kernel
theorem dKe_tick_7 : decode prog_1_method_6_code 7 = .ok (.ifCond .ne 13, 3) := by decide +kernel
theorem dKe_tick_10 : decode prog_1_method_6_code 10 = .ok (.new 74, 3) := by decide +kernel
theorem dKe_tick_20 : decode prog_1_method_6_code 20 = .ok (.iconst 0, 1) := by decide +kernel
theorem dKe_tick_21 : decode prog_1_method_6_code 21 = .ok (.istore_n 2, 1) := by decide +kernel
theorem dKe_tick_22 : decode prog_1_method_6_code 22 = .ok (.iload_n 1, 1) := by decide +kernel
theorem dKe_tick_23 : decode prog_1_method_6_code 23 = .ok (.istore_n 3, 1) := by decide +kernel
theorem dKe_tick_24 : decode prog_1_method_6_code 24 = .ok (.iload_n 3, 1) := by decide +kernel
theorem dKe_tick_25 : decode prog_1_method_6_code 25 = .ok (.ifCond .le 79, 3) := by decide +kernel
theorem dKe_tick_28 : decode prog_1_method_6_code 28 = .ok (.aload_n 0, 1) := by decide +kernel
theorem dKe_tick_29 : decode prog_1_method_6_code 29 = .ok (.invokevirtual 81, 3) := by decide +kernel
theorem dKe_tick_32 : decode prog_1_method_6_code 32 = .ok (.aload_n 0, 1) := by decide +kernel
theorem dKe_tick_33 : decode prog_1_method_6_code 33 = .ok (.invokevirtual 84, 3) := by decide +kernel
theorem dKe_tick_36 : decode prog_1_method_6_code 36 = .ok (.astore 4, 2) := by decide +kernel
theorem dKe_tick_38 : decode prog_1_method_6_code 38 = .ok (.iconst 1, 1) := by decide +kernel
theorem dKe_tick_39 : decode prog_1_method_6_code 39 = .ok (.iload_n 3, 1) := by decide +kernel
theorem dKe_tick_40 : decode prog_1_method_6_code 40 = .ok (.aload_n 0, 1) := by decide +kernel
theorem dKe_tick_41 : decode prog_1_method_6_code 41 = .ok (.aload 4, 2) := by decide +kernel
theorem dKe_tick_43 : decode prog_1_method_6_code 43 = .ok (.invokevirtual 88, 3) := by decide +kernel
theorem dKe_tick_46 : decode prog_1_method_6_code 46 = .ok (.invokestatic 92, 3) := by decide +kernel
theorem dKe_tick_49 : decode prog_1_method_6_code 49 = .ok (.invokestatic 98, 3) := by decide +kernel
theorem dKe_tick_52 : decode prog_1_method_6_code 52 = .ok (.istore 5, 2) := by decide +kernel
theorem dKe_tick_54 : decode prog_1_method_6_code 54 = .ok (.aload_n 0, 1) := by decide +kernel
theorem dKe_tick_55 : decode prog_1_method_6_code 55 = .ok (.dup, 1) := by decide +kernel
theorem dKe_tick_56 : decode prog_1_method_6_code 56 = .ok (.getfield 59, 3) := by decide +kernel
theorem dKe_tick_59 : decode prog_1_method_6_code 59 = .ok (.iload 5, 2) := by decide +kernel
theorem dKe_tick_61 : decode prog_1_method_6_code 61 = .ok (.iadd, 1) := by decide +kernel
theorem dKe_tick_62 : decode prog_1_method_6_code 62 = .ok (.putfield 59, 3) := by decide +kernel
theorem dKe_tick_65 : decode prog_1_method_6_code 65 = .ok (.iload_n 3, 1) := by decide +kernel
theorem dKe_tick_66 : decode prog_1_method_6_code 66 = .ok (.iload 5, 2) := by decide +kernel
theorem dKe_tick_68 : decode prog_1_method_6_code 68 = .ok (.isub, 1) := by decide +kernel
theorem dKe_tick_69 : decode prog_1_method_6_code 69 = .ok (.istore_n 3, 1) := by decide +kernel
theorem dKe_tick_70 : decode prog_1_method_6_code 70 = .ok (.aload 4, 2) := by decide +kernel
theorem dKe_tick_72 : decode prog_1_method_6_code 72 = .ok (.ifnonnull 7, 3) := by decide +kernel
theorem dKe_tick_75 : decode prog_1_method_6_code 75 = .ok (.iconst 0, 1) := by decide +kernel
theorem dKe_tick_76 : decode prog_1_method_6_code 76 = .ok (.goto 8, 3) := by decide +kernel
theorem dKe_tick_79 : decode prog_1_method_6_code 79 = .ok (.aload 4, 2) := by decide +kernel
theorem dKe_tick_81 : decode prog_1_method_6_code 81 = .ok (.getfield 101, 3) := by decide +kernel
theorem dKe_tick_84 : decode prog_1_method_6_code 84 = .ok (.istore_n 2, 1) := by decide +kernel
theorem dKe_tick_85 : decode prog_1_method_6_code 85 = .ok (.aload 4, 2) := by decide +kernel
theorem dKe_tick_87 : decode prog_1_method_6_code 87 = .ok (.ifnull 14, 3) := by decide +kernel
theorem dKe_tick_90 : decode prog_1_method_6_code 90 = .ok (.aload 4, 2) := by decide +kernel
theorem dKe_tick_92 : decode prog_1_method_6_code 92 = .ok (.iload 5, 2) := by decide +kernel
theorem dKe_tick_94 : decode prog_1_method_6_code 94 = .ok (.aload_n 0, 1) := by decide +kernel
theorem dKe_tick_95 : decode prog_1_method_6_code 95 = .ok (.getfield 59, 3) := by decide +kernel
theorem dKe_tick_98 : decode prog_1_method_6_code 98 = .ok (.invokevirtual 104, 3) := by decide +kernel
theorem dKe_tick_101 : decode prog_1_method_6_code 101 = .ok (.goto (-77), 3) := by decide +kernel
theorem dKe_tick_104 : decode prog_1_method_6_code 104 = .ok (.iload_n 2, 1) := by decide +kernel
theorem dKe_tick_105 : decode prog_1_method_6_code 105 = .ok (.ireturn, 1) := by decide +kernel
set_option maxHeartbeats 4000000 in
set_option maxRecDepth 100000 in
theorem wKe_tick_84 {l : Launch} {G : ek_G} {kd : Nat → Nat} {p : Program} {e : Env} {s : State} {m : MethodId} {args : Array Value} {below : List Frame} {meth : Method} {c : Code} (X : ek_X p s m meth c args G prog_1_method_6_code 6 "ElasticKernel" (some .int)) {q : ek_St × Int32} {k24 : (ek_St × Nat × Int32 × Int32) → Option (ek_St × Int32)} (hk24 : ∀ q0 : ek_St × Nat × Int32 × Int32, k24 q0 = some q → ∀ (H : Heap) (locs : List Loc) (ls : Array Slot), ek_W G kd q0.1 H → va_S (ek_A G kd) s.heap H locs → lv_has ls 6 [(0, ek_r G q0.2.1), (2, .int q0.2.2.1), (3, .int q0.2.2.2)] → W p l e ({ frames := 3, cells := 0, slots := 0, locals := 69 } : Room) s m args below meth c H locs 0 0 (MQ below (ek_Q G kd (some (.int q.2)) q.1) args s 0 0 (ek_A G kd)) (F0 m 24 ls [])) {I : ek_St} {x0 : Nat} {i3 : Int32} {x4 : Nat} {i5 : Int32} {t0 : Int32} (hf : fKe_tick_84 kd k24 I x0 i3 x4 i5 t0 = some q) {H : Heap} {locs : List Loc} {ls : Array Slot} (hw : ek_W G kd I H) (hS : va_S (ek_A G kd) s.heap H locs) (hl : lv_has ls 6 [(0, ek_r G x0), (3, .int i3), (4, ek_r G x4), (5, .int i5)]) : W p l e ({ frames := 3, cells := 0, slots := 0, locals := 69 } : Room) s m args below meth c H locs 0 0 (MQ below (ek_Q G kd (some (.int q.2)) q.1) args s 0 0 (ek_A G kd)) (F0 m 84 ls [.int t0]) := by
  obtain ⟨hx, hb, hml, hown, hts, hr, hlocks, hK⟩ := id X
  have hA : ∀ q, ek_A G kd q → ek_A G kd q := fun _ h => h
  unfold fKe_tick_84 at hf
  refine ek_istore_n (lv' := [(2, .int t0), (0, ek_r G x0), (3, .int i3), (4, ek_r G x4), (5, .int i5)]) hx hb dKe_tick_84 rfl hl (by decide) (ek_s1 rfl rfl) (fun ls hl => ?_)
  refine ek_aload hx hb dKe_tick_85 (lv_at hl 3 rfl) ?_
  refine ek_ifnull (tgt := 101) hx hb dKe_tick_87 (by decide) (fun c1 => ?_) (fun c1 => ?_)
  · have hf := ek_t c1 hf
    refine lv_goto (tgt := 24) hx hb dKe_tick_101 (by decide) ?_
    exact hk24 (I, x0, t0, i3) hf _ _ _ hw hS (lv_sub hl [1, 0, 2] rfl)
  · have hf := ek_f c1 hf
    refine ek_aload hx hb dKe_tick_90 (lv_at hl 3 rfl) ?_
    refine lv_iload hx hb dKe_tick_92 (lv_at hl 4 rfl) ?_
    refine ek_aload_n hx hb dKe_tick_94 rfl (lv_at hl 1 rfl) ?_
    refine ek_geti hx hb 7 hts (in_Ke) hown hK hw rfl (by decide) (by decide) 2 (by decide) rfl (hts _ q_195) hf dKe_tick_95 (fun hf => ?_)
    obtain ⟨hx3, hf⟩ := ek_ck_s hf
    refine ek_cv hf hS hA (fun I' hq => ek_rV (As := [.int i5, .int (I x0 2)]) ⟨hx, hb, hml, hown, hts⟩ hK hw 6 rfl (by decide) (by decide) hx3 (mTa_work hq) (cwV 2 hts (lw_V q_561 q_562 q_563 q_3 q_564) rfl rfl rfl (by decide +kernel) ⟨Nat.le_of_ble_eq_true rfl, Nat.le_of_ble_eq_true rfl⟩) rfl hl.1 rfl (Nat.le_of_ble_eq_true rfl) dKe_tick_98 ⟨Nat.zero_le _, Nat.zero_le _⟩) (fun I2 H locs hf hw hS => ?_)
    refine lv_goto (tgt := 24) hx hb dKe_tick_101 (by decide) ?_
    exact hk24 (I2, x0, t0, i3) hf _ _ _ hw hS (lv_sub hl [1, 0, 2] rfl)
set_option maxHeartbeats 4000000 in
set_option maxRecDepth 100000 in
theorem wKe_tick_24 {l : Launch} {G : ek_G} {kd : Nat → Nat} {p : Program} {e : Env} {s : State} {m : MethodId} {args : Array Value} {below : List Frame} {meth : Method} {c : Code} (X : ek_X p s m meth c args G prog_1_method_6_code 6 "ElasticKernel" (some .int)) {q : ek_St × Int32} {k24 : (ek_St × Nat × Int32 × Int32) → Option (ek_St × Int32)} (hk24 : ∀ q0 : ek_St × Nat × Int32 × Int32, k24 q0 = some q → ∀ (H : Heap) (locs : List Loc) (ls : Array Slot), ek_W G kd q0.1 H → va_S (ek_A G kd) s.heap H locs → lv_has ls 6 [(0, ek_r G q0.2.1), (2, .int q0.2.2.1), (3, .int q0.2.2.2)] → W p l e ({ frames := 3, cells := 0, slots := 0, locals := 69 } : Room) s m args below meth c H locs 0 0 (MQ below (ek_Q G kd (some (.int q.2)) q.1) args s 0 0 (ek_A G kd)) (F0 m 24 ls [])) {I : ek_St} {x0 : Nat} {i2 : Int32} {i3 : Int32} (hf : fKe_tick_24 kd k24 I x0 i2 i3 = some q) {H : Heap} {locs : List Loc} {ls : Array Slot} (hw : ek_W G kd I H) (hS : va_S (ek_A G kd) s.heap H locs) (hl : lv_has ls 6 [(0, ek_r G x0), (2, .int i2), (3, .int i3)]) : W p l e ({ frames := 3, cells := 0, slots := 0, locals := 69 } : Room) s m args below meth c H locs 0 0 (MQ below (ek_Q G kd (some (.int q.2)) q.1) args s 0 0 (ek_A G kd)) (F0 m 24 ls []) := by
  obtain ⟨hx, hb, hml, hown, hts, hr, hlocks, hK⟩ := id X
  have hA : ∀ q, ek_A G kd q → ek_A G kd q := fun _ h => h
  unfold fKe_tick_24 at hf
  refine lv_iload_n hx hb dKe_tick_24 rfl (lv_at hl 2 rfl) ?_
  refine lv_if_le (tgt := 104) hx hb dKe_tick_25 (by decide) (fun c1 => ?_) (fun c1 => ?_)
  · have hf := ek_t c1 hf
    refine lv_iload_n hx hb dKe_tick_104 rfl (lv_at hl 1 rfl) ?_
    exact ek_iret hx hb hr hlocks hw hS hf dKe_tick_105
  · have hf := ek_f c1 hf
    refine ek_aload_n hx hb dKe_tick_28 rfl (lv_at hl 0 rfl) ?_
    obtain ⟨hx3, hf⟩ := ek_ck_s hf
    refine ek_cv hf hS hA (fun I' hq => ek_rV (As := []) ⟨hx, hb, hml, hown, hts⟩ hK hw 7 rfl (by decide) (by decide) hx3 (mKe_beginTick hq) (cwV 0 hts (lw_V q_530 q_532 p_9 q_1 q_533) rfl rfl rfl (by decide +kernel) ⟨Nat.le_of_ble_eq_true rfl, Nat.le_of_ble_eq_true rfl⟩) rfl hl.1 rfl (Nat.le_of_ble_eq_true rfl) dKe_tick_29 ⟨Nat.zero_le _, Nat.zero_le _⟩) (fun I2 H locs hf hw hS => ?_)
    refine ek_aload_n hx hb dKe_tick_32 rfl (lv_at hl 0 rfl) ?_
    obtain ⟨hx5, hf⟩ := ek_ck_s hf
    refine ek_cr hf hS hA (fun I' v hq => ek_rV (As := []) ⟨hx, hb, hml, hown, hts⟩ hK hw 7 rfl (by decide) (by decide) hx5 (mKe_mostUrgent hq) (cwV 0 hts (lw_V q_550 q_552 p_13 q_1 q_553) rfl rfl rfl (by decide +kernel) ⟨Nat.le_of_ble_eq_true rfl, Nat.le_of_ble_eq_true rfl⟩) rfl hl.1 rfl (Nat.le_of_ble_eq_true rfl) dKe_tick_33 ⟨Nat.zero_le _, Nat.zero_le _⟩) (fun I4 xr6 H locs hf hw hS => ?_)
    refine ek_astore (lv' := [(4, ek_r G xr6), (3, .int i3), (0, ek_r G x0), (2, .int i2)]) hx hb dKe_tick_36 hl (by decide) (ek_s1k 2 rfl rfl rfl ek_r_cat rfl) (fun ls hl => ?_)
    refine lv_iconst (v := (1 : Int32)) hx hb dKe_tick_38 (by decide) ?_
    refine lv_iload_n hx hb dKe_tick_39 rfl (lv_at hl 1 rfl) ?_
    refine ek_aload_n hx hb dKe_tick_40 rfl (lv_at hl 2 rfl) ?_
    refine ek_aload hx hb dKe_tick_41 (lv_at hl 0 rfl) ?_
    obtain ⟨hx8, hf⟩ := ek_ck_s hf
    refine ek_ci hf hS hA (fun I' v hq => ek_rV (As := [ek_r G xr6]) ⟨hx, hb, hml, hown, hts⟩ hK hw 7 rfl (by decide) (by decide) hx8 (mKe_ticksAlike hq) (cwV 1 hts (lw_V q_554 q_556 p_14 q_1 q_557) rfl rfl rfl (by decide +kernel) ⟨Nat.le_of_ble_eq_true rfl, Nat.le_of_ble_eq_true rfl⟩) rfl hl.1 rfl (Nat.le_of_ble_eq_true rfl) dKe_tick_43 ⟨Nat.zero_le _, Nat.zero_le _⟩) (fun I7 ir9 H locs hf hw hS => ?_)
    refine va_mmin hx hb (hml.trans hl.1.symm) hown (hts (.methodLink "ElasticKernel" 92 Lib.Math.min.name) (by decide +kernel)) (hts (.static Lib.Math.min.name) (by decide +kernel)) (hts (.initialized "java/lang/Math") (by decide +kernel)) (hts (.code Lib.Math.min.name Lib.Math.min.code 2 (some .int)) (by decide +kernel)) (by decide) (ek_room13 (Nat.le_of_ble_eq_true rfl) (Nat.le_of_ble_eq_true rfl)) (Nat.zero_le _) (Nat.zero_le _) dKe_tick_46 ?_
    refine va_mmax hx hb (hml.trans hl.1.symm) hown (hts (.methodLink "ElasticKernel" 98 Lib.Math.max.name) (by decide +kernel)) (hts (.static Lib.Math.max.name) (by decide +kernel)) (hts (.initialized "java/lang/Math") (by decide +kernel)) (hts (.code Lib.Math.max.name Lib.Math.max.code 2 (some .int)) (by decide +kernel)) (by decide) (ek_room13 (Nat.le_of_ble_eq_true rfl) (Nat.le_of_ble_eq_true rfl)) (Nat.zero_le _) (Nat.zero_le _) dKe_tick_49 ?_
    refine ek_ti hf (fun i5_10 hf => ?_)
    refine ek_istore (lv' := [(5, .int i5_10), (4, ek_r G xr6), (3, .int i3), (0, ek_r G x0), (2, .int i2)]) hx hb dKe_tick_52 hl (by decide) (ek_s1k 0 rfl rfl ek_r_cat rfl rfl) (fun ls hl => ?_)
    refine ek_aload_n hx hb dKe_tick_54 rfl (lv_at hl 3 rfl) ?_
    refine lv_dup hx hb dKe_tick_55 ek_r_cat ?_
    refine ek_geti hx hb 7 hts (in_Ke) hown hK hw rfl (by decide) (by decide) 2 (by decide) rfl (hts _ q_195) hf dKe_tick_56 (fun hf => ?_)
    refine lv_iload hx hb dKe_tick_59 (lv_at hl 0 rfl) ?_
    refine lv_iadd hx hb dKe_tick_61 ?_
    refine ek_puti hx hb 7 hts (in_Ke) ty_Ke ty_Ke_ok nm_Ke hown hK hw hS hA rfl (by decide) (by decide) 2 (by decide) rfl (hts _ q_195) rfl rfl rfl hf dKe_tick_62 (fun I11 H locs hf hw hS => ?_)
    refine lv_iload_n hx hb dKe_tick_65 rfl (lv_at hl 2 rfl) ?_
    refine lv_iload hx hb dKe_tick_66 (lv_at hl 0 rfl) ?_
    refine lv_isub hx hb dKe_tick_68 ?_
    refine ek_ti hf (fun i3_12 hf => ?_)
    refine ek_istore_n (lv' := [(3, .int i3_12), (2, .int i2), (5, .int i5_10), (4, ek_r G xr6), (0, ek_r G x0)]) hx hb dKe_tick_69 rfl hl (by decide) (ek_s1k 4 rfl rfl rfl rfl rfl) (fun ls hl => ?_)
    refine ek_aload hx hb dKe_tick_70 (lv_at hl 3 rfl) ?_
    refine ek_ifnonnull (tgt := 79) hx hb dKe_tick_72 (by decide) (fun c13 => ?_) (fun c13 => ?_)
    · have hf := ek_f c13 hf
      refine ek_aload hx hb dKe_tick_79 (lv_at hl 3 rfl) ?_
      refine ek_getiN hx hb 6 hts (in_Ta) hown hK hw rfl (by decide) (by decide) 0 (by decide) rfl (va_Nw.use rfl (hK.2 _ n_74)) hf dKe_tick_81 (fun hf => ?_)
      exact wKe_tick_84 X hk24 hf hw hS (lv_sub hl [4, 0, 3, 2] rfl)
    · have hf := ek_t c13 hf
      refine lv_iconst (v := (0 : Int32)) hx hb dKe_tick_75 (by decide) ?_
      refine lv_goto (tgt := 84) hx hb dKe_tick_76 (by decide) ?_
      exact wKe_tick_84 X hk24 hf hw hS (lv_sub hl [4, 0, 3, 2] rfl)
set_option maxHeartbeats 4000000 in
set_option maxRecDepth 100000 in
theorem wKe_tick_24_lp {l : Launch} {G : ek_G} {kd : Nat → Nat} {p : Program} {e : Env} {s : State} {m : MethodId} {args : Array Value} {below : List Frame} {meth : Method} {c : Code} (X : ek_X p s m meth c args G prog_1_method_6_code 6 "ElasticKernel" (some .int)) {q : ek_St × Int32} (n : Nat) : ∀ q0 : ek_St × Nat × Int32 × Int32, ek_lp (fun (k : (ek_St × Nat × Int32 × Int32) → Option (ek_St × Int32)) (q : (ek_St × Nat × Int32 × Int32)) => fKe_tick_24 kd k q.1 q.2.1 q.2.2.1 q.2.2.2) n q0 = some q → ∀ (H : Heap) (locs : List Loc) (ls : Array Slot), ek_W G kd q0.1 H → va_S (ek_A G kd) s.heap H locs → lv_has ls 6 [(0, ek_r G q0.2.1), (2, .int q0.2.2.1), (3, .int q0.2.2.2)] → W p l e ({ frames := 3, cells := 0, slots := 0, locals := 69 } : Room) s m args below meth c H locs 0 0 (MQ below (ek_Q G kd (some (.int q.2)) q.1) args s 0 0 (ek_A G kd)) (F0 m 24 ls []) :=
  ek_lp_ind (fun k hk q0 hf => fun H locs ls hw hS hl => wKe_tick_24 X hk hf hw hS hl) n
set_option maxHeartbeats 4000000 in
set_option maxRecDepth 100000 in
theorem wKe_tick_0 {l : Launch} {G : ek_G} {kd : Nat → Nat} {p : Program} {e : Env} {s : State} {m : MethodId} {args : Array Value} {below : List Frame} {meth : Method} {c : Code} (X : ek_X p s m meth c args G prog_1_method_6_code 6 "ElasticKernel" (some .int)) {q : ek_St × Int32} {I : ek_St} {x0 : Nat} {i1 : Int32} (hf : fKe_tick_0 kd I x0 i1 = some q) {H : Heap} {locs : List Loc} {ls : Array Slot} (hw : ek_W G kd I H) (hS : va_S (ek_A G kd) s.heap H locs) (hl : lv_has ls 6 [(0, ek_r G x0), (1, .int i1)]) : W p l e ({ frames := 3, cells := 0, slots := 0, locals := 69 } : Room) s m args below meth c H locs 0 0 (MQ below (ek_Q G kd (some (.int q.2)) q.1) args s 0 0 (ek_A G kd)) (F0 m 0 ls []) := by
  obtain ⟨hx, hb, hml, hown, hts, hr, hlocks, hK⟩ := id X
  have hA : ∀ q, ek_A G kd q → ek_A G kd q := fun _ h => h
  unfold fKe_tick_0 at hf
  refine lv_iload_n hx hb dKe_tick_0 rfl (lv_at hl 1 rfl) ?_
  refine lv_sipush (v := (5000 : Int32)) hx hb dKe_tick_1 (by decide) ?_
  refine ek_ci hf hS hA (fun I' v hq => ek_rS (As := [.int i1, .int ((5000 : Int32))]) ⟨hx, hb, hml, hown, hts⟩ hK hw (mKe_isWithin hq) (ek_cwS 2 hts q_222 q_223 q_1 q_224 (by decide +kernel) ⟨Nat.le_of_ble_eq_true rfl, Nat.le_of_ble_eq_true rfl⟩) rfl hl.1 rfl (Nat.le_of_ble_eq_true rfl) dKe_tick_4 ⟨Nat.zero_le _, Nat.zero_le _⟩) (fun I1 ir2 H locs hf hw hS => ?_)
  refine lv_if_ne (tgt := 20) hx hb dKe_tick_7 (by decide) (fun c3 => ?_) (fun c3 => ?_)
  · have hf := ek_f c3 hf
    refine lv_iconst (v := (0 : Int32)) hx hb dKe_tick_20 (by decide) ?_
    refine ek_istore_n (lv' := [(2, .int ((0 : Int32))), (1, .int i1), (0, ek_r G x0)]) hx hb dKe_tick_21 rfl hl (by decide) (ek_s1k 1 rfl rfl rfl rfl rfl) (fun ls hl => ?_)
    refine lv_iload_n hx hb dKe_tick_22 rfl (lv_at hl 1 rfl) ?_
    refine ek_istore_n (lv' := [(3, .int i1), (2, .int ((0 : Int32))), (1, .int i1), (0, ek_r G x0)]) hx hb dKe_tick_23 rfl hl (by decide) (ek_s1k 0 rfl rfl rfl rfl rfl) (fun ls hl => ?_)
    exact wKe_tick_24_lp X ek_N (I1, x0, (0 : Int32), i1) hf _ _ _ hw hS (lv_sub hl [3, 1, 0] rfl)
  · have hf := ek_t c3 hf
    exact ek_no hf
set_option maxHeartbeats 4000000 in
set_option maxRecDepth 100000 in
theorem mKe_tick {l : Launch} {G : ek_G} {kd : Nat → Nat} {I : ek_St} {x0 : Nat} {i1 : Int32} {q : ek_St × Int32} (hf : fKe_tick kd I x0 i1 = some q) : ek_M l G kd y_Ke_tick (.code y_Ke_tick prog_1_method_6_code 6 (some .int) :: lw_g) ({ frames := 3, cells := 0, slots := 0, locals := 69 } : Room) [ek_r G x0, .int i1] I (some (.int q.2)) q.1 :=
  ek_body [(0, ek_r G x0), (1, .int i1)] (by decide) (by simp [lg_sl, ek_r_cat, ek_c_i, ek_c_l]) (by simp [lv_args, ek_r_cat, ek_c_i, ek_c_l]) (fun p e s m below meth c ls X hw hS hl => wKe_tick_0 X hf hw hS hl)
/-! ElasticKernel.task(II)I -/
def fKe_task_0 (kd : Nat → Nat) (I : ek_St) (x0 : Nat) (i1 : Int32) (i2 : Int32) : Option (ek_St × Int32) :=
  ek_ck (kd x0 = 7) (ek_ck (kd (x0 + 1) = 4) (ek_bi (fRo_find kd I (x0 + 1) i1) (fun I1 xr3 => if xr3 = ((0 : Nat)) then (some (I1, (-1 : Int32))) else (if i2 = (0 : Int32) then (ek_ck (kd xr3 = 6) (some (I1, I1 xr3 5))) else (if i2 = (1 : Int32) then (ek_ck (kd xr3 = 6) (some (I1, I1 xr3 6))) else (if i2 = (2 : Int32) then (ek_ck (kd xr3 = 6) (if (I1 xr3 5) = ((2 : Int32)) then (ek_ck (kd xr3 = 6) (some (I1, I1 xr3 6))) else (ek_ck (kd xr3 = 6) (some (I1, I1 xr3 7))))) else (if i2 = (3 : Int32) then (ek_ck (kd xr3 = 6) (some (I1, I1 xr3 8))) else (if i2 = (4 : Int32) then (ek_ck (kd xr3 = 6) (some (I1, I1 xr3 9))) else (if i2 = (5 : Int32) then (ek_ck (kd xr3 = 6) (some (I1, I1 xr3 11))) else (if i2 = (6 : Int32) then (ek_ck (kd xr3 = 6) (some (I1, I1 xr3 12))) else (if i2 = (7 : Int32) then (ek_ck (kd xr3 = 6) (ek_bi (fTa_isPressedFlat kd I1 xr3) (fun I14 ir16 => if ir16 = ((0 : Int32)) then (some (I14, (0 : Int32))) else (some (I14, (1 : Int32)))))) else (some (I1, (-1 : Int32))))))))))))))
def fKe_task (kd : Nat → Nat) (I : ek_St) (x0 : Nat) (i1 : Int32) (i2 : Int32) : Option (ek_St × Int32) := fKe_task_0 kd I x0 i1 i2
theorem dKe_task_0 : decode prog_1_method_7_code 0 = .ok (.aload_n 0, 1) := by decide +kernel
theorem dKe_task_1 : decode prog_1_method_7_code 1 = .ok (.getfield 10, 3) := by decide +kernel
theorem dKe_task_4 : decode prog_1_method_7_code 4 = .ok (.iload_n 1, 1) := by decide +kernel
theorem dKe_task_5 : decode prog_1_method_7_code 5 = .ok (.invokevirtual 62, 3) := by decide +kernel
theorem dKe_task_8 : decode prog_1_method_7_code 8 = .ok (.astore_n 3, 1) := by decide +kernel
theorem dKe_task_9 : decode prog_1_method_7_code 9 = .ok (.aload_n 3, 1) := by decide +kernel
theorem dKe_task_10 : decode prog_1_method_7_code 10 = .ok (.ifnonnull 5, 3) := by decide +kernel
theorem dKe_task_13 : decode prog_1_method_7_code 13 = .ok (.iconst (-1), 1) := by decide +kernel
theorem dKe_task_14 : decode prog_1_method_7_code 14 = .ok (.ireturn, 1) := by decide +kernel
theorem dKe_task_15 : decode prog_1_method_7_code 15 = .ok (.iload_n 2, 1) := by decide +kernel
theorem dKe_task_16 : decode prog_1_method_7_code 16 = .ok (.tableswitch 111 0 7 #[48, 53, 58, 78, 83, 88, 93, 98], 48) := by decide +kernel
theorem dKe_task_64 : decode prog_1_method_7_code 64 = .ok (.aload_n 3, 1) := by decide +kernel
theorem dKe_task_65 : decode prog_1_method_7_code 65 = .ok (.getfield 65, 3) := by decide +kernel
theorem dKe_task_68 : decode prog_1_method_7_code 68 = .ok (.ireturn, 1) := by decide +kernel
theorem dKe_task_69 : decode prog_1_method_7_code 69 = .ok (.aload_n 3, 1) := by decide +kernel
theorem dKe_task_70 : decode prog_1_method_7_code 70 = .ok (.getfield 108, 3) := by decide +kernel
theorem dKe_task_73 : decode prog_1_method_7_code 73 = .ok (.ireturn, 1) := by decide +kernel
theorem dKe_task_74 : decode prog_1_method_7_code 74 = .ok (.aload_n 3, 1) := by decide +kernel
theorem dKe_task_75 : decode prog_1_method_7_code 75 = .ok (.getfield 65, 3) := by decide +kernel
theorem dKe_task_78 : decode prog_1_method_7_code 78 = .ok (.iconst 2, 1) := by decide +kernel
theorem dKe_task_79 : decode prog_1_method_7_code 79 = .ok (.if_icmp .ne 10, 3) := by decide +kernel
theorem dKe_task_82 : decode prog_1_method_7_code 82 = .ok (.aload_n 3, 1) := by decide +kernel
theorem dKe_task_83 : decode prog_1_method_7_code 83 = .ok (.getfield 108, 3) := by decide +kernel
theorem dKe_task_86 : decode prog_1_method_7_code 86 = .ok (.goto 7, 3) := by decide +kernel
theorem dKe_task_89 : decode prog_1_method_7_code 89 = .ok (.aload_n 3, 1) := by decide +kernel
theorem dKe_task_90 : decode prog_1_method_7_code 90 = .ok (.getfield 111, 3) := by decide +kernel
theorem dKe_task_93 : decode prog_1_method_7_code 93 = .ok (.ireturn, 1) := by decide +kernel
theorem dKe_task_94 : decode prog_1_method_7_code 94 = .ok (.aload_n 3, 1) := by decide +kernel
theorem dKe_task_95 : decode prog_1_method_7_code 95 = .ok (.getfield 114, 3) := by decide +kernel
theorem dKe_task_98 : decode prog_1_method_7_code 98 = .ok (.ireturn, 1) := by decide +kernel
theorem dKe_task_99 : decode prog_1_method_7_code 99 = .ok (.aload_n 3, 1) := by decide +kernel
theorem dKe_task_100 : decode prog_1_method_7_code 100 = .ok (.getfield 117, 3) := by decide +kernel
theorem dKe_task_103 : decode prog_1_method_7_code 103 = .ok (.ireturn, 1) := by decide +kernel
theorem dKe_task_104 : decode prog_1_method_7_code 104 = .ok (.aload_n 3, 1) := by decide +kernel
theorem dKe_task_105 : decode prog_1_method_7_code 105 = .ok (.getfield 120, 3) := by decide +kernel
theorem dKe_task_108 : decode prog_1_method_7_code 108 = .ok (.ireturn, 1) := by decide +kernel
theorem dKe_task_109 : decode prog_1_method_7_code 109 = .ok (.aload_n 3, 1) := by decide +kernel
theorem dKe_task_110 : decode prog_1_method_7_code 110 = .ok (.getfield 123, 3) := by decide +kernel
theorem dKe_task_113 : decode prog_1_method_7_code 113 = .ok (.ireturn, 1) := by decide +kernel
theorem dKe_task_114 : decode prog_1_method_7_code 114 = .ok (.aload_n 3, 1) := by decide +kernel
theorem dKe_task_115 : decode prog_1_method_7_code 115 = .ok (.invokevirtual 126, 3) := by decide +kernel
theorem dKe_task_118 : decode prog_1_method_7_code 118 = .ok (.ifCond .eq 7, 3) := by decide +kernel
theorem dKe_task_121 : decode prog_1_method_7_code 121 = .ok (.iconst 1, 1) := by decide +kernel
theorem dKe_task_122 : decode prog_1_method_7_code 122 = .ok (.goto 4, 3) := by decide +kernel
theorem dKe_task_125 : decode prog_1_method_7_code 125 = .ok (.iconst 0, 1) := by decide +kernel
theorem dKe_task_126 : decode prog_1_method_7_code 126 = .ok (.ireturn, 1) := by decide +kernel
theorem dKe_task_127 : decode prog_1_method_7_code 127 = .ok (.iconst (-1), 1) := by decide +kernel
theorem dKe_task_128 : decode prog_1_method_7_code 128 = .ok (.ireturn, 1) := by decide +kernel
set_option maxHeartbeats 4000000 in
set_option maxRecDepth 100000 in
theorem wKe_task_0 {l : Launch} {G : ek_G} {kd : Nat → Nat} {p : Program} {e : Env} {s : State} {m : MethodId} {args : Array Value} {below : List Frame} {meth : Method} {c : Code} (X : ek_X p s m meth c args G prog_1_method_7_code 4 "ElasticKernel" (some .int)) {q : ek_St × Int32} {I : ek_St} {x0 : Nat} {i1 : Int32} {i2 : Int32} (hf : fKe_task_0 kd I x0 i1 i2 = some q) {H : Heap} {locs : List Loc} {ls : Array Slot} (hw : ek_W G kd I H) (hS : va_S (ek_A G kd) s.heap H locs) (hl : lv_has ls 4 [(0, ek_r G x0), (1, .int i1), (2, .int i2)]) : W p l e ({ frames := 3, cells := 0, slots := 0, locals := 76 } : Room) s m args below meth c H locs 0 0 (MQ below (ek_Q G kd (some (.int q.2)) q.1) args s 0 0 (ek_A G kd)) (F0 m 0 ls []) := by
  obtain ⟨hx, hb, hml, hown, hts, hr, hlocks, hK⟩ := id X
  have hA : ∀ q, ek_A G kd q → ek_A G kd q := fun _ h => h
  unfold fKe_task_0 at hf
  refine ek_aload_n hx hb dKe_task_0 rfl (lv_at hl 0 rfl) ?_
  refine ek_getr hx hb 7 hts (in_Ke) hown hK hw rfl (by decide) (by decide) 0 (by decide) (n := 0) rfl rfl (hts _ q_193) hf dKe_task_1 (fun hf => ?_)
  refine lv_iload_n hx hb dKe_task_4 rfl (lv_at hl 1 rfl) ?_
  obtain ⟨hx2, hf⟩ := ek_ck_s hf
  refine ek_cr hf hS hA (fun I' v hq => ek_rV (As := [.int i1]) ⟨hx, hb, hml, hown, hts⟩ hK hw 4 rfl (by decide) (by decide) hx2 (mRo_find hq) (cwV 1 hts (lw_V q_417 q_233 q_234 q_2 q_235) rfl rfl rfl (by decide +kernel) ⟨Nat.le_of_ble_eq_true rfl, Nat.le_of_ble_eq_true rfl⟩) rfl hl.1 rfl (Nat.le_of_ble_eq_true rfl) dKe_task_5 ⟨Nat.zero_le _, Nat.zero_le _⟩) (fun I1 xr3 H locs hf hw hS => ?_)
  refine ek_astore_n (lv' := [(3, ek_r G xr3), (2, .int i2), (0, ek_r G x0), (1, .int i1)]) hx hb dKe_task_8 rfl hl (by decide) (ek_s1k 2 rfl rfl rfl ek_r_cat rfl) (fun ls hl => ?_)
  refine ek_aload_n hx hb dKe_task_9 rfl (lv_at hl 0 rfl) ?_
  refine ek_ifnonnull (tgt := 15) hx hb dKe_task_10 (by decide) (fun c4 => ?_) (fun c4 => ?_)
  · have hf := ek_f c4 hf
    refine lv_iload_n hx hb dKe_task_15 rfl (lv_at hl 1 rfl) ?_
    by_cases c5 : i2 = (0 : Int32)
    · have hf := ek_t c5 hf
      refine lv_tableIn (tgt := 64) hx hb dKe_task_16 (by rw [c5]; decide) (by rw [c5]; decide) (off := 48) (by rw [c5]; rfl) (by decide) ?_
      refine ek_aload_n hx hb dKe_task_64 rfl (lv_at hl 0 rfl) ?_
      refine ek_getiN hx hb 6 hts (in_Ta) hown hK hw rfl (by decide) (by decide) 5 (by decide) rfl (va_Nw.use rfl (hK.2 _ n_85)) hf dKe_task_65 (fun hf => ?_)
      exact ek_iret hx hb hr hlocks hw hS hf dKe_task_68
    have hf := ek_f c5 hf
    by_cases c6 : i2 = (1 : Int32)
    · have hf := ek_t c6 hf
      refine lv_tableIn (tgt := 69) hx hb dKe_task_16 (by rw [c6]; decide) (by rw [c6]; decide) (off := 53) (by rw [c6]; rfl) (by decide) ?_
      refine ek_aload_n hx hb dKe_task_69 rfl (lv_at hl 0 rfl) ?_
      refine ek_getiN hx hb 6 hts (in_Ta) hown hK hw rfl (by decide) (by decide) 6 (by decide) rfl (va_Nw.use rfl (hK.2 _ n_87)) hf dKe_task_70 (fun hf => ?_)
      exact ek_iret hx hb hr hlocks hw hS hf dKe_task_73
    have hf := ek_f c6 hf
    by_cases c7 : i2 = (2 : Int32)
    · have hf := ek_t c7 hf
      refine lv_tableIn (tgt := 74) hx hb dKe_task_16 (by rw [c7]; decide) (by rw [c7]; decide) (off := 58) (by rw [c7]; rfl) (by decide) ?_
      refine ek_aload_n hx hb dKe_task_74 rfl (lv_at hl 0 rfl) ?_
      refine ek_getiN hx hb 6 hts (in_Ta) hown hK hw rfl (by decide) (by decide) 5 (by decide) rfl (va_Nw.use rfl (hK.2 _ n_85)) hf dKe_task_75 (fun hf => ?_)
      refine lv_iconst (v := (2 : Int32)) hx hb dKe_task_78 (by decide) ?_
      refine lv_icmp_ne (tgt := 89) hx hb dKe_task_79 (by decide) (fun c8 => ?_) (fun c8 => ?_)
      · have hf := ek_f c8 hf
        refine ek_aload_n hx hb dKe_task_89 rfl (lv_at hl 0 rfl) ?_
        refine ek_getiN hx hb 6 hts (in_Ta) hown hK hw rfl (by decide) (by decide) 7 (by decide) rfl (va_Nw.use rfl (hK.2 _ n_89)) hf dKe_task_90 (fun hf => ?_)
        exact ek_iret hx hb hr hlocks hw hS hf dKe_task_93
      · have hf := ek_t c8 hf
        refine ek_aload_n hx hb dKe_task_82 rfl (lv_at hl 0 rfl) ?_
        refine ek_getiN hx hb 6 hts (in_Ta) hown hK hw rfl (by decide) (by decide) 6 (by decide) rfl (va_Nw.use rfl (hK.2 _ n_87)) hf dKe_task_83 (fun hf => ?_)
        refine lv_goto (tgt := 93) hx hb dKe_task_86 (by decide) ?_
        exact ek_iret hx hb hr hlocks hw hS hf dKe_task_93
    have hf := ek_f c7 hf
    by_cases c9 : i2 = (3 : Int32)
    · have hf := ek_t c9 hf
      refine lv_tableIn (tgt := 94) hx hb dKe_task_16 (by rw [c9]; decide) (by rw [c9]; decide) (off := 78) (by rw [c9]; rfl) (by decide) ?_
      refine ek_aload_n hx hb dKe_task_94 rfl (lv_at hl 0 rfl) ?_
      refine ek_getiN hx hb 6 hts (in_Ta) hown hK hw rfl (by decide) (by decide) 8 (by decide) rfl (va_Nw.use rfl (hK.2 _ n_92)) hf dKe_task_95 (fun hf => ?_)
      exact ek_iret hx hb hr hlocks hw hS hf dKe_task_98
    have hf := ek_f c9 hf
    by_cases c10 : i2 = (4 : Int32)
    · have hf := ek_t c10 hf
      refine lv_tableIn (tgt := 99) hx hb dKe_task_16 (by rw [c10]; decide) (by rw [c10]; decide) (off := 83) (by rw [c10]; rfl) (by decide) ?_
      refine ek_aload_n hx hb dKe_task_99 rfl (lv_at hl 0 rfl) ?_
      refine ek_getiN hx hb 6 hts (in_Ta) hown hK hw rfl (by decide) (by decide) 9 (by decide) rfl (va_Nw.use rfl (hK.2 _ n_94)) hf dKe_task_100 (fun hf => ?_)
      exact ek_iret hx hb hr hlocks hw hS hf dKe_task_103
    have hf := ek_f c10 hf
    by_cases c11 : i2 = (5 : Int32)
    · have hf := ek_t c11 hf
      refine lv_tableIn (tgt := 104) hx hb dKe_task_16 (by rw [c11]; decide) (by rw [c11]; decide) (off := 88) (by rw [c11]; rfl) (by decide) ?_
      refine ek_aload_n hx hb dKe_task_104 rfl (lv_at hl 0 rfl) ?_
      refine ek_getiN hx hb 6 hts (in_Ta) hown hK hw rfl (by decide) (by decide) 11 (by decide) rfl (va_Nw.use rfl (hK.2 _ n_98)) hf dKe_task_105 (fun hf => ?_)
      exact ek_iret hx hb hr hlocks hw hS hf dKe_task_108
    have hf := ek_f c11 hf
    by_cases c12 : i2 = (6 : Int32)
    · have hf := ek_t c12 hf
      refine lv_tableIn (tgt := 109) hx hb dKe_task_16 (by rw [c12]; decide) (by rw [c12]; decide) (off := 93) (by rw [c12]; rfl) (by decide) ?_
      refine ek_aload_n hx hb dKe_task_109 rfl (lv_at hl 0 rfl) ?_
      refine ek_getiN hx hb 6 hts (in_Ta) hown hK hw rfl (by decide) (by decide) 12 (by decide) rfl (va_Nw.use rfl (hK.2 _ n_100)) hf dKe_task_110 (fun hf => ?_)
      exact ek_iret hx hb hr hlocks hw hS hf dKe_task_113
    have hf := ek_f c12 hf
    by_cases c13 : i2 = (7 : Int32)
    · have hf := ek_t c13 hf
      refine lv_tableIn (tgt := 114) hx hb dKe_task_16 (by rw [c13]; decide) (by rw [c13]; decide) (off := 98) (by rw [c13]; rfl) (by decide) ?_
      refine ek_aload_n hx hb dKe_task_114 rfl (lv_at hl 0 rfl) ?_
      obtain ⟨hx15, hf⟩ := ek_ck_s hf
      refine ek_ci hf hS hA (fun I' v hq => ek_rV (As := []) ⟨hx, hb, hml, hown, hts⟩ hK hw 6 rfl (by decide) (by decide) hx15 (mTa_isPressedFlat hq) (cwV 0 hts (lw_V q_430 q_431 q_432 q_3 q_433) rfl rfl rfl (by decide +kernel) ⟨Nat.le_of_ble_eq_true rfl, Nat.le_of_ble_eq_true rfl⟩) rfl hl.1 rfl (Nat.le_of_ble_eq_true rfl) dKe_task_115 ⟨Nat.zero_le _, Nat.zero_le _⟩) (fun I14 ir16 H locs hf hw hS => ?_)
      refine lv_if_eq (tgt := 125) hx hb dKe_task_118 (by decide) (fun c17 => ?_) (fun c17 => ?_)
      · have hf := ek_t c17 hf
        refine lv_iconst (v := (0 : Int32)) hx hb dKe_task_125 (by decide) ?_
        exact ek_iret hx hb hr hlocks hw hS hf dKe_task_126
      · have hf := ek_f c17 hf
        refine lv_iconst (v := (1 : Int32)) hx hb dKe_task_121 (by decide) ?_
        refine lv_goto (tgt := 126) hx hb dKe_task_122 (by decide) ?_
        exact ek_iret hx hb hr hlocks hw hS hf dKe_task_126
    have hf := ek_f c13 hf
    refine lv_tableOut (tgt := 127) hx hb dKe_task_16 (by have := lv_neT c5 (a := 0) (by decide); have := lv_neT c6 (a := 1) (by decide); have := lv_neT c7 (a := 2) (by decide); have := lv_neT c9 (a := 3) (by decide); have := lv_neT c10 (a := 4) (by decide); have := lv_neT c11 (a := 5) (by decide); have := lv_neT c12 (a := 6) (by decide); have := lv_neT c13 (a := 7) (by decide); omega) (by decide) ?_
    refine lv_iconst (v := (-1 : Int32)) hx hb dKe_task_127 (by decide) ?_
    exact ek_iret hx hb hr hlocks hw hS hf dKe_task_128
  · have hf := ek_t c4 hf
    refine lv_iconst (v := (-1 : Int32)) hx hb dKe_task_13 (by decide) ?_
    exact ek_iret hx hb hr hlocks hw hS hf dKe_task_14
set_option maxHeartbeats 4000000 in
set_option maxRecDepth 100000 in
theorem mKe_task {l : Launch} {G : ek_G} {kd : Nat → Nat} {I : ek_St} {x0 : Nat} {i1 : Int32} {i2 : Int32} {q : ek_St × Int32} (hf : fKe_task kd I x0 i1 i2 = some q) : ek_M l G kd y_Ke_task (.code y_Ke_task prog_1_method_7_code 4 (some .int) :: lw_g) ({ frames := 3, cells := 0, slots := 0, locals := 76 } : Room) [ek_r G x0, .int i1, .int i2] I (some (.int q.2)) q.1 :=
  ek_body [(0, ek_r G x0), (1, .int i1), (2, .int i2)] (by decide) (by simp [lg_sl, ek_r_cat, ek_c_i, ek_c_l]) (by simp [lv_args, ek_r_cat, ek_c_i, ek_c_l]) (fun p e s m below meth c ls X hw hS hl => wKe_task_0 X hf hw hS hl)
