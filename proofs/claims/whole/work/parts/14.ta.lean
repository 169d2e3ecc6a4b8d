/-! ElasticKernel$Task.isSolved()Z -/
def fTa_isSolved_0 (kd : Nat → Nat) (I : ek_St) (x0 : Nat) : Option (ek_St × Int32) :=
  ek_ck (kd x0 = 6) (if (I x0 5) = ((2 : Int32)) then (ek_ck (((0 : Int32)) = (0 : Int32) ∨ ((0 : Int32)) = (1 : Int32)) (some (I, (0 : Int32)))) else (ek_ck (((1 : Int32)) = (0 : Int32) ∨ ((1 : Int32)) = (1 : Int32)) (some (I, (1 : Int32)))))
def fTa_isSolved (kd : Nat → Nat) (I : ek_St) (x0 : Nat) : Option (ek_St × Int32) := fTa_isSolved_0 kd I x0
theorem dTa_isSolved_0 : decode prog_7_method_3_code 0 = .ok (.aload_n 0, 1) := by decide +kernel
theorem dTa_isSolved_1 : decode prog_7_method_3_code 1 = .ok (.getfield 31, 3) := by decide +kernel
theorem dTa_isSolved_4 : decode prog_7_method_3_code 4 = .ok (.iconst 2, 1) := by decide +kernel
theorem dTa_isSolved_5 : decode prog_7_method_3_code 5 = .ok (.if_icmp .eq 7, 3) := by decide +kernel
theorem dTa_isSolved_8 : decode prog_7_method_3_code 8 = .ok (.iconst 1, 1) := by decide +kernel
theorem dTa_isSolved_9 : decode prog_7_method_3_code 9 = .ok (.goto 4, 3) := by decide +kernel
theorem dTa_isSolved_12 : decode prog_7_method_3_code 12 = .ok (.iconst 0, 1) := by decide +kernel
theorem dTa_isSolved_13 : decode prog_7_method_3_code 13 = .ok (.ireturn, 1) := by decide +kernel
set_option maxHeartbeats 4000000 in
set_option maxRecDepth 100000 in
theorem wTa_isSolved_0 {l : Launch} {G : ek_G} {kd : Nat → Nat} {p : Program} {e : Env} {s : State} {m : MethodId} {args : Array Value} {below : List Frame} {meth : Method} {c : Code} (X : ek_X p s m meth c args G prog_7_method_3_code 1 "ElasticKernel$Task" (some .boolean)) {q : ek_St × Int32} {I : ek_St} {x0 : Nat} (hf : fTa_isSolved_0 kd I x0 = some q) {H : Heap} {locs : List Loc} {ls : Array Slot} (hw : ek_W G kd I H) (hS : va_S (ek_A G kd) s.heap H locs) (hl : lv_has ls 1 [(0, ek_r G x0)]) : W p l e ({ frames := 0, cells := 0, slots := 0, locals := 0 } : Room) s m args below meth c H locs 0 0 (MQ below (ek_Q G kd (some (.int q.2)) q.1) args s 0 0 (ek_A G kd)) (F0 m 0 ls []) := by
  obtain ⟨hx, hb, hml, hown, hts, hr, hlocks, hK⟩ := id X
  have hA : ∀ q, ek_A G kd q → ek_A G kd q := fun _ h => h
  unfold fTa_isSolved_0 at hf
  refine ek_aload_n hx hb dTa_isSolved_0 rfl (lv_at hl 0 rfl) ?_
  refine ek_geti hx hb 6 hts (in_Ta) hown hK hw rfl (by decide) (by decide) 5 (by decide) rfl (hts _ q_84) hf dTa_isSolved_1 (fun hf => ?_)
  refine lv_iconst (v := (2 : Int32)) hx hb dTa_isSolved_4 (by decide) ?_
  refine lv_icmp_eq (tgt := 12) hx hb dTa_isSolved_5 (by decide) (fun c1 => ?_) (fun c1 => ?_)
  · have hf := ek_t c1 hf
    refine lv_iconst (v := (0 : Int32)) hx hb dTa_isSolved_12 (by decide) ?_
    exact ek_zret hx hb hr hlocks hw hS hf dTa_isSolved_13
  · have hf := ek_f c1 hf
    refine lv_iconst (v := (1 : Int32)) hx hb dTa_isSolved_8 (by decide) ?_
    refine lv_goto (tgt := 13) hx hb dTa_isSolved_9 (by decide) ?_
    exact ek_zret hx hb hr hlocks hw hS hf dTa_isSolved_13
set_option maxHeartbeats 4000000 in
set_option maxRecDepth 100000 in
theorem mTa_isSolved {l : Launch} {G : ek_G} {kd : Nat → Nat} {I : ek_St} {x0 : Nat} {q : ek_St × Int32} (hf : fTa_isSolved kd I x0 = some q) : ek_M l G kd y_Ta_isSolved (.code y_Ta_isSolved prog_7_method_3_code 1 (some .boolean) :: lw_g) ({ frames := 0, cells := 0, slots := 0, locals := 0 } : Room) [ek_r G x0] I (some (.int q.2)) q.1 :=
  ek_body [(0, ek_r G x0)] (by decide) (by simp [lg_sl, ek_r_cat, ek_c_i, ek_c_l]) (by simp [lv_args, ek_r_cat, ek_c_i, ek_c_l]) (fun p e s m below meth c ls X hw hS hl => wTa_isSolved_0 X hf hw hS hl)
/-! ElasticKernel$Task.holdsUpChange()Z -/
def fTa_holdsUpChange_27 (kd : Nat → Nat) (I : ek_St) : Option (ek_St × Int32) :=
  ek_ck (((1 : Int32)) = (0 : Int32) ∨ ((1 : Int32)) = (1 : Int32)) (some (I, (1 : Int32)))
def fTa_holdsUpChange_31 (kd : Nat → Nat) (I : ek_St) : Option (ek_St × Int32) :=
  ek_ck (((0 : Int32)) = (0 : Int32) ∨ ((0 : Int32)) = (1 : Int32)) (some (I, (0 : Int32)))
def fTa_holdsUpChange_0 (kd : Nat → Nat) (I : ek_St) (x0 : Nat) : Option (ek_St × Int32) :=
  ek_ck (kd x0 = 6) (if (I x0 5) = ((2 : Int32)) then (fTa_holdsUpChange_27 kd I) else (ek_ck (kd x0 = 6) (if (I x0 5) = ((1 : Int32)) then (ek_ck (kd x0 = 6) (ek_ck (kd x0 = 6) (if (I x0 7) ≤ (I x0 6) then (fTa_holdsUpChange_31 kd I) else (fTa_holdsUpChange_27 kd I)))) else (fTa_holdsUpChange_31 kd I))))
def fTa_holdsUpChange (kd : Nat → Nat) (I : ek_St) (x0 : Nat) : Option (ek_St × Int32) := fTa_holdsUpChange_0 kd I x0
theorem dTa_holdsUpChange_0 : decode prog_7_method_4_code 0 = .ok (.aload_n 0, 1) := by decide +kernel
theorem dTa_holdsUpChange_1 : decode prog_7_method_4_code 1 = .ok (.getfield 31, 3) := by decide +kernel
theorem dTa_holdsUpChange_4 : decode prog_7_method_4_code 4 = .ok (.iconst 2, 1) := by decide +kernel
theorem dTa_holdsUpChange_5 : decode prog_7_method_4_code 5 = .ok (.if_icmp .eq 22, 3) := by decide +kernel
theorem dTa_holdsUpChange_8 : decode prog_7_method_4_code 8 = .ok (.aload_n 0, 1) := by decide +kernel
theorem dTa_holdsUpChange_9 : decode prog_7_method_4_code 9 = .ok (.getfield 31, 3) := by decide +kernel
theorem dTa_holdsUpChange_12 : decode prog_7_method_4_code 12 = .ok (.iconst 1, 1) := by decide +kernel
theorem dTa_holdsUpChange_13 : decode prog_7_method_4_code 13 = .ok (.if_icmp .ne 18, 3) := by decide +kernel
theorem dTa_holdsUpChange_16 : decode prog_7_method_4_code 16 = .ok (.aload_n 0, 1) := by decide +kernel
theorem dTa_holdsUpChange_17 : decode prog_7_method_4_code 17 = .ok (.getfield 52, 3) := by decide +kernel
theorem dTa_holdsUpChange_20 : decode prog_7_method_4_code 20 = .ok (.aload_n 0, 1) := by decide +kernel
theorem dTa_holdsUpChange_21 : decode prog_7_method_4_code 21 = .ok (.getfield 34, 3) := by decide +kernel
theorem dTa_holdsUpChange_24 : decode prog_7_method_4_code 24 = .ok (.if_icmp .le 7, 3) := by decide +kernel
theorem dTa_holdsUpChange_27 : decode prog_7_method_4_code 27 = .ok (.iconst 1, 1) := by decide +kernel
theorem dTa_holdsUpChange_28 : decode prog_7_method_4_code 28 = .ok (.goto 4, 3) := by decide +kernel
theorem dTa_holdsUpChange_31 : decode prog_7_method_4_code 31 = .ok (.iconst 0, 1) := by decide +kernel
theorem dTa_holdsUpChange_32 : decode prog_7_method_4_code 32 = .ok (.ireturn, 1) := by decide +kernel
set_option maxHeartbeats 4000000 in
set_option maxRecDepth 100000 in
theorem wTa_holdsUpChange_27 {l : Launch} {G : ek_G} {kd : Nat → Nat} {p : Program} {e : Env} {s : State} {m : MethodId} {args : Array Value} {below : List Frame} {meth : Method} {c : Code} (X : ek_X p s m meth c args G prog_7_method_4_code 1 "ElasticKernel$Task" (some .boolean)) {q : ek_St × Int32} {I : ek_St} (hf : fTa_holdsUpChange_27 kd I = some q) {H : Heap} {locs : List Loc} {ls : Array Slot} (hw : ek_W G kd I H) (hS : va_S (ek_A G kd) s.heap H locs) (hl : lv_has ls 1 []) : W p l e ({ frames := 0, cells := 0, slots := 0, locals := 0 } : Room) s m args below meth c H locs 0 0 (MQ below (ek_Q G kd (some (.int q.2)) q.1) args s 0 0 (ek_A G kd)) (F0 m 27 ls []) := by
  obtain ⟨hx, hb, hml, hown, hts, hr, hlocks, hK⟩ := id X
  have hA : ∀ q, ek_A G kd q → ek_A G kd q := fun _ h => h
  unfold fTa_holdsUpChange_27 at hf
  refine lv_iconst (v := (1 : Int32)) hx hb dTa_holdsUpChange_27 (by decide) ?_
  refine lv_goto (tgt := 32) hx hb dTa_holdsUpChange_28 (by decide) ?_
  exact ek_zret hx hb hr hlocks hw hS hf dTa_holdsUpChange_32
set_option maxHeartbeats 4000000 in
set_option maxRecDepth 100000 in
theorem wTa_holdsUpChange_31 {l : Launch} {G : ek_G} {kd : Nat → Nat} {p : Program} {e : Env} {s : State} {m : MethodId} {args : Array Value} {below : List Frame} {meth : Method} {c : Code} (X : ek_X p s m meth c args G prog_7_method_4_code 1 "ElasticKernel$Task" (some .boolean)) {q : ek_St × Int32} {I : ek_St} (hf : fTa_holdsUpChange_31 kd I = some q) {H : Heap} {locs : List Loc} {ls : Array Slot} (hw : ek_W G kd I H) (hS : va_S (ek_A G kd) s.heap H locs) (hl : lv_has ls 1 []) : W p l e ({ frames := 0, cells := 0, slots := 0, locals := 0 } : Room) s m args below meth c H locs 0 0 (MQ below (ek_Q G kd (some (.int q.2)) q.1) args s 0 0 (ek_A G kd)) (F0 m 31 ls []) := by
  obtain ⟨hx, hb, hml, hown, hts, hr, hlocks, hK⟩ := id X
  have hA : ∀ q, ek_A G kd q → ek_A G kd q := fun _ h => h
  unfold fTa_holdsUpChange_31 at hf
  refine lv_iconst (v := (0 : Int32)) hx hb dTa_holdsUpChange_31 (by decide) ?_
  exact ek_zret hx hb hr hlocks hw hS hf dTa_holdsUpChange_32
set_option maxHeartbeats 4000000 in
set_option maxRecDepth 100000 in
theorem wTa_holdsUpChange_0 {l : Launch} {G : ek_G} {kd : Nat → Nat} {p : Program} {e : Env} {s : State} {m : MethodId} {args : Array Value} {below : List Frame} {meth : Method} {c : Code} (X : ek_X p s m meth c args G prog_7_method_4_code 1 "ElasticKernel$Task" (some .boolean)) {q : ek_St × Int32} {I : ek_St} {x0 : Nat} (hf : fTa_holdsUpChange_0 kd I x0 = some q) {H : Heap} {locs : List Loc} {ls : Array Slot} (hw : ek_W G kd I H) (hS : va_S (ek_A G kd) s.heap H locs) (hl : lv_has ls 1 [(0, ek_r G x0)]) : W p l e ({ frames := 0, cells := 0, slots := 0, locals := 0 } : Room) s m args below meth c H locs 0 0 (MQ below (ek_Q G kd (some (.int q.2)) q.1) args s 0 0 (ek_A G kd)) (F0 m 0 ls []) := by
  obtain ⟨hx, hb, hml, hown, hts, hr, hlocks, hK⟩ := id X
  have hA : ∀ q, ek_A G kd q → ek_A G kd q := fun _ h => h
  unfold fTa_holdsUpChange_0 at hf
  refine ek_aload_n hx hb dTa_holdsUpChange_0 rfl (lv_at hl 0 rfl) ?_
  refine ek_geti hx hb 6 hts (in_Ta) hown hK hw rfl (by decide) (by decide) 5 (by decide) rfl (hts _ q_84) hf dTa_holdsUpChange_1 (fun hf => ?_)
  refine lv_iconst (v := (2 : Int32)) hx hb dTa_holdsUpChange_4 (by decide) ?_
  refine lv_icmp_eq (tgt := 27) hx hb dTa_holdsUpChange_5 (by decide) (fun c1 => ?_) (fun c1 => ?_)
  · have hf := ek_t c1 hf
    exact wTa_holdsUpChange_27 X hf hw hS (lv_sub hl [] rfl)
  · have hf := ek_f c1 hf
    refine ek_aload_n hx hb dTa_holdsUpChange_8 rfl (lv_at hl 0 rfl) ?_
    refine ek_geti hx hb 6 hts (in_Ta) hown hK hw rfl (by decide) (by decide) 5 (by decide) rfl (hts _ q_84) hf dTa_holdsUpChange_9 (fun hf => ?_)
    refine lv_iconst (v := (1 : Int32)) hx hb dTa_holdsUpChange_12 (by decide) ?_
    refine lv_icmp_ne (tgt := 31) hx hb dTa_holdsUpChange_13 (by decide) (fun c2 => ?_) (fun c2 => ?_)
    · have hf := ek_f c2 hf
      exact wTa_holdsUpChange_31 X hf hw hS (lv_sub hl [] rfl)
    · have hf := ek_t c2 hf
      refine ek_aload_n hx hb dTa_holdsUpChange_16 rfl (lv_at hl 0 rfl) ?_
      refine ek_geti hx hb 6 hts (in_Ta) hown hK hw rfl (by decide) (by decide) 7 (by decide) rfl (hts _ q_88) hf dTa_holdsUpChange_17 (fun hf => ?_)
      refine ek_aload_n hx hb dTa_holdsUpChange_20 rfl (lv_at hl 0 rfl) ?_
      refine ek_geti hx hb 6 hts (in_Ta) hown hK hw rfl (by decide) (by decide) 6 (by decide) rfl (hts _ q_86) hf dTa_holdsUpChange_21 (fun hf => ?_)
      refine lv_icmp_le (tgt := 31) hx hb dTa_holdsUpChange_24 (by decide) (fun c3 => ?_) (fun c3 => ?_)
      · have hf := ek_t c3 hf
        exact wTa_holdsUpChange_31 X hf hw hS (lv_sub hl [] rfl)
      · have hf := ek_f c3 hf
        exact wTa_holdsUpChange_27 X hf hw hS (lv_sub hl [] rfl)
set_option maxHeartbeats 4000000 in
set_option maxRecDepth 100000 in
theorem mTa_holdsUpChange {l : Launch} {G : ek_G} {kd : Nat → Nat} {I : ek_St} {x0 : Nat} {q : ek_St × Int32} (hf : fTa_holdsUpChange kd I x0 = some q) : ek_M l G kd y_Ta_holdsUpChange (.code y_Ta_holdsUpChange prog_7_method_4_code 1 (some .boolean) :: lw_g) ({ frames := 0, cells := 0, slots := 0, locals := 0 } : Room) [ek_r G x0] I (some (.int q.2)) q.1 :=
  ek_body [(0, ek_r G x0)] (by decide) (by simp [lg_sl, ek_r_cat, ek_c_i, ek_c_l]) (by simp [lv_args, ek_r_cat, ek_c_i, ek_c_l]) (fun p e s m below meth c ls X hw hS hl => wTa_holdsUpChange_0 X hf hw hS hl)
/-! ElasticKernel$Task.announce(IIII)V -/
def fTa_announce_0 (kd : Nat → Nat) (I : ek_St) (x0 : Nat) (i1 : Int32) (i2 : Int32) (i3 : Int32) (i4 : Int32) : Option (ek_St) :=
  ek_ck (kd x0 = 6) (ek_let (ek_up I x0 1 i1) (fun I1 => ek_ck (kd x0 = 6) (ek_let (ek_up I1 x0 2 i2) (fun I2 => ek_ck (kd x0 = 6) (ek_let (ek_up I2 x0 3 i3) (fun I3 => ek_ck (kd x0 = 6) (ek_let (ek_up I3 x0 4 i4) (fun I4 => ek_ck (kd x0 = 6) (ek_let (ek_up I4 x0 5 ((0 : Int32))) (fun I5 => ek_ck (kd x0 = 6) (ek_let (ek_up I5 x0 6 ((0 : Int32))) (fun I6 => ek_ck (kd x0 = 6) (ek_let (ek_up I6 x0 8 ((0 : Int32))) (fun I7 => ek_ck (kd x0 = 6) (ek_let (ek_up I7 x0 9 ((0 : Int32))) (fun I8 => ek_ck (kd x0 = 6) (ek_let (ek_up I8 x0 10 ((-1 : Int32))) (fun I9 => ek_ck (kd x0 = 6) (ek_let (ek_up I9 x0 11 ((0 : Int32))) (fun I10 => ek_ck (kd x0 = 6) (ek_let (ek_up I10 x0 12 ((0 : Int32))) (fun I11 => some I11))))))))))))))))))))))
def fTa_announce (kd : Nat → Nat) (I : ek_St) (x0 : Nat) (i1 : Int32) (i2 : Int32) (i3 : Int32) (i4 : Int32) : Option (ek_St) := fTa_announce_0 kd I x0 i1 i2 i3 i4
theorem dTa_announce_0 : decode prog_7_method_2_code 0 = .ok (.aload_n 0, 1) := by decide +kernel
theorem dTa_announce_1 : decode prog_7_method_2_code 1 = .ok (.iload_n 1, 1) := by decide +kernel
theorem dTa_announce_2 : decode prog_7_method_2_code 2 = .ok (.putfield 18, 3) := by decide +kernel
theorem dTa_announce_5 : decode prog_7_method_2_code 5 = .ok (.aload_n 0, 1) := by decide +kernel
theorem dTa_announce_6 : decode prog_7_method_2_code 6 = .ok (.iload_n 2, 1) := by decide +kernel
theorem dTa_announce_7 : decode prog_7_method_2_code 7 = .ok (.putfield 22, 3) := by decide +kernel
theorem dTa_announce_10 : decode prog_7_method_2_code 10 = .ok (.aload_n 0, 1) := by decide +kernel
theorem dTa_announce_11 : decode prog_7_method_2_code 11 = .ok (.iload_n 3, 1) := by decide +kernel
theorem dTa_announce_12 : decode prog_7_method_2_code 12 = .ok (.putfield 25, 3) := by decide +kernel
theorem dTa_announce_15 : decode prog_7_method_2_code 15 = .ok (.aload_n 0, 1) := by decide +kernel
theorem dTa_announce_16 : decode prog_7_method_2_code 16 = .ok (.iload 4, 2) := by decide +kernel
theorem dTa_announce_18 : decode prog_7_method_2_code 18 = .ok (.putfield 28, 3) := by decide +kernel
theorem dTa_announce_21 : decode prog_7_method_2_code 21 = .ok (.aload_n 0, 1) := by decide +kernel
theorem dTa_announce_22 : decode prog_7_method_2_code 22 = .ok (.iconst 0, 1) := by decide +kernel
theorem dTa_announce_23 : decode prog_7_method_2_code 23 = .ok (.putfield 31, 3) := by decide +kernel
theorem dTa_announce_26 : decode prog_7_method_2_code 26 = .ok (.aload_n 0, 1) := by decide +kernel
theorem dTa_announce_27 : decode prog_7_method_2_code 27 = .ok (.iconst 0, 1) := by decide +kernel
theorem dTa_announce_28 : decode prog_7_method_2_code 28 = .ok (.putfield 34, 3) := by decide +kernel
theorem dTa_announce_31 : decode prog_7_method_2_code 31 = .ok (.aload_n 0, 1) := by decide +kernel
theorem dTa_announce_32 : decode prog_7_method_2_code 32 = .ok (.iconst 0, 1) := by decide +kernel
theorem dTa_announce_33 : decode prog_7_method_2_code 33 = .ok (.putfield 37, 3) := by decide +kernel
theorem dTa_announce_36 : decode prog_7_method_2_code 36 = .ok (.aload_n 0, 1) := by decide +kernel
theorem dTa_announce_37 : decode prog_7_method_2_code 37 = .ok (.iconst 0, 1) := by decide +kernel
theorem dTa_announce_38 : decode prog_7_method_2_code 38 = .ok (.putfield 40, 3) := by decide +kernel
theorem dTa_announce_41 : decode prog_7_method_2_code 41 = .ok (.aload_n 0, 1) := by decide +kernel
theorem dTa_announce_42 : decode prog_7_method_2_code 42 = .ok (.iconst (-1), 1) := by decide +kernel
theorem dTa_announce_43 : decode prog_7_method_2_code 43 = .ok (.putfield 43, 3) := by decide +kernel
theorem dTa_announce_46 : decode prog_7_method_2_code 46 = .ok (.aload_n 0, 1) := by decide +kernel
theorem dTa_announce_47 : decode prog_7_method_2_code 47 = .ok (.iconst 0, 1) := by decide +kernel
theorem dTa_announce_48 : decode prog_7_method_2_code 48 = .ok (.putfield 46, 3) := by decide +kernel
theorem dTa_announce_51 : decode prog_7_method_2_code 51 = .ok (.aload_n 0, 1) := by decide +kernel
theorem dTa_announce_52 : decode prog_7_method_2_code 52 = .ok (.iconst 0, 1) := by decide +kernel
theorem dTa_announce_53 : decode prog_7_method_2_code 53 = .ok (.putfield 49, 3) := by decide +kernel
theorem dTa_announce_56 : decode prog_7_method_2_code 56 = .ok (.return_, 1) := by decide +kernel
set_option maxHeartbeats 4000000 in
set_option maxRecDepth 100000 in
theorem wTa_announce_0 {l : Launch} {G : ek_G} {kd : Nat → Nat} {p : Program} {e : Env} {s : State} {m : MethodId} {args : Array Value} {below : List Frame} {meth : Method} {c : Code} (X : ek_X p s m meth c args G prog_7_method_2_code 5 "ElasticKernel$Task" none) {q : ek_St} {I : ek_St} {x0 : Nat} {i1 : Int32} {i2 : Int32} {i3 : Int32} {i4 : Int32} (hf : fTa_announce_0 kd I x0 i1 i2 i3 i4 = some q) {H : Heap} {locs : List Loc} {ls : Array Slot} (hw : ek_W G kd I H) (hS : va_S (ek_A G kd) s.heap H locs) (hl : lv_has ls 5 [(0, ek_r G x0), (1, .int i1), (2, .int i2), (3, .int i3), (4, .int i4)]) : W p l e ({ frames := 0, cells := 0, slots := 0, locals := 0 } : Room) s m args below meth c H locs 0 0 (MQ below (ek_Q G kd none q) args s 0 0 (ek_A G kd)) (F0 m 0 ls []) := by
  obtain ⟨hx, hb, hml, hown, hts, hr, hlocks, hK⟩ := id X
  have hA : ∀ q, ek_A G kd q → ek_A G kd q := fun _ h => h
  unfold fTa_announce_0 at hf
  refine ek_aload_n hx hb dTa_announce_0 rfl (lv_at hl 0 rfl) ?_
  refine lv_iload_n hx hb dTa_announce_1 rfl (lv_at hl 1 rfl) ?_
  refine ek_puti hx hb 6 hts (in_Ta) ty_Ta ty_Ta_ok nm_Ta hown hK hw hS hA rfl (by decide) (by decide) 1 (by decide) rfl (hts _ q_75) rfl rfl rfl hf dTa_announce_2 (fun I1 H locs hf hw hS => ?_)
  refine ek_aload_n hx hb dTa_announce_5 rfl (lv_at hl 0 rfl) ?_
  refine lv_iload_n hx hb dTa_announce_6 rfl (lv_at hl 2 rfl) ?_
  refine ek_puti hx hb 6 hts (in_Ta) ty_Ta ty_Ta_ok nm_Ta hown hK hw hS hA rfl (by decide) (by decide) 2 (by decide) rfl (hts _ q_78) rfl rfl rfl hf dTa_announce_7 (fun I2 H locs hf hw hS => ?_)
  refine ek_aload_n hx hb dTa_announce_10 rfl (lv_at hl 0 rfl) ?_
  refine lv_iload_n hx hb dTa_announce_11 rfl (lv_at hl 3 rfl) ?_
  refine ek_puti hx hb 6 hts (in_Ta) ty_Ta ty_Ta_ok nm_Ta hown hK hw hS hA rfl (by decide) (by decide) 3 (by decide) rfl (hts _ q_80) rfl rfl rfl hf dTa_announce_12 (fun I3 H locs hf hw hS => ?_)
  refine ek_aload_n hx hb dTa_announce_15 rfl (lv_at hl 0 rfl) ?_
  refine lv_iload hx hb dTa_announce_16 (lv_at hl 4 rfl) ?_
  refine ek_puti hx hb 6 hts (in_Ta) ty_Ta ty_Ta_ok nm_Ta hown hK hw hS hA rfl (by decide) (by decide) 4 (by decide) rfl (hts _ q_82) rfl rfl rfl hf dTa_announce_18 (fun I4 H locs hf hw hS => ?_)
  refine ek_aload_n hx hb dTa_announce_21 rfl (lv_at hl 0 rfl) ?_
  refine lv_iconst (v := (0 : Int32)) hx hb dTa_announce_22 (by decide) ?_
  refine ek_puti hx hb 6 hts (in_Ta) ty_Ta ty_Ta_ok nm_Ta hown hK hw hS hA rfl (by decide) (by decide) 5 (by decide) rfl (hts _ q_84) rfl rfl rfl hf dTa_announce_23 (fun I5 H locs hf hw hS => ?_)
  refine ek_aload_n hx hb dTa_announce_26 rfl (lv_at hl 0 rfl) ?_
  refine lv_iconst (v := (0 : Int32)) hx hb dTa_announce_27 (by decide) ?_
  refine ek_puti hx hb 6 hts (in_Ta) ty_Ta ty_Ta_ok nm_Ta hown hK hw hS hA rfl (by decide) (by decide) 6 (by decide) rfl (hts _ q_86) rfl rfl rfl hf dTa_announce_28 (fun I6 H locs hf hw hS => ?_)
  refine ek_aload_n hx hb dTa_announce_31 rfl (lv_at hl 0 rfl) ?_
  refine lv_iconst (v := (0 : Int32)) hx hb dTa_announce_32 (by decide) ?_
  refine ek_puti hx hb 6 hts (in_Ta) ty_Ta ty_Ta_ok nm_Ta hown hK hw hS hA rfl (by decide) (by decide) 8 (by decide) rfl (hts _ q_91) rfl rfl rfl hf dTa_announce_33 (fun I7 H locs hf hw hS => ?_)
  refine ek_aload_n hx hb dTa_announce_36 rfl (lv_at hl 0 rfl) ?_
  refine lv_iconst (v := (0 : Int32)) hx hb dTa_announce_37 (by decide) ?_
  refine ek_puti hx hb 6 hts (in_Ta) ty_Ta ty_Ta_ok nm_Ta hown hK hw hS hA rfl (by decide) (by decide) 9 (by decide) rfl (hts _ q_93) rfl rfl rfl hf dTa_announce_38 (fun I8 H locs hf hw hS => ?_)
  refine ek_aload_n hx hb dTa_announce_41 rfl (lv_at hl 0 rfl) ?_
  refine lv_iconst (v := (-1 : Int32)) hx hb dTa_announce_42 (by decide) ?_
  refine ek_puti hx hb 6 hts (in_Ta) ty_Ta ty_Ta_ok nm_Ta hown hK hw hS hA rfl (by decide) (by decide) 10 (by decide) rfl (hts _ q_95) rfl rfl rfl hf dTa_announce_43 (fun I9 H locs hf hw hS => ?_)
  refine ek_aload_n hx hb dTa_announce_46 rfl (lv_at hl 0 rfl) ?_
  refine lv_iconst (v := (0 : Int32)) hx hb dTa_announce_47 (by decide) ?_
  refine ek_puti hx hb 6 hts (in_Ta) ty_Ta ty_Ta_ok nm_Ta hown hK hw hS hA rfl (by decide) (by decide) 11 (by decide) rfl (hts _ q_97) rfl rfl rfl hf dTa_announce_48 (fun I10 H locs hf hw hS => ?_)
  refine ek_aload_n hx hb dTa_announce_51 rfl (lv_at hl 0 rfl) ?_
  refine lv_iconst (v := (0 : Int32)) hx hb dTa_announce_52 (by decide) ?_
  refine ek_puti hx hb 6 hts (in_Ta) ty_Ta ty_Ta_ok nm_Ta hown hK hw hS hA rfl (by decide) (by decide) 12 (by decide) rfl (hts _ q_99) rfl rfl rfl hf dTa_announce_53 (fun I11 H locs hf hw hS => ?_)
  exact ek_vret hx hb hr hlocks hw hS hf dTa_announce_56
set_option maxHeartbeats 4000000 in
set_option maxRecDepth 100000 in
theorem mTa_announce {l : Launch} {G : ek_G} {kd : Nat → Nat} {I : ek_St} {x0 : Nat} {i1 : Int32} {i2 : Int32} {i3 : Int32} {i4 : Int32} {q : ek_St} (hf : fTa_announce kd I x0 i1 i2 i3 i4 = some q) : ek_M l G kd y_Ta_announce (.code y_Ta_announce prog_7_method_2_code 5 none :: lw_g) ({ frames := 0, cells := 0, slots := 0, locals := 0 } : Room) [ek_r G x0, .int i1, .int i2, .int i3, .int i4] I none q :=
  ek_body [(0, ek_r G x0), (1, .int i1), (2, .int i2), (3, .int i3), (4, .int i4)] (by decide) (by simp [lg_sl, ek_r_cat, ek_c_i, ek_c_l]) (by simp [lv_args, ek_r_cat, ek_c_i, ek_c_l]) (fun p e s m below meth c ls X hw hS hl => wTa_announce_0 X hf hw hS hl)
/-! ElasticKernel$Task.finish(I)V -/
def fTa_finish_0 (kd : Nat → Nat) (I : ek_St) (x0 : Nat) (i1 : Int32) : Option (ek_St) :=
  ek_ck (kd x0 = 6) (ek_ck (kd x0 = 6) (ek_let (ek_up I x0 11 ((I x0 11) + ((1 : Int32)))) (fun I1 => ek_ck (kd x0 = 6) (ek_let (ek_up I1 x0 12 i1) (fun I2 => some I2)))))
def fTa_finish (kd : Nat → Nat) (I : ek_St) (x0 : Nat) (i1 : Int32) : Option (ek_St) := fTa_finish_0 kd I x0 i1
theorem dTa_finish_0 : decode prog_7_method_8_code 0 = .ok (.aload_n 0, 1) := by decide +kernel
theorem dTa_finish_1 : decode prog_7_method_8_code 1 = .ok (.dup, 1) := by decide +kernel
theorem dTa_finish_2 : decode prog_7_method_8_code 2 = .ok (.getfield 46, 3) := by decide +kernel
theorem dTa_finish_5 : decode prog_7_method_8_code 5 = .ok (.iconst 1, 1) := by decide +kernel
theorem dTa_finish_6 : decode prog_7_method_8_code 6 = .ok (.iadd, 1) := by decide +kernel
theorem dTa_finish_7 : decode prog_7_method_8_code 7 = .ok (.putfield 46, 3) := by decide +kernel
theorem dTa_finish_10 : decode prog_7_method_8_code 10 = .ok (.aload_n 0, 1) := by decide +kernel
theorem dTa_finish_11 : decode prog_7_method_8_code 11 = .ok (.iload_n 1, 1) := by decide +kernel
theorem dTa_finish_12 : decode prog_7_method_8_code 12 = .ok (.putfield 49, 3) := by decide +kernel
theorem dTa_finish_15 : decode prog_7_method_8_code 15 = .ok (.return_, 1) := by decide +kernel
set_option maxHeartbeats 4000000 in
set_option maxRecDepth 100000 in
theorem wTa_finish_0 {l : Launch} {G : ek_G} {kd : Nat → Nat} {p : Program} {e : Env} {s : State} {m : MethodId} {args : Array Value} {below : List Frame} {meth : Method} {c : Code} (X : ek_X p s m meth c args G prog_7_method_8_code 2 "ElasticKernel$Task" none) {q : ek_St} {I : ek_St} {x0 : Nat} {i1 : Int32} (hf : fTa_finish_0 kd I x0 i1 = some q) {H : Heap} {locs : List Loc} {ls : Array Slot} (hw : ek_W G kd I H) (hS : va_S (ek_A G kd) s.heap H locs) (hl : lv_has ls 2 [(0, ek_r G x0), (1, .int i1)]) : W p l e ({ frames := 0, cells := 0, slots := 0, locals := 0 } : Room) s m args below meth c H locs 0 0 (MQ below (ek_Q G kd none q) args s 0 0 (ek_A G kd)) (F0 m 0 ls []) := by
  obtain ⟨hx, hb, hml, hown, hts, hr, hlocks, hK⟩ := id X
  have hA : ∀ q, ek_A G kd q → ek_A G kd q := fun _ h => h
  unfold fTa_finish_0 at hf
  refine ek_aload_n hx hb dTa_finish_0 rfl (lv_at hl 0 rfl) ?_
  refine lv_dup hx hb dTa_finish_1 ek_r_cat ?_
  refine ek_geti hx hb 6 hts (in_Ta) hown hK hw rfl (by decide) (by decide) 11 (by decide) rfl (hts _ q_97) hf dTa_finish_2 (fun hf => ?_)
  refine lv_iconst (v := (1 : Int32)) hx hb dTa_finish_5 (by decide) ?_
  refine lv_iadd hx hb dTa_finish_6 ?_
  refine ek_puti hx hb 6 hts (in_Ta) ty_Ta ty_Ta_ok nm_Ta hown hK hw hS hA rfl (by decide) (by decide) 11 (by decide) rfl (hts _ q_97) rfl rfl rfl hf dTa_finish_7 (fun I1 H locs hf hw hS => ?_)
  refine ek_aload_n hx hb dTa_finish_10 rfl (lv_at hl 0 rfl) ?_
  refine lv_iload_n hx hb dTa_finish_11 rfl (lv_at hl 1 rfl) ?_
  refine ek_puti hx hb 6 hts (in_Ta) ty_Ta ty_Ta_ok nm_Ta hown hK hw hS hA rfl (by decide) (by decide) 12 (by decide) rfl (hts _ q_99) rfl rfl rfl hf dTa_finish_12 (fun I2 H locs hf hw hS => ?_)
  exact ek_vret hx hb hr hlocks hw hS hf dTa_finish_15
set_option maxHeartbeats 4000000 in
set_option maxRecDepth 100000 in
theorem mTa_finish {l : Launch} {G : ek_G} {kd : Nat → Nat} {I : ek_St} {x0 : Nat} {i1 : Int32} {q : ek_St} (hf : fTa_finish kd I x0 i1 = some q) : ek_M l G kd y_Ta_finish (.code y_Ta_finish prog_7_method_8_code 2 none :: lw_g) ({ frames := 0, cells := 0, slots := 0, locals := 0 } : Room) [ek_r G x0, .int i1] I none q :=
  ek_body [(0, ek_r G x0), (1, .int i1)] (by decide) (by simp [lg_sl, ek_r_cat, ek_c_i, ek_c_l]) (by simp [lv_args, ek_r_cat, ek_c_i, ek_c_l]) (fun p e s m below meth c ls X hw hS hl => wTa_finish_0 X hf hw hS hl)
/-! ElasticKernel$Task.release(IZ)V -/
def fTa_release_58 (kd : Nat → Nat) (I : ek_St) (x0 : Nat) (i1 : Int32) (t0 : Nat) (t1 : Int32) : Option (ek_St) :=
  ek_ck (kd t0 = 6) (ek_let (ek_up I t0 9 t1) (fun I1 => ek_ck (kd x0 = 6) (ek_let (ek_up I1 x0 10 ((-1 : Int32))) (fun I2 => ek_ck (kd x0 = 6) (if (I2 x0 9) = ((0 : Int32)) then (ek_ck (kd x0 = 6) (ek_bv (fTa_finish kd I2 x0 i1) (fun I4 => some I4))) else (some I2))))))
def fTa_release_23 (kd : Nat → Nat) (I : ek_St) (x0 : Nat) (i1 : Int32) : Option (ek_St) :=
  ek_ck (kd x0 = 6) (ek_let (ek_up I x0 5 ((1 : Int32))) (fun I1 => ek_ck (kd x0 = 6) (ek_ck (kd x0 = 6) (ek_let (ek_up I1 x0 8 (i1 + (I1 x0 6))) (fun I2 => ek_ck (kd x0 = 6) (if (I2 x0 10) = ((-1 : Int32)) then (ek_ck (kd x0 = 6) (fTa_release_58 kd I2 x0 i1 x0 (I2 x0 1))) else (ek_ck (kd x0 = 6) (fTa_release_58 kd I2 x0 i1 x0 (I2 x0 10)))))))))
def fTa_release_15 (kd : Nat → Nat) (I : ek_St) (x0 : Nat) (i1 : Int32) : Option (ek_St) :=
  ek_ck (kd x0 = 6) (ek_ck (kd x0 = 6) (ek_let (ek_up I x0 6 (I x0 7)) (fun I1 => fTa_release_23 kd I1 x0 i1)))
def fTa_release_0 (kd : Nat → Nat) (I : ek_St) (x0 : Nat) (i1 : Int32) (i2 : Int32) : Option (ek_St) :=
  if i2 = ((0 : Int32)) then (ek_ck (kd x0 = 6) (ek_ck (kd x0 = 6) (if (I x0 7) ≤ (I x0 6) then (fTa_release_23 kd I x0 i1) else (fTa_release_15 kd I x0 i1)))) else (fTa_release_15 kd I x0 i1)
def fTa_release (kd : Nat → Nat) (I : ek_St) (x0 : Nat) (i1 : Int32) (i2 : Int32) : Option (ek_St) := fTa_release_0 kd I x0 i1 i2
theorem dTa_release_0 : decode prog_7_method_6_code 0 = .ok (.iload_n 2, 1) := by decide +kernel
theorem dTa_release_1 : decode prog_7_method_6_code 1 = .ok (.ifCond .ne 14, 3) := by decide +kernel
theorem dTa_release_4 : decode prog_7_method_6_code 4 = .ok (.aload_n 0, 1) := by decide +kernel
theorem dTa_release_5 : decode prog_7_method_6_code 5 = .ok (.getfield 52, 3) := by decide +kernel
theorem dTa_release_8 : decode prog_7_method_6_code 8 = .ok (.aload_n 0, 1) := by decide +kernel
theorem dTa_release_9 : decode prog_7_method_6_code 9 = .ok (.getfield 34, 3) := by decide +kernel
theorem dTa_release_12 : decode prog_7_method_6_code 12 = .ok (.if_icmp .le 11, 3) := by decide +kernel
theorem dTa_release_15 : decode prog_7_method_6_code 15 = .ok (.aload_n 0, 1) := by decide +kernel
theorem dTa_release_16 : decode prog_7_method_6_code 16 = .ok (.aload_n 0, 1) := by decide +kernel
theorem dTa_release_17 : decode prog_7_method_6_code 17 = .ok (.getfield 52, 3) := by decide +kernel
theorem dTa_release_20 : decode prog_7_method_6_code 20 = .ok (.putfield 34, 3) := by decide +kernel
theorem dTa_release_23 : decode prog_7_method_6_code 23 = .ok (.aload_n 0, 1) := by decide +kernel
theorem dTa_release_24 : decode prog_7_method_6_code 24 = .ok (.iconst 1, 1) := by decide +kernel
theorem dTa_release_25 : decode prog_7_method_6_code 25 = .ok (.putfield 31, 3) := by decide +kernel
theorem dTa_release_28 : decode prog_7_method_6_code 28 = .ok (.aload_n 0, 1) := by decide +kernel
theorem dTa_release_29 : decode prog_7_method_6_code 29 = .ok (.iload_n 1, 1) := by decide +kernel
theorem dTa_release_30 : decode prog_7_method_6_code 30 = .ok (.aload_n 0, 1) := by decide +kernel
theorem dTa_release_31 : decode prog_7_method_6_code 31 = .ok (.getfield 34, 3) := by decide +kernel
theorem dTa_release_34 : decode prog_7_method_6_code 34 = .ok (.iadd, 1) := by decide +kernel
theorem dTa_release_35 : decode prog_7_method_6_code 35 = .ok (.putfield 37, 3) := by decide +kernel
theorem dTa_release_38 : decode prog_7_method_6_code 38 = .ok (.aload_n 0, 1) := by decide +kernel
theorem dTa_release_39 : decode prog_7_method_6_code 39 = .ok (.aload_n 0, 1) := by decide +kernel
theorem dTa_release_40 : decode prog_7_method_6_code 40 = .ok (.getfield 43, 3) := by decide +kernel
theorem dTa_release_43 : decode prog_7_method_6_code 43 = .ok (.iconst (-1), 1) := by decide +kernel
theorem dTa_release_44 : decode prog_7_method_6_code 44 = .ok (.if_icmp .ne 10, 3) := by decide +kernel
theorem dTa_release_47 : decode prog_7_method_6_code 47 = .ok (.aload_n 0, 1) := by decide +kernel
theorem dTa_release_48 : decode prog_7_method_6_code 48 = .ok (.getfield 18, 3) := by decide +kernel
theorem dTa_release_51 : decode prog_7_method_6_code 51 = .ok (.goto 7, 3) := by decide +kernel
theorem dTa_release_54 : decode prog_7_method_6_code 54 = .ok (.aload_n 0, 1) := by decide +kernel
theorem dTa_release_55 : decode prog_7_method_6_code 55 = .ok (.getfield 43, 3) := by decide +kernel
theorem dTa_release_58 : decode prog_7_method_6_code 58 = .ok (.putfield 40, 3) := by decide +kernel
theorem dTa_release_61 : decode prog_7_method_6_code 61 = .ok (.aload_n 0, 1) := by decide +kernel
theorem dTa_release_62 : decode prog_7_method_6_code 62 = .ok (.iconst (-1), 1) := by decide +kernel
theorem dTa_release_63 : decode prog_7_method_6_code 63 = .ok (.putfield 43, 3) := by decide +kernel
theorem dTa_release_66 : decode prog_7_method_6_code 66 = .ok (.aload_n 0, 1) := by decide +kernel
theorem dTa_release_67 : decode prog_7_method_6_code 67 = .ok (.getfield 40, 3) := by decide +kernel
theorem dTa_release_70 : decode prog_7_method_6_code 70 = .ok (.ifCond .ne 8, 3) := by decide +kernel
theorem dTa_release_73 : decode prog_7_method_6_code 73 = .ok (.aload_n 0, 1) := by decide +kernel
theorem dTa_release_74 : decode prog_7_method_6_code 74 = .ok (.iload_n 1, 1) := by decide +kernel
theorem dTa_release_75 : decode prog_7_method_6_code 75 = .ok (.invokevirtual 63, 3) := by decide +kernel
theorem dTa_release_78 : decode prog_7_method_6_code 78 = .ok (.return_, 1) := by decide +kernel
set_option maxHeartbeats 4000000 in
set_option maxRecDepth 100000 in
theorem wTa_release_58 {l : Launch} {G : ek_G} {kd : Nat → Nat} {p : Program} {e : Env} {s : State} {m : MethodId} {args : Array Value} {below : List Frame} {meth : Method} {c : Code} (X : ek_X p s m meth c args G prog_7_method_6_code 3 "ElasticKernel$Task" none) {q : ek_St} {I : ek_St} {x0 : Nat} {i1 : Int32} {t0 : Nat} {t1 : Int32} (hf : fTa_release_58 kd I x0 i1 t0 t1 = some q) {H : Heap} {locs : List Loc} {ls : Array Slot} (hw : ek_W G kd I H) (hS : va_S (ek_A G kd) s.heap H locs) (hl : lv_has ls 3 [(0, ek_r G x0), (1, .int i1)]) : W p l e ({ frames := 1, cells := 0, slots := 0, locals := 21 } : Room) s m args below meth c H locs 0 0 (MQ below (ek_Q G kd none q) args s 0 0 (ek_A G kd)) (F0 m 58 ls [.int t1, ek_r G t0]) := by
  obtain ⟨hx, hb, hml, hown, hts, hr, hlocks, hK⟩ := id X
  have hA : ∀ q, ek_A G kd q → ek_A G kd q := fun _ h => h
  unfold fTa_release_58 at hf
  refine ek_puti hx hb 6 hts (in_Ta) ty_Ta ty_Ta_ok nm_Ta hown hK hw hS hA rfl (by decide) (by decide) 9 (by decide) rfl (hts _ q_93) rfl rfl rfl hf dTa_release_58 (fun I1 H locs hf hw hS => ?_)
  refine ek_aload_n hx hb dTa_release_61 rfl (lv_at hl 0 rfl) ?_
  refine lv_iconst (v := (-1 : Int32)) hx hb dTa_release_62 (by decide) ?_
  refine ek_puti hx hb 6 hts (in_Ta) ty_Ta ty_Ta_ok nm_Ta hown hK hw hS hA rfl (by decide) (by decide) 10 (by decide) rfl (hts _ q_95) rfl rfl rfl hf dTa_release_63 (fun I2 H locs hf hw hS => ?_)
  refine ek_aload_n hx hb dTa_release_66 rfl (lv_at hl 0 rfl) ?_
  refine ek_geti hx hb 6 hts (in_Ta) hown hK hw rfl (by decide) (by decide) 9 (by decide) rfl (hts _ q_93) hf dTa_release_67 (fun hf => ?_)
  refine lv_if_ne (tgt := 78) hx hb dTa_release_70 (by decide) (fun c3 => ?_) (fun c3 => ?_)
  · have hf := ek_f c3 hf
    exact ek_vret hx hb hr hlocks hw hS hf dTa_release_78
  · have hf := ek_t c3 hf
    refine ek_aload_n hx hb dTa_release_73 rfl (lv_at hl 0 rfl) ?_
    refine lv_iload_n hx hb dTa_release_74 rfl (lv_at hl 1 rfl) ?_
    obtain ⟨hx5, hf⟩ := ek_ck_s hf
    refine ek_cv hf hS hA (fun I' hq => ek_rV (As := [.int i1]) ⟨hx, hb, hml, hown, hts⟩ hK hw 6 rfl (by decide) (by decide) hx5 (mTa_finish hq) (cwV 1 hts (lw_V q_546 q_548 p_12 q_3 q_549) rfl rfl rfl (by decide +kernel) ⟨Nat.le_of_ble_eq_true rfl, Nat.le_of_ble_eq_true rfl⟩) rfl hl.1 rfl (Nat.le_of_ble_eq_true rfl) dTa_release_75 ⟨Nat.zero_le _, Nat.zero_le _⟩) (fun I4 H locs hf hw hS => ?_)
    exact ek_vret hx hb hr hlocks hw hS hf dTa_release_78
set_option maxHeartbeats 4000000 in
set_option maxRecDepth 100000 in
theorem wTa_release_23 {l : Launch} {G : ek_G} {kd : Nat → Nat} {p : Program} {e : Env} {s : State} {m : MethodId} {args : Array Value} {below : List Frame} {meth : Method} {c : Code} (X : ek_X p s m meth c args G prog_7_method_6_code 3 "ElasticKernel$Task" none) {q : ek_St} {I : ek_St} {x0 : Nat} {i1 : Int32} (hf : fTa_release_23 kd I x0 i1 = some q) {H : Heap} {locs : List Loc} {ls : Array Slot} (hw : ek_W G kd I H) (hS : va_S (ek_A G kd) s.heap H locs) (hl : lv_has ls 3 [(0, ek_r G x0), (1, .int i1)]) : W p l e ({ frames := 1, cells := 0, slots := 0, locals := 21 } : Room) s m args below meth c H locs 0 0 (MQ below (ek_Q G kd none q) args s 0 0 (ek_A G kd)) (F0 m 23 ls []) := by
  obtain ⟨hx, hb, hml, hown, hts, hr, hlocks, hK⟩ := id X
  have hA : ∀ q, ek_A G kd q → ek_A G kd q := fun _ h => h
  unfold fTa_release_23 at hf
  refine ek_aload_n hx hb dTa_release_23 rfl (lv_at hl 0 rfl) ?_
  refine lv_iconst (v := (1 : Int32)) hx hb dTa_release_24 (by decide) ?_
  refine ek_puti hx hb 6 hts (in_Ta) ty_Ta ty_Ta_ok nm_Ta hown hK hw hS hA rfl (by decide) (by decide) 5 (by decide) rfl (hts _ q_84) rfl rfl rfl hf dTa_release_25 (fun I1 H locs hf hw hS => ?_)
  refine ek_aload_n hx hb dTa_release_28 rfl (lv_at hl 0 rfl) ?_
  refine lv_iload_n hx hb dTa_release_29 rfl (lv_at hl 1 rfl) ?_
  refine ek_aload_n hx hb dTa_release_30 rfl (lv_at hl 0 rfl) ?_
  refine ek_geti hx hb 6 hts (in_Ta) hown hK hw rfl (by decide) (by decide) 6 (by decide) rfl (hts _ q_86) hf dTa_release_31 (fun hf => ?_)
  refine lv_iadd hx hb dTa_release_34 ?_
  refine ek_puti hx hb 6 hts (in_Ta) ty_Ta ty_Ta_ok nm_Ta hown hK hw hS hA rfl (by decide) (by decide) 8 (by decide) rfl (hts _ q_91) rfl rfl rfl hf dTa_release_35 (fun I2 H locs hf hw hS => ?_)
  refine ek_aload_n hx hb dTa_release_38 rfl (lv_at hl 0 rfl) ?_
  refine ek_aload_n hx hb dTa_release_39 rfl (lv_at hl 0 rfl) ?_
  refine ek_geti hx hb 6 hts (in_Ta) hown hK hw rfl (by decide) (by decide) 10 (by decide) rfl (hts _ q_95) hf dTa_release_40 (fun hf => ?_)
  refine lv_iconst (v := (-1 : Int32)) hx hb dTa_release_43 (by decide) ?_
  refine lv_icmp_ne (tgt := 54) hx hb dTa_release_44 (by decide) (fun c3 => ?_) (fun c3 => ?_)
  · have hf := ek_f c3 hf
    refine ek_aload_n hx hb dTa_release_54 rfl (lv_at hl 0 rfl) ?_
    refine ek_geti hx hb 6 hts (in_Ta) hown hK hw rfl (by decide) (by decide) 10 (by decide) rfl (hts _ q_95) hf dTa_release_55 (fun hf => ?_)
    exact wTa_release_58 X hf hw hS (lv_sub hl [0, 1] rfl)
  · have hf := ek_t c3 hf
    refine ek_aload_n hx hb dTa_release_47 rfl (lv_at hl 0 rfl) ?_
    refine ek_geti hx hb 6 hts (in_Ta) hown hK hw rfl (by decide) (by decide) 1 (by decide) rfl (hts _ q_75) hf dTa_release_48 (fun hf => ?_)
    refine lv_goto (tgt := 58) hx hb dTa_release_51 (by decide) ?_
    exact wTa_release_58 X hf hw hS (lv_sub hl [0, 1] rfl)
set_option maxHeartbeats 4000000 in
set_option maxRecDepth 100000 in
theorem wTa_release_15 {l : Launch} {G : ek_G} {kd : Nat → Nat} {p : Program} {e : Env} {s : State} {m : MethodId} {args : Array Value} {below : List Frame} {meth : Method} {c : Code} (X : ek_X p s m meth c args G prog_7_method_6_code 3 "ElasticKernel$Task" none) {q : ek_St} {I : ek_St} {x0 : Nat} {i1 : Int32} (hf : fTa_release_15 kd I x0 i1 = some q) {H : Heap} {locs : List Loc} {ls : Array Slot} (hw : ek_W G kd I H) (hS : va_S (ek_A G kd) s.heap H locs) (hl : lv_has ls 3 [(0, ek_r G x0), (1, .int i1)]) : W p l e ({ frames := 1, cells := 0, slots := 0, locals := 21 } : Room) s m args below meth c H locs 0 0 (MQ below (ek_Q G kd none q) args s 0 0 (ek_A G kd)) (F0 m 15 ls []) := by
  obtain ⟨hx, hb, hml, hown, hts, hr, hlocks, hK⟩ := id X
  have hA : ∀ q, ek_A G kd q → ek_A G kd q := fun _ h => h
  unfold fTa_release_15 at hf
  refine ek_aload_n hx hb dTa_release_15 rfl (lv_at hl 0 rfl) ?_
  refine ek_aload_n hx hb dTa_release_16 rfl (lv_at hl 0 rfl) ?_
  refine ek_geti hx hb 6 hts (in_Ta) hown hK hw rfl (by decide) (by decide) 7 (by decide) rfl (hts _ q_88) hf dTa_release_17 (fun hf => ?_)
  refine ek_puti hx hb 6 hts (in_Ta) ty_Ta ty_Ta_ok nm_Ta hown hK hw hS hA rfl (by decide) (by decide) 6 (by decide) rfl (hts _ q_86) rfl rfl rfl hf dTa_release_20 (fun I1 H locs hf hw hS => ?_)
  exact wTa_release_23 X hf hw hS (lv_sub hl [0, 1] rfl)
set_option maxHeartbeats 4000000 in
set_option maxRecDepth 100000 in
theorem wTa_release_0 {l : Launch} {G : ek_G} {kd : Nat → Nat} {p : Program} {e : Env} {s : State} {m : MethodId} {args : Array Value} {below : List Frame} {meth : Method} {c : Code} (X : ek_X p s m meth c args G prog_7_method_6_code 3 "ElasticKernel$Task" none) {q : ek_St} {I : ek_St} {x0 : Nat} {i1 : Int32} {i2 : Int32} (hf : fTa_release_0 kd I x0 i1 i2 = some q) {H : Heap} {locs : List Loc} {ls : Array Slot} (hw : ek_W G kd I H) (hS : va_S (ek_A G kd) s.heap H locs) (hl : lv_has ls 3 [(0, ek_r G x0), (1, .int i1), (2, .int i2)]) : W p l e ({ frames := 1, cells := 0, slots := 0, locals := 21 } : Room) s m args below meth c H locs 0 0 (MQ below (ek_Q G kd none q) args s 0 0 (ek_A G kd)) (F0 m 0 ls []) := by
  obtain ⟨hx, hb, hml, hown, hts, hr, hlocks, hK⟩ := id X
  have hA : ∀ q, ek_A G kd q → ek_A G kd q := fun _ h => h
  unfold fTa_release_0 at hf
  refine lv_iload_n hx hb dTa_release_0 rfl (lv_at hl 2 rfl) ?_
  refine lv_if_ne (tgt := 15) hx hb dTa_release_1 (by decide) (fun c1 => ?_) (fun c1 => ?_)
  · have hf := ek_f c1 hf
    exact wTa_release_15 X hf hw hS (lv_sub hl [0, 1] rfl)
  · have hf := ek_t c1 hf
    refine ek_aload_n hx hb dTa_release_4 rfl (lv_at hl 0 rfl) ?_
    refine ek_geti hx hb 6 hts (in_Ta) hown hK hw rfl (by decide) (by decide) 7 (by decide) rfl (hts _ q_88) hf dTa_release_5 (fun hf => ?_)
    refine ek_aload_n hx hb dTa_release_8 rfl (lv_at hl 0 rfl) ?_
    refine ek_geti hx hb 6 hts (in_Ta) hown hK hw rfl (by decide) (by decide) 6 (by decide) rfl (hts _ q_86) hf dTa_release_9 (fun hf => ?_)
    refine lv_icmp_le (tgt := 23) hx hb dTa_release_12 (by decide) (fun c2 => ?_) (fun c2 => ?_)
    · have hf := ek_t c2 hf
      exact wTa_release_23 X hf hw hS (lv_sub hl [0, 1] rfl)
    · have hf := ek_f c2 hf
      exact wTa_release_15 X hf hw hS (lv_sub hl [0, 1] rfl)
set_option maxHeartbeats 4000000 in
set_option maxRecDepth 100000 in
theorem mTa_release {l : Launch} {G : ek_G} {kd : Nat → Nat} {I : ek_St} {x0 : Nat} {i1 : Int32} {i2 : Int32} {q : ek_St} (hf : fTa_release kd I x0 i1 i2 = some q) : ek_M l G kd y_Ta_release (.code y_Ta_release prog_7_method_6_code 3 none :: lw_g) ({ frames := 1, cells := 0, slots := 0, locals := 21 } : Room) [ek_r G x0, .int i1, .int i2] I none q :=
  ek_body [(0, ek_r G x0), (1, .int i1), (2, .int i2)] (by decide) (by simp [lg_sl, ek_r_cat, ek_c_i, ek_c_l]) (by simp [lv_args, ek_r_cat, ek_c_i, ek_c_l]) (fun p e s m below meth c ls X hw hS hl => wTa_release_0 X hf hw hS hl)
/-! ElasticKernel$Task.work(II)V -/
def fTa_work_0 (kd : Nat → Nat) (I : ek_St) (x0 : Nat) (i1 : Int32) (i2 : Int32) : Option (ek_St) :=
  ek_ck (kd x0 = 6) (ek_ck (kd x0 = 6) (ek_let (ek_up I x0 9 ((I x0 9) - i1)) (fun I1 => ek_ck (kd x0 = 6) (if (I1 x0 9) = ((0 : Int32)) then (ek_ck (kd x0 = 6) (ek_bv (fTa_finish kd I1 x0 i2) (fun I3 => some I3))) else (some I1)))))
def fTa_work (kd : Nat → Nat) (I : ek_St) (x0 : Nat) (i1 : Int32) (i2 : Int32) : Option (ek_St) := fTa_work_0 kd I x0 i1 i2
theorem dTa_work_0 : decode prog_7_method_7_code 0 = .ok (.aload_n 0, 1) := by decide +kernel
theorem dTa_work_1 : decode prog_7_method_7_code 1 = .ok (.dup, 1) := by decide +kernel
theorem dTa_work_2 : decode prog_7_method_7_code 2 = .ok (.getfield 40, 3) := by decide +kernel
theorem dTa_work_5 : decode prog_7_method_7_code 5 = .ok (.iload_n 1, 1) := by decide +kernel
theorem dTa_work_6 : decode prog_7_method_7_code 6 = .ok (.isub, 1) := by decide +kernel
theorem dTa_work_7 : decode prog_7_method_7_code 7 = .ok (.putfield 40, 3) := by decide +kernel
theorem dTa_work_10 : decode prog_7_method_7_code 10 = .ok (.aload_n 0, 1) := by decide +kernel
theorem dTa_work_11 : decode prog_7_method_7_code 11 = .ok (.getfield 40, 3) := by decide +kernel
theorem dTa_work_14 : decode prog_7_method_7_code 14 = .ok (.ifCond .ne 8, 3) := by decide +kernel
theorem dTa_work_17 : decode prog_7_method_7_code 17 = .ok (.aload_n 0, 1) := by decide +kernel
theorem dTa_work_18 : decode prog_7_method_7_code 18 = .ok (.iload_n 2, 1) := by decide +kernel
theorem dTa_work_19 : decode prog_7_method_7_code 19 = .ok (.invokevirtual 63, 3) := by decide +kernel
theorem dTa_work_22 : decode prog_7_method_7_code 22 = .ok (.return_, 1) := by decide +kernel
set_option maxHeartbeats 4000000 in
set_option maxRecDepth 100000 in
theorem wTa_work_0 {l : Launch} {G : ek_G} {kd : Nat → Nat} {p : Program} {e : Env} {s : State} {m : MethodId} {args : Array Value} {below : List Frame} {meth : Method} {c : Code} (X : ek_X p s m meth c args G prog_7_method_7_code 3 "ElasticKernel$Task" none) {q : ek_St} {I : ek_St} {x0 : Nat} {i1 : Int32} {i2 : Int32} (hf : fTa_work_0 kd I x0 i1 i2 = some q) {H : Heap} {locs : List Loc} {ls : Array Slot} (hw : ek_W G kd I H) (hS : va_S (ek_A G kd) s.heap H locs) (hl : lv_has ls 3 [(0, ek_r G x0), (1, .int i1), (2, .int i2)]) : W p l e ({ frames := 1, cells := 0, slots := 0, locals := 21 } : Room) s m args below meth c H locs 0 0 (MQ below (ek_Q G kd none q) args s 0 0 (ek_A G kd)) (F0 m 0 ls []) := by
  obtain ⟨hx, hb, hml, hown, hts, hr, hlocks, hK⟩ := id X
  have hA : ∀ q, ek_A G kd q → ek_A G kd q := fun _ h => h
  unfold fTa_work_0 at hf
  refine ek_aload_n hx hb dTa_work_0 rfl (lv_at hl 0 rfl) ?_
  refine lv_dup hx hb dTa_work_1 ek_r_cat ?_
  refine ek_geti hx hb 6 hts (in_Ta) hown hK hw rfl (by decide) (by decide) 9 (by decide) rfl (hts _ q_93) hf dTa_work_2 (fun hf => ?_)
  refine lv_iload_n hx hb dTa_work_5 rfl (lv_at hl 1 rfl) ?_
  refine lv_isub hx hb dTa_work_6 ?_
  refine ek_puti hx hb 6 hts (in_Ta) ty_Ta ty_Ta_ok nm_Ta hown hK hw hS hA rfl (by decide) (by decide) 9 (by decide) rfl (hts _ q_93) rfl rfl rfl hf dTa_work_7 (fun I1 H locs hf hw hS => ?_)
  refine ek_aload_n hx hb dTa_work_10 rfl (lv_at hl 0 rfl) ?_
  refine ek_geti hx hb 6 hts (in_Ta) hown hK hw rfl (by decide) (by decide) 9 (by decide) rfl (hts _ q_93) hf dTa_work_11 (fun hf => ?_)
  refine lv_if_ne (tgt := 22) hx hb dTa_work_14 (by decide) (fun c2 => ?_) (fun c2 => ?_)
  · have hf := ek_f c2 hf
    exact ek_vret hx hb hr hlocks hw hS hf dTa_work_22
  · have hf := ek_t c2 hf
    refine ek_aload_n hx hb dTa_work_17 rfl (lv_at hl 0 rfl) ?_
    refine lv_iload_n hx hb dTa_work_18 rfl (lv_at hl 2 rfl) ?_
    obtain ⟨hx4, hf⟩ := ek_ck_s hf
    refine ek_cv hf hS hA (fun I' hq => ek_rV (As := [.int i2]) ⟨hx, hb, hml, hown, hts⟩ hK hw 6 rfl (by decide) (by decide) hx4 (mTa_finish hq) (cwV 1 hts (lw_V q_546 q_548 p_12 q_3 q_549) rfl rfl rfl (by decide +kernel) ⟨Nat.le_of_ble_eq_true rfl, Nat.le_of_ble_eq_true rfl⟩) rfl hl.1 rfl (Nat.le_of_ble_eq_true rfl) dTa_work_19 ⟨Nat.zero_le _, Nat.zero_le _⟩) (fun I3 H locs hf hw hS => ?_)
    exact ek_vret hx hb hr hlocks hw hS hf dTa_work_22
set_option maxHeartbeats 4000000 in
set_option maxRecDepth 100000 in
theorem mTa_work {l : Launch} {G : ek_G} {kd : Nat → Nat} {I : ek_St} {x0 : Nat} {i1 : Int32} {i2 : Int32} {q : ek_St} (hf : fTa_work kd I x0 i1 i2 = some q) : ek_M l G kd y_Ta_work (.code y_Ta_work prog_7_method_7_code 3 none :: lw_g) ({ frames := 1, cells := 0, slots := 0, locals := 21 } : Room) [ek_r G x0, .int i1, .int i2] I none q :=
  ek_body [(0, ek_r G x0), (1, .int i1), (2, .int i2)] (by decide) (by simp [lg_sl, ek_r_cat, ek_c_i, ek_c_l]) (by simp [lv_args, ek_r_cat, ek_c_i, ek_c_l]) (fun p e s m below meth c ls X hw hS hl => wTa_work_0 X hf hw hS hl)
/-! ElasticKernel$Task.isPressedFlat()Z -/
def fTa_isPressedFlat_42 (kd : Nat → Nat) (I : ek_St) : Option (ek_St × Int32) :=
  ek_ck (((0 : Int32)) = (0 : Int32) ∨ ((0 : Int32)) = (1 : Int32)) (some (I, (0 : Int32)))
def fTa_isPressedFlat_0 (kd : Nat → Nat) (I : ek_St) (x0 : Nat) : Option (ek_St × Int32) :=
  ek_ck (kd x0 = 6) (ek_bi (fTa_isSolved kd I x0) (fun I1 ir3 => if ir3 = ((0 : Int32)) then (fTa_isPressedFlat_42 kd I1) else (ek_ck (kd x0 = 6) (ek_ck (kd x0 = 6) (if (I1 x0 2) = (I1 x0 3) then (fTa_isPressedFlat_42 kd I1) else (ek_ck (kd x0 = 6) (ek_ck (kd x0 = 6) (ek_ck (kd x0 = 6) (ek_ck (kd (x0 + 1) = 2) (ek_bi (fFr_compare kd I1 (x0 + 1) (Int32.toInt64 (I1 x0 1)) (Int32.toInt64 (I1 x0 3))) (fun I6 ir8 => if ir8 = ((0 : Int32)) then (ek_ck (((1 : Int32)) = (0 : Int32) ∨ ((1 : Int32)) = (1 : Int32)) (some (I6, (1 : Int32)))) else (fTa_isPressedFlat_42 kd I6))))))))))))
def fTa_isPressedFlat (kd : Nat → Nat) (I : ek_St) (x0 : Nat) : Option (ek_St × Int32) := fTa_isPressedFlat_0 kd I x0
theorem dTa_isPressedFlat_0 : decode prog_7_method_5_code 0 = .ok (.aload_n 0, 1) := by decide +kernel
theorem dTa_isPressedFlat_1 : decode prog_7_method_5_code 1 = .ok (.invokevirtual 55, 3) := by decide +kernel
theorem dTa_isPressedFlat_4 : decode prog_7_method_5_code 4 = .ok (.ifCond .eq 38, 3) := by decide +kernel
theorem dTa_isPressedFlat_7 : decode prog_7_method_5_code 7 = .ok (.aload_n 0, 1) := by decide +kernel
theorem dTa_isPressedFlat_8 : decode prog_7_method_5_code 8 = .ok (.getfield 22, 3) := by decide +kernel
theorem dTa_isPressedFlat_11 : decode prog_7_method_5_code 11 = .ok (.aload_n 0, 1) := by decide +kernel
theorem dTa_isPressedFlat_12 : decode prog_7_method_5_code 12 = .ok (.getfield 25, 3) := by decide +kernel
theorem dTa_isPressedFlat_15 : decode prog_7_method_5_code 15 = .ok (.if_icmp .eq 27, 3) := by decide +kernel
theorem dTa_isPressedFlat_18 : decode prog_7_method_5_code 18 = .ok (.aload_n 0, 1) := by decide +kernel
theorem dTa_isPressedFlat_19 : decode prog_7_method_5_code 19 = .ok (.getfield 12, 3) := by decide +kernel
theorem dTa_isPressedFlat_22 : decode prog_7_method_5_code 22 = .ok (.aload_n 0, 1) := by decide +kernel
theorem dTa_isPressedFlat_23 : decode prog_7_method_5_code 23 = .ok (.getfield 18, 3) := by decide +kernel
theorem dTa_isPressedFlat_26 : decode prog_7_method_5_code 26 = .ok (.i2l, 1) := by decide +kernel
theorem dTa_isPressedFlat_27 : decode prog_7_method_5_code 27 = .ok (.aload_n 0, 1) := by decide +kernel
theorem dTa_isPressedFlat_28 : decode prog_7_method_5_code 28 = .ok (.getfield 25, 3) := by decide +kernel
theorem dTa_isPressedFlat_31 : decode prog_7_method_5_code 31 = .ok (.i2l, 1) := by decide +kernel
theorem dTa_isPressedFlat_32 : decode prog_7_method_5_code 32 = .ok (.invokevirtual 59, 3) := by decide +kernel
theorem dTa_isPressedFlat_35 : decode prog_7_method_5_code 35 = .ok (.ifCond .ne 7, 3) := by decide +kernel
theorem dTa_isPressedFlat_38 : decode prog_7_method_5_code 38 = .ok (.iconst 1, 1) := by decide +kernel
theorem dTa_isPressedFlat_39 : decode prog_7_method_5_code 39 = .ok (.goto 4, 3) := by decide +kernel
theorem dTa_isPressedFlat_42 : decode prog_7_method_5_code 42 = .ok (.iconst 0, 1) := by decide +kernel
theorem dTa_isPressedFlat_43 : decode prog_7_method_5_code 43 = .ok (.ireturn, 1) := by decide +kernel
set_option maxHeartbeats 4000000 in
set_option maxRecDepth 100000 in
theorem wTa_isPressedFlat_42 {l : Launch} {G : ek_G} {kd : Nat → Nat} {p : Program} {e : Env} {s : State} {m : MethodId} {args : Array Value} {below : List Frame} {meth : Method} {c : Code} (X : ek_X p s m meth c args G prog_7_method_5_code 1 "ElasticKernel$Task" (some .boolean)) {q : ek_St × Int32} {I : ek_St} (hf : fTa_isPressedFlat_42 kd I = some q) {H : Heap} {locs : List Loc} {ls : Array Slot} (hw : ek_W G kd I H) (hS : va_S (ek_A G kd) s.heap H locs) (hl : lv_has ls 1 []) : W p l e ({ frames := 2, cells := 0, slots := 0, locals := 56 } : Room) s m args below meth c H locs 0 0 (MQ below (ek_Q G kd (some (.int q.2)) q.1) args s 0 0 (ek_A G kd)) (F0 m 42 ls []) := by
  obtain ⟨hx, hb, hml, hown, hts, hr, hlocks, hK⟩ := id X
  have hA : ∀ q, ek_A G kd q → ek_A G kd q := fun _ h => h
  unfold fTa_isPressedFlat_42 at hf
  refine lv_iconst (v := (0 : Int32)) hx hb dTa_isPressedFlat_42 (by decide) ?_
  exact ek_zret hx hb hr hlocks hw hS hf dTa_isPressedFlat_43
set_option maxHeartbeats 4000000 in
set_option maxRecDepth 100000 in
theorem wTa_isPressedFlat_0 {l : Launch} {G : ek_G} {kd : Nat → Nat} {p : Program} {e : Env} {s : State} {m : MethodId} {args : Array Value} {below : List Frame} {meth : Method} {c : Code} (X : ek_X p s m meth c args G prog_7_method_5_code 1 "ElasticKernel$Task" (some .boolean)) {q : ek_St × Int32} {I : ek_St} {x0 : Nat} (hf : fTa_isPressedFlat_0 kd I x0 = some q) {H : Heap} {locs : List Loc} {ls : Array Slot} (hw : ek_W G kd I H) (hS : va_S (ek_A G kd) s.heap H locs) (hl : lv_has ls 1 [(0, ek_r G x0)]) : W p l e ({ frames := 2, cells := 0, slots := 0, locals := 56 } : Room) s m args below meth c H locs 0 0 (MQ below (ek_Q G kd (some (.int q.2)) q.1) args s 0 0 (ek_A G kd)) (F0 m 0 ls []) := by
  obtain ⟨hx, hb, hml, hown, hts, hr, hlocks, hK⟩ := id X
  have hA : ∀ q, ek_A G kd q → ek_A G kd q := fun _ h => h
  unfold fTa_isPressedFlat_0 at hf
  refine ek_aload_n hx hb dTa_isPressedFlat_0 rfl (lv_at hl 0 rfl) ?_
  obtain ⟨hx2, hf⟩ := ek_ck_s hf
  refine ek_ci hf hS hA (fun I' v hq => ek_rV (As := []) ⟨hx, hb, hml, hown, hts⟩ hK hw 6 rfl (by decide) (by decide) hx2 (mTa_isSolved hq) (cwV 0 hts (lw_V q_434 q_312 q_313 q_3 q_314) rfl rfl rfl (by decide +kernel) ⟨Nat.le_of_ble_eq_true rfl, Nat.le_of_ble_eq_true rfl⟩) rfl hl.1 rfl (Nat.le_of_ble_eq_true rfl) dTa_isPressedFlat_1 ⟨Nat.zero_le _, Nat.zero_le _⟩) (fun I1 ir3 H locs hf hw hS => ?_)
  refine lv_if_eq (tgt := 42) hx hb dTa_isPressedFlat_4 (by decide) (fun c4 => ?_) (fun c4 => ?_)
  · have hf := ek_t c4 hf
    exact wTa_isPressedFlat_42 X hf hw hS (lv_sub hl [] rfl)
  · have hf := ek_f c4 hf
    refine ek_aload_n hx hb dTa_isPressedFlat_7 rfl (lv_at hl 0 rfl) ?_
    refine ek_geti hx hb 6 hts (in_Ta) hown hK hw rfl (by decide) (by decide) 2 (by decide) rfl (hts _ q_78) hf dTa_isPressedFlat_8 (fun hf => ?_)
    refine ek_aload_n hx hb dTa_isPressedFlat_11 rfl (lv_at hl 0 rfl) ?_
    refine ek_geti hx hb 6 hts (in_Ta) hown hK hw rfl (by decide) (by decide) 3 (by decide) rfl (hts _ q_80) hf dTa_isPressedFlat_12 (fun hf => ?_)
    refine lv_icmp_eq (tgt := 42) hx hb dTa_isPressedFlat_15 (by decide) (fun c5 => ?_) (fun c5 => ?_)
    · have hf := ek_t c5 hf
      exact wTa_isPressedFlat_42 X hf hw hS (lv_sub hl [] rfl)
    · have hf := ek_f c5 hf
      refine ek_aload_n hx hb dTa_isPressedFlat_18 rfl (lv_at hl 0 rfl) ?_
      refine ek_getr hx hb 6 hts (in_Ta) hown hK hw rfl (by decide) (by decide) 14 (by decide) (n := 0) rfl rfl (hts _ q_102) hf dTa_isPressedFlat_19 (fun hf => ?_)
      refine ek_aload_n hx hb dTa_isPressedFlat_22 rfl (lv_at hl 0 rfl) ?_
      refine ek_geti hx hb 6 hts (in_Ta) hown hK hw rfl (by decide) (by decide) 1 (by decide) rfl (hts _ q_75) hf dTa_isPressedFlat_23 (fun hf => ?_)
      refine lv_i2l hx hb dTa_isPressedFlat_26 rfl ?_
      refine ek_aload_n hx hb dTa_isPressedFlat_27 rfl (lv_at hl 0 rfl) ?_
      refine ek_geti hx hb 6 hts (in_Ta) hown hK hw rfl (by decide) (by decide) 3 (by decide) rfl (hts _ q_80) hf dTa_isPressedFlat_28 (fun hf => ?_)
      refine lv_i2l hx hb dTa_isPressedFlat_31 rfl ?_
      obtain ⟨hx7, hf⟩ := ek_ck_s hf
      refine ek_ci hf hS hA (fun I' v hq => ek_rV (As := [.long (Int32.toInt64 (I1 x0 1)), .long (Int32.toInt64 (I1 x0 3))]) ⟨hx, hb, hml, hown, hts⟩ hK hw 2 rfl (by decide) (by decide) hx7 (mFr_compare hq) (cwV 2 hts (lw_V q_435 q_285 q_286 q_4 q_287) rfl rfl rfl (by decide +kernel) ⟨Nat.le_of_ble_eq_true rfl, Nat.le_of_ble_eq_true rfl⟩) rfl hl.1 rfl (Nat.le_of_ble_eq_true rfl) dTa_isPressedFlat_32 ⟨Nat.zero_le _, Nat.zero_le _⟩) (fun I6 ir8 H locs hf hw hS => ?_)
      refine lv_if_ne (tgt := 42) hx hb dTa_isPressedFlat_35 (by decide) (fun c9 => ?_) (fun c9 => ?_)
      · have hf := ek_f c9 hf
        exact wTa_isPressedFlat_42 X hf hw hS (lv_sub hl [] rfl)
      · have hf := ek_t c9 hf
        refine lv_iconst (v := (1 : Int32)) hx hb dTa_isPressedFlat_38 (by decide) ?_
        refine lv_goto (tgt := 43) hx hb dTa_isPressedFlat_39 (by decide) ?_
        exact ek_zret hx hb hr hlocks hw hS hf dTa_isPressedFlat_43
set_option maxHeartbeats 4000000 in
set_option maxRecDepth 100000 in
theorem mTa_isPressedFlat {l : Launch} {G : ek_G} {kd : Nat → Nat} {I : ek_St} {x0 : Nat} {q : ek_St × Int32} (hf : fTa_isPressedFlat kd I x0 = some q) : ek_M l G kd y_Ta_isPressedFlat (.code y_Ta_isPressedFlat prog_7_method_5_code 1 (some .boolean) :: lw_g) ({ frames := 2, cells := 0, slots := 0, locals := 56 } : Room) [ek_r G x0] I (some (.int q.2)) q.1 :=
  ek_body [(0, ek_r G x0)] (by decide) (by simp [lg_sl, ek_r_cat, ek_c_i, ek_c_l]) (by simp [lv_args, ek_r_cat, ek_c_i, ek_c_l]) (fun p e s m below meth c ls X hw hS hl => wTa_isPressedFlat_0 X hf hw hS hl)
