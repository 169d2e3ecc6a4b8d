/-! ElasticKernelModel.state(I)I -/
def fMo_state_0 (kd : Nat → Nat) (I : ek_St) (x0 : Nat) (i1 : Int32) : Option (ek_St × Int32) :=
  ek_ck (kd x0 = 8) (ek_let (ek_up I x0 0 ((0 : Int32))) (fun I1 => if i1 = (0 : Int32) then (ek_ck (kd x0 = 8) (some (I1, I1 x0 1))) else (if i1 = (1 : Int32) then (ek_ck (kd x0 = 8) (some (I1, I1 x0 2))) else (if i1 = (2 : Int32) then (ek_ck (kd x0 = 8) (some (I1, I1 x0 3))) else (if i1 = (3 : Int32) then (ek_ck (kd x0 = 8) (some (I1, I1 x0 4))) else (if i1 = (4 : Int32) then (ek_ck (kd x0 = 8) (ek_bi (fMo_unused kd I1 x0) (fun I7 ir9 => some (I7, ir9)))) else (if i1 = (5 : Int32) then (ek_ck (kd x0 = 8) (some (I1, I1 x0 5))) else (if i1 = (6 : Int32) then (ek_ck (kd x0 = 8) (some (I1, I1 x0 7))) else (if i1 = (7 : Int32) then (ek_ck (kd x0 = 8) (some (I1, I1 x0 6))) else (some (I1, (-1 : Int32))))))))))))
def fMo_state (kd : Nat → Nat) (I : ek_St) (x0 : Nat) (i1 : Int32) : Option (ek_St × Int32) := fMo_state_0 kd I x0 i1
theorem dMo_state_0 : decode prog_9_method_42_code 0 = .ok (.aload_n 0, 1) := by decide +kernel
theorem dMo_state_1 : decode prog_9_method_42_code 1 = .ok (.iconst 0, 1) := by decide +kernel
theorem dMo_state_2 : decode prog_9_method_42_code 2 = .ok (.putfield 70, 3) := by decide +kernel
theorem dMo_state_5 : decode prog_9_method_42_code 5 = .ok (.iload_n 1, 1) := by decide +kernel
theorem dMo_state_6 : decode prog_9_method_42_code 6 = .ok (.tableswitch 86 0 7 #[46, 51, 56, 61, 66, 71, 76, 81], 46) := by decide +kernel
theorem dMo_state_52 : decode prog_9_method_42_code 52 = .ok (.aload_n 0, 1) := by decide +kernel
theorem dMo_state_53 : decode prog_9_method_42_code 53 = .ok (.getfield 155, 3) := by decide +kernel
theorem dMo_state_56 : decode prog_9_method_42_code 56 = .ok (.ireturn, 1) := by decide +kernel
theorem dMo_state_57 : decode prog_9_method_42_code 57 = .ok (.aload_n 0, 1) := by decide +kernel
theorem dMo_state_58 : decode prog_9_method_42_code 58 = .ok (.getfield 7, 3) := by decide +kernel
theorem dMo_state_61 : decode prog_9_method_42_code 61 = .ok (.ireturn, 1) := by decide +kernel
theorem dMo_state_62 : decode prog_9_method_42_code 62 = .ok (.aload_n 0, 1) := by decide +kernel
theorem dMo_state_63 : decode prog_9_method_42_code 63 = .ok (.getfield 176, 3) := by decide +kernel
theorem dMo_state_66 : decode prog_9_method_42_code 66 = .ok (.ireturn, 1) := by decide +kernel
theorem dMo_state_67 : decode prog_9_method_42_code 67 = .ok (.aload_n 0, 1) := by decide +kernel
theorem dMo_state_68 : decode prog_9_method_42_code 68 = .ok (.getfield 128, 3) := by decide +kernel
theorem dMo_state_71 : decode prog_9_method_42_code 71 = .ok (.ireturn, 1) := by decide +kernel
theorem dMo_state_72 : decode prog_9_method_42_code 72 = .ok (.aload_n 0, 1) := by decide +kernel
theorem dMo_state_73 : decode prog_9_method_42_code 73 = .ok (.invokevirtual 194, 3) := by decide +kernel
theorem dMo_state_76 : decode prog_9_method_42_code 76 = .ok (.ireturn, 1) := by decide +kernel
theorem dMo_state_77 : decode prog_9_method_42_code 77 = .ok (.aload_n 0, 1) := by decide +kernel
theorem dMo_state_78 : decode prog_9_method_42_code 78 = .ok (.getfield 152, 3) := by decide +kernel
theorem dMo_state_81 : decode prog_9_method_42_code 81 = .ok (.ireturn, 1) := by decide +kernel
theorem dMo_state_82 : decode prog_9_method_42_code 82 = .ok (.aload_n 0, 1) := by decide +kernel
theorem dMo_state_83 : decode prog_9_method_42_code 83 = .ok (.getfield 105, 3) := by decide +kernel
theorem dMo_state_86 : decode prog_9_method_42_code 86 = .ok (.ireturn, 1) := by decide +kernel
theorem dMo_state_87 : decode prog_9_method_42_code 87 = .ok (.aload_n 0, 1) := by decide +kernel
theorem dMo_state_88 : decode prog_9_method_42_code 88 = .ok (.getfield 167, 3) := by decide +kernel
theorem dMo_state_91 : decode prog_9_method_42_code 91 = .ok (.ireturn, 1) := by decide +kernel
theorem dMo_state_92 : decode prog_9_method_42_code 92 = .ok (.iconst (-1), 1) := by decide +kernel
theorem dMo_state_93 : decode prog_9_method_42_code 93 = .ok (.ireturn, 1) := by decide +kernel
set_option maxHeartbeats 4000000 in
set_option maxRecDepth 100000 in
theorem wMo_state_0 {l : Launch} {G : ek_G} {kd : Nat → Nat} {p : Program} {e : Env} {s : State} {m : MethodId} {args : Array Value} {below : List Frame} {meth : Method} {c : Code} (X : ek_X p s m meth c args G prog_9_method_42_code 2 "ElasticKernelModel" (some .int)) {q : ek_St × Int32} {I : ek_St} {x0 : Nat} {i1 : Int32} (hf : fMo_state_0 kd I x0 i1 = some q) {H : Heap} {locs : List Loc} {ls : Array Slot} (hw : ek_W G kd I H) (hS : va_S (ek_A G kd) s.heap H locs) (hl : lv_has ls 2 [(0, ek_r G x0), (1, .int i1)]) : W p l e ({ frames := 2, cells := 0, slots := 0, locals := 48 } : Room) s m args below meth c H locs 0 0 (MQ below (ek_Q G kd (some (.int q.2)) q.1) args s 0 0 (ek_A G kd)) (F0 m 0 ls []) := by
  obtain ⟨hx, hb, hml, hown, hts, hr, hlocks, hK⟩ := id X
  have hA : ∀ q, ek_A G kd q → ek_A G kd q := fun _ h => h
  unfold fMo_state_0 at hf
  refine ek_aload_n hx hb dMo_state_0 rfl (lv_at hl 0 rfl) ?_
  refine lv_iconst (v := (0 : Int32)) hx hb dMo_state_1 (by decide) ?_
  refine ek_puti hx hb 8 hts (in_Mo) ty_Mo ty_Mo_ok nm_Mo hown hK hw hS hA rfl (by decide) (by decide) 0 (by decide) rfl (hts _ q_576) rfl rfl rfl hf dMo_state_2 (fun I1 H locs hf hw hS => ?_)
  refine lv_iload_n hx hb dMo_state_5 rfl (lv_at hl 1 rfl) ?_
  by_cases c2 : i1 = (0 : Int32)
  · have hf := ek_t c2 hf
    refine lv_tableIn (tgt := 52) hx hb dMo_state_6 (by rw [c2]; decide) (by rw [c2]; decide) (off := 46) (by rw [c2]; rfl) (by decide) ?_
    refine ek_aload_n hx hb dMo_state_52 rfl (lv_at hl 0 rfl) ?_
    refine ek_geti hx hb 8 hts (in_Mo) hown hK hw rfl (by decide) (by decide) 1 (by decide) rfl (hts _ q_577) hf dMo_state_53 (fun hf => ?_)
    exact ek_iret hx hb hr hlocks hw hS hf dMo_state_56
  have hf := ek_f c2 hf
  by_cases c3 : i1 = (1 : Int32)
  · have hf := ek_t c3 hf
    refine lv_tableIn (tgt := 57) hx hb dMo_state_6 (by rw [c3]; decide) (by rw [c3]; decide) (off := 51) (by rw [c3]; rfl) (by decide) ?_
    refine ek_aload_n hx hb dMo_state_57 rfl (lv_at hl 0 rfl) ?_
    refine ek_geti hx hb 8 hts (in_Mo) hown hK hw rfl (by decide) (by decide) 2 (by decide) rfl (hts _ q_578) hf dMo_state_58 (fun hf => ?_)
    exact ek_iret hx hb hr hlocks hw hS hf dMo_state_61
  have hf := ek_f c3 hf
  by_cases c4 : i1 = (2 : Int32)
  · have hf := ek_t c4 hf
    refine lv_tableIn (tgt := 62) hx hb dMo_state_6 (by rw [c4]; decide) (by rw [c4]; decide) (off := 56) (by rw [c4]; rfl) (by decide) ?_
    refine ek_aload_n hx hb dMo_state_62 rfl (lv_at hl 0 rfl) ?_
    refine ek_geti hx hb 8 hts (in_Mo) hown hK hw rfl (by decide) (by decide) 3 (by decide) rfl (hts _ q_579) hf dMo_state_63 (fun hf => ?_)
    exact ek_iret hx hb hr hlocks hw hS hf dMo_state_66
  have hf := ek_f c4 hf
  by_cases c5 : i1 = (3 : Int32)
  · have hf := ek_t c5 hf
    refine lv_tableIn (tgt := 67) hx hb dMo_state_6 (by rw [c5]; decide) (by rw [c5]; decide) (off := 61) (by rw [c5]; rfl) (by decide) ?_
    refine ek_aload_n hx hb dMo_state_67 rfl (lv_at hl 0 rfl) ?_
    refine ek_geti hx hb 8 hts (in_Mo) hown hK hw rfl (by decide) (by decide) 4 (by decide) rfl (hts _ q_580) hf dMo_state_68 (fun hf => ?_)
    exact ek_iret hx hb hr hlocks hw hS hf dMo_state_71
  have hf := ek_f c5 hf
  by_cases c6 : i1 = (4 : Int32)
  · have hf := ek_t c6 hf
    refine lv_tableIn (tgt := 72) hx hb dMo_state_6 (by rw [c6]; decide) (by rw [c6]; decide) (off := 66) (by rw [c6]; rfl) (by decide) ?_
    refine ek_aload_n hx hb dMo_state_72 rfl (lv_at hl 0 rfl) ?_
    obtain ⟨hx8, hf⟩ := ek_ck_s hf
    refine ek_ci hf hS hA (fun I' v hq => ek_rV (As := []) ⟨hx, hb, hml, hown, hts⟩ hK hw 8 rfl (by decide) (by decide) hx8 (mMo_unused hq) (cwV 0 hts (lw_V q_811 q_813 p_45 q_8 q_814) rfl rfl rfl (by decide +kernel) ⟨Nat.le_of_ble_eq_true rfl, Nat.le_of_ble_eq_true rfl⟩) rfl hl.1 rfl (Nat.le_of_ble_eq_true rfl) dMo_state_73 ⟨Nat.zero_le _, Nat.zero_le _⟩) (fun I7 ir9 H locs hf hw hS => ?_)
    exact ek_iret hx hb hr hlocks hw hS hf dMo_state_76
  have hf := ek_f c6 hf
  by_cases c10 : i1 = (5 : Int32)
  · have hf := ek_t c10 hf
    refine lv_tableIn (tgt := 77) hx hb dMo_state_6 (by rw [c10]; decide) (by rw [c10]; decide) (off := 71) (by rw [c10]; rfl) (by decide) ?_
    refine ek_aload_n hx hb dMo_state_77 rfl (lv_at hl 0 rfl) ?_
    refine ek_geti hx hb 8 hts (in_Mo) hown hK hw rfl (by decide) (by decide) 5 (by decide) rfl (hts _ q_581) hf dMo_state_78 (fun hf => ?_)
    exact ek_iret hx hb hr hlocks hw hS hf dMo_state_81
  have hf := ek_f c10 hf
  by_cases c11 : i1 = (6 : Int32)
  · have hf := ek_t c11 hf
    refine lv_tableIn (tgt := 82) hx hb dMo_state_6 (by rw [c11]; decide) (by rw [c11]; decide) (off := 76) (by rw [c11]; rfl) (by decide) ?_
    refine ek_aload_n hx hb dMo_state_82 rfl (lv_at hl 0 rfl) ?_
    refine ek_geti hx hb 8 hts (in_Mo) hown hK hw rfl (by decide) (by decide) 7 (by decide) rfl (hts _ q_583) hf dMo_state_83 (fun hf => ?_)
    exact ek_iret hx hb hr hlocks hw hS hf dMo_state_86
  have hf := ek_f c11 hf
  by_cases c12 : i1 = (7 : Int32)
  · have hf := ek_t c12 hf
    refine lv_tableIn (tgt := 87) hx hb dMo_state_6 (by rw [c12]; decide) (by rw [c12]; decide) (off := 81) (by rw [c12]; rfl) (by decide) ?_
    refine ek_aload_n hx hb dMo_state_87 rfl (lv_at hl 0 rfl) ?_
    refine ek_geti hx hb 8 hts (in_Mo) hown hK hw rfl (by decide) (by decide) 6 (by decide) rfl (hts _ q_582) hf dMo_state_88 (fun hf => ?_)
    exact ek_iret hx hb hr hlocks hw hS hf dMo_state_91
  have hf := ek_f c12 hf
  refine lv_tableOut (tgt := 92) hx hb dMo_state_6 (by have := lv_neT c2 (a := 0) (by decide); have := lv_neT c3 (a := 1) (by decide); have := lv_neT c4 (a := 2) (by decide); have := lv_neT c5 (a := 3) (by decide); have := lv_neT c6 (a := 4) (by decide); have := lv_neT c10 (a := 5) (by decide); have := lv_neT c11 (a := 6) (by decide); have := lv_neT c12 (a := 7) (by decide); omega) (by decide) ?_
  refine lv_iconst (v := (-1 : Int32)) hx hb dMo_state_92 (by decide) ?_
  exact ek_iret hx hb hr hlocks hw hS hf dMo_state_93
set_option maxHeartbeats 4000000 in
set_option maxRecDepth 100000 in
theorem mMo_state {l : Launch} {G : ek_G} {kd : Nat → Nat} {I : ek_St} {x0 : Nat} {i1 : Int32} {q : ek_St × Int32} (hf : fMo_state kd I x0 i1 = some q) : ek_M l G kd y_Mo_state (.code y_Mo_state prog_9_method_42_code 2 (some .int) :: lw_g) ({ frames := 2, cells := 0, slots := 0, locals := 48 } : Room) [ek_r G x0, .int i1] I (some (.int q.2)) q.1 :=
  ek_body [(0, ek_r G x0), (1, .int i1)] (by decide) (by simp [lg_sl, ek_r_cat, ek_c_i, ek_c_l]) (by simp [lv_args, ek_r_cat, ek_c_i, ek_c_l]) (fun p e s m below meth c ls X hw hS hl => wMo_state_0 X hf hw hS hl)
