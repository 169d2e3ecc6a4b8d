/-! ElasticKernelModel.press(II)V -/
def fMo_press_0 (kd : Nat → Nat) (I : ek_St) (x0 : Nat) (i1 : Int32) (i2 : Int32) : Option (ek_St) :=
  ek_ck (kd x0 = 8) (ek_ck (kd (x0 + 17) = 112) (ek_ck (ek_in i1 12) (if i2 ≤ (I (x0 + 17) i1.toNatClampNeg) then (ek_ck (kd x0 = 8) (ek_bv (fMo_copy kd I x0 ((30 : Int32)) ((27 : Int32))) (fun I2 => ek_ck (kd x0 = 8) (ek_ck (kd (x0 + 5) = 112) (ek_ck (ek_in i1 12) (ek_ck (kd x0 = 8) (ek_bv (fMo_times kd I2 x0 ((30 : Int32)) (I2 (x0 + 5) i1.toNatClampNeg)) (fun I4 => ek_ck (kd x0 = 8) (ek_bv (fMo_copy kd I4 x0 ((((2 : Int32)) * i1) + ((1 : Int32))) ((30 : Int32))) (fun I6 => ek_ck (kd x0 = 8) (ek_ck (kd (x0 + 3) = 112) (ek_ck (ek_in i1 12) (ek_ck (kd x0 = 8) (ek_bv (fMo_times kd I6 x0 ((((2 : Int32)) * i1) + ((1 : Int32))) (I6 (x0 + 3) i1.toNatClampNeg)) (fun I8 => ek_ck (kd x0 = 8) (ek_ck (kd (x0 + 2) = 112) (ek_ck (ek_in i1 12) (ek_ck (kd x0 = 8) (ek_bv (fMo_times kd I8 x0 ((30 : Int32)) (I8 (x0 + 2) i1.toNatClampNeg)) (fun I10 => ek_ck (kd x0 = 8) (ek_bv (fMo_copy kd I10 x0 ((31 : Int32)) ((26 : Int32))) (fun I12 => ek_ck (kd x0 = 8) (ek_ck (kd (x0 + 3) = 112) (ek_ck (ek_in i1 12) (ek_ck (kd x0 = 8) (ek_bv (fMo_times kd I12 x0 ((31 : Int32)) (I12 (x0 + 3) i1.toNatClampNeg)) (fun I14 => ek_ck (kd x0 = 8) (ek_bv (fMo_add3 kd I14 x0 ((30 : Int32)) ((31 : Int32)) ((1 : Int32))) (fun I16 => ek_ck (kd x0 = 8) (ek_bv (fMo_copy kd I16 x0 (((2 : Int32)) * i1) ((30 : Int32))) (fun I18 => some I18))))))))))))))))))))))))))))))) else (ek_ck (kd x0 = 8) (ek_ck (kd (x0 + 2) = 112) (ek_ck (ek_in i1 12) (ek_ck (kd x0 = 8) (ek_bv (fMo_be kd I x0 (((2 : Int32)) * i1) (Int32.toInt64 (I (x0 + 2) i1.toNatClampNeg))) (fun I20 => ek_ck (kd x0 = 8) (ek_ck (kd (x0 + 4) = 112) (ek_ck (ek_in i1 12) (ek_ck (kd x0 = 8) (ek_bv (fMo_be kd I20 x0 ((((2 : Int32)) * i1) + ((1 : Int32))) (Int32.toInt64 (I20 (x0 + 4) i1.toNatClampNeg))) (fun I22 => some I22))))))))))))))
def fMo_press (kd : Nat → Nat) (I : ek_St) (x0 : Nat) (i1 : Int32) (i2 : Int32) : Option (ek_St) := fMo_press_0 kd I x0 i1 i2
theorem dMo_press_0 : decode prog_9_method_23_code 0 = .ok (.aload_n 0, 1) := by decide +kernel
theorem dMo_press_1 : decode prog_9_method_23_code 1 = .ok (.getfield 63, 3) := by decide +kernel
theorem dMo_press_4 : decode prog_9_method_23_code 4 = .ok (.iload_n 1, 1) := by decide +kernel
theorem dMo_press_5 : decode prog_9_method_23_code 5 = .ok (.iaload, 1) := by decide +kernel
theorem dMo_press_6 : decode prog_9_method_23_code 6 = .ok (.iload_n 2, 1) := by decide +kernel
theorem dMo_press_7 : decode prog_9_method_23_code 7 = .ok (.if_icmp .ge 34, 3) := by decide +kernel
theorem dMo_press_10 : decode prog_9_method_23_code 10 = .ok (.aload_n 0, 1) := by decide +kernel
theorem dMo_press_11 : decode prog_9_method_23_code 11 = .ok (.iconst 2, 1) := by decide +kernel
theorem dMo_press_12 : decode prog_9_method_23_code 12 = .ok (.iload_n 1, 1) := by decide +kernel
theorem dMo_press_13 : decode prog_9_method_23_code 13 = .ok (.imul, 1) := by decide +kernel
theorem dMo_press_14 : decode prog_9_method_23_code 14 = .ok (.aload_n 0, 1) := by decide +kernel
theorem dMo_press_15 : decode prog_9_method_23_code 15 = .ok (.getfield 17, 3) := by decide +kernel
theorem dMo_press_18 : decode prog_9_method_23_code 18 = .ok (.iload_n 1, 1) := by decide +kernel
theorem dMo_press_19 : decode prog_9_method_23_code 19 = .ok (.iaload, 1) := by decide +kernel
theorem dMo_press_20 : decode prog_9_method_23_code 20 = .ok (.i2l, 1) := by decide +kernel
theorem dMo_press_21 : decode prog_9_method_23_code 21 = .ok (.invokevirtual 66, 3) := by decide +kernel
theorem dMo_press_24 : decode prog_9_method_23_code 24 = .ok (.aload_n 0, 1) := by decide +kernel
theorem dMo_press_25 : decode prog_9_method_23_code 25 = .ok (.iconst 2, 1) := by decide +kernel
theorem dMo_press_26 : decode prog_9_method_23_code 26 = .ok (.iload_n 1, 1) := by decide +kernel
theorem dMo_press_27 : decode prog_9_method_23_code 27 = .ok (.imul, 1) := by decide +kernel
theorem dMo_press_28 : decode prog_9_method_23_code 28 = .ok (.iconst 1, 1) := by decide +kernel
theorem dMo_press_29 : decode prog_9_method_23_code 29 = .ok (.iadd, 1) := by decide +kernel
theorem dMo_press_30 : decode prog_9_method_23_code 30 = .ok (.aload_n 0, 1) := by decide +kernel
theorem dMo_press_31 : decode prog_9_method_23_code 31 = .ok (.getfield 23, 3) := by decide +kernel
theorem dMo_press_34 : decode prog_9_method_23_code 34 = .ok (.iload_n 1, 1) := by decide +kernel
theorem dMo_press_35 : decode prog_9_method_23_code 35 = .ok (.iaload, 1) := by decide +kernel
theorem dMo_press_36 : decode prog_9_method_23_code 36 = .ok (.i2l, 1) := by decide +kernel
theorem dMo_press_37 : decode prog_9_method_23_code 37 = .ok (.invokevirtual 66, 3) := by decide +kernel
theorem dMo_press_40 : decode prog_9_method_23_code 40 = .ok (.return_, 1) := by decide +kernel
theorem dMo_press_41 : decode prog_9_method_23_code 41 = .ok (.aload_n 0, 1) := by decide +kernel
theorem dMo_press_42 : decode prog_9_method_23_code 42 = .ok (.bipush 30, 2) := by decide +kernel
theorem dMo_press_44 : decode prog_9_method_23_code 44 = .ok (.bipush 27, 2) := by decide +kernel
theorem dMo_press_46 : decode prog_9_method_23_code 46 = .ok (.invokevirtual 87, 3) := by decide +kernel
theorem dMo_press_49 : decode prog_9_method_23_code 49 = .ok (.aload_n 0, 1) := by decide +kernel
theorem dMo_press_50 : decode prog_9_method_23_code 50 = .ok (.bipush 30, 2) := by decide +kernel
theorem dMo_press_52 : decode prog_9_method_23_code 52 = .ok (.aload_n 0, 1) := by decide +kernel
theorem dMo_press_53 : decode prog_9_method_23_code 53 = .ok (.getfield 26, 3) := by decide +kernel
theorem dMo_press_56 : decode prog_9_method_23_code 56 = .ok (.iload_n 1, 1) := by decide +kernel
theorem dMo_press_57 : decode prog_9_method_23_code 57 = .ok (.iaload, 1) := by decide +kernel
theorem dMo_press_58 : decode prog_9_method_23_code 58 = .ok (.invokevirtual 102, 3) := by decide +kernel
theorem dMo_press_61 : decode prog_9_method_23_code 61 = .ok (.aload_n 0, 1) := by decide +kernel
theorem dMo_press_62 : decode prog_9_method_23_code 62 = .ok (.iconst 2, 1) := by decide +kernel
theorem dMo_press_63 : decode prog_9_method_23_code 63 = .ok (.iload_n 1, 1) := by decide +kernel
theorem dMo_press_64 : decode prog_9_method_23_code 64 = .ok (.imul, 1) := by decide +kernel
theorem dMo_press_65 : decode prog_9_method_23_code 65 = .ok (.iconst 1, 1) := by decide +kernel
theorem dMo_press_66 : decode prog_9_method_23_code 66 = .ok (.iadd, 1) := by decide +kernel
theorem dMo_press_67 : decode prog_9_method_23_code 67 = .ok (.bipush 30, 2) := by decide +kernel
theorem dMo_press_69 : decode prog_9_method_23_code 69 = .ok (.invokevirtual 87, 3) := by decide +kernel
theorem dMo_press_72 : decode prog_9_method_23_code 72 = .ok (.aload_n 0, 1) := by decide +kernel
theorem dMo_press_73 : decode prog_9_method_23_code 73 = .ok (.iconst 2, 1) := by decide +kernel
theorem dMo_press_74 : decode prog_9_method_23_code 74 = .ok (.iload_n 1, 1) := by decide +kernel
theorem dMo_press_75 : decode prog_9_method_23_code 75 = .ok (.imul, 1) := by decide +kernel
theorem dMo_press_76 : decode prog_9_method_23_code 76 = .ok (.iconst 1, 1) := by decide +kernel
theorem dMo_press_77 : decode prog_9_method_23_code 77 = .ok (.iadd, 1) := by decide +kernel
theorem dMo_press_78 : decode prog_9_method_23_code 78 = .ok (.aload_n 0, 1) := by decide +kernel
theorem dMo_press_79 : decode prog_9_method_23_code 79 = .ok (.getfield 20, 3) := by decide +kernel
theorem dMo_press_82 : decode prog_9_method_23_code 82 = .ok (.iload_n 1, 1) := by decide +kernel
theorem dMo_press_83 : decode prog_9_method_23_code 83 = .ok (.iaload, 1) := by decide +kernel
theorem dMo_press_84 : decode prog_9_method_23_code 84 = .ok (.invokevirtual 102, 3) := by decide +kernel
theorem dMo_press_87 : decode prog_9_method_23_code 87 = .ok (.aload_n 0, 1) := by decide +kernel
theorem dMo_press_88 : decode prog_9_method_23_code 88 = .ok (.bipush 30, 2) := by decide +kernel
theorem dMo_press_90 : decode prog_9_method_23_code 90 = .ok (.aload_n 0, 1) := by decide +kernel
theorem dMo_press_91 : decode prog_9_method_23_code 91 = .ok (.getfield 17, 3) := by decide +kernel
theorem dMo_press_94 : decode prog_9_method_23_code 94 = .ok (.iload_n 1, 1) := by decide +kernel
theorem dMo_press_95 : decode prog_9_method_23_code 95 = .ok (.iaload, 1) := by decide +kernel
theorem dMo_press_96 : decode prog_9_method_23_code 96 = .ok (.invokevirtual 102, 3) := by decide +kernel
theorem dMo_press_99 : decode prog_9_method_23_code 99 = .ok (.aload_n 0, 1) := by decide +kernel
theorem dMo_press_100 : decode prog_9_method_23_code 100 = .ok (.bipush 31, 2) := by decide +kernel
theorem dMo_press_102 : decode prog_9_method_23_code 102 = .ok (.bipush 26, 2) := by decide +kernel
theorem dMo_press_104 : decode prog_9_method_23_code 104 = .ok (.invokevirtual 87, 3) := by decide +kernel
theorem dMo_press_107 : decode prog_9_method_23_code 107 = .ok (.aload_n 0, 1) := by decide +kernel
theorem dMo_press_108 : decode prog_9_method_23_code 108 = .ok (.bipush 31, 2) := by decide +kernel
theorem dMo_press_110 : decode prog_9_method_23_code 110 = .ok (.aload_n 0, 1) := by decide +kernel
theorem dMo_press_111 : decode prog_9_method_23_code 111 = .ok (.getfield 20, 3) := by decide +kernel
theorem dMo_press_114 : decode prog_9_method_23_code 114 = .ok (.iload_n 1, 1) := by decide +kernel
theorem dMo_press_115 : decode prog_9_method_23_code 115 = .ok (.iaload, 1) := by decide +kernel
theorem dMo_press_116 : decode prog_9_method_23_code 116 = .ok (.invokevirtual 102, 3) := by decide +kernel
theorem dMo_press_119 : decode prog_9_method_23_code 119 = .ok (.aload_n 0, 1) := by decide +kernel
theorem dMo_press_120 : decode prog_9_method_23_code 120 = .ok (.bipush 30, 2) := by decide +kernel
theorem dMo_press_122 : decode prog_9_method_23_code 122 = .ok (.bipush 31, 2) := by decide +kernel
theorem dMo_press_124 : decode prog_9_method_23_code 124 = .ok (.iconst 1, 1) := by decide +kernel
theorem dMo_press_125 : decode prog_9_method_23_code 125 = .ok (.invokevirtual 95, 3) := by decide +kernel
theorem dMo_press_128 : decode prog_9_method_23_code 128 = .ok (.aload_n 0, 1) := by decide +kernel
theorem dMo_press_129 : decode prog_9_method_23_code 129 = .ok (.iconst 2, 1) := by decide +kernel
theorem dMo_press_130 : decode prog_9_method_23_code 130 = .ok (.iload_n 1, 1) := by decide +kernel
theorem dMo_press_131 : decode prog_9_method_23_code 131 = .ok (.imul, 1) := by decide +kernel
theorem dMo_press_132 : decode prog_9_method_23_code 132 = .ok (.bipush 30, 2) := by decide +kernel
theorem dMo_press_134 : decode prog_9_method_23_code 134 = .ok (.invokevirtual 87, 3) := by decide +kernel
theorem dMo_press_137 : decode prog_9_method_23_code 137 = .ok (.return_, 1) := by decide +kernel
set_option maxHeartbeats 4000000 in
set_option maxRecDepth 100000 in
theorem wMo_press_0 {l : Launch} {G : ek_G} {kd : Nat → Nat} {p : Program} {e : Env} {s : State} {m : MethodId} {args : Array Value} {below : List Frame} {meth : Method} {c : Code} (X : ek_X p s m meth c args G prog_9_method_23_code 3 "ElasticKernelModel" none) {q : ek_St} {I : ek_St} {x0 : Nat} {i1 : Int32} {i2 : Int32} (hf : fMo_press_0 kd I x0 i1 i2 = some q) {H : Heap} {locs : List Loc} {ls : Array Slot} (hw : ek_W G kd I H) (hS : va_S (ek_A G kd) s.heap H locs) (hl : lv_has ls 3 [(0, ek_r G x0), (1, .int i1), (2, .int i2)]) : W p l e ({ frames := 1, cells := 0, slots := 0, locals := 27 } : Room) s m args below meth c H locs 0 0 (MQ below (ek_Q G kd none q) args s 0 0 (ek_A G kd)) (F0 m 0 ls []) := by
  obtain ⟨hx, hb, hml, hown, hts, hr, hlocks, hK⟩ := id X
  have hA : ∀ q, ek_A G kd q → ek_A G kd q := fun _ h => h
  unfold fMo_press_0 at hf
  refine ek_aload_n hx hb dMo_press_0 rfl (lv_at hl 0 rfl) ?_
  refine ek_getr hx hb 8 hts (in_Mo) hown hK hw rfl (by decide) (by decide) 24 (by decide) (n := 16) rfl rfl (hts _ q_600) hf dMo_press_1 (fun hf => ?_)
  refine lv_iload_n hx hb dMo_press_4 rfl (lv_at hl 1 rfl) ?_
  refine ek_iald hx hb hK hw 12 rfl hf dMo_press_5 (fun hf => ?_)
  refine lv_iload_n hx hb dMo_press_6 rfl (lv_at hl 2 rfl) ?_
  refine lv_icmp_ge (tgt := 41) hx hb dMo_press_7 (by decide) (fun c1 => ?_) (fun c1 => ?_)
  · have hf := ek_t c1 hf
    refine ek_aload_n hx hb dMo_press_41 rfl (lv_at hl 0 rfl) ?_
    refine lv_bipush (v := (30 : Int32)) hx hb dMo_press_42 (by decide) ?_
    refine lv_bipush (v := (27 : Int32)) hx hb dMo_press_44 (by decide) ?_
    obtain ⟨hx3, hf⟩ := ek_ck_s hf
    refine ek_cv hf hS hA (fun I' hq => ek_rV (As := [.int ((30 : Int32)), .int ((27 : Int32))]) ⟨hx, hb, hml, hown, hts⟩ hK hw 8 rfl (by decide) (by decide) hx3 (mMo_copy hq) (cwV 2 hts (lw_V q_669 q_671 p_18 q_8 q_672) rfl rfl rfl (by decide +kernel) ⟨Nat.le_of_ble_eq_true rfl, Nat.le_of_ble_eq_true rfl⟩) rfl hl.1 rfl (Nat.le_of_ble_eq_true rfl) dMo_press_46 ⟨Nat.zero_le _, Nat.zero_le _⟩) (fun I2 H locs hf hw hS => ?_)
    refine ek_aload_n hx hb dMo_press_49 rfl (lv_at hl 0 rfl) ?_
    refine lv_bipush (v := (30 : Int32)) hx hb dMo_press_50 (by decide) ?_
    refine ek_aload_n hx hb dMo_press_52 rfl (lv_at hl 0 rfl) ?_
    refine ek_getr hx hb 8 hts (in_Mo) hown hK hw rfl (by decide) (by decide) 12 (by decide) (n := 4) rfl rfl (hts _ q_588) hf dMo_press_53 (fun hf => ?_)
    refine lv_iload_n hx hb dMo_press_56 rfl (lv_at hl 1 rfl) ?_
    refine ek_iald hx hb hK hw 12 rfl hf dMo_press_57 (fun hf => ?_)
    obtain ⟨hx5, hf⟩ := ek_ck_s hf
    refine ek_cv hf hS hA (fun I' hq => ek_rV (As := [.int ((30 : Int32)), .int (I2 (x0 + 5) i1.toNatClampNeg)]) ⟨hx, hb, hml, hown, hts⟩ hK hw 8 rfl (by decide) (by decide) hx5 (mMo_times hq) (cwV 2 hts (lw_V q_685 q_687 p_22 q_8 q_688) rfl rfl rfl (by decide +kernel) ⟨Nat.le_of_ble_eq_true rfl, Nat.le_of_ble_eq_true rfl⟩) rfl hl.1 rfl (Nat.le_of_ble_eq_true rfl) dMo_press_58 ⟨Nat.zero_le _, Nat.zero_le _⟩) (fun I4 H locs hf hw hS => ?_)
    refine ek_aload_n hx hb dMo_press_61 rfl (lv_at hl 0 rfl) ?_
    refine lv_iconst (v := (2 : Int32)) hx hb dMo_press_62 (by decide) ?_
    refine lv_iload_n hx hb dMo_press_63 rfl (lv_at hl 1 rfl) ?_
    refine lv_imul hx hb dMo_press_64 ?_
    refine lv_iconst (v := (1 : Int32)) hx hb dMo_press_65 (by decide) ?_
    refine lv_iadd hx hb dMo_press_66 ?_
    refine lv_bipush (v := (30 : Int32)) hx hb dMo_press_67 (by decide) ?_
    obtain ⟨hx7, hf⟩ := ek_ck_s hf
    refine ek_cv hf hS hA (fun I' hq => ek_rV (As := [.int ((((2 : Int32)) * i1) + ((1 : Int32))), .int ((30 : Int32))]) ⟨hx, hb, hml, hown, hts⟩ hK hw 8 rfl (by decide) (by decide) hx7 (mMo_copy hq) (cwV 2 hts (lw_V q_669 q_671 p_18 q_8 q_672) rfl rfl rfl (by decide +kernel) ⟨Nat.le_of_ble_eq_true rfl, Nat.le_of_ble_eq_true rfl⟩) rfl hl.1 rfl (Nat.le_of_ble_eq_true rfl) dMo_press_69 ⟨Nat.zero_le _, Nat.zero_le _⟩) (fun I6 H locs hf hw hS => ?_)
    refine ek_aload_n hx hb dMo_press_72 rfl (lv_at hl 0 rfl) ?_
    refine lv_iconst (v := (2 : Int32)) hx hb dMo_press_73 (by decide) ?_
    refine lv_iload_n hx hb dMo_press_74 rfl (lv_at hl 1 rfl) ?_
    refine lv_imul hx hb dMo_press_75 ?_
    refine lv_iconst (v := (1 : Int32)) hx hb dMo_press_76 (by decide) ?_
    refine lv_iadd hx hb dMo_press_77 ?_
    refine ek_aload_n hx hb dMo_press_78 rfl (lv_at hl 0 rfl) ?_
    refine ek_getr hx hb 8 hts (in_Mo) hown hK hw rfl (by decide) (by decide) 10 (by decide) (n := 2) rfl rfl (hts _ q_586) hf dMo_press_79 (fun hf => ?_)
    refine lv_iload_n hx hb dMo_press_82 rfl (lv_at hl 1 rfl) ?_
    refine ek_iald hx hb hK hw 12 rfl hf dMo_press_83 (fun hf => ?_)
    obtain ⟨hx9, hf⟩ := ek_ck_s hf
    refine ek_cv hf hS hA (fun I' hq => ek_rV (As := [.int ((((2 : Int32)) * i1) + ((1 : Int32))), .int (I6 (x0 + 3) i1.toNatClampNeg)]) ⟨hx, hb, hml, hown, hts⟩ hK hw 8 rfl (by decide) (by decide) hx9 (mMo_times hq) (cwV 2 hts (lw_V q_685 q_687 p_22 q_8 q_688) rfl rfl rfl (by decide +kernel) ⟨Nat.le_of_ble_eq_true rfl, Nat.le_of_ble_eq_true rfl⟩) rfl hl.1 rfl (Nat.le_of_ble_eq_true rfl) dMo_press_84 ⟨Nat.zero_le _, Nat.zero_le _⟩) (fun I8 H locs hf hw hS => ?_)
    refine ek_aload_n hx hb dMo_press_87 rfl (lv_at hl 0 rfl) ?_
    refine lv_bipush (v := (30 : Int32)) hx hb dMo_press_88 (by decide) ?_
    refine ek_aload_n hx hb dMo_press_90 rfl (lv_at hl 0 rfl) ?_
    refine ek_getr hx hb 8 hts (in_Mo) hown hK hw rfl (by decide) (by decide) 9 (by decide) (n := 1) rfl rfl (hts _ q_585) hf dMo_press_91 (fun hf => ?_)
    refine lv_iload_n hx hb dMo_press_94 rfl (lv_at hl 1 rfl) ?_
    refine ek_iald hx hb hK hw 12 rfl hf dMo_press_95 (fun hf => ?_)
    obtain ⟨hx11, hf⟩ := ek_ck_s hf
    refine ek_cv hf hS hA (fun I' hq => ek_rV (As := [.int ((30 : Int32)), .int (I8 (x0 + 2) i1.toNatClampNeg)]) ⟨hx, hb, hml, hown, hts⟩ hK hw 8 rfl (by decide) (by decide) hx11 (mMo_times hq) (cwV 2 hts (lw_V q_685 q_687 p_22 q_8 q_688) rfl rfl rfl (by decide +kernel) ⟨Nat.le_of_ble_eq_true rfl, Nat.le_of_ble_eq_true rfl⟩) rfl hl.1 rfl (Nat.le_of_ble_eq_true rfl) dMo_press_96 ⟨Nat.zero_le _, Nat.zero_le _⟩) (fun I10 H locs hf hw hS => ?_)
    refine ek_aload_n hx hb dMo_press_99 rfl (lv_at hl 0 rfl) ?_
    refine lv_bipush (v := (31 : Int32)) hx hb dMo_press_100 (by decide) ?_
    refine lv_bipush (v := (26 : Int32)) hx hb dMo_press_102 (by decide) ?_
    obtain ⟨hx13, hf⟩ := ek_ck_s hf
    refine ek_cv hf hS hA (fun I' hq => ek_rV (As := [.int ((31 : Int32)), .int ((26 : Int32))]) ⟨hx, hb, hml, hown, hts⟩ hK hw 8 rfl (by decide) (by decide) hx13 (mMo_copy hq) (cwV 2 hts (lw_V q_669 q_671 p_18 q_8 q_672) rfl rfl rfl (by decide +kernel) ⟨Nat.le_of_ble_eq_true rfl, Nat.le_of_ble_eq_true rfl⟩) rfl hl.1 rfl (Nat.le_of_ble_eq_true rfl) dMo_press_104 ⟨Nat.zero_le _, Nat.zero_le _⟩) (fun I12 H locs hf hw hS => ?_)
    refine ek_aload_n hx hb dMo_press_107 rfl (lv_at hl 0 rfl) ?_
    refine lv_bipush (v := (31 : Int32)) hx hb dMo_press_108 (by decide) ?_
    refine ek_aload_n hx hb dMo_press_110 rfl (lv_at hl 0 rfl) ?_
    refine ek_getr hx hb 8 hts (in_Mo) hown hK hw rfl (by decide) (by decide) 10 (by decide) (n := 2) rfl rfl (hts _ q_586) hf dMo_press_111 (fun hf => ?_)
    refine lv_iload_n hx hb dMo_press_114 rfl (lv_at hl 1 rfl) ?_
    refine ek_iald hx hb hK hw 12 rfl hf dMo_press_115 (fun hf => ?_)
    obtain ⟨hx15, hf⟩ := ek_ck_s hf
    refine ek_cv hf hS hA (fun I' hq => ek_rV (As := [.int ((31 : Int32)), .int (I12 (x0 + 3) i1.toNatClampNeg)]) ⟨hx, hb, hml, hown, hts⟩ hK hw 8 rfl (by decide) (by decide) hx15 (mMo_times hq) (cwV 2 hts (lw_V q_685 q_687 p_22 q_8 q_688) rfl rfl rfl (by decide +kernel) ⟨Nat.le_of_ble_eq_true rfl, Nat.le_of_ble_eq_true rfl⟩) rfl hl.1 rfl (Nat.le_of_ble_eq_true rfl) dMo_press_116 ⟨Nat.zero_le _, Nat.zero_le _⟩) (fun I14 H locs hf hw hS => ?_)
    refine ek_aload_n hx hb dMo_press_119 rfl (lv_at hl 0 rfl) ?_
    refine lv_bipush (v := (30 : Int32)) hx hb dMo_press_120 (by decide) ?_
    refine lv_bipush (v := (31 : Int32)) hx hb dMo_press_122 (by decide) ?_
    refine lv_iconst (v := (1 : Int32)) hx hb dMo_press_124 (by decide) ?_
    obtain ⟨hx17, hf⟩ := ek_ck_s hf
    refine ek_cv hf hS hA (fun I' hq => ek_rV (As := [.int ((30 : Int32)), .int ((31 : Int32)), .int ((1 : Int32))]) ⟨hx, hb, hml, hown, hts⟩ hK hw 8 rfl (by decide) (by decide) hx17 (mMo_add3 hq) (cwV 3 hts (lw_V q_689 q_691 p_23 q_8 q_692) rfl rfl rfl (by decide +kernel) ⟨Nat.le_of_ble_eq_true rfl, Nat.le_of_ble_eq_true rfl⟩) rfl hl.1 rfl (Nat.le_of_ble_eq_true rfl) dMo_press_125 ⟨Nat.zero_le _, Nat.zero_le _⟩) (fun I16 H locs hf hw hS => ?_)
    refine ek_aload_n hx hb dMo_press_128 rfl (lv_at hl 0 rfl) ?_
    refine lv_iconst (v := (2 : Int32)) hx hb dMo_press_129 (by decide) ?_
    refine lv_iload_n hx hb dMo_press_130 rfl (lv_at hl 1 rfl) ?_
    refine lv_imul hx hb dMo_press_131 ?_
    refine lv_bipush (v := (30 : Int32)) hx hb dMo_press_132 (by decide) ?_
    obtain ⟨hx19, hf⟩ := ek_ck_s hf
    refine ek_cv hf hS hA (fun I' hq => ek_rV (As := [.int (((2 : Int32)) * i1), .int ((30 : Int32))]) ⟨hx, hb, hml, hown, hts⟩ hK hw 8 rfl (by decide) (by decide) hx19 (mMo_copy hq) (cwV 2 hts (lw_V q_669 q_671 p_18 q_8 q_672) rfl rfl rfl (by decide +kernel) ⟨Nat.le_of_ble_eq_true rfl, Nat.le_of_ble_eq_true rfl⟩) rfl hl.1 rfl (Nat.le_of_ble_eq_true rfl) dMo_press_134 ⟨Nat.zero_le _, Nat.zero_le _⟩) (fun I18 H locs hf hw hS => ?_)
    exact ek_vret hx hb hr hlocks hw hS hf dMo_press_137
  · have hf := ek_f c1 hf
    refine ek_aload_n hx hb dMo_press_10 rfl (lv_at hl 0 rfl) ?_
    refine lv_iconst (v := (2 : Int32)) hx hb dMo_press_11 (by decide) ?_
    refine lv_iload_n hx hb dMo_press_12 rfl (lv_at hl 1 rfl) ?_
    refine lv_imul hx hb dMo_press_13 ?_
    refine ek_aload_n hx hb dMo_press_14 rfl (lv_at hl 0 rfl) ?_
    refine ek_getr hx hb 8 hts (in_Mo) hown hK hw rfl (by decide) (by decide) 9 (by decide) (n := 1) rfl rfl (hts _ q_585) hf dMo_press_15 (fun hf => ?_)
    refine lv_iload_n hx hb dMo_press_18 rfl (lv_at hl 1 rfl) ?_
    refine ek_iald hx hb hK hw 12 rfl hf dMo_press_19 (fun hf => ?_)
    refine lv_i2l hx hb dMo_press_20 rfl ?_
    obtain ⟨hx21, hf⟩ := ek_ck_s hf
    refine ek_cv hf hS hA (fun I' hq => ek_rV (As := [.int (((2 : Int32)) * i1), .long (Int32.toInt64 (I (x0 + 2) i1.toNatClampNeg))]) ⟨hx, hb, hml, hown, hts⟩ hK hw 8 rfl (by decide) (by decide) hx21 (mMo_be hq) (cwV 2 hts (lw_V q_571 q_573 p_15 q_8 q_574) rfl rfl rfl (by decide +kernel) ⟨Nat.le_of_ble_eq_true rfl, Nat.le_of_ble_eq_true rfl⟩) rfl hl.1 rfl (Nat.le_of_ble_eq_true rfl) dMo_press_21 ⟨Nat.zero_le _, Nat.zero_le _⟩) (fun I20 H locs hf hw hS => ?_)
    refine ek_aload_n hx hb dMo_press_24 rfl (lv_at hl 0 rfl) ?_
    refine lv_iconst (v := (2 : Int32)) hx hb dMo_press_25 (by decide) ?_
    refine lv_iload_n hx hb dMo_press_26 rfl (lv_at hl 1 rfl) ?_
    refine lv_imul hx hb dMo_press_27 ?_
    refine lv_iconst (v := (1 : Int32)) hx hb dMo_press_28 (by decide) ?_
    refine lv_iadd hx hb dMo_press_29 ?_
    refine ek_aload_n hx hb dMo_press_30 rfl (lv_at hl 0 rfl) ?_
    refine ek_getr hx hb 8 hts (in_Mo) hown hK hw rfl (by decide) (by decide) 11 (by decide) (n := 3) rfl rfl (hts _ q_587) hf dMo_press_31 (fun hf => ?_)
    refine lv_iload_n hx hb dMo_press_34 rfl (lv_at hl 1 rfl) ?_
    refine ek_iald hx hb hK hw 12 rfl hf dMo_press_35 (fun hf => ?_)
    refine lv_i2l hx hb dMo_press_36 rfl ?_
    obtain ⟨hx23, hf⟩ := ek_ck_s hf
    refine ek_cv hf hS hA (fun I' hq => ek_rV (As := [.int ((((2 : Int32)) * i1) + ((1 : Int32))), .long (Int32.toInt64 (I20 (x0 + 4) i1.toNatClampNeg))]) ⟨hx, hb, hml, hown, hts⟩ hK hw 8 rfl (by decide) (by decide) hx23 (mMo_be hq) (cwV 2 hts (lw_V q_571 q_573 p_15 q_8 q_574) rfl rfl rfl (by decide +kernel) ⟨Nat.le_of_ble_eq_true rfl, Nat.le_of_ble_eq_true rfl⟩) rfl hl.1 rfl (Nat.le_of_ble_eq_true rfl) dMo_press_37 ⟨Nat.zero_le _, Nat.zero_le _⟩) (fun I22 H locs hf hw hS => ?_)
    exact ek_vret hx hb hr hlocks hw hS hf dMo_press_40
set_option maxHeartbeats 4000000 in
set_option maxRecDepth 100000 in
theorem mMo_press {l : Launch} {G : ek_G} {kd : Nat → Nat} {I : ek_St} {x0 : Nat} {i1 : Int32} {i2 : Int32} {q : ek_St} (hf : fMo_press kd I x0 i1 i2 = some q) : ek_M l G kd y_Mo_press (.code y_Mo_press prog_9_method_23_code 3 none :: lw_g) ({ frames := 1, cells := 0, slots := 0, locals := 27 } : Room) [ek_r G x0, .int i1, .int i2] I none q :=
  ek_body [(0, ek_r G x0), (1, .int i1), (2, .int i2)] (by decide) (by simp [lg_sl, ek_r_cat, ek_c_i, ek_c_l]) (by simp [lv_args, ek_r_cat, ek_c_i, ek_c_l]) (fun p e s m below meth c ls X hw hS hl => wMo_press_0 X hf hw hS hl)
/-! ElasticKernelModel.settle(I)V -/
def fMo_settle_155 (kd : Nat → Nat) (I : ek_St) (t0 : Nat) (t1 : Int32) (t2 : Int32) : Option (ek_St) :=
  ek_ck (kd t0 = 50) (ek_ck (ek_in t1 12) (ek_ck (t2 = (0 : Int32) ∨ t2 = (1 : Int32)) (ek_let (ek_up I t0 t1.toNatClampNeg t2) (fun I1 => some I1))))
def fMo_settle_154 (kd : Nat → Nat) (I : ek_St) (t0 : Nat) (t1 : Int32) : Option (ek_St) :=
  fMo_settle_155 kd I t0 t1 ((0 : Int32))
def fMo_settle_37 (kd : Nat → Nat) (k37 : (ek_St × Nat × Int32 × Int32 × Int32) → Option (ek_St)) (I : ek_St) (x0 : Nat) (i1 : Int32) (i2 : Int32) (i3 : Int32) : Option (ek_St) :=
  if i3 ≤ i2 then (ek_ck (kd x0 = 8) (ek_ck (kd (x0 + 8) = 112) (ek_ck (ek_in i1 12) (ek_let (ek_up I (x0 + 8) i1.toNatClampNeg i2) (fun I2 => ek_ck (kd x0 = 8) (ek_bv (fMo_copy kd I2 x0 ((30 : Int32)) (((2 : Int32)) * i1)) (fun I3 => ek_ck (kd x0 = 8) (ek_ck (kd (x0 + 4) = 112) (ek_ck (ek_in i1 12) (ek_ck (kd x0 = 8) (ek_bv (fMo_times kd I3 x0 ((30 : Int32)) (I3 (x0 + 4) i1.toNatClampNeg)) (fun I5 => ek_ck (kd x0 = 8) (ek_ck (kd x0 = 8) (ek_ck (kd (x0 + 3) = 112) (ek_ck (ek_in i1 12) (ek_ck (kd x0 = 8) (ek_ck (kd (x0 + 4) = 112) (ek_ck (ek_in i1 12) (if (I5 (x0 + 3) i1.toNatClampNeg) = (I5 (x0 + 4) i1.toNatClampNeg) then (fMo_settle_154 kd I5 (x0 + 15) i1) else (ek_ck (kd x0 = 8) (ek_bi (fMo_compare kd I5 x0 ((30 : Int32)) ((31 : Int32))) (fun I8 ir10 => if ir10 = ((0 : Int32)) then (fMo_settle_155 kd I8 (x0 + 15) i1 ((1 : Int32))) else (fMo_settle_154 kd I8 (x0 + 15) i1))))))))))))))))))))))) else (ek_ck (¬ ((2 : Int32)) = (0 : Int32)) (ek_let ((i2 + i3) / ((2 : Int32))) (fun i4_12 => ek_ck (kd x0 = 8) (ek_bv (fMo_copy kd I x0 ((30 : Int32)) (((2 : Int32)) * i1)) (fun I13 => ek_ck (kd x0 = 8) (ek_bv (fMo_times kd I13 x0 ((30 : Int32)) i4_12) (fun I15 => ek_ck (kd x0 = 8) (ek_bi (fMo_compare kd I15 x0 ((30 : Int32)) ((31 : Int32))) (fun I17 ir19 => if ((0 : Int32)) ≤ ir19 then (k37 (I17, x0, i1, i2, i4_12)) else (ek_let (i4_12 + ((1 : Int32))) (fun i2_21 => k37 (I17, x0, i1, i2_21, i3))))))))))))
def fMo_settle_0 (kd : Nat → Nat) (I : ek_St) (x0 : Nat) (i1 : Int32) : Option (ek_St) :=
  ek_ck (kd x0 = 8) (ek_bv (fMo_copy kd I x0 ((31 : Int32)) ((((2 : Int32)) * i1) + ((1 : Int32)))) (fun I1 => ek_ck (kd x0 = 8) (ek_ck (kd (x0 + 2) = 112) (ek_ck (ek_in i1 12) (ek_ck (kd x0 = 8) (ek_bv (fMo_times kd I1 x0 ((31 : Int32)) (I1 (x0 + 2) i1.toNatClampNeg)) (fun I3 => ek_ck (kd x0 = 8) (ek_ck (kd (x0 + 3) = 112) (ek_ck (ek_in i1 12) (ek_let (I3 (x0 + 3) i1.toNatClampNeg) (fun i2_5 => ek_ck (kd x0 = 8) (ek_ck (kd (x0 + 4) = 112) (ek_ck (ek_in i1 12) (ek_let (I3 (x0 + 4) i1.toNatClampNeg) (fun i3_6 => ek_lp (fun (k : (ek_St × Nat × Int32 × Int32 × Int32) → Option (ek_St)) (q : (ek_St × Nat × Int32 × Int32 × Int32)) => fMo_settle_37 kd k q.1 q.2.1 q.2.2.1 q.2.2.2.1 q.2.2.2.2) ek_N (I3, x0, i1, i2_5, i3_6))))))))))))))))
def fMo_settle (kd : Nat → Nat) (I : ek_St) (x0 : Nat) (i1 : Int32) : Option (ek_St) := fMo_settle_0 kd I x0 i1
theorem dMo_settle_0 : decode prog_9_method_24_code 0 = .ok (.aload_n 0, 1) := by decide +kernel
theorem dMo_settle_1 : decode prog_9_method_24_code 1 = .ok (.bipush 31, 2) := by decide +kernel
theorem dMo_settle_3 : decode prog_9_method_24_code 3 = .ok (.iconst 2, 1) := by decide +kernel
theorem dMo_settle_4 : decode prog_9_method_24_code 4 = .ok (.iload_n 1, 1) := by decide +kernel
theorem dMo_settle_5 : decode prog_9_method_24_code 5 = .ok (.imul, 1) := by decide +kernel
theorem dMo_settle_6 : decode prog_9_method_24_code 6 = .ok (.iconst 1, 1) := by decide +kernel
theorem dMo_settle_7 : decode prog_9_method_24_code 7 = .ok (.iadd, 1) := by decide +kernel
theorem dMo_settle_8 : decode prog_9_method_24_code 8 = .ok (.invokevirtual 87, 3) := by decide +kernel
theorem dMo_settle_11 : decode prog_9_method_24_code 11 = .ok (.aload_n 0, 1) := by decide +kernel
theorem dMo_settle_12 : decode prog_9_method_24_code 12 = .ok (.bipush 31, 2) := by decide +kernel
theorem dMo_settle_14 : decode prog_9_method_24_code 14 = .ok (.aload_n 0, 1) := by decide +kernel
theorem dMo_settle_15 : decode prog_9_method_24_code 15 = .ok (.getfield 17, 3) := by decide +kernel
theorem dMo_settle_18 : decode prog_9_method_24_code 18 = .ok (.iload_n 1, 1) := by decide +kernel
theorem dMo_settle_19 : decode prog_9_method_24_code 19 = .ok (.iaload, 1) := by decide +kernel
theorem dMo_settle_20 : decode prog_9_method_24_code 20 = .ok (.invokevirtual 102, 3) := by decide +kernel
theorem dMo_settle_23 : decode prog_9_method_24_code 23 = .ok (.aload_n 0, 1) := by decide +kernel
theorem dMo_settle_24 : decode prog_9_method_24_code 24 = .ok (.getfield 20, 3) := by decide +kernel
theorem dMo_settle_27 : decode prog_9_method_24_code 27 = .ok (.iload_n 1, 1) := by decide +kernel
theorem dMo_settle_28 : decode prog_9_method_24_code 28 = .ok (.iaload, 1) := by decide +kernel
theorem dMo_settle_29 : decode prog_9_method_24_code 29 = .ok (.istore_n 2, 1) := by decide +kernel
theorem dMo_settle_30 : decode prog_9_method_24_code 30 = .ok (.aload_n 0, 1) := by decide +kernel
theorem dMo_settle_31 : decode prog_9_method_24_code 31 = .ok (.getfield 23, 3) := by decide +kernel
theorem dMo_settle_34 : decode prog_9_method_24_code 34 = .ok (.iload_n 1, 1) := by decide +kernel
theorem dMo_settle_35 : decode prog_9_method_24_code 35 = .ok (.iaload, 1) := by decide +kernel
theorem dMo_settle_36 : decode prog_9_method_24_code 36 = .ok (.istore_n 3, 1) := by decide +kernel
theorem dMo_settle_37 : decode prog_9_method_24_code 37 = .ok (.iload_n 2, 1) := by decide +kernel
theorem dMo_settle_38 : decode prog_9_method_24_code 38 = .ok (.iload_n 3, 1) := by decide +kernel
theorem dMo_settle_39 : decode prog_9_method_24_code 39 = .ok (.if_icmp .ge 52, 3) := by decide +kernel
theorem dMo_settle_42 : decode prog_9_method_24_code 42 = .ok (.iload_n 2, 1) := by decide +kernel
theorem dMo_settle_43 : decode prog_9_method_24_code 43 = .ok (.iload_n 3, 1) := by decide +kernel
theorem dMo_settle_44 : decode prog_9_method_24_code 44 = .ok (.iadd, 1) := by decide +kernel
theorem dMo_settle_45 : decode prog_9_method_24_code 45 = .ok (.iconst 2, 1) := by decide +kernel
theorem dMo_settle_46 : decode prog_9_method_24_code 46 = .ok (.idiv, 1) := by decide +kernel
theorem dMo_settle_47 : decode prog_9_method_24_code 47 = .ok (.istore 4, 2) := by decide +kernel
theorem dMo_settle_49 : decode prog_9_method_24_code 49 = .ok (.aload_n 0, 1) := by decide +kernel
theorem dMo_settle_50 : decode prog_9_method_24_code 50 = .ok (.bipush 30, 2) := by decide +kernel
theorem dMo_settle_52 : decode prog_9_method_24_code 52 = .ok (.iconst 2, 1) := by decide +kernel
theorem dMo_settle_53 : decode prog_9_method_24_code 53 = .ok (.iload_n 1, 1) := by decide +kernel
theorem dMo_settle_54 : decode prog_9_method_24_code 54 = .ok (.imul, 1) := by decide +kernel
theorem dMo_settle_55 : decode prog_9_method_24_code 55 = .ok (.invokevirtual 87, 3) := by decide +kernel
theorem dMo_settle_58 : decode prog_9_method_24_code 58 = .ok (.aload_n 0, 1) := by decide +kernel
theorem dMo_settle_59 : decode prog_9_method_24_code 59 = .ok (.bipush 30, 2) := by decide +kernel
theorem dMo_settle_61 : decode prog_9_method_24_code 61 = .ok (.iload 4, 2) := by decide +kernel
theorem dMo_settle_63 : decode prog_9_method_24_code 63 = .ok (.invokevirtual 102, 3) := by decide +kernel
theorem dMo_settle_66 : decode prog_9_method_24_code 66 = .ok (.aload_n 0, 1) := by decide +kernel
theorem dMo_settle_67 : decode prog_9_method_24_code 67 = .ok (.bipush 30, 2) := by decide +kernel
theorem dMo_settle_69 : decode prog_9_method_24_code 69 = .ok (.bipush 31, 2) := by decide +kernel
theorem dMo_settle_71 : decode prog_9_method_24_code 71 = .ok (.invokevirtual 91, 3) := by decide +kernel
theorem dMo_settle_74 : decode prog_9_method_24_code 74 = .ok (.ifCond .ge 11, 3) := by decide +kernel
theorem dMo_settle_77 : decode prog_9_method_24_code 77 = .ok (.iload 4, 2) := by decide +kernel
theorem dMo_settle_79 : decode prog_9_method_24_code 79 = .ok (.iconst 1, 1) := by decide +kernel
theorem dMo_settle_80 : decode prog_9_method_24_code 80 = .ok (.iadd, 1) := by decide +kernel
theorem dMo_settle_81 : decode prog_9_method_24_code 81 = .ok (.istore_n 2, 1) := by decide +kernel
theorem dMo_settle_82 : decode prog_9_method_24_code 82 = .ok (.goto 6, 3) := by decide +kernel
theorem dMo_settle_85 : decode prog_9_method_24_code 85 = .ok (.iload 4, 2) := by decide +kernel
theorem dMo_settle_87 : decode prog_9_method_24_code 87 = .ok (.istore_n 3, 1) := by decide +kernel
theorem dMo_settle_88 : decode prog_9_method_24_code 88 = .ok (.goto (-51), 3) := by decide +kernel
theorem dMo_settle_91 : decode prog_9_method_24_code 91 = .ok (.aload_n 0, 1) := by decide +kernel
theorem dMo_settle_92 : decode prog_9_method_24_code 92 = .ok (.getfield 35, 3) := by decide +kernel
theorem dMo_settle_95 : decode prog_9_method_24_code 95 = .ok (.iload_n 1, 1) := by decide +kernel
theorem dMo_settle_96 : decode prog_9_method_24_code 96 = .ok (.iload_n 2, 1) := by decide +kernel
theorem dMo_settle_97 : decode prog_9_method_24_code 97 = .ok (.iastore, 1) := by decide +kernel
theorem dMo_settle_98 : decode prog_9_method_24_code 98 = .ok (.aload_n 0, 1) := by decide +kernel
theorem dMo_settle_99 : decode prog_9_method_24_code 99 = .ok (.bipush 30, 2) := by decide +kernel
theorem dMo_settle_101 : decode prog_9_method_24_code 101 = .ok (.iconst 2, 1) := by decide +kernel
theorem dMo_settle_102 : decode prog_9_method_24_code 102 = .ok (.iload_n 1, 1) := by decide +kernel
theorem dMo_settle_103 : decode prog_9_method_24_code 103 = .ok (.imul, 1) := by decide +kernel
theorem dMo_settle_104 : decode prog_9_method_24_code 104 = .ok (.invokevirtual 87, 3) := by decide +kernel
theorem dMo_settle_107 : decode prog_9_method_24_code 107 = .ok (.aload_n 0, 1) := by decide +kernel
theorem dMo_settle_108 : decode prog_9_method_24_code 108 = .ok (.bipush 30, 2) := by decide +kernel
theorem dMo_settle_110 : decode prog_9_method_24_code 110 = .ok (.aload_n 0, 1) := by decide +kernel
theorem dMo_settle_111 : decode prog_9_method_24_code 111 = .ok (.getfield 23, 3) := by decide +kernel
theorem dMo_settle_114 : decode prog_9_method_24_code 114 = .ok (.iload_n 1, 1) := by decide +kernel
theorem dMo_settle_115 : decode prog_9_method_24_code 115 = .ok (.iaload, 1) := by decide +kernel
theorem dMo_settle_116 : decode prog_9_method_24_code 116 = .ok (.invokevirtual 102, 3) := by decide +kernel
theorem dMo_settle_119 : decode prog_9_method_24_code 119 = .ok (.aload_n 0, 1) := by decide +kernel
theorem dMo_settle_120 : decode prog_9_method_24_code 120 = .ok (.getfield 56, 3) := by decide +kernel
theorem dMo_settle_123 : decode prog_9_method_24_code 123 = .ok (.iload_n 1, 1) := by decide +kernel
theorem dMo_settle_124 : decode prog_9_method_24_code 124 = .ok (.aload_n 0, 1) := by decide +kernel
theorem dMo_settle_125 : decode prog_9_method_24_code 125 = .ok (.getfield 20, 3) := by decide +kernel
theorem dMo_settle_128 : decode prog_9_method_24_code 128 = .ok (.iload_n 1, 1) := by decide +kernel
theorem dMo_settle_129 : decode prog_9_method_24_code 129 = .ok (.iaload, 1) := by decide +kernel
theorem dMo_settle_130 : decode prog_9_method_24_code 130 = .ok (.aload_n 0, 1) := by decide +kernel
theorem dMo_settle_131 : decode prog_9_method_24_code 131 = .ok (.getfield 23, 3) := by decide +kernel
theorem dMo_settle_134 : decode prog_9_method_24_code 134 = .ok (.iload_n 1, 1) := by decide +kernel
theorem dMo_settle_135 : decode prog_9_method_24_code 135 = .ok (.iaload, 1) := by decide +kernel
theorem dMo_settle_136 : decode prog_9_method_24_code 136 = .ok (.if_icmp .eq 18, 3) := by decide +kernel
theorem dMo_settle_139 : decode prog_9_method_24_code 139 = .ok (.aload_n 0, 1) := by decide +kernel
theorem dMo_settle_140 : decode prog_9_method_24_code 140 = .ok (.bipush 30, 2) := by decide +kernel
theorem dMo_settle_142 : decode prog_9_method_24_code 142 = .ok (.bipush 31, 2) := by decide +kernel
theorem dMo_settle_144 : decode prog_9_method_24_code 144 = .ok (.invokevirtual 91, 3) := by decide +kernel
theorem dMo_settle_147 : decode prog_9_method_24_code 147 = .ok (.ifCond .ne 7, 3) := by decide +kernel
theorem dMo_settle_150 : decode prog_9_method_24_code 150 = .ok (.iconst 1, 1) := by decide +kernel
theorem dMo_settle_151 : decode prog_9_method_24_code 151 = .ok (.goto 4, 3) := by decide +kernel
theorem dMo_settle_154 : decode prog_9_method_24_code 154 = .ok (.iconst 0, 1) := by decide +kernel
theorem dMo_settle_155 : decode prog_9_method_24_code 155 = .ok (.bastore, 1) := by decide +kernel
theorem dMo_settle_156 : decode prog_9_method_24_code 156 = .ok (.return_, 1) := by decide +kernel
set_option maxHeartbeats 4000000 in
set_option maxRecDepth 100000 in
theorem wMo_settle_155 {l : Launch} {G : ek_G} {kd : Nat → Nat} {p : Program} {e : Env} {s : State} {m : MethodId} {args : Array Value} {below : List Frame} {meth : Method} {c : Code} (X : ek_X p s m meth c args G prog_9_method_24_code 5 "ElasticKernelModel" none) {q : ek_St} {I : ek_St} {t0 : Nat} {t1 : Int32} {t2 : Int32} (hf : fMo_settle_155 kd I t0 t1 t2 = some q) {H : Heap} {locs : List Loc} {ls : Array Slot} (hw : ek_W G kd I H) (hS : va_S (ek_A G kd) s.heap H locs) (hl : lv_has ls 5 []) : W p l e ({ frames := 1, cells := 0, slots := 0, locals := 27 } : Room) s m args below meth c H locs 0 0 (MQ below (ek_Q G kd none q) args s 0 0 (ek_A G kd)) (F0 m 155 ls [.int t2, .int t1, ek_r G t0]) := by
  obtain ⟨hx, hb, hml, hown, hts, hr, hlocks, hK⟩ := id X
  have hA : ∀ q, ek_A G kd q → ek_A G kd q := fun _ h => h
  unfold fMo_settle_155 at hf
  refine ek_zast hx hb hK hw hS hA hf dMo_settle_155 (fun I1 H locs hf hw hS => ?_)
  exact ek_vret hx hb hr hlocks hw hS hf dMo_settle_156
set_option maxHeartbeats 4000000 in
set_option maxRecDepth 100000 in
theorem wMo_settle_154 {l : Launch} {G : ek_G} {kd : Nat → Nat} {p : Program} {e : Env} {s : State} {m : MethodId} {args : Array Value} {below : List Frame} {meth : Method} {c : Code} (X : ek_X p s m meth c args G prog_9_method_24_code 5 "ElasticKernelModel" none) {q : ek_St} {I : ek_St} {t0 : Nat} {t1 : Int32} (hf : fMo_settle_154 kd I t0 t1 = some q) {H : Heap} {locs : List Loc} {ls : Array Slot} (hw : ek_W G kd I H) (hS : va_S (ek_A G kd) s.heap H locs) (hl : lv_has ls 5 []) : W p l e ({ frames := 1, cells := 0, slots := 0, locals := 27 } : Room) s m args below meth c H locs 0 0 (MQ below (ek_Q G kd none q) args s 0 0 (ek_A G kd)) (F0 m 154 ls [.int t1, ek_r G t0]) := by
  obtain ⟨hx, hb, hml, hown, hts, hr, hlocks, hK⟩ := id X
  have hA : ∀ q, ek_A G kd q → ek_A G kd q := fun _ h => h
  unfold fMo_settle_154 at hf
  refine lv_iconst (v := (0 : Int32)) hx hb dMo_settle_154 (by decide) ?_
  exact wMo_settle_155 X hf hw hS (lv_sub hl [] rfl)
set_option maxHeartbeats 4000000 in
set_option maxRecDepth 100000 in
theorem wMo_settle_37 {l : Launch} {G : ek_G} {kd : Nat → Nat} {p : Program} {e : Env} {s : State} {m : MethodId} {args : Array Value} {below : List Frame} {meth : Method} {c : Code} (X : ek_X p s m meth c args G prog_9_method_24_code 5 "ElasticKernelModel" none) {q : ek_St} {k37 : (ek_St × Nat × Int32 × Int32 × Int32) → Option (ek_St)} (hk37 : ∀ q0 : ek_St × Nat × Int32 × Int32 × Int32, k37 q0 = some q → ∀ (H : Heap) (locs : List Loc) (ls : Array Slot), ek_W G kd q0.1 H → va_S (ek_A G kd) s.heap H locs → lv_has ls 5 [(0, ek_r G q0.2.1), (1, .int q0.2.2.1), (2, .int q0.2.2.2.1), (3, .int q0.2.2.2.2)] → W p l e ({ frames := 1, cells := 0, slots := 0, locals := 27 } : Room) s m args below meth c H locs 0 0 (MQ below (ek_Q G kd none q) args s 0 0 (ek_A G kd)) (F0 m 37 ls [])) {I : ek_St} {x0 : Nat} {i1 : Int32} {i2 : Int32} {i3 : Int32} (hf : fMo_settle_37 kd k37 I x0 i1 i2 i3 = some q) {H : Heap} {locs : List Loc} {ls : Array Slot} (hw : ek_W G kd I H) (hS : va_S (ek_A G kd) s.heap H locs) (hl : lv_has ls 5 [(0, ek_r G x0), (1, .int i1), (2, .int i2), (3, .int i3)]) : W p l e ({ frames := 1, cells := 0, slots := 0, locals := 27 } : Room) s m args below meth c H locs 0 0 (MQ below (ek_Q G kd none q) args s 0 0 (ek_A G kd)) (F0 m 37 ls []) := by
  obtain ⟨hx, hb, hml, hown, hts, hr, hlocks, hK⟩ := id X
  have hA : ∀ q, ek_A G kd q → ek_A G kd q := fun _ h => h
  unfold fMo_settle_37 at hf
  refine lv_iload_n hx hb dMo_settle_37 rfl (lv_at hl 2 rfl) ?_
  refine lv_iload_n hx hb dMo_settle_38 rfl (lv_at hl 3 rfl) ?_
  refine lv_icmp_ge (tgt := 91) hx hb dMo_settle_39 (by decide) (fun c1 => ?_) (fun c1 => ?_)
  · have hf := ek_t c1 hf
    refine ek_aload_n hx hb dMo_settle_91 rfl (lv_at hl 0 rfl) ?_
    refine ek_getr hx hb 8 hts (in_Mo) hown hK hw rfl (by decide) (by decide) 15 (by decide) (n := 7) rfl rfl (hts _ q_591) hf dMo_settle_92 (fun hf => ?_)
    refine lv_iload_n hx hb dMo_settle_95 rfl (lv_at hl 1 rfl) ?_
    refine lv_iload_n hx hb dMo_settle_96 rfl (lv_at hl 2 rfl) ?_
    refine ek_iast hx hb hK hw hS hA 12 rfl hf dMo_settle_97 (fun I2 H locs hf hw hS => ?_)
    refine ek_aload_n hx hb dMo_settle_98 rfl (lv_at hl 0 rfl) ?_
    refine lv_bipush (v := (30 : Int32)) hx hb dMo_settle_99 (by decide) ?_
    refine lv_iconst (v := (2 : Int32)) hx hb dMo_settle_101 (by decide) ?_
    refine lv_iload_n hx hb dMo_settle_102 rfl (lv_at hl 1 rfl) ?_
    refine lv_imul hx hb dMo_settle_103 ?_
    obtain ⟨hx4, hf⟩ := ek_ck_s hf
    refine ek_cv hf hS hA (fun I' hq => ek_rV (As := [.int ((30 : Int32)), .int (((2 : Int32)) * i1)]) ⟨hx, hb, hml, hown, hts⟩ hK hw 8 rfl (by decide) (by decide) hx4 (mMo_copy hq) (cwV 2 hts (lw_V q_669 q_671 p_18 q_8 q_672) rfl rfl rfl (by decide +kernel) ⟨Nat.le_of_ble_eq_true rfl, Nat.le_of_ble_eq_true rfl⟩) rfl hl.1 rfl (Nat.le_of_ble_eq_true rfl) dMo_settle_104 ⟨Nat.zero_le _, Nat.zero_le _⟩) (fun I3 H locs hf hw hS => ?_)
    refine ek_aload_n hx hb dMo_settle_107 rfl (lv_at hl 0 rfl) ?_
    refine lv_bipush (v := (30 : Int32)) hx hb dMo_settle_108 (by decide) ?_
    refine ek_aload_n hx hb dMo_settle_110 rfl (lv_at hl 0 rfl) ?_
    refine ek_getr hx hb 8 hts (in_Mo) hown hK hw rfl (by decide) (by decide) 11 (by decide) (n := 3) rfl rfl (hts _ q_587) hf dMo_settle_111 (fun hf => ?_)
    refine lv_iload_n hx hb dMo_settle_114 rfl (lv_at hl 1 rfl) ?_
    refine ek_iald hx hb hK hw 12 rfl hf dMo_settle_115 (fun hf => ?_)
    obtain ⟨hx6, hf⟩ := ek_ck_s hf
    refine ek_cv hf hS hA (fun I' hq => ek_rV (As := [.int ((30 : Int32)), .int (I3 (x0 + 4) i1.toNatClampNeg)]) ⟨hx, hb, hml, hown, hts⟩ hK hw 8 rfl (by decide) (by decide) hx6 (mMo_times hq) (cwV 2 hts (lw_V q_685 q_687 p_22 q_8 q_688) rfl rfl rfl (by decide +kernel) ⟨Nat.le_of_ble_eq_true rfl, Nat.le_of_ble_eq_true rfl⟩) rfl hl.1 rfl (Nat.le_of_ble_eq_true rfl) dMo_settle_116 ⟨Nat.zero_le _, Nat.zero_le _⟩) (fun I5 H locs hf hw hS => ?_)
    refine ek_aload_n hx hb dMo_settle_119 rfl (lv_at hl 0 rfl) ?_
    refine ek_getr hx hb 8 hts (in_Mo) hown hK hw rfl (by decide) (by decide) 22 (by decide) (n := 14) rfl rfl (hts _ q_598) hf dMo_settle_120 (fun hf => ?_)
    refine lv_iload_n hx hb dMo_settle_123 rfl (lv_at hl 1 rfl) ?_
    refine ek_aload_n hx hb dMo_settle_124 rfl (lv_at hl 0 rfl) ?_
    refine ek_getr hx hb 8 hts (in_Mo) hown hK hw rfl (by decide) (by decide) 10 (by decide) (n := 2) rfl rfl (hts _ q_586) hf dMo_settle_125 (fun hf => ?_)
    refine lv_iload_n hx hb dMo_settle_128 rfl (lv_at hl 1 rfl) ?_
    refine ek_iald hx hb hK hw 12 rfl hf dMo_settle_129 (fun hf => ?_)
    refine ek_aload_n hx hb dMo_settle_130 rfl (lv_at hl 0 rfl) ?_
    refine ek_getr hx hb 8 hts (in_Mo) hown hK hw rfl (by decide) (by decide) 11 (by decide) (n := 3) rfl rfl (hts _ q_587) hf dMo_settle_131 (fun hf => ?_)
    refine lv_iload_n hx hb dMo_settle_134 rfl (lv_at hl 1 rfl) ?_
    refine ek_iald hx hb hK hw 12 rfl hf dMo_settle_135 (fun hf => ?_)
    refine lv_icmp_eq (tgt := 154) hx hb dMo_settle_136 (by decide) (fun c7 => ?_) (fun c7 => ?_)
    · have hf := ek_t c7 hf
      exact wMo_settle_154 X hf hw hS (lv_sub hl [] rfl)
    · have hf := ek_f c7 hf
      refine ek_aload_n hx hb dMo_settle_139 rfl (lv_at hl 0 rfl) ?_
      refine lv_bipush (v := (30 : Int32)) hx hb dMo_settle_140 (by decide) ?_
      refine lv_bipush (v := (31 : Int32)) hx hb dMo_settle_142 (by decide) ?_
      obtain ⟨hx9, hf⟩ := ek_ck_s hf
      refine ek_ci hf hS hA (fun I' v hq => ek_rV (As := [.int ((30 : Int32)), .int ((31 : Int32))]) ⟨hx, hb, hml, hown, hts⟩ hK hw 8 rfl (by decide) (by decide) hx9 (mMo_compare hq) (cwV 2 hts (lw_V q_698 q_700 p_25 q_8 q_701) rfl rfl rfl (by decide +kernel) ⟨Nat.le_of_ble_eq_true rfl, Nat.le_of_ble_eq_true rfl⟩) rfl hl.1 rfl (Nat.le_of_ble_eq_true rfl) dMo_settle_144 ⟨Nat.zero_le _, Nat.zero_le _⟩) (fun I8 ir10 H locs hf hw hS => ?_)
      refine lv_if_ne (tgt := 154) hx hb dMo_settle_147 (by decide) (fun c11 => ?_) (fun c11 => ?_)
      · have hf := ek_f c11 hf
        exact wMo_settle_154 X hf hw hS (lv_sub hl [] rfl)
      · have hf := ek_t c11 hf
        refine lv_iconst (v := (1 : Int32)) hx hb dMo_settle_150 (by decide) ?_
        refine lv_goto (tgt := 155) hx hb dMo_settle_151 (by decide) ?_
        exact wMo_settle_155 X hf hw hS (lv_sub hl [] rfl)
  · have hf := ek_f c1 hf
    refine lv_iload_n hx hb dMo_settle_42 rfl (lv_at hl 2 rfl) ?_
    refine lv_iload_n hx hb dMo_settle_43 rfl (lv_at hl 3 rfl) ?_
    refine lv_iadd hx hb dMo_settle_44 ?_
    refine lv_iconst (v := (2 : Int32)) hx hb dMo_settle_45 (by decide) ?_
    refine ek_idiv hx hb hf dMo_settle_46 (fun hf => ?_)
    refine ek_ti hf (fun i4_12 hf => ?_)
    refine ek_istore (lv' := [(4, .int i4_12), (3, .int i3), (0, ek_r G x0), (1, .int i1), (2, .int i2)]) hx hb dMo_settle_47 hl (by decide) (ek_s1k 3 rfl rfl rfl rfl rfl) (fun ls hl => ?_)
    refine ek_aload_n hx hb dMo_settle_49 rfl (lv_at hl 2 rfl) ?_
    refine lv_bipush (v := (30 : Int32)) hx hb dMo_settle_50 (by decide) ?_
    refine lv_iconst (v := (2 : Int32)) hx hb dMo_settle_52 (by decide) ?_
    refine lv_iload_n hx hb dMo_settle_53 rfl (lv_at hl 3 rfl) ?_
    refine lv_imul hx hb dMo_settle_54 ?_
    obtain ⟨hx14, hf⟩ := ek_ck_s hf
    refine ek_cv hf hS hA (fun I' hq => ek_rV (As := [.int ((30 : Int32)), .int (((2 : Int32)) * i1)]) ⟨hx, hb, hml, hown, hts⟩ hK hw 8 rfl (by decide) (by decide) hx14 (mMo_copy hq) (cwV 2 hts (lw_V q_669 q_671 p_18 q_8 q_672) rfl rfl rfl (by decide +kernel) ⟨Nat.le_of_ble_eq_true rfl, Nat.le_of_ble_eq_true rfl⟩) rfl hl.1 rfl (Nat.le_of_ble_eq_true rfl) dMo_settle_55 ⟨Nat.zero_le _, Nat.zero_le _⟩) (fun I13 H locs hf hw hS => ?_)
    refine ek_aload_n hx hb dMo_settle_58 rfl (lv_at hl 2 rfl) ?_
    refine lv_bipush (v := (30 : Int32)) hx hb dMo_settle_59 (by decide) ?_
    refine lv_iload hx hb dMo_settle_61 (lv_at hl 0 rfl) ?_
    obtain ⟨hx16, hf⟩ := ek_ck_s hf
    refine ek_cv hf hS hA (fun I' hq => ek_rV (As := [.int ((30 : Int32)), .int i4_12]) ⟨hx, hb, hml, hown, hts⟩ hK hw 8 rfl (by decide) (by decide) hx16 (mMo_times hq) (cwV 2 hts (lw_V q_685 q_687 p_22 q_8 q_688) rfl rfl rfl (by decide +kernel) ⟨Nat.le_of_ble_eq_true rfl, Nat.le_of_ble_eq_true rfl⟩) rfl hl.1 rfl (Nat.le_of_ble_eq_true rfl) dMo_settle_63 ⟨Nat.zero_le _, Nat.zero_le _⟩) (fun I15 H locs hf hw hS => ?_)
    refine ek_aload_n hx hb dMo_settle_66 rfl (lv_at hl 2 rfl) ?_
    refine lv_bipush (v := (30 : Int32)) hx hb dMo_settle_67 (by decide) ?_
    refine lv_bipush (v := (31 : Int32)) hx hb dMo_settle_69 (by decide) ?_
    obtain ⟨hx18, hf⟩ := ek_ck_s hf
    refine ek_ci hf hS hA (fun I' v hq => ek_rV (As := [.int ((30 : Int32)), .int ((31 : Int32))]) ⟨hx, hb, hml, hown, hts⟩ hK hw 8 rfl (by decide) (by decide) hx18 (mMo_compare hq) (cwV 2 hts (lw_V q_698 q_700 p_25 q_8 q_701) rfl rfl rfl (by decide +kernel) ⟨Nat.le_of_ble_eq_true rfl, Nat.le_of_ble_eq_true rfl⟩) rfl hl.1 rfl (Nat.le_of_ble_eq_true rfl) dMo_settle_71 ⟨Nat.zero_le _, Nat.zero_le _⟩) (fun I17 ir19 H locs hf hw hS => ?_)
    refine lv_if_ge (tgt := 85) hx hb dMo_settle_74 (by decide) (fun c20 => ?_) (fun c20 => ?_)
    · have hf := ek_t c20 hf
      refine lv_iload hx hb dMo_settle_85 (lv_at hl 0 rfl) ?_
      refine ek_istore_n (lv' := [(3, .int i4_12), (2, .int i2), (4, .int i4_12), (0, ek_r G x0), (1, .int i1)]) hx hb dMo_settle_87 rfl hl (by decide) (ek_s1k 4 rfl rfl rfl rfl rfl) (fun ls hl => ?_)
      refine lv_goto (tgt := 37) hx hb dMo_settle_88 (by decide) ?_
      exact hk37 (I17, x0, i1, i2, i4_12) hf _ _ _ hw hS (lv_sub hl [3, 4, 1, 0] rfl)
    · have hf := ek_f c20 hf
      refine lv_iload hx hb dMo_settle_77 (lv_at hl 0 rfl) ?_
      refine lv_iconst (v := (1 : Int32)) hx hb dMo_settle_79 (by decide) ?_
      refine lv_iadd hx hb dMo_settle_80 ?_
      refine ek_ti hf (fun i2_21 hf => ?_)
      refine ek_istore_n (lv' := [(2, .int i2_21), (1, .int i1), (4, .int i4_12), (3, .int i3), (0, ek_r G x0)]) hx hb dMo_settle_81 rfl hl (by decide) (ek_s1k 3 rfl rfl rfl rfl rfl) (fun ls hl => ?_)
      refine lv_goto (tgt := 88) hx hb dMo_settle_82 (by decide) ?_
      refine lv_goto (tgt := 37) hx hb dMo_settle_88 (by decide) ?_
      exact hk37 (I17, x0, i1, i2_21, i3) hf _ _ _ hw hS (lv_sub hl [4, 1, 0, 3] rfl)
set_option maxHeartbeats 4000000 in
set_option maxRecDepth 100000 in
theorem wMo_settle_37_lp {l : Launch} {G : ek_G} {kd : Nat → Nat} {p : Program} {e : Env} {s : State} {m : MethodId} {args : Array Value} {below : List Frame} {meth : Method} {c : Code} (X : ek_X p s m meth c args G prog_9_method_24_code 5 "ElasticKernelModel" none) {q : ek_St} (n : Nat) : ∀ q0 : ek_St × Nat × Int32 × Int32 × Int32, ek_lp (fun (k : (ek_St × Nat × Int32 × Int32 × Int32) → Option (ek_St)) (q : (ek_St × Nat × Int32 × Int32 × Int32)) => fMo_settle_37 kd k q.1 q.2.1 q.2.2.1 q.2.2.2.1 q.2.2.2.2) n q0 = some q → ∀ (H : Heap) (locs : List Loc) (ls : Array Slot), ek_W G kd q0.1 H → va_S (ek_A G kd) s.heap H locs → lv_has ls 5 [(0, ek_r G q0.2.1), (1, .int q0.2.2.1), (2, .int q0.2.2.2.1), (3, .int q0.2.2.2.2)] → W p l e ({ frames := 1, cells := 0, slots := 0, locals := 27 } : Room) s m args below meth c H locs 0 0 (MQ below (ek_Q G kd none q) args s 0 0 (ek_A G kd)) (F0 m 37 ls []) :=
  ek_lp_ind (fun k hk q0 hf => fun H locs ls hw hS hl => wMo_settle_37 X hk hf hw hS hl) n
set_option maxHeartbeats 4000000 in
set_option maxRecDepth 100000 in
theorem wMo_settle_0 {l : Launch} {G : ek_G} {kd : Nat → Nat} {p : Program} {e : Env} {s : State} {m : MethodId} {args : Array Value} {below : List Frame} {meth : Method} {c : Code} (X : ek_X p s m meth c args G prog_9_method_24_code 5 "ElasticKernelModel" none) {q : ek_St} {I : ek_St} {x0 : Nat} {i1 : Int32} (hf : fMo_settle_0 kd I x0 i1 = some q) {H : Heap} {locs : List Loc} {ls : Array Slot} (hw : ek_W G kd I H) (hS : va_S (ek_A G kd) s.heap H locs) (hl : lv_has ls 5 [(0, ek_r G x0), (1, .int i1)]) : W p l e ({ frames := 1, cells := 0, slots := 0, locals := 27 } : Room) s m args below meth c H locs 0 0 (MQ below (ek_Q G kd none q) args s 0 0 (ek_A G kd)) (F0 m 0 ls []) := by
  obtain ⟨hx, hb, hml, hown, hts, hr, hlocks, hK⟩ := id X
  have hA : ∀ q, ek_A G kd q → ek_A G kd q := fun _ h => h
  unfold fMo_settle_0 at hf
  refine ek_aload_n hx hb dMo_settle_0 rfl (lv_at hl 0 rfl) ?_
  refine lv_bipush (v := (31 : Int32)) hx hb dMo_settle_1 (by decide) ?_
  refine lv_iconst (v := (2 : Int32)) hx hb dMo_settle_3 (by decide) ?_
  refine lv_iload_n hx hb dMo_settle_4 rfl (lv_at hl 1 rfl) ?_
  refine lv_imul hx hb dMo_settle_5 ?_
  refine lv_iconst (v := (1 : Int32)) hx hb dMo_settle_6 (by decide) ?_
  refine lv_iadd hx hb dMo_settle_7 ?_
  obtain ⟨hx2, hf⟩ := ek_ck_s hf
  refine ek_cv hf hS hA (fun I' hq => ek_rV (As := [.int ((31 : Int32)), .int ((((2 : Int32)) * i1) + ((1 : Int32)))]) ⟨hx, hb, hml, hown, hts⟩ hK hw 8 rfl (by decide) (by decide) hx2 (mMo_copy hq) (cwV 2 hts (lw_V q_669 q_671 p_18 q_8 q_672) rfl rfl rfl (by decide +kernel) ⟨Nat.le_of_ble_eq_true rfl, Nat.le_of_ble_eq_true rfl⟩) rfl hl.1 rfl (Nat.le_of_ble_eq_true rfl) dMo_settle_8 ⟨Nat.zero_le _, Nat.zero_le _⟩) (fun I1 H locs hf hw hS => ?_)
  refine ek_aload_n hx hb dMo_settle_11 rfl (lv_at hl 0 rfl) ?_
  refine lv_bipush (v := (31 : Int32)) hx hb dMo_settle_12 (by decide) ?_
  refine ek_aload_n hx hb dMo_settle_14 rfl (lv_at hl 0 rfl) ?_
  refine ek_getr hx hb 8 hts (in_Mo) hown hK hw rfl (by decide) (by decide) 9 (by decide) (n := 1) rfl rfl (hts _ q_585) hf dMo_settle_15 (fun hf => ?_)
  refine lv_iload_n hx hb dMo_settle_18 rfl (lv_at hl 1 rfl) ?_
  refine ek_iald hx hb hK hw 12 rfl hf dMo_settle_19 (fun hf => ?_)
  obtain ⟨hx4, hf⟩ := ek_ck_s hf
  refine ek_cv hf hS hA (fun I' hq => ek_rV (As := [.int ((31 : Int32)), .int (I1 (x0 + 2) i1.toNatClampNeg)]) ⟨hx, hb, hml, hown, hts⟩ hK hw 8 rfl (by decide) (by decide) hx4 (mMo_times hq) (cwV 2 hts (lw_V q_685 q_687 p_22 q_8 q_688) rfl rfl rfl (by decide +kernel) ⟨Nat.le_of_ble_eq_true rfl, Nat.le_of_ble_eq_true rfl⟩) rfl hl.1 rfl (Nat.le_of_ble_eq_true rfl) dMo_settle_20 ⟨Nat.zero_le _, Nat.zero_le _⟩) (fun I3 H locs hf hw hS => ?_)
  refine ek_aload_n hx hb dMo_settle_23 rfl (lv_at hl 0 rfl) ?_
  refine ek_getr hx hb 8 hts (in_Mo) hown hK hw rfl (by decide) (by decide) 10 (by decide) (n := 2) rfl rfl (hts _ q_586) hf dMo_settle_24 (fun hf => ?_)
  refine lv_iload_n hx hb dMo_settle_27 rfl (lv_at hl 1 rfl) ?_
  refine ek_iald hx hb hK hw 12 rfl hf dMo_settle_28 (fun hf => ?_)
  refine ek_ti hf (fun i2_5 hf => ?_)
  refine ek_istore_n (lv' := [(2, .int i2_5), (1, .int i1), (0, ek_r G x0)]) hx hb dMo_settle_29 rfl hl (by decide) (ek_s1k 1 rfl rfl rfl rfl rfl) (fun ls hl => ?_)
  refine ek_aload_n hx hb dMo_settle_30 rfl (lv_at hl 2 rfl) ?_
  refine ek_getr hx hb 8 hts (in_Mo) hown hK hw rfl (by decide) (by decide) 11 (by decide) (n := 3) rfl rfl (hts _ q_587) hf dMo_settle_31 (fun hf => ?_)
  refine lv_iload_n hx hb dMo_settle_34 rfl (lv_at hl 1 rfl) ?_
  refine ek_iald hx hb hK hw 12 rfl hf dMo_settle_35 (fun hf => ?_)
  refine ek_ti hf (fun i3_6 hf => ?_)
  refine ek_istore_n (lv' := [(3, .int i3_6), (2, .int i2_5), (1, .int i1), (0, ek_r G x0)]) hx hb dMo_settle_36 rfl hl (by decide) (ek_s1k 0 rfl rfl rfl rfl rfl) (fun ls hl => ?_)
  exact wMo_settle_37_lp X ek_N (I3, x0, i1, i2_5, i3_6) hf _ _ _ hw hS (lv_sub hl [3, 2, 1, 0] rfl)
set_option maxHeartbeats 4000000 in
set_option maxRecDepth 100000 in
theorem mMo_settle {l : Launch} {G : ek_G} {kd : Nat → Nat} {I : ek_St} {x0 : Nat} {i1 : Int32} {q : ek_St} (hf : fMo_settle kd I x0 i1 = some q) : ek_M l G kd y_Mo_settle (.code y_Mo_settle prog_9_method_24_code 5 none :: lw_g) ({ frames := 1, cells := 0, slots := 0, locals := 27 } : Room) [ek_r G x0, .int i1] I none q :=
  ek_body [(0, ek_r G x0), (1, .int i1)] (by decide) (by simp [lg_sl, ek_r_cat, ek_c_i, ek_c_l]) (by simp [lv_args, ek_r_cat, ek_c_i, ek_c_l]) (fun p e s m below meth c ls X hw hS hl => wMo_settle_0 X hf hw hS hl)
/-! ElasticKernelModel.solve()V -/
def fMo_solve_56 (kd : Nat → Nat) (k18 : (ek_St × Nat × Int32 × Int32) → Option (ek_St)) (I : ek_St) (x0 : Nat) (i1 : Int32) (i2 : Int32) : Option (ek_St) :=
  ek_let (i2 + (1 : Int32)) (fun i2_1 => k18 (I, x0, i1, i2_1))
def fMo_solve_284 (kd : Nat → Nat) (k226 : (ek_St × Nat × Int32 × Int32) → Option (ek_St)) (I : ek_St) (x0 : Nat) (i2 : Int32) (i3 : Int32) : Option (ek_St) :=
  ek_let (i3 + (1 : Int32)) (fun i3_1 => k226 (I, x0, i2, i3_1))
def fMo_solve_279 (kd : Nat → Nat) (k226 : (ek_St × Nat × Int32 × Int32) → Option (ek_St)) (I : ek_St) (x0 : Nat) (i2 : Int32) (i3 : Int32) : Option (ek_St) :=
  ek_ck (kd x0 = 8) (ek_bv (fMo_settle kd I x0 i3) (fun I1 => fMo_solve_284 kd k226 I1 x0 i2 i3))
def fMo_solve_226 (kd : Nat → Nat) (k226 : (ek_St × Nat × Int32 × Int32) → Option (ek_St)) (I : ek_St) (x0 : Nat) (i2 : Int32) (i3 : Int32) : Option (ek_St) :=
  ek_ck (kd x0 = 8) (if (I x0 7) ≤ i3 then (ek_ck (kd x0 = 8) (ek_bv (fMo_findInstant kd I x0) (fun I2 => some I2))) else (ek_ck (kd x0 = 8) (ek_bi (fMo_counts kd I x0 i3) (fun I4 ir6 => if ir6 = ((0 : Int32)) then (fMo_solve_284 kd k226 I4 x0 i2 i3) else (if i2 = ((0 : Int32)) then (fMo_solve_279 kd k226 I4 x0 i2 i3) else (ek_ck (kd x0 = 8) (ek_ck (kd (x0 + 2) = 112) (ek_ck (ek_in i3 12) (ek_ck (kd x0 = 8) (ek_bv (fMo_be kd I4 x0 (((2 : Int32)) * i3) (Int32.toInt64 (I4 (x0 + 2) i3.toNatClampNeg))) (fun I9 => ek_ck (kd x0 = 8) (ek_ck (kd (x0 + 3) = 112) (ek_ck (ek_in i3 12) (ek_ck (kd x0 = 8) (ek_bv (fMo_be kd I9 x0 ((((2 : Int32)) * i3) + ((1 : Int32))) (Int32.toInt64 (I9 (x0 + 3) i3.toNatClampNeg))) (fun I11 => fMo_solve_279 kd k226 I11 x0 i2 i3))))))))))))))))
def fMo_solve_224 (kd : Nat → Nat) (I : ek_St) (x0 : Nat) (i2 : Int32) : Option (ek_St) :=
  ek_lp (fun (k : (ek_St × Nat × Int32 × Int32) → Option (ek_St)) (q : (ek_St × Nat × Int32 × Int32)) => fMo_solve_226 kd k q.1 q.2.1 q.2.2.1 q.2.2.2) ek_N (I, x0, i2, (0 : Int32))
def fMo_solve_151 (kd : Nat → Nat) (k121 : (ek_St × Nat × Int32 × Int32 × Int32) → Option (ek_St)) (I : ek_St) (x0 : Nat) (i1 : Int32) (i2 : Int32) (i3 : Int32) (t0 : Nat) (t1 : Int32) (t2 : Int32) : Option (ek_St) :=
  ek_ck (kd t0 = 112) (ek_ck (ek_in t1 12) (ek_let (ek_up I t0 t1.toNatClampNeg t2) (fun I1 => ek_let (i3 + (1 : Int32)) (fun i3_2 => k121 (I1, x0, i1, i2, i3_2)))))
def fMo_solve_218 (kd : Nat → Nat) (k193 : (ek_St × Nat × Int32 × Int32 × Int32) → Option (ek_St)) (I : ek_St) (x0 : Nat) (i2 : Int32) (i3 : Int32) (i4 : Int32) : Option (ek_St) :=
  ek_let (i4 + (1 : Int32)) (fun i4_1 => k193 (I, x0, i2, i3, i4_1))
def fMo_solve_193 (kd : Nat → Nat) (k193 : (ek_St × Nat × Int32 × Int32 × Int32) → Option (ek_St)) (I : ek_St) (x0 : Nat) (i2 : Int32) (i3 : Int32) (i4 : Int32) : Option (ek_St) :=
  ek_ck (kd x0 = 8) (if (I x0 7) ≤ i4 then (fMo_solve_224 kd I x0 i2) else (ek_ck (kd x0 = 8) (ek_bi (fMo_counts kd I x0 i4) (fun I2 ir4 => if ir4 = ((0 : Int32)) then (fMo_solve_218 kd k193 I2 x0 i2 i3 i4) else (ek_ck (kd x0 = 8) (ek_bv (fMo_press kd I2 x0 i4 i3) (fun I6 => fMo_solve_218 kd k193 I6 x0 i2 i3 i4)))))))
def fMo_solve_190 (kd : Nat → Nat) (I : ek_St) (x0 : Nat) (i2 : Int32) (i3 : Int32) : Option (ek_St) :=
  ek_lp (fun (k : (ek_St × Nat × Int32 × Int32 × Int32) → Option (ek_St)) (q : (ek_St × Nat × Int32 × Int32 × Int32)) => fMo_solve_193 kd k q.1 q.2.1 q.2.2.1 q.2.2.2.1 q.2.2.2.2) ek_N (I, x0, i2, i3, (0 : Int32))
def fMo_solve_179 (kd : Nat → Nat) (I : ek_St) (x0 : Nat) (i1 : Int32) (i2 : Int32) (i3 : Int32) : Option (ek_St) :=
  if i3 = i1 then (ek_ck (kd x0 = 8) (ek_bi (fMo_tryLeast kd I x0 i1) (fun I2 ir4 => fMo_solve_190 kd I2 x0 i2 i3))) else (fMo_solve_190 kd I x0 i2 i3)
def fMo_solve_160 (kd : Nat → Nat) (k160 : (ek_St × Nat × Int32 × Int32 × Int32) → Option (ek_St)) (I : ek_St) (x0 : Nat) (i1 : Int32) (i2 : Int32) (i3 : Int32) : Option (ek_St) :=
  if i1 ≤ i3 then (fMo_solve_179 kd I x0 i1 i2 i3) else (ek_ck (kd x0 = 8) (ek_bi (fMo_tryLeast kd I x0 i3) (fun I2 ir4 => if ir4 = ((0 : Int32)) then (ek_let (i3 + (1 : Int32)) (fun i3_6 => k160 (I2, x0, i1, i2, i3_6))) else (fMo_solve_179 kd I2 x0 i1 i2 i3))))
def fMo_solve_121 (kd : Nat → Nat) (k121 : (ek_St × Nat × Int32 × Int32 × Int32) → Option (ek_St)) (I : ek_St) (x0 : Nat) (i1 : Int32) (i2 : Int32) (i3 : Int32) : Option (ek_St) :=
  ek_ck (kd x0 = 8) (if (I x0 7) ≤ i3 then (ek_lp (fun (k : (ek_St × Nat × Int32 × Int32 × Int32) → Option (ek_St)) (q : (ek_St × Nat × Int32 × Int32 × Int32)) => fMo_solve_160 kd k q.1 q.2.1 q.2.2.1 q.2.2.2.1 q.2.2.2.2) ek_N (I, x0, i1, i2, (0 : Int32))) else (ek_ck (kd x0 = 8) (ek_ck (kd x0 = 8) (ek_bi (fMo_counts kd I x0 i3) (fun I2 ir4 => if ir4 = ((0 : Int32)) then (fMo_solve_151 kd k121 I2 x0 i1 i2 i3 (x0 + 17) i3 ((0 : Int32))) else (ek_ck (kd x0 = 8) (ek_bi (fMo_rankOf kd I2 x0 i3) (fun I6 ir8 => fMo_solve_151 kd k121 I6 x0 i1 i2 i3 (x0 + 17) i3 ir8))))))))
def fMo_solve_78 (kd : Nat → Nat) (I : ek_St) (x0 : Nat) (i1 : Int32) (t0 : Int32) : Option (ek_St) :=
  ek_ck (kd x0 = 8) (ek_bv (fMo_copy kd I x0 ((24 : Int32)) ((26 : Int32))) (fun I1 => ek_ck (kd x0 = 8) (ek_bv (fMo_copy kd I1 x0 ((25 : Int32)) ((27 : Int32))) (fun I3 => if t0 = ((0 : Int32)) then (ek_ck (kd x0 = 8) (ek_ck (kd x0 = 8) (ek_bv (fMo_be kd I3 x0 ((24 : Int32)) (Int32.toInt64 (I3 x0 2))) (fun I6 => ek_ck (kd x0 = 8) (ek_bv (fMo_be kd I6 x0 ((25 : Int32)) ((1000 : Int64))) (fun I8 => ek_lp (fun (k : (ek_St × Nat × Int32 × Int32 × Int32) → Option (ek_St)) (q : (ek_St × Nat × Int32 × Int32 × Int32)) => fMo_solve_121 kd k q.1 q.2.1 q.2.2.1 q.2.2.2.1 q.2.2.2.2) ek_N (I8, x0, i1, t0, (0 : Int32)))))))) else (fMo_solve_224 kd I3 x0 t0)))))
def fMo_solve_18 (kd : Nat → Nat) (k18 : (ek_St × Nat × Int32 × Int32) → Option (ek_St)) (I : ek_St) (x0 : Nat) (i1 : Int32) (i2 : Int32) : Option (ek_St) :=
  ek_ck (kd x0 = 8) (if (I x0 7) ≤ i2 then (ek_ck (kd x0 = 8) (ek_ck (kd x0 = 8) (ek_bi (fMo_isAbove kd I x0 (I x0 2)) (fun I2 ir4 => if ir4 = ((0 : Int32)) then (fMo_solve_78 kd I2 x0 i1 ((1 : Int32))) else (fMo_solve_78 kd I2 x0 i1 ((0 : Int32))))))) else (ek_ck (kd x0 = 8) (ek_bi (fMo_counts kd I x0 i2) (fun I6 ir8 => if ir8 = ((0 : Int32)) then (fMo_solve_56 kd k18 I6 x0 i1 i2) else (ek_ck (kd x0 = 8) (ek_ck (kd (x0 + 2) = 112) (ek_ck (ek_in i2 12) (ek_ck (kd x0 = 8) (ek_ck (kd (x0 + 3) = 112) (ek_ck (ek_in i2 12) (ek_ck (kd x0 = 8) (ek_bv (fMo_addFraction kd I6 x0 (I6 (x0 + 2) i2.toNatClampNeg) (I6 (x0 + 3) i2.toNatClampNeg)) (fun I10 => ek_let (i1 + (1 : Int32)) (fun i1_12 => fMo_solve_56 kd k18 I10 x0 i1_12 i2))))))))))))))
def fMo_solve_0 (kd : Nat → Nat) (I : ek_St) (x0 : Nat) : Option (ek_St) :=
  ek_ck (kd x0 = 8) (ek_ck (kd x0 = 8) (ek_let (ek_up I x0 4 ((I x0 4) + ((1 : Int32)))) (fun I1 => ek_ck (kd x0 = 8) (ek_bv (fMo_none kd I1 x0) (fun I2 => ek_lp (fun (k : (ek_St × Nat × Int32 × Int32) → Option (ek_St)) (q : (ek_St × Nat × Int32 × Int32)) => fMo_solve_18 kd k q.1 q.2.1 q.2.2.1 q.2.2.2) ek_N (I2, x0, (0 : Int32), (0 : Int32)))))))
def fMo_solve (kd : Nat → Nat) (I : ek_St) (x0 : Nat) : Option (ek_St) := fMo_solve_0 kd I x0
theorem dMo_solve_0 : decode prog_9_method_22_code 0 = .ok (.aload_n 0, 1) := by decide +kernel
theorem dMo_solve_1 : decode prog_9_method_22_code 1 = .ok (.dup, 1) := by decide +kernel
theorem dMo_solve_2 : decode prog_9_method_22_code 2 = .ok (.getfield 128, 3) := by decide +kernel
theorem dMo_solve_5 : decode prog_9_method_22_code 5 = .ok (.iconst 1, 1) := by decide +kernel
theorem dMo_solve_6 : decode prog_9_method_22_code 6 = .ok (.iadd, 1) := by decide +kernel
theorem dMo_solve_7 : decode prog_9_method_22_code 7 = .ok (.putfield 128, 3) := by decide +kernel
theorem dMo_solve_10 : decode prog_9_method_22_code 10 = .ok (.aload_n 0, 1) := by decide +kernel
theorem dMo_solve_11 : decode prog_9_method_22_code 11 = .ok (.invokevirtual 115, 3) := by decide +kernel
theorem dMo_solve_14 : decode prog_9_method_22_code 14 = .ok (.iconst 0, 1) := by decide +kernel
theorem dMo_solve_15 : decode prog_9_method_22_code 15 = .ok (.istore_n 1, 1) := by decide +kernel
theorem dMo_solve_16 : decode prog_9_method_22_code 16 = .ok (.iconst 0, 1) := by decide +kernel
theorem dMo_solve_17 : decode prog_9_method_22_code 17 = .ok (.istore_n 2, 1) := by decide +kernel
theorem dMo_solve_18 : decode prog_9_method_22_code 18 = .ok (.iload_n 2, 1) := by decide +kernel
theorem dMo_solve_19 : decode prog_9_method_22_code 19 = .ok (.aload_n 0, 1) := by decide +kernel
theorem dMo_solve_20 : decode prog_9_method_22_code 20 = .ok (.getfield 105, 3) := by decide +kernel
theorem dMo_solve_23 : decode prog_9_method_22_code 23 = .ok (.if_icmp .ge 39, 3) := by decide +kernel
theorem dMo_solve_26 : decode prog_9_method_22_code 26 = .ok (.aload_n 0, 1) := by decide +kernel
theorem dMo_solve_27 : decode prog_9_method_22_code 27 = .ok (.iload_n 2, 1) := by decide +kernel
theorem dMo_solve_28 : decode prog_9_method_22_code 28 = .ok (.invokevirtual 108, 3) := by decide +kernel
theorem dMo_solve_31 : decode prog_9_method_22_code 31 = .ok (.ifCond .ne 6, 3) := by decide +kernel
theorem dMo_solve_34 : decode prog_9_method_22_code 34 = .ok (.goto 22, 3) := by decide +kernel
theorem dMo_solve_37 : decode prog_9_method_22_code 37 = .ok (.aload_n 0, 1) := by decide +kernel
theorem dMo_solve_38 : decode prog_9_method_22_code 38 = .ok (.aload_n 0, 1) := by decide +kernel
theorem dMo_solve_39 : decode prog_9_method_22_code 39 = .ok (.getfield 17, 3) := by decide +kernel
theorem dMo_solve_42 : decode prog_9_method_22_code 42 = .ok (.iload_n 2, 1) := by decide +kernel
theorem dMo_solve_43 : decode prog_9_method_22_code 43 = .ok (.iaload, 1) := by decide +kernel
theorem dMo_solve_44 : decode prog_9_method_22_code 44 = .ok (.aload_n 0, 1) := by decide +kernel
theorem dMo_solve_45 : decode prog_9_method_22_code 45 = .ok (.getfield 20, 3) := by decide +kernel
theorem dMo_solve_48 : decode prog_9_method_22_code 48 = .ok (.iload_n 2, 1) := by decide +kernel
theorem dMo_solve_49 : decode prog_9_method_22_code 49 = .ok (.iaload, 1) := by decide +kernel
theorem dMo_solve_50 : decode prog_9_method_22_code 50 = .ok (.invokevirtual 118, 3) := by decide +kernel
theorem dMo_solve_53 : decode prog_9_method_22_code 53 = .ok (.iinc 1 1, 3) := by decide +kernel
theorem dMo_solve_56 : decode prog_9_method_22_code 56 = .ok (.iinc 2 1, 3) := by decide +kernel
theorem dMo_solve_59 : decode prog_9_method_22_code 59 = .ok (.goto (-41), 3) := by decide +kernel
theorem dMo_solve_62 : decode prog_9_method_22_code 62 = .ok (.aload_n 0, 1) := by decide +kernel
theorem dMo_solve_63 : decode prog_9_method_22_code 63 = .ok (.aload_n 0, 1) := by decide +kernel
theorem dMo_solve_64 : decode prog_9_method_22_code 64 = .ok (.getfield 7, 3) := by decide +kernel
theorem dMo_solve_67 : decode prog_9_method_22_code 67 = .ok (.invokevirtual 131, 3) := by decide +kernel
theorem dMo_solve_70 : decode prog_9_method_22_code 70 = .ok (.ifCond .ne 7, 3) := by decide +kernel
theorem dMo_solve_73 : decode prog_9_method_22_code 73 = .ok (.iconst 1, 1) := by decide +kernel
theorem dMo_solve_74 : decode prog_9_method_22_code 74 = .ok (.goto 4, 3) := by decide +kernel
theorem dMo_solve_77 : decode prog_9_method_22_code 77 = .ok (.iconst 0, 1) := by decide +kernel
theorem dMo_solve_78 : decode prog_9_method_22_code 78 = .ok (.istore_n 2, 1) := by decide +kernel
theorem dMo_solve_79 : decode prog_9_method_22_code 79 = .ok (.aload_n 0, 1) := by decide +kernel
theorem dMo_solve_80 : decode prog_9_method_22_code 80 = .ok (.bipush 24, 2) := by decide +kernel
theorem dMo_solve_82 : decode prog_9_method_22_code 82 = .ok (.bipush 26, 2) := by decide +kernel
theorem dMo_solve_84 : decode prog_9_method_22_code 84 = .ok (.invokevirtual 87, 3) := by decide +kernel
theorem dMo_solve_87 : decode prog_9_method_22_code 87 = .ok (.aload_n 0, 1) := by decide +kernel
theorem dMo_solve_88 : decode prog_9_method_22_code 88 = .ok (.bipush 25, 2) := by decide +kernel
theorem dMo_solve_90 : decode prog_9_method_22_code 90 = .ok (.bipush 27, 2) := by decide +kernel
theorem dMo_solve_92 : decode prog_9_method_22_code 92 = .ok (.invokevirtual 87, 3) := by decide +kernel
theorem dMo_solve_95 : decode prog_9_method_22_code 95 = .ok (.iload_n 2, 1) := by decide +kernel
theorem dMo_solve_96 : decode prog_9_method_22_code 96 = .ok (.ifCond .ne 128, 3) := by decide +kernel
theorem dMo_solve_99 : decode prog_9_method_22_code 99 = .ok (.aload_n 0, 1) := by decide +kernel
theorem dMo_solve_100 : decode prog_9_method_22_code 100 = .ok (.bipush 24, 2) := by decide +kernel
theorem dMo_solve_102 : decode prog_9_method_22_code 102 = .ok (.aload_n 0, 1) := by decide +kernel
theorem dMo_solve_103 : decode prog_9_method_22_code 103 = .ok (.getfield 7, 3) := by decide +kernel
theorem dMo_solve_106 : decode prog_9_method_22_code 106 = .ok (.i2l, 1) := by decide +kernel
theorem dMo_solve_107 : decode prog_9_method_22_code 107 = .ok (.invokevirtual 66, 3) := by decide +kernel
theorem dMo_solve_110 : decode prog_9_method_22_code 110 = .ok (.aload_n 0, 1) := by decide +kernel
theorem dMo_solve_111 : decode prog_9_method_22_code 111 = .ok (.bipush 25, 2) := by decide +kernel
theorem dMo_solve_113 : decode prog_9_method_22_code 113 = .ok (.ldc2_w 134, 3) := by decide +kernel
theorem dMo_solve_116 : decode prog_9_method_22_code 116 = .ok (.invokevirtual 66, 3) := by decide +kernel
theorem dMo_solve_119 : decode prog_9_method_22_code 119 = .ok (.iconst 0, 1) := by decide +kernel
theorem dMo_solve_120 : decode prog_9_method_22_code 120 = .ok (.istore_n 3, 1) := by decide +kernel
theorem dMo_solve_121 : decode prog_9_method_22_code 121 = .ok (.iload_n 3, 1) := by decide +kernel
theorem dMo_solve_122 : decode prog_9_method_22_code 122 = .ok (.aload_n 0, 1) := by decide +kernel
theorem dMo_solve_123 : decode prog_9_method_22_code 123 = .ok (.getfield 105, 3) := by decide +kernel
theorem dMo_solve_126 : decode prog_9_method_22_code 126 = .ok (.if_icmp .ge 32, 3) := by decide +kernel
theorem dMo_solve_129 : decode prog_9_method_22_code 129 = .ok (.aload_n 0, 1) := by decide +kernel
theorem dMo_solve_130 : decode prog_9_method_22_code 130 = .ok (.getfield 63, 3) := by decide +kernel
theorem dMo_solve_133 : decode prog_9_method_22_code 133 = .ok (.iload_n 3, 1) := by decide +kernel
theorem dMo_solve_134 : decode prog_9_method_22_code 134 = .ok (.aload_n 0, 1) := by decide +kernel
theorem dMo_solve_135 : decode prog_9_method_22_code 135 = .ok (.iload_n 3, 1) := by decide +kernel
theorem dMo_solve_136 : decode prog_9_method_22_code 136 = .ok (.invokevirtual 108, 3) := by decide +kernel
theorem dMo_solve_139 : decode prog_9_method_22_code 139 = .ok (.ifCond .eq 11, 3) := by decide +kernel
theorem dMo_solve_142 : decode prog_9_method_22_code 142 = .ok (.aload_n 0, 1) := by decide +kernel
theorem dMo_solve_143 : decode prog_9_method_22_code 143 = .ok (.iload_n 3, 1) := by decide +kernel
theorem dMo_solve_144 : decode prog_9_method_22_code 144 = .ok (.invokevirtual 136, 3) := by decide +kernel
theorem dMo_solve_147 : decode prog_9_method_22_code 147 = .ok (.goto 4, 3) := by decide +kernel
theorem dMo_solve_150 : decode prog_9_method_22_code 150 = .ok (.iconst 0, 1) := by decide +kernel
theorem dMo_solve_151 : decode prog_9_method_22_code 151 = .ok (.iastore, 1) := by decide +kernel
theorem dMo_solve_152 : decode prog_9_method_22_code 152 = .ok (.iinc 3 1, 3) := by decide +kernel
theorem dMo_solve_155 : decode prog_9_method_22_code 155 = .ok (.goto (-34), 3) := by decide +kernel
theorem dMo_solve_158 : decode prog_9_method_22_code 158 = .ok (.iconst 0, 1) := by decide +kernel
theorem dMo_solve_159 : decode prog_9_method_22_code 159 = .ok (.istore_n 3, 1) := by decide +kernel
theorem dMo_solve_160 : decode prog_9_method_22_code 160 = .ok (.iload_n 3, 1) := by decide +kernel
theorem dMo_solve_161 : decode prog_9_method_22_code 161 = .ok (.iload_n 1, 1) := by decide +kernel
theorem dMo_solve_162 : decode prog_9_method_22_code 162 = .ok (.if_icmp .ge 17, 3) := by decide +kernel
theorem dMo_solve_165 : decode prog_9_method_22_code 165 = .ok (.aload_n 0, 1) := by decide +kernel
theorem dMo_solve_166 : decode prog_9_method_22_code 166 = .ok (.iload_n 3, 1) := by decide +kernel
theorem dMo_solve_167 : decode prog_9_method_22_code 167 = .ok (.invokevirtual 140, 3) := by decide +kernel
theorem dMo_solve_170 : decode prog_9_method_22_code 170 = .ok (.ifCond .ne 9, 3) := by decide +kernel
theorem dMo_solve_173 : decode prog_9_method_22_code 173 = .ok (.iinc 3 1, 3) := by decide +kernel
theorem dMo_solve_176 : decode prog_9_method_22_code 176 = .ok (.goto (-16), 3) := by decide +kernel
theorem dMo_solve_179 : decode prog_9_method_22_code 179 = .ok (.iload_n 3, 1) := by decide +kernel
theorem dMo_solve_180 : decode prog_9_method_22_code 180 = .ok (.iload_n 1, 1) := by decide +kernel
theorem dMo_solve_181 : decode prog_9_method_22_code 181 = .ok (.if_icmp .ne 9, 3) := by decide +kernel
theorem dMo_solve_184 : decode prog_9_method_22_code 184 = .ok (.aload_n 0, 1) := by decide +kernel
theorem dMo_solve_185 : decode prog_9_method_22_code 185 = .ok (.iload_n 1, 1) := by decide +kernel
theorem dMo_solve_186 : decode prog_9_method_22_code 186 = .ok (.invokevirtual 140, 3) := by decide +kernel
theorem dMo_solve_189 : decode prog_9_method_22_code 189 = .ok (.pop, 1) := by decide +kernel
theorem dMo_solve_190 : decode prog_9_method_22_code 190 = .ok (.iconst 0, 1) := by decide +kernel
theorem dMo_solve_191 : decode prog_9_method_22_code 191 = .ok (.istore 4, 2) := by decide +kernel
theorem dMo_solve_193 : decode prog_9_method_22_code 193 = .ok (.iload 4, 2) := by decide +kernel
theorem dMo_solve_195 : decode prog_9_method_22_code 195 = .ok (.aload_n 0, 1) := by decide +kernel
theorem dMo_solve_196 : decode prog_9_method_22_code 196 = .ok (.getfield 105, 3) := by decide +kernel
theorem dMo_solve_199 : decode prog_9_method_22_code 199 = .ok (.if_icmp .ge 25, 3) := by decide +kernel
theorem dMo_solve_202 : decode prog_9_method_22_code 202 = .ok (.aload_n 0, 1) := by decide +kernel
theorem dMo_solve_203 : decode prog_9_method_22_code 203 = .ok (.iload 4, 2) := by decide +kernel
theorem dMo_solve_205 : decode prog_9_method_22_code 205 = .ok (.invokevirtual 108, 3) := by decide +kernel
theorem dMo_solve_208 : decode prog_9_method_22_code 208 = .ok (.ifCond .eq 10, 3) := by decide +kernel
theorem dMo_solve_211 : decode prog_9_method_22_code 211 = .ok (.aload_n 0, 1) := by decide +kernel
theorem dMo_solve_212 : decode prog_9_method_22_code 212 = .ok (.iload 4, 2) := by decide +kernel
theorem dMo_solve_214 : decode prog_9_method_22_code 214 = .ok (.iload_n 3, 1) := by decide +kernel
theorem dMo_solve_215 : decode prog_9_method_22_code 215 = .ok (.invokevirtual 143, 3) := by decide +kernel
theorem dMo_solve_218 : decode prog_9_method_22_code 218 = .ok (.iinc 4 1, 3) := by decide +kernel
theorem dMo_solve_221 : decode prog_9_method_22_code 221 = .ok (.goto (-28), 3) := by decide +kernel
theorem dMo_solve_224 : decode prog_9_method_22_code 224 = .ok (.iconst 0, 1) := by decide +kernel
theorem dMo_solve_225 : decode prog_9_method_22_code 225 = .ok (.istore_n 3, 1) := by decide +kernel
theorem dMo_solve_226 : decode prog_9_method_22_code 226 = .ok (.iload_n 3, 1) := by decide +kernel
theorem dMo_solve_227 : decode prog_9_method_22_code 227 = .ok (.aload_n 0, 1) := by decide +kernel
theorem dMo_solve_228 : decode prog_9_method_22_code 228 = .ok (.getfield 105, 3) := by decide +kernel
theorem dMo_solve_231 : decode prog_9_method_22_code 231 = .ok (.if_icmp .ge 59, 3) := by decide +kernel
theorem dMo_solve_234 : decode prog_9_method_22_code 234 = .ok (.aload_n 0, 1) := by decide +kernel
theorem dMo_solve_235 : decode prog_9_method_22_code 235 = .ok (.iload_n 3, 1) := by decide +kernel
theorem dMo_solve_236 : decode prog_9_method_22_code 236 = .ok (.invokevirtual 108, 3) := by decide +kernel
theorem dMo_solve_239 : decode prog_9_method_22_code 239 = .ok (.ifCond .ne 6, 3) := by decide +kernel
theorem dMo_solve_242 : decode prog_9_method_22_code 242 = .ok (.goto 42, 3) := by decide +kernel
theorem dMo_solve_245 : decode prog_9_method_22_code 245 = .ok (.iload_n 2, 1) := by decide +kernel
theorem dMo_solve_246 : decode prog_9_method_22_code 246 = .ok (.ifCond .eq 33, 3) := by decide +kernel
theorem dMo_solve_249 : decode prog_9_method_22_code 249 = .ok (.aload_n 0, 1) := by decide +kernel
theorem dMo_solve_250 : decode prog_9_method_22_code 250 = .ok (.iconst 2, 1) := by decide +kernel
theorem dMo_solve_251 : decode prog_9_method_22_code 251 = .ok (.iload_n 3, 1) := by decide +kernel
theorem dMo_solve_252 : decode prog_9_method_22_code 252 = .ok (.imul, 1) := by decide +kernel
theorem dMo_solve_253 : decode prog_9_method_22_code 253 = .ok (.aload_n 0, 1) := by decide +kernel
theorem dMo_solve_254 : decode prog_9_method_22_code 254 = .ok (.getfield 17, 3) := by decide +kernel
theorem dMo_solve_257 : decode prog_9_method_22_code 257 = .ok (.iload_n 3, 1) := by decide +kernel
theorem dMo_solve_258 : decode prog_9_method_22_code 258 = .ok (.iaload, 1) := by decide +kernel
theorem dMo_solve_259 : decode prog_9_method_22_code 259 = .ok (.i2l, 1) := by decide +kernel
theorem dMo_solve_260 : decode prog_9_method_22_code 260 = .ok (.invokevirtual 66, 3) := by decide +kernel
theorem dMo_solve_263 : decode prog_9_method_22_code 263 = .ok (.aload_n 0, 1) := by decide +kernel
theorem dMo_solve_264 : decode prog_9_method_22_code 264 = .ok (.iconst 2, 1) := by decide +kernel
theorem dMo_solve_265 : decode prog_9_method_22_code 265 = .ok (.iload_n 3, 1) := by decide +kernel
theorem dMo_solve_266 : decode prog_9_method_22_code 266 = .ok (.imul, 1) := by decide +kernel
theorem dMo_solve_267 : decode prog_9_method_22_code 267 = .ok (.iconst 1, 1) := by decide +kernel
theorem dMo_solve_268 : decode prog_9_method_22_code 268 = .ok (.iadd, 1) := by decide +kernel
theorem dMo_solve_269 : decode prog_9_method_22_code 269 = .ok (.aload_n 0, 1) := by decide +kernel
theorem dMo_solve_270 : decode prog_9_method_22_code 270 = .ok (.getfield 20, 3) := by decide +kernel
theorem dMo_solve_273 : decode prog_9_method_22_code 273 = .ok (.iload_n 3, 1) := by decide +kernel
theorem dMo_solve_274 : decode prog_9_method_22_code 274 = .ok (.iaload, 1) := by decide +kernel
theorem dMo_solve_275 : decode prog_9_method_22_code 275 = .ok (.i2l, 1) := by decide +kernel
theorem dMo_solve_276 : decode prog_9_method_22_code 276 = .ok (.invokevirtual 66, 3) := by decide +kernel
theorem dMo_solve_279 : decode prog_9_method_22_code 279 = .ok (.aload_n 0, 1) := by decide +kernel
theorem dMo_solve_280 : decode prog_9_method_22_code 280 = .ok (.iload_n 3, 1) := by decide +kernel
theorem dMo_solve_281 : decode prog_9_method_22_code 281 = .ok (.invokevirtual 146, 3) := by decide +kernel
theorem dMo_solve_284 : decode prog_9_method_22_code 284 = .ok (.iinc 3 1, 3) := by decide +kernel
theorem dMo_solve_287 : decode prog_9_method_22_code 287 = .ok (.goto (-61), 3) := by decide +kernel
theorem dMo_solve_290 : decode prog_9_method_22_code 290 = .ok (.aload_n 0, 1) := by decide +kernel
theorem dMo_solve_291 : decode prog_9_method_22_code 291 = .ok (.invokevirtual 149, 3) := by decide +kernel
theorem dMo_solve_294 : decode prog_9_method_22_code 294 = .ok (.return_, 1) := by decide +kernel
set_option maxHeartbeats 4000000 in
set_option maxRecDepth 100000 in
theorem wMo_solve_56 {l : Launch} {G : ek_G} {kd : Nat → Nat} {p : Program} {e : Env} {s : State} {m : MethodId} {args : Array Value} {below : List Frame} {meth : Method} {c : Code} (X : ek_X p s m meth c args G prog_9_method_22_code 5 "ElasticKernelModel" none) {q : ek_St} {k18 : (ek_St × Nat × Int32 × Int32) → Option (ek_St)} (hk18 : ∀ q0 : ek_St × Nat × Int32 × Int32, k18 q0 = some q → ∀ (H : Heap) (locs : List Loc) (ls : Array Slot), ek_W G kd q0.1 H → va_S (ek_A G kd) s.heap H locs → lv_has ls 5 [(0, ek_r G q0.2.1), (1, .int q0.2.2.1), (2, .int q0.2.2.2)] → W p l e ({ frames := 3, cells := 0, slots := 0, locals := 77 } : Room) s m args below meth c H locs 0 0 (MQ below (ek_Q G kd none q) args s 0 0 (ek_A G kd)) (F0 m 18 ls [])) {I : ek_St} {x0 : Nat} {i1 : Int32} {i2 : Int32} (hf : fMo_solve_56 kd k18 I x0 i1 i2 = some q) {H : Heap} {locs : List Loc} {ls : Array Slot} (hw : ek_W G kd I H) (hS : va_S (ek_A G kd) s.heap H locs) (hl : lv_has ls 5 [(0, ek_r G x0), (1, .int i1), (2, .int i2)]) : W p l e ({ frames := 3, cells := 0, slots := 0, locals := 77 } : Room) s m args below meth c H locs 0 0 (MQ below (ek_Q G kd none q) args s 0 0 (ek_A G kd)) (F0 m 56 ls []) := by
  obtain ⟨hx, hb, hml, hown, hts, hr, hlocks, hK⟩ := id X
  have hA : ∀ q, ek_A G kd q → ek_A G kd q := fun _ h => h
  unfold fMo_solve_56 at hf
  refine ek_iinc hx hb 2 (fun i2_1 => [(2, .int i2_1), (1, .int i1), (0, ek_r G x0)]) dMo_solve_56 hl rfl (v := i2 + (1 : Int32)) rfl hf (by decide) (fun i2_1 => ek_s1k 1 rfl rfl rfl rfl rfl) (fun i2_1 ls hf hl => ?_)
  refine lv_goto (tgt := 18) hx hb dMo_solve_59 (by decide) ?_
  exact hk18 (I, x0, i1, i2_1) hf _ _ _ hw hS (lv_sub hl [2, 1, 0] rfl)
set_option maxHeartbeats 4000000 in
set_option maxRecDepth 100000 in
theorem wMo_solve_284 {l : Launch} {G : ek_G} {kd : Nat → Nat} {p : Program} {e : Env} {s : State} {m : MethodId} {args : Array Value} {below : List Frame} {meth : Method} {c : Code} (X : ek_X p s m meth c args G prog_9_method_22_code 5 "ElasticKernelModel" none) {q : ek_St} {k226 : (ek_St × Nat × Int32 × Int32) → Option (ek_St)} (hk226 : ∀ q0 : ek_St × Nat × Int32 × Int32, k226 q0 = some q → ∀ (H : Heap) (locs : List Loc) (ls : Array Slot), ek_W G kd q0.1 H → va_S (ek_A G kd) s.heap H locs → lv_has ls 5 [(0, ek_r G q0.2.1), (2, .int q0.2.2.1), (3, .int q0.2.2.2)] → W p l e ({ frames := 3, cells := 0, slots := 0, locals := 77 } : Room) s m args below meth c H locs 0 0 (MQ below (ek_Q G kd none q) args s 0 0 (ek_A G kd)) (F0 m 226 ls [])) {I : ek_St} {x0 : Nat} {i2 : Int32} {i3 : Int32} (hf : fMo_solve_284 kd k226 I x0 i2 i3 = some q) {H : Heap} {locs : List Loc} {ls : Array Slot} (hw : ek_W G kd I H) (hS : va_S (ek_A G kd) s.heap H locs) (hl : lv_has ls 5 [(0, ek_r G x0), (2, .int i2), (3, .int i3)]) : W p l e ({ frames := 3, cells := 0, slots := 0, locals := 77 } : Room) s m args below meth c H locs 0 0 (MQ below (ek_Q G kd none q) args s 0 0 (ek_A G kd)) (F0 m 284 ls []) := by
  obtain ⟨hx, hb, hml, hown, hts, hr, hlocks, hK⟩ := id X
  have hA : ∀ q, ek_A G kd q → ek_A G kd q := fun _ h => h
  unfold fMo_solve_284 at hf
  refine ek_iinc hx hb 2 (fun i3_1 => [(3, .int i3_1), (2, .int i2), (0, ek_r G x0)]) dMo_solve_284 hl rfl (v := i3 + (1 : Int32)) rfl hf (by decide) (fun i3_1 => ek_s1k 1 rfl rfl rfl rfl rfl) (fun i3_1 ls hf hl => ?_)
  refine lv_goto (tgt := 226) hx hb dMo_solve_287 (by decide) ?_
  exact hk226 (I, x0, i2, i3_1) hf _ _ _ hw hS (lv_sub hl [2, 1, 0] rfl)
set_option maxHeartbeats 4000000 in
set_option maxRecDepth 100000 in
theorem wMo_solve_279 {l : Launch} {G : ek_G} {kd : Nat → Nat} {p : Program} {e : Env} {s : State} {m : MethodId} {args : Array Value} {below : List Frame} {meth : Method} {c : Code} (X : ek_X p s m meth c args G prog_9_method_22_code 5 "ElasticKernelModel" none) {q : ek_St} {k226 : (ek_St × Nat × Int32 × Int32) → Option (ek_St)} (hk226 : ∀ q0 : ek_St × Nat × Int32 × Int32, k226 q0 = some q → ∀ (H : Heap) (locs : List Loc) (ls : Array Slot), ek_W G kd q0.1 H → va_S (ek_A G kd) s.heap H locs → lv_has ls 5 [(0, ek_r G q0.2.1), (2, .int q0.2.2.1), (3, .int q0.2.2.2)] → W p l e ({ frames := 3, cells := 0, slots := 0, locals := 77 } : Room) s m args below meth c H locs 0 0 (MQ below (ek_Q G kd none q) args s 0 0 (ek_A G kd)) (F0 m 226 ls [])) {I : ek_St} {x0 : Nat} {i2 : Int32} {i3 : Int32} (hf : fMo_solve_279 kd k226 I x0 i2 i3 = some q) {H : Heap} {locs : List Loc} {ls : Array Slot} (hw : ek_W G kd I H) (hS : va_S (ek_A G kd) s.heap H locs) (hl : lv_has ls 5 [(0, ek_r G x0), (2, .int i2), (3, .int i3)]) : W p l e ({ frames := 3, cells := 0, slots := 0, locals := 77 } : Room) s m args below meth c H locs 0 0 (MQ below (ek_Q G kd none q) args s 0 0 (ek_A G kd)) (F0 m 279 ls []) := by
  obtain ⟨hx, hb, hml, hown, hts, hr, hlocks, hK⟩ := id X
  have hA : ∀ q, ek_A G kd q → ek_A G kd q := fun _ h => h
  unfold fMo_solve_279 at hf
  refine ek_aload_n hx hb dMo_solve_279 rfl (lv_at hl 0 rfl) ?_
  refine lv_iload_n hx hb dMo_solve_280 rfl (lv_at hl 2 rfl) ?_
  obtain ⟨hx2, hf⟩ := ek_ck_s hf
  refine ek_cv hf hS hA (fun I' hq => ek_rV (As := [.int i3]) ⟨hx, hb, hml, hown, hts⟩ hK hw 8 rfl (by decide) (by decide) hx2 (mMo_settle hq) (cwV 1 hts (lw_V q_739 q_741 p_35 q_8 q_742) rfl rfl rfl (by decide +kernel) ⟨Nat.le_of_ble_eq_true rfl, Nat.le_of_ble_eq_true rfl⟩) rfl hl.1 rfl (Nat.le_of_ble_eq_true rfl) dMo_solve_281 ⟨Nat.zero_le _, Nat.zero_le _⟩) (fun I1 H locs hf hw hS => ?_)
  exact wMo_solve_284 X hk226 hf hw hS (lv_sub hl [0, 1, 2] rfl)
set_option maxHeartbeats 4000000 in
set_option maxRecDepth 100000 in
theorem wMo_solve_226 {l : Launch} {G : ek_G} {kd : Nat → Nat} {p : Program} {e : Env} {s : State} {m : MethodId} {args : Array Value} {below : List Frame} {meth : Method} {c : Code} (X : ek_X p s m meth c args G prog_9_method_22_code 5 "ElasticKernelModel" none) {q : ek_St} {k226 : (ek_St × Nat × Int32 × Int32) → Option (ek_St)} (hk226 : ∀ q0 : ek_St × Nat × Int32 × Int32, k226 q0 = some q → ∀ (H : Heap) (locs : List Loc) (ls : Array Slot), ek_W G kd q0.1 H → va_S (ek_A G kd) s.heap H locs → lv_has ls 5 [(0, ek_r G q0.2.1), (2, .int q0.2.2.1), (3, .int q0.2.2.2)] → W p l e ({ frames := 3, cells := 0, slots := 0, locals := 77 } : Room) s m args below meth c H locs 0 0 (MQ below (ek_Q G kd none q) args s 0 0 (ek_A G kd)) (F0 m 226 ls [])) {I : ek_St} {x0 : Nat} {i2 : Int32} {i3 : Int32} (hf : fMo_solve_226 kd k226 I x0 i2 i3 = some q) {H : Heap} {locs : List Loc} {ls : Array Slot} (hw : ek_W G kd I H) (hS : va_S (ek_A G kd) s.heap H locs) (hl : lv_has ls 5 [(0, ek_r G x0), (2, .int i2), (3, .int i3)]) : W p l e ({ frames := 3, cells := 0, slots := 0, locals := 77 } : Room) s m args below meth c H locs 0 0 (MQ below (ek_Q G kd none q) args s 0 0 (ek_A G kd)) (F0 m 226 ls []) := by
  obtain ⟨hx, hb, hml, hown, hts, hr, hlocks, hK⟩ := id X
  have hA : ∀ q, ek_A G kd q → ek_A G kd q := fun _ h => h
  unfold fMo_solve_226 at hf
  refine lv_iload_n hx hb dMo_solve_226 rfl (lv_at hl 2 rfl) ?_
  refine ek_aload_n hx hb dMo_solve_227 rfl (lv_at hl 0 rfl) ?_
  refine ek_geti hx hb 8 hts (in_Mo) hown hK hw rfl (by decide) (by decide) 7 (by decide) rfl (hts _ q_583) hf dMo_solve_228 (fun hf => ?_)
  refine lv_icmp_ge (tgt := 290) hx hb dMo_solve_231 (by decide) (fun c1 => ?_) (fun c1 => ?_)
  · have hf := ek_t c1 hf
    refine ek_aload_n hx hb dMo_solve_290 rfl (lv_at hl 0 rfl) ?_
    obtain ⟨hx3, hf⟩ := ek_ck_s hf
    refine ek_cv hf hS hA (fun I' hq => ek_rV (As := []) ⟨hx, hb, hml, hown, hts⟩ hK hw 8 rfl (by decide) (by decide) hx3 (mMo_findInstant hq) (cwV 0 hts (lw_V q_743 q_745 p_36 q_8 q_746) rfl rfl rfl (by decide +kernel) ⟨Nat.le_of_ble_eq_true rfl, Nat.le_of_ble_eq_true rfl⟩) rfl hl.1 rfl (Nat.le_of_ble_eq_true rfl) dMo_solve_291 ⟨Nat.zero_le _, Nat.zero_le _⟩) (fun I2 H locs hf hw hS => ?_)
    exact ek_vret hx hb hr hlocks hw hS hf dMo_solve_294
  · have hf := ek_f c1 hf
    refine ek_aload_n hx hb dMo_solve_234 rfl (lv_at hl 0 rfl) ?_
    refine lv_iload_n hx hb dMo_solve_235 rfl (lv_at hl 2 rfl) ?_
    obtain ⟨hx5, hf⟩ := ek_ck_s hf
    refine ek_ci hf hS hA (fun I' v hq => ek_rV (As := [.int i3]) ⟨hx, hb, hml, hown, hts⟩ hK hw 8 rfl (by decide) (by decide) hx5 (mMo_counts hq) (cwV 1 hts (lw_V q_710 q_712 p_28 q_8 q_713) rfl rfl rfl (by decide +kernel) ⟨Nat.le_of_ble_eq_true rfl, Nat.le_of_ble_eq_true rfl⟩) rfl hl.1 rfl (Nat.le_of_ble_eq_true rfl) dMo_solve_236 ⟨Nat.zero_le _, Nat.zero_le _⟩) (fun I4 ir6 H locs hf hw hS => ?_)
    refine lv_if_ne (tgt := 245) hx hb dMo_solve_239 (by decide) (fun c7 => ?_) (fun c7 => ?_)
    · have hf := ek_f c7 hf
      refine lv_iload_n hx hb dMo_solve_245 rfl (lv_at hl 1 rfl) ?_
      refine lv_if_eq (tgt := 279) hx hb dMo_solve_246 (by decide) (fun c8 => ?_) (fun c8 => ?_)
      · have hf := ek_t c8 hf
        exact wMo_solve_279 X hk226 hf hw hS (lv_sub hl [0, 1, 2] rfl)
      · have hf := ek_f c8 hf
        refine ek_aload_n hx hb dMo_solve_249 rfl (lv_at hl 0 rfl) ?_
        refine lv_iconst (v := (2 : Int32)) hx hb dMo_solve_250 (by decide) ?_
        refine lv_iload_n hx hb dMo_solve_251 rfl (lv_at hl 2 rfl) ?_
        refine lv_imul hx hb dMo_solve_252 ?_
        refine ek_aload_n hx hb dMo_solve_253 rfl (lv_at hl 0 rfl) ?_
        refine ek_getr hx hb 8 hts (in_Mo) hown hK hw rfl (by decide) (by decide) 9 (by decide) (n := 1) rfl rfl (hts _ q_585) hf dMo_solve_254 (fun hf => ?_)
        refine lv_iload_n hx hb dMo_solve_257 rfl (lv_at hl 2 rfl) ?_
        refine ek_iald hx hb hK hw 12 rfl hf dMo_solve_258 (fun hf => ?_)
        refine lv_i2l hx hb dMo_solve_259 rfl ?_
        obtain ⟨hx10, hf⟩ := ek_ck_s hf
        refine ek_cv hf hS hA (fun I' hq => ek_rV (As := [.int (((2 : Int32)) * i3), .long (Int32.toInt64 (I4 (x0 + 2) i3.toNatClampNeg))]) ⟨hx, hb, hml, hown, hts⟩ hK hw 8 rfl (by decide) (by decide) hx10 (mMo_be hq) (cwV 2 hts (lw_V q_571 q_573 p_15 q_8 q_574) rfl rfl rfl (by decide +kernel) ⟨Nat.le_of_ble_eq_true rfl, Nat.le_of_ble_eq_true rfl⟩) rfl hl.1 rfl (Nat.le_of_ble_eq_true rfl) dMo_solve_260 ⟨Nat.zero_le _, Nat.zero_le _⟩) (fun I9 H locs hf hw hS => ?_)
        refine ek_aload_n hx hb dMo_solve_263 rfl (lv_at hl 0 rfl) ?_
        refine lv_iconst (v := (2 : Int32)) hx hb dMo_solve_264 (by decide) ?_
        refine lv_iload_n hx hb dMo_solve_265 rfl (lv_at hl 2 rfl) ?_
        refine lv_imul hx hb dMo_solve_266 ?_
        refine lv_iconst (v := (1 : Int32)) hx hb dMo_solve_267 (by decide) ?_
        refine lv_iadd hx hb dMo_solve_268 ?_
        refine ek_aload_n hx hb dMo_solve_269 rfl (lv_at hl 0 rfl) ?_
        refine ek_getr hx hb 8 hts (in_Mo) hown hK hw rfl (by decide) (by decide) 10 (by decide) (n := 2) rfl rfl (hts _ q_586) hf dMo_solve_270 (fun hf => ?_)
        refine lv_iload_n hx hb dMo_solve_273 rfl (lv_at hl 2 rfl) ?_
        refine ek_iald hx hb hK hw 12 rfl hf dMo_solve_274 (fun hf => ?_)
        refine lv_i2l hx hb dMo_solve_275 rfl ?_
        obtain ⟨hx12, hf⟩ := ek_ck_s hf
        refine ek_cv hf hS hA (fun I' hq => ek_rV (As := [.int ((((2 : Int32)) * i3) + ((1 : Int32))), .long (Int32.toInt64 (I9 (x0 + 3) i3.toNatClampNeg))]) ⟨hx, hb, hml, hown, hts⟩ hK hw 8 rfl (by decide) (by decide) hx12 (mMo_be hq) (cwV 2 hts (lw_V q_571 q_573 p_15 q_8 q_574) rfl rfl rfl (by decide +kernel) ⟨Nat.le_of_ble_eq_true rfl, Nat.le_of_ble_eq_true rfl⟩) rfl hl.1 rfl (Nat.le_of_ble_eq_true rfl) dMo_solve_276 ⟨Nat.zero_le _, Nat.zero_le _⟩) (fun I11 H locs hf hw hS => ?_)
        exact wMo_solve_279 X hk226 hf hw hS (lv_sub hl [0, 1, 2] rfl)
    · have hf := ek_t c7 hf
      refine lv_goto (tgt := 284) hx hb dMo_solve_242 (by decide) ?_
      exact wMo_solve_284 X hk226 hf hw hS (lv_sub hl [0, 1, 2] rfl)
set_option maxHeartbeats 4000000 in
set_option maxRecDepth 100000 in
theorem wMo_solve_226_lp {l : Launch} {G : ek_G} {kd : Nat → Nat} {p : Program} {e : Env} {s : State} {m : MethodId} {args : Array Value} {below : List Frame} {meth : Method} {c : Code} (X : ek_X p s m meth c args G prog_9_method_22_code 5 "ElasticKernelModel" none) {q : ek_St} (n : Nat) : ∀ q0 : ek_St × Nat × Int32 × Int32, ek_lp (fun (k : (ek_St × Nat × Int32 × Int32) → Option (ek_St)) (q : (ek_St × Nat × Int32 × Int32)) => fMo_solve_226 kd k q.1 q.2.1 q.2.2.1 q.2.2.2) n q0 = some q → ∀ (H : Heap) (locs : List Loc) (ls : Array Slot), ek_W G kd q0.1 H → va_S (ek_A G kd) s.heap H locs → lv_has ls 5 [(0, ek_r G q0.2.1), (2, .int q0.2.2.1), (3, .int q0.2.2.2)] → W p l e ({ frames := 3, cells := 0, slots := 0, locals := 77 } : Room) s m args below meth c H locs 0 0 (MQ below (ek_Q G kd none q) args s 0 0 (ek_A G kd)) (F0 m 226 ls []) :=
  ek_lp_ind (fun k hk q0 hf => fun H locs ls hw hS hl => wMo_solve_226 X hk hf hw hS hl) n
set_option maxHeartbeats 4000000 in
set_option maxRecDepth 100000 in
theorem wMo_solve_224 {l : Launch} {G : ek_G} {kd : Nat → Nat} {p : Program} {e : Env} {s : State} {m : MethodId} {args : Array Value} {below : List Frame} {meth : Method} {c : Code} (X : ek_X p s m meth c args G prog_9_method_22_code 5 "ElasticKernelModel" none) {q : ek_St} {I : ek_St} {x0 : Nat} {i2 : Int32} (hf : fMo_solve_224 kd I x0 i2 = some q) {H : Heap} {locs : List Loc} {ls : Array Slot} (hw : ek_W G kd I H) (hS : va_S (ek_A G kd) s.heap H locs) (hl : lv_has ls 5 [(0, ek_r G x0), (2, .int i2)]) : W p l e ({ frames := 3, cells := 0, slots := 0, locals := 77 } : Room) s m args below meth c H locs 0 0 (MQ below (ek_Q G kd none q) args s 0 0 (ek_A G kd)) (F0 m 224 ls []) := by
  obtain ⟨hx, hb, hml, hown, hts, hr, hlocks, hK⟩ := id X
  have hA : ∀ q, ek_A G kd q → ek_A G kd q := fun _ h => h
  unfold fMo_solve_224 at hf
  refine lv_iconst (v := (0 : Int32)) hx hb dMo_solve_224 (by decide) ?_
  refine ek_istore_n (lv' := [(3, .int ((0 : Int32))), (2, .int i2), (0, ek_r G x0)]) hx hb dMo_solve_225 rfl hl (by decide) (ek_s1k 1 rfl rfl rfl rfl rfl) (fun ls hl => ?_)
  exact wMo_solve_226_lp X ek_N (I, x0, i2, (0 : Int32)) hf _ _ _ hw hS (lv_sub hl [2, 1, 0] rfl)
set_option maxHeartbeats 4000000 in
set_option maxRecDepth 100000 in
theorem wMo_solve_151 {l : Launch} {G : ek_G} {kd : Nat → Nat} {p : Program} {e : Env} {s : State} {m : MethodId} {args : Array Value} {below : List Frame} {meth : Method} {c : Code} (X : ek_X p s m meth c args G prog_9_method_22_code 5 "ElasticKernelModel" none) {q : ek_St} {k121 : (ek_St × Nat × Int32 × Int32 × Int32) → Option (ek_St)} (hk121 : ∀ q0 : ek_St × Nat × Int32 × Int32 × Int32, k121 q0 = some q → ∀ (H : Heap) (locs : List Loc) (ls : Array Slot), ek_W G kd q0.1 H → va_S (ek_A G kd) s.heap H locs → lv_has ls 5 [(0, ek_r G q0.2.1), (1, .int q0.2.2.1), (2, .int q0.2.2.2.1), (3, .int q0.2.2.2.2)] → W p l e ({ frames := 3, cells := 0, slots := 0, locals := 77 } : Room) s m args below meth c H locs 0 0 (MQ below (ek_Q G kd none q) args s 0 0 (ek_A G kd)) (F0 m 121 ls [])) {I : ek_St} {x0 : Nat} {i1 : Int32} {i2 : Int32} {i3 : Int32} {t0 : Nat} {t1 : Int32} {t2 : Int32} (hf : fMo_solve_151 kd k121 I x0 i1 i2 i3 t0 t1 t2 = some q) {H : Heap} {locs : List Loc} {ls : Array Slot} (hw : ek_W G kd I H) (hS : va_S (ek_A G kd) s.heap H locs) (hl : lv_has ls 5 [(0, ek_r G x0), (1, .int i1), (2, .int i2), (3, .int i3)]) : W p l e ({ frames := 3, cells := 0, slots := 0, locals := 77 } : Room) s m args below meth c H locs 0 0 (MQ below (ek_Q G kd none q) args s 0 0 (ek_A G kd)) (F0 m 151 ls [.int t2, .int t1, ek_r G t0]) := by
  obtain ⟨hx, hb, hml, hown, hts, hr, hlocks, hK⟩ := id X
  have hA : ∀ q, ek_A G kd q → ek_A G kd q := fun _ h => h
  unfold fMo_solve_151 at hf
  refine ek_iast hx hb hK hw hS hA 12 rfl hf dMo_solve_151 (fun I1 H locs hf hw hS => ?_)
  refine ek_iinc hx hb 3 (fun i3_2 => [(3, .int i3_2), (2, .int i2), (0, ek_r G x0), (1, .int i1)]) dMo_solve_152 hl rfl (v := i3 + (1 : Int32)) rfl hf (by decide) (fun i3_2 => ek_s1k 2 rfl rfl rfl rfl rfl) (fun i3_2 ls hf hl => ?_)
  refine lv_goto (tgt := 121) hx hb dMo_solve_155 (by decide) ?_
  exact hk121 (I1, x0, i1, i2, i3_2) hf _ _ _ hw hS (lv_sub hl [2, 3, 1, 0] rfl)
set_option maxHeartbeats 4000000 in
set_option maxRecDepth 100000 in
theorem wMo_solve_218 {l : Launch} {G : ek_G} {kd : Nat → Nat} {p : Program} {e : Env} {s : State} {m : MethodId} {args : Array Value} {below : List Frame} {meth : Method} {c : Code} (X : ek_X p s m meth c args G prog_9_method_22_code 5 "ElasticKernelModel" none) {q : ek_St} {k193 : (ek_St × Nat × Int32 × Int32 × Int32) → Option (ek_St)} (hk193 : ∀ q0 : ek_St × Nat × Int32 × Int32 × Int32, k193 q0 = some q → ∀ (H : Heap) (locs : List Loc) (ls : Array Slot), ek_W G kd q0.1 H → va_S (ek_A G kd) s.heap H locs → lv_has ls 5 [(0, ek_r G q0.2.1), (2, .int q0.2.2.1), (3, .int q0.2.2.2.1), (4, .int q0.2.2.2.2)] → W p l e ({ frames := 3, cells := 0, slots := 0, locals := 77 } : Room) s m args below meth c H locs 0 0 (MQ below (ek_Q G kd none q) args s 0 0 (ek_A G kd)) (F0 m 193 ls [])) {I : ek_St} {x0 : Nat} {i2 : Int32} {i3 : Int32} {i4 : Int32} (hf : fMo_solve_218 kd k193 I x0 i2 i3 i4 = some q) {H : Heap} {locs : List Loc} {ls : Array Slot} (hw : ek_W G kd I H) (hS : va_S (ek_A G kd) s.heap H locs) (hl : lv_has ls 5 [(0, ek_r G x0), (2, .int i2), (3, .int i3), (4, .int i4)]) : W p l e ({ frames := 3, cells := 0, slots := 0, locals := 77 } : Room) s m args below meth c H locs 0 0 (MQ below (ek_Q G kd none q) args s 0 0 (ek_A G kd)) (F0 m 218 ls []) := by
  obtain ⟨hx, hb, hml, hown, hts, hr, hlocks, hK⟩ := id X
  have hA : ∀ q, ek_A G kd q → ek_A G kd q := fun _ h => h
  unfold fMo_solve_218 at hf
  refine ek_iinc hx hb 3 (fun i4_1 => [(4, .int i4_1), (3, .int i3), (0, ek_r G x0), (2, .int i2)]) dMo_solve_218 hl rfl (v := i4 + (1 : Int32)) rfl hf (by decide) (fun i4_1 => ek_s1k 2 rfl rfl rfl rfl rfl) (fun i4_1 ls hf hl => ?_)
  refine lv_goto (tgt := 193) hx hb dMo_solve_221 (by decide) ?_
  exact hk193 (I, x0, i2, i3, i4_1) hf _ _ _ hw hS (lv_sub hl [2, 3, 1, 0] rfl)
set_option maxHeartbeats 4000000 in
set_option maxRecDepth 100000 in
theorem wMo_solve_193 {l : Launch} {G : ek_G} {kd : Nat → Nat} {p : Program} {e : Env} {s : State} {m : MethodId} {args : Array Value} {below : List Frame} {meth : Method} {c : Code} (X : ek_X p s m meth c args G prog_9_method_22_code 5 "ElasticKernelModel" none) {q : ek_St} {k193 : (ek_St × Nat × Int32 × Int32 × Int32) → Option (ek_St)} (hk193 : ∀ q0 : ek_St × Nat × Int32 × Int32 × Int32, k193 q0 = some q → ∀ (H : Heap) (locs : List Loc) (ls : Array Slot), ek_W G kd q0.1 H → va_S (ek_A G kd) s.heap H locs → lv_has ls 5 [(0, ek_r G q0.2.1), (2, .int q0.2.2.1), (3, .int q0.2.2.2.1), (4, .int q0.2.2.2.2)] → W p l e ({ frames := 3, cells := 0, slots := 0, locals := 77 } : Room) s m args below meth c H locs 0 0 (MQ below (ek_Q G kd none q) args s 0 0 (ek_A G kd)) (F0 m 193 ls [])) {I : ek_St} {x0 : Nat} {i2 : Int32} {i3 : Int32} {i4 : Int32} (hf : fMo_solve_193 kd k193 I x0 i2 i3 i4 = some q) {H : Heap} {locs : List Loc} {ls : Array Slot} (hw : ek_W G kd I H) (hS : va_S (ek_A G kd) s.heap H locs) (hl : lv_has ls 5 [(0, ek_r G x0), (2, .int i2), (3, .int i3), (4, .int i4)]) : W p l e ({ frames := 3, cells := 0, slots := 0, locals := 77 } : Room) s m args below meth c H locs 0 0 (MQ below (ek_Q G kd none q) args s 0 0 (ek_A G kd)) (F0 m 193 ls []) := by
  obtain ⟨hx, hb, hml, hown, hts, hr, hlocks, hK⟩ := id X
  have hA : ∀ q, ek_A G kd q → ek_A G kd q := fun _ h => h
  unfold fMo_solve_193 at hf
  refine lv_iload hx hb dMo_solve_193 (lv_at hl 3 rfl) ?_
  refine ek_aload_n hx hb dMo_solve_195 rfl (lv_at hl 0 rfl) ?_
  refine ek_geti hx hb 8 hts (in_Mo) hown hK hw rfl (by decide) (by decide) 7 (by decide) rfl (hts _ q_583) hf dMo_solve_196 (fun hf => ?_)
  refine lv_icmp_ge (tgt := 224) hx hb dMo_solve_199 (by decide) (fun c1 => ?_) (fun c1 => ?_)
  · have hf := ek_t c1 hf
    exact wMo_solve_224 X hf hw hS (lv_sub hl [0, 1] rfl)
  · have hf := ek_f c1 hf
    refine ek_aload_n hx hb dMo_solve_202 rfl (lv_at hl 0 rfl) ?_
    refine lv_iload hx hb dMo_solve_203 (lv_at hl 3 rfl) ?_
    obtain ⟨hx3, hf⟩ := ek_ck_s hf
    refine ek_ci hf hS hA (fun I' v hq => ek_rV (As := [.int i4]) ⟨hx, hb, hml, hown, hts⟩ hK hw 8 rfl (by decide) (by decide) hx3 (mMo_counts hq) (cwV 1 hts (lw_V q_710 q_712 p_28 q_8 q_713) rfl rfl rfl (by decide +kernel) ⟨Nat.le_of_ble_eq_true rfl, Nat.le_of_ble_eq_true rfl⟩) rfl hl.1 rfl (Nat.le_of_ble_eq_true rfl) dMo_solve_205 ⟨Nat.zero_le _, Nat.zero_le _⟩) (fun I2 ir4 H locs hf hw hS => ?_)
    refine lv_if_eq (tgt := 218) hx hb dMo_solve_208 (by decide) (fun c5 => ?_) (fun c5 => ?_)
    · have hf := ek_t c5 hf
      exact wMo_solve_218 X hk193 hf hw hS (lv_sub hl [0, 1, 2, 3] rfl)
    · have hf := ek_f c5 hf
      refine ek_aload_n hx hb dMo_solve_211 rfl (lv_at hl 0 rfl) ?_
      refine lv_iload hx hb dMo_solve_212 (lv_at hl 3 rfl) ?_
      refine lv_iload_n hx hb dMo_solve_214 rfl (lv_at hl 2 rfl) ?_
      obtain ⟨hx7, hf⟩ := ek_ck_s hf
      refine ek_cv hf hS hA (fun I' hq => ek_rV (As := [.int i4, .int i3]) ⟨hx, hb, hml, hown, hts⟩ hK hw 8 rfl (by decide) (by decide) hx7 (mMo_press hq) (cwV 2 hts (lw_V q_735 q_737 p_34 q_8 q_738) rfl rfl rfl (by decide +kernel) ⟨Nat.le_of_ble_eq_true rfl, Nat.le_of_ble_eq_true rfl⟩) rfl hl.1 rfl (Nat.le_of_ble_eq_true rfl) dMo_solve_215 ⟨Nat.zero_le _, Nat.zero_le _⟩) (fun I6 H locs hf hw hS => ?_)
      exact wMo_solve_218 X hk193 hf hw hS (lv_sub hl [0, 1, 2, 3] rfl)
set_option maxHeartbeats 4000000 in
set_option maxRecDepth 100000 in
theorem wMo_solve_193_lp {l : Launch} {G : ek_G} {kd : Nat → Nat} {p : Program} {e : Env} {s : State} {m : MethodId} {args : Array Value} {below : List Frame} {meth : Method} {c : Code} (X : ek_X p s m meth c args G prog_9_method_22_code 5 "ElasticKernelModel" none) {q : ek_St} (n : Nat) : ∀ q0 : ek_St × Nat × Int32 × Int32 × Int32, ek_lp (fun (k : (ek_St × Nat × Int32 × Int32 × Int32) → Option (ek_St)) (q : (ek_St × Nat × Int32 × Int32 × Int32)) => fMo_solve_193 kd k q.1 q.2.1 q.2.2.1 q.2.2.2.1 q.2.2.2.2) n q0 = some q → ∀ (H : Heap) (locs : List Loc) (ls : Array Slot), ek_W G kd q0.1 H → va_S (ek_A G kd) s.heap H locs → lv_has ls 5 [(0, ek_r G q0.2.1), (2, .int q0.2.2.1), (3, .int q0.2.2.2.1), (4, .int q0.2.2.2.2)] → W p l e ({ frames := 3, cells := 0, slots := 0, locals := 77 } : Room) s m args below meth c H locs 0 0 (MQ below (ek_Q G kd none q) args s 0 0 (ek_A G kd)) (F0 m 193 ls []) :=
  ek_lp_ind (fun k hk q0 hf => fun H locs ls hw hS hl => wMo_solve_193 X hk hf hw hS hl) n
set_option maxHeartbeats 4000000 in
set_option maxRecDepth 100000 in
theorem wMo_solve_190 {l : Launch} {G : ek_G} {kd : Nat → Nat} {p : Program} {e : Env} {s : State} {m : MethodId} {args : Array Value} {below : List Frame} {meth : Method} {c : Code} (X : ek_X p s m meth c args G prog_9_method_22_code 5 "ElasticKernelModel" none) {q : ek_St} {I : ek_St} {x0 : Nat} {i2 : Int32} {i3 : Int32} (hf : fMo_solve_190 kd I x0 i2 i3 = some q) {H : Heap} {locs : List Loc} {ls : Array Slot} (hw : ek_W G kd I H) (hS : va_S (ek_A G kd) s.heap H locs) (hl : lv_has ls 5 [(0, ek_r G x0), (2, .int i2), (3, .int i3)]) : W p l e ({ frames := 3, cells := 0, slots := 0, locals := 77 } : Room) s m args below meth c H locs 0 0 (MQ below (ek_Q G kd none q) args s 0 0 (ek_A G kd)) (F0 m 190 ls []) := by
  obtain ⟨hx, hb, hml, hown, hts, hr, hlocks, hK⟩ := id X
  have hA : ∀ q, ek_A G kd q → ek_A G kd q := fun _ h => h
  unfold fMo_solve_190 at hf
  refine lv_iconst (v := (0 : Int32)) hx hb dMo_solve_190 (by decide) ?_
  refine ek_istore (lv' := [(4, .int ((0 : Int32))), (3, .int i3), (0, ek_r G x0), (2, .int i2)]) hx hb dMo_solve_191 hl (by decide) (ek_s1k 2 rfl rfl rfl rfl rfl) (fun ls hl => ?_)
  exact wMo_solve_193_lp X ek_N (I, x0, i2, i3, (0 : Int32)) hf _ _ _ hw hS (lv_sub hl [2, 3, 1, 0] rfl)
set_option maxHeartbeats 4000000 in
set_option maxRecDepth 100000 in
theorem wMo_solve_179 {l : Launch} {G : ek_G} {kd : Nat → Nat} {p : Program} {e : Env} {s : State} {m : MethodId} {args : Array Value} {below : List Frame} {meth : Method} {c : Code} (X : ek_X p s m meth c args G prog_9_method_22_code 5 "ElasticKernelModel" none) {q : ek_St} {I : ek_St} {x0 : Nat} {i1 : Int32} {i2 : Int32} {i3 : Int32} (hf : fMo_solve_179 kd I x0 i1 i2 i3 = some q) {H : Heap} {locs : List Loc} {ls : Array Slot} (hw : ek_W G kd I H) (hS : va_S (ek_A G kd) s.heap H locs) (hl : lv_has ls 5 [(0, ek_r G x0), (1, .int i1), (2, .int i2), (3, .int i3)]) : W p l e ({ frames := 3, cells := 0, slots := 0, locals := 77 } : Room) s m args below meth c H locs 0 0 (MQ below (ek_Q G kd none q) args s 0 0 (ek_A G kd)) (F0 m 179 ls []) := by
  obtain ⟨hx, hb, hml, hown, hts, hr, hlocks, hK⟩ := id X
  have hA : ∀ q, ek_A G kd q → ek_A G kd q := fun _ h => h
  unfold fMo_solve_179 at hf
  refine lv_iload_n hx hb dMo_solve_179 rfl (lv_at hl 3 rfl) ?_
  refine lv_iload_n hx hb dMo_solve_180 rfl (lv_at hl 1 rfl) ?_
  refine lv_icmp_ne (tgt := 190) hx hb dMo_solve_181 (by decide) (fun c1 => ?_) (fun c1 => ?_)
  · have hf := ek_f c1 hf
    exact wMo_solve_190 X hf hw hS (lv_sub hl [0, 2, 3] rfl)
  · have hf := ek_t c1 hf
    refine ek_aload_n hx hb dMo_solve_184 rfl (lv_at hl 0 rfl) ?_
    refine lv_iload_n hx hb dMo_solve_185 rfl (lv_at hl 1 rfl) ?_
    obtain ⟨hx3, hf⟩ := ek_ck_s hf
    refine ek_ci hf hS hA (fun I' v hq => ek_rV (As := [.int i1]) ⟨hx, hb, hml, hown, hts⟩ hK hw 8 rfl (by decide) (by decide) hx3 (mMo_tryLeast hq) (cwV 1 hts (lw_V q_723 q_725 p_31 q_8 q_726) rfl rfl rfl (by decide +kernel) ⟨Nat.le_of_ble_eq_true rfl, Nat.le_of_ble_eq_true rfl⟩) rfl hl.1 rfl (Nat.le_of_ble_eq_true rfl) dMo_solve_186 ⟨Nat.zero_le _, Nat.zero_le _⟩) (fun I2 ir4 H locs hf hw hS => ?_)
    refine lv_pop hx hb dMo_solve_189 rfl ?_
    exact wMo_solve_190 X hf hw hS (lv_sub hl [0, 2, 3] rfl)
set_option maxHeartbeats 4000000 in
set_option maxRecDepth 100000 in
theorem wMo_solve_160 {l : Launch} {G : ek_G} {kd : Nat → Nat} {p : Program} {e : Env} {s : State} {m : MethodId} {args : Array Value} {below : List Frame} {meth : Method} {c : Code} (X : ek_X p s m meth c args G prog_9_method_22_code 5 "ElasticKernelModel" none) {q : ek_St} {k160 : (ek_St × Nat × Int32 × Int32 × Int32) → Option (ek_St)} (hk160 : ∀ q0 : ek_St × Nat × Int32 × Int32 × Int32, k160 q0 = some q → ∀ (H : Heap) (locs : List Loc) (ls : Array Slot), ek_W G kd q0.1 H → va_S (ek_A G kd) s.heap H locs → lv_has ls 5 [(0, ek_r G q0.2.1), (1, .int q0.2.2.1), (2, .int q0.2.2.2.1), (3, .int q0.2.2.2.2)] → W p l e ({ frames := 3, cells := 0, slots := 0, locals := 77 } : Room) s m args below meth c H locs 0 0 (MQ below (ek_Q G kd none q) args s 0 0 (ek_A G kd)) (F0 m 160 ls [])) {I : ek_St} {x0 : Nat} {i1 : Int32} {i2 : Int32} {i3 : Int32} (hf : fMo_solve_160 kd k160 I x0 i1 i2 i3 = some q) {H : Heap} {locs : List Loc} {ls : Array Slot} (hw : ek_W G kd I H) (hS : va_S (ek_A G kd) s.heap H locs) (hl : lv_has ls 5 [(0, ek_r G x0), (1, .int i1), (2, .int i2), (3, .int i3)]) : W p l e ({ frames := 3, cells := 0, slots := 0, locals := 77 } : Room) s m args below meth c H locs 0 0 (MQ below (ek_Q G kd none q) args s 0 0 (ek_A G kd)) (F0 m 160 ls []) := by
  obtain ⟨hx, hb, hml, hown, hts, hr, hlocks, hK⟩ := id X
  have hA : ∀ q, ek_A G kd q → ek_A G kd q := fun _ h => h
  unfold fMo_solve_160 at hf
  refine lv_iload_n hx hb dMo_solve_160 rfl (lv_at hl 3 rfl) ?_
  refine lv_iload_n hx hb dMo_solve_161 rfl (lv_at hl 1 rfl) ?_
  refine lv_icmp_ge (tgt := 179) hx hb dMo_solve_162 (by decide) (fun c1 => ?_) (fun c1 => ?_)
  · have hf := ek_t c1 hf
    exact wMo_solve_179 X hf hw hS (lv_sub hl [0, 1, 2, 3] rfl)
  · have hf := ek_f c1 hf
    refine ek_aload_n hx hb dMo_solve_165 rfl (lv_at hl 0 rfl) ?_
    refine lv_iload_n hx hb dMo_solve_166 rfl (lv_at hl 3 rfl) ?_
    obtain ⟨hx3, hf⟩ := ek_ck_s hf
    refine ek_ci hf hS hA (fun I' v hq => ek_rV (As := [.int i3]) ⟨hx, hb, hml, hown, hts⟩ hK hw 8 rfl (by decide) (by decide) hx3 (mMo_tryLeast hq) (cwV 1 hts (lw_V q_723 q_725 p_31 q_8 q_726) rfl rfl rfl (by decide +kernel) ⟨Nat.le_of_ble_eq_true rfl, Nat.le_of_ble_eq_true rfl⟩) rfl hl.1 rfl (Nat.le_of_ble_eq_true rfl) dMo_solve_167 ⟨Nat.zero_le _, Nat.zero_le _⟩) (fun I2 ir4 H locs hf hw hS => ?_)
    refine lv_if_ne (tgt := 179) hx hb dMo_solve_170 (by decide) (fun c5 => ?_) (fun c5 => ?_)
    · have hf := ek_f c5 hf
      exact wMo_solve_179 X hf hw hS (lv_sub hl [0, 1, 2, 3] rfl)
    · have hf := ek_t c5 hf
      refine ek_iinc hx hb 3 (fun i3_6 => [(3, .int i3_6), (2, .int i2), (0, ek_r G x0), (1, .int i1)]) dMo_solve_173 hl rfl (v := i3 + (1 : Int32)) rfl hf (by decide) (fun i3_6 => ek_s1k 2 rfl rfl rfl rfl rfl) (fun i3_6 ls hf hl => ?_)
      refine lv_goto (tgt := 160) hx hb dMo_solve_176 (by decide) ?_
      exact hk160 (I2, x0, i1, i2, i3_6) hf _ _ _ hw hS (lv_sub hl [2, 3, 1, 0] rfl)
set_option maxHeartbeats 4000000 in
set_option maxRecDepth 100000 in
theorem wMo_solve_160_lp {l : Launch} {G : ek_G} {kd : Nat → Nat} {p : Program} {e : Env} {s : State} {m : MethodId} {args : Array Value} {below : List Frame} {meth : Method} {c : Code} (X : ek_X p s m meth c args G prog_9_method_22_code 5 "ElasticKernelModel" none) {q : ek_St} (n : Nat) : ∀ q0 : ek_St × Nat × Int32 × Int32 × Int32, ek_lp (fun (k : (ek_St × Nat × Int32 × Int32 × Int32) → Option (ek_St)) (q : (ek_St × Nat × Int32 × Int32 × Int32)) => fMo_solve_160 kd k q.1 q.2.1 q.2.2.1 q.2.2.2.1 q.2.2.2.2) n q0 = some q → ∀ (H : Heap) (locs : List Loc) (ls : Array Slot), ek_W G kd q0.1 H → va_S (ek_A G kd) s.heap H locs → lv_has ls 5 [(0, ek_r G q0.2.1), (1, .int q0.2.2.1), (2, .int q0.2.2.2.1), (3, .int q0.2.2.2.2)] → W p l e ({ frames := 3, cells := 0, slots := 0, locals := 77 } : Room) s m args below meth c H locs 0 0 (MQ below (ek_Q G kd none q) args s 0 0 (ek_A G kd)) (F0 m 160 ls []) :=
  ek_lp_ind (fun k hk q0 hf => fun H locs ls hw hS hl => wMo_solve_160 X hk hf hw hS hl) n
set_option maxHeartbeats 4000000 in
set_option maxRecDepth 100000 in
theorem wMo_solve_121 {l : Launch} {G : ek_G} {kd : Nat → Nat} {p : Program} {e : Env} {s : State} {m : MethodId} {args : Array Value} {below : List Frame} {meth : Method} {c : Code} (X : ek_X p s m meth c args G prog_9_method_22_code 5 "ElasticKernelModel" none) {q : ek_St} {k121 : (ek_St × Nat × Int32 × Int32 × Int32) → Option (ek_St)} (hk121 : ∀ q0 : ek_St × Nat × Int32 × Int32 × Int32, k121 q0 = some q → ∀ (H : Heap) (locs : List Loc) (ls : Array Slot), ek_W G kd q0.1 H → va_S (ek_A G kd) s.heap H locs → lv_has ls 5 [(0, ek_r G q0.2.1), (1, .int q0.2.2.1), (2, .int q0.2.2.2.1), (3, .int q0.2.2.2.2)] → W p l e ({ frames := 3, cells := 0, slots := 0, locals := 77 } : Room) s m args below meth c H locs 0 0 (MQ below (ek_Q G kd none q) args s 0 0 (ek_A G kd)) (F0 m 121 ls [])) {I : ek_St} {x0 : Nat} {i1 : Int32} {i2 : Int32} {i3 : Int32} (hf : fMo_solve_121 kd k121 I x0 i1 i2 i3 = some q) {H : Heap} {locs : List Loc} {ls : Array Slot} (hw : ek_W G kd I H) (hS : va_S (ek_A G kd) s.heap H locs) (hl : lv_has ls 5 [(0, ek_r G x0), (1, .int i1), (2, .int i2), (3, .int i3)]) : W p l e ({ frames := 3, cells := 0, slots := 0, locals := 77 } : Room) s m args below meth c H locs 0 0 (MQ below (ek_Q G kd none q) args s 0 0 (ek_A G kd)) (F0 m 121 ls []) := by
  obtain ⟨hx, hb, hml, hown, hts, hr, hlocks, hK⟩ := id X
  have hA : ∀ q, ek_A G kd q → ek_A G kd q := fun _ h => h
  unfold fMo_solve_121 at hf
  refine lv_iload_n hx hb dMo_solve_121 rfl (lv_at hl 3 rfl) ?_
  refine ek_aload_n hx hb dMo_solve_122 rfl (lv_at hl 0 rfl) ?_
  refine ek_geti hx hb 8 hts (in_Mo) hown hK hw rfl (by decide) (by decide) 7 (by decide) rfl (hts _ q_583) hf dMo_solve_123 (fun hf => ?_)
  refine lv_icmp_ge (tgt := 158) hx hb dMo_solve_126 (by decide) (fun c1 => ?_) (fun c1 => ?_)
  · have hf := ek_t c1 hf
    refine lv_iconst (v := (0 : Int32)) hx hb dMo_solve_158 (by decide) ?_
    refine ek_istore_n (lv' := [(3, .int ((0 : Int32))), (2, .int i2), (0, ek_r G x0), (1, .int i1)]) hx hb dMo_solve_159 rfl hl (by decide) (ek_s1k 2 rfl rfl rfl rfl rfl) (fun ls hl => ?_)
    exact wMo_solve_160_lp X ek_N (I, x0, i1, i2, (0 : Int32)) hf _ _ _ hw hS (lv_sub hl [2, 3, 1, 0] rfl)
  · have hf := ek_f c1 hf
    refine ek_aload_n hx hb dMo_solve_129 rfl (lv_at hl 0 rfl) ?_
    refine ek_getr hx hb 8 hts (in_Mo) hown hK hw rfl (by decide) (by decide) 24 (by decide) (n := 16) rfl rfl (hts _ q_600) hf dMo_solve_130 (fun hf => ?_)
    refine lv_iload_n hx hb dMo_solve_133 rfl (lv_at hl 3 rfl) ?_
    refine ek_aload_n hx hb dMo_solve_134 rfl (lv_at hl 0 rfl) ?_
    refine lv_iload_n hx hb dMo_solve_135 rfl (lv_at hl 3 rfl) ?_
    obtain ⟨hx3, hf⟩ := ek_ck_s hf
    refine ek_ci hf hS hA (fun I' v hq => ek_rV (As := [.int i3]) ⟨hx, hb, hml, hown, hts⟩ hK hw 8 rfl (by decide) (by decide) hx3 (mMo_counts hq) (cwV 1 hts (lw_V q_710 q_712 p_28 q_8 q_713) rfl rfl rfl (by decide +kernel) ⟨Nat.le_of_ble_eq_true rfl, Nat.le_of_ble_eq_true rfl⟩) rfl hl.1 rfl (Nat.le_of_ble_eq_true rfl) dMo_solve_136 ⟨Nat.zero_le _, Nat.zero_le _⟩) (fun I2 ir4 H locs hf hw hS => ?_)
    refine lv_if_eq (tgt := 150) hx hb dMo_solve_139 (by decide) (fun c5 => ?_) (fun c5 => ?_)
    · have hf := ek_t c5 hf
      refine lv_iconst (v := (0 : Int32)) hx hb dMo_solve_150 (by decide) ?_
      exact wMo_solve_151 X hk121 hf hw hS (lv_sub hl [0, 1, 2, 3] rfl)
    · have hf := ek_f c5 hf
      refine ek_aload_n hx hb dMo_solve_142 rfl (lv_at hl 0 rfl) ?_
      refine lv_iload_n hx hb dMo_solve_143 rfl (lv_at hl 3 rfl) ?_
      obtain ⟨hx7, hf⟩ := ek_ck_s hf
      refine ek_ci hf hS hA (fun I' v hq => ek_rV (As := [.int i3]) ⟨hx, hb, hml, hown, hts⟩ hK hw 8 rfl (by decide) (by decide) hx7 (mMo_rankOf hq) (cwV 1 hts (lw_V q_715 q_717 p_29 q_8 q_718) rfl rfl rfl (by decide +kernel) ⟨Nat.le_of_ble_eq_true rfl, Nat.le_of_ble_eq_true rfl⟩) rfl hl.1 rfl (Nat.le_of_ble_eq_true rfl) dMo_solve_144 ⟨Nat.zero_le _, Nat.zero_le _⟩) (fun I6 ir8 H locs hf hw hS => ?_)
      refine lv_goto (tgt := 151) hx hb dMo_solve_147 (by decide) ?_
      exact wMo_solve_151 X hk121 hf hw hS (lv_sub hl [0, 1, 2, 3] rfl)
set_option maxHeartbeats 4000000 in
set_option maxRecDepth 100000 in
theorem wMo_solve_121_lp {l : Launch} {G : ek_G} {kd : Nat → Nat} {p : Program} {e : Env} {s : State} {m : MethodId} {args : Array Value} {below : List Frame} {meth : Method} {c : Code} (X : ek_X p s m meth c args G prog_9_method_22_code 5 "ElasticKernelModel" none) {q : ek_St} (n : Nat) : ∀ q0 : ek_St × Nat × Int32 × Int32 × Int32, ek_lp (fun (k : (ek_St × Nat × Int32 × Int32 × Int32) → Option (ek_St)) (q : (ek_St × Nat × Int32 × Int32 × Int32)) => fMo_solve_121 kd k q.1 q.2.1 q.2.2.1 q.2.2.2.1 q.2.2.2.2) n q0 = some q → ∀ (H : Heap) (locs : List Loc) (ls : Array Slot), ek_W G kd q0.1 H → va_S (ek_A G kd) s.heap H locs → lv_has ls 5 [(0, ek_r G q0.2.1), (1, .int q0.2.2.1), (2, .int q0.2.2.2.1), (3, .int q0.2.2.2.2)] → W p l e ({ frames := 3, cells := 0, slots := 0, locals := 77 } : Room) s m args below meth c H locs 0 0 (MQ below (ek_Q G kd none q) args s 0 0 (ek_A G kd)) (F0 m 121 ls []) :=
  ek_lp_ind (fun k hk q0 hf => fun H locs ls hw hS hl => wMo_solve_121 X hk hf hw hS hl) n
set_option maxHeartbeats 4000000 in
set_option maxRecDepth 100000 in
theorem wMo_solve_78 {l : Launch} {G : ek_G} {kd : Nat → Nat} {p : Program} {e : Env} {s : State} {m : MethodId} {args : Array Value} {below : List Frame} {meth : Method} {c : Code} (X : ek_X p s m meth c args G prog_9_method_22_code 5 "ElasticKernelModel" none) {q : ek_St} {I : ek_St} {x0 : Nat} {i1 : Int32} {t0 : Int32} (hf : fMo_solve_78 kd I x0 i1 t0 = some q) {H : Heap} {locs : List Loc} {ls : Array Slot} (hw : ek_W G kd I H) (hS : va_S (ek_A G kd) s.heap H locs) (hl : lv_has ls 5 [(0, ek_r G x0), (1, .int i1)]) : W p l e ({ frames := 3, cells := 0, slots := 0, locals := 77 } : Room) s m args below meth c H locs 0 0 (MQ below (ek_Q G kd none q) args s 0 0 (ek_A G kd)) (F0 m 78 ls [.int t0]) := by
  obtain ⟨hx, hb, hml, hown, hts, hr, hlocks, hK⟩ := id X
  have hA : ∀ q, ek_A G kd q → ek_A G kd q := fun _ h => h
  unfold fMo_solve_78 at hf
  refine ek_istore_n (lv' := [(2, .int t0), (1, .int i1), (0, ek_r G x0)]) hx hb dMo_solve_78 rfl hl (by decide) (ek_s1k 1 rfl rfl rfl rfl rfl) (fun ls hl => ?_)
  refine ek_aload_n hx hb dMo_solve_79 rfl (lv_at hl 2 rfl) ?_
  refine lv_bipush (v := (24 : Int32)) hx hb dMo_solve_80 (by decide) ?_
  refine lv_bipush (v := (26 : Int32)) hx hb dMo_solve_82 (by decide) ?_
  obtain ⟨hx2, hf⟩ := ek_ck_s hf
  refine ek_cv hf hS hA (fun I' hq => ek_rV (As := [.int ((24 : Int32)), .int ((26 : Int32))]) ⟨hx, hb, hml, hown, hts⟩ hK hw 8 rfl (by decide) (by decide) hx2 (mMo_copy hq) (cwV 2 hts (lw_V q_669 q_671 p_18 q_8 q_672) rfl rfl rfl (by decide +kernel) ⟨Nat.le_of_ble_eq_true rfl, Nat.le_of_ble_eq_true rfl⟩) rfl hl.1 rfl (Nat.le_of_ble_eq_true rfl) dMo_solve_84 ⟨Nat.zero_le _, Nat.zero_le _⟩) (fun I1 H locs hf hw hS => ?_)
  refine ek_aload_n hx hb dMo_solve_87 rfl (lv_at hl 2 rfl) ?_
  refine lv_bipush (v := (25 : Int32)) hx hb dMo_solve_88 (by decide) ?_
  refine lv_bipush (v := (27 : Int32)) hx hb dMo_solve_90 (by decide) ?_
  obtain ⟨hx4, hf⟩ := ek_ck_s hf
  refine ek_cv hf hS hA (fun I' hq => ek_rV (As := [.int ((25 : Int32)), .int ((27 : Int32))]) ⟨hx, hb, hml, hown, hts⟩ hK hw 8 rfl (by decide) (by decide) hx4 (mMo_copy hq) (cwV 2 hts (lw_V q_669 q_671 p_18 q_8 q_672) rfl rfl rfl (by decide +kernel) ⟨Nat.le_of_ble_eq_true rfl, Nat.le_of_ble_eq_true rfl⟩) rfl hl.1 rfl (Nat.le_of_ble_eq_true rfl) dMo_solve_92 ⟨Nat.zero_le _, Nat.zero_le _⟩) (fun I3 H locs hf hw hS => ?_)
  refine lv_iload_n hx hb dMo_solve_95 rfl (lv_at hl 0 rfl) ?_
  refine lv_if_ne (tgt := 224) hx hb dMo_solve_96 (by decide) (fun c5 => ?_) (fun c5 => ?_)
  · have hf := ek_f c5 hf
    exact wMo_solve_224 X hf hw hS (lv_sub hl [2, 0] rfl)
  · have hf := ek_t c5 hf
    refine ek_aload_n hx hb dMo_solve_99 rfl (lv_at hl 2 rfl) ?_
    refine lv_bipush (v := (24 : Int32)) hx hb dMo_solve_100 (by decide) ?_
    refine ek_aload_n hx hb dMo_solve_102 rfl (lv_at hl 2 rfl) ?_
    refine ek_geti hx hb 8 hts (in_Mo) hown hK hw rfl (by decide) (by decide) 2 (by decide) rfl (hts _ q_578) hf dMo_solve_103 (fun hf => ?_)
    refine lv_i2l hx hb dMo_solve_106 rfl ?_
    obtain ⟨hx7, hf⟩ := ek_ck_s hf
    refine ek_cv hf hS hA (fun I' hq => ek_rV (As := [.int ((24 : Int32)), .long (Int32.toInt64 (I3 x0 2))]) ⟨hx, hb, hml, hown, hts⟩ hK hw 8 rfl (by decide) (by decide) hx7 (mMo_be hq) (cwV 2 hts (lw_V q_571 q_573 p_15 q_8 q_574) rfl rfl rfl (by decide +kernel) ⟨Nat.le_of_ble_eq_true rfl, Nat.le_of_ble_eq_true rfl⟩) rfl hl.1 rfl (Nat.le_of_ble_eq_true rfl) dMo_solve_107 ⟨Nat.zero_le _, Nat.zero_le _⟩) (fun I6 H locs hf hw hS => ?_)
    refine ek_aload_n hx hb dMo_solve_110 rfl (lv_at hl 2 rfl) ?_
    refine lv_bipush (v := (25 : Int32)) hx hb dMo_solve_111 (by decide) ?_
    refine lv_ldc2 hx hb hown (hts _ q_714) dMo_solve_113 ?_
    obtain ⟨hx9, hf⟩ := ek_ck_s hf
    refine ek_cv hf hS hA (fun I' hq => ek_rV (As := [.int ((25 : Int32)), .long ((1000 : Int64))]) ⟨hx, hb, hml, hown, hts⟩ hK hw 8 rfl (by decide) (by decide) hx9 (mMo_be hq) (cwV 2 hts (lw_V q_571 q_573 p_15 q_8 q_574) rfl rfl rfl (by decide +kernel) ⟨Nat.le_of_ble_eq_true rfl, Nat.le_of_ble_eq_true rfl⟩) rfl hl.1 rfl (Nat.le_of_ble_eq_true rfl) dMo_solve_116 ⟨Nat.zero_le _, Nat.zero_le _⟩) (fun I8 H locs hf hw hS => ?_)
    refine lv_iconst (v := (0 : Int32)) hx hb dMo_solve_119 (by decide) ?_
    refine ek_istore_n (lv' := [(3, .int ((0 : Int32))), (2, .int t0), (1, .int i1), (0, ek_r G x0)]) hx hb dMo_solve_120 rfl hl (by decide) (ek_s1k 0 rfl rfl rfl rfl rfl) (fun ls hl => ?_)
    exact wMo_solve_121_lp X ek_N (I8, x0, i1, t0, (0 : Int32)) hf _ _ _ hw hS (lv_sub hl [3, 2, 1, 0] rfl)
set_option maxHeartbeats 4000000 in
set_option maxRecDepth 100000 in
theorem wMo_solve_18 {l : Launch} {G : ek_G} {kd : Nat → Nat} {p : Program} {e : Env} {s : State} {m : MethodId} {args : Array Value} {below : List Frame} {meth : Method} {c : Code} (X : ek_X p s m meth c args G prog_9_method_22_code 5 "ElasticKernelModel" none) {q : ek_St} {k18 : (ek_St × Nat × Int32 × Int32) → Option (ek_St)} (hk18 : ∀ q0 : ek_St × Nat × Int32 × Int32, k18 q0 = some q → ∀ (H : Heap) (locs : List Loc) (ls : Array Slot), ek_W G kd q0.1 H → va_S (ek_A G kd) s.heap H locs → lv_has ls 5 [(0, ek_r G q0.2.1), (1, .int q0.2.2.1), (2, .int q0.2.2.2)] → W p l e ({ frames := 3, cells := 0, slots := 0, locals := 77 } : Room) s m args below meth c H locs 0 0 (MQ below (ek_Q G kd none q) args s 0 0 (ek_A G kd)) (F0 m 18 ls [])) {I : ek_St} {x0 : Nat} {i1 : Int32} {i2 : Int32} (hf : fMo_solve_18 kd k18 I x0 i1 i2 = some q) {H : Heap} {locs : List Loc} {ls : Array Slot} (hw : ek_W G kd I H) (hS : va_S (ek_A G kd) s.heap H locs) (hl : lv_has ls 5 [(0, ek_r G x0), (1, .int i1), (2, .int i2)]) : W p l e ({ frames := 3, cells := 0, slots := 0, locals := 77 } : Room) s m args below meth c H locs 0 0 (MQ below (ek_Q G kd none q) args s 0 0 (ek_A G kd)) (F0 m 18 ls []) := by
  obtain ⟨hx, hb, hml, hown, hts, hr, hlocks, hK⟩ := id X
  have hA : ∀ q, ek_A G kd q → ek_A G kd q := fun _ h => h
  unfold fMo_solve_18 at hf
  refine lv_iload_n hx hb dMo_solve_18 rfl (lv_at hl 2 rfl) ?_
  refine ek_aload_n hx hb dMo_solve_19 rfl (lv_at hl 0 rfl) ?_
  refine ek_geti hx hb 8 hts (in_Mo) hown hK hw rfl (by decide) (by decide) 7 (by decide) rfl (hts _ q_583) hf dMo_solve_20 (fun hf => ?_)
  refine lv_icmp_ge (tgt := 62) hx hb dMo_solve_23 (by decide) (fun c1 => ?_) (fun c1 => ?_)
  · have hf := ek_t c1 hf
    refine ek_aload_n hx hb dMo_solve_62 rfl (lv_at hl 0 rfl) ?_
    refine ek_aload_n hx hb dMo_solve_63 rfl (lv_at hl 0 rfl) ?_
    refine ek_geti hx hb 8 hts (in_Mo) hown hK hw rfl (by decide) (by decide) 2 (by decide) rfl (hts _ q_578) hf dMo_solve_64 (fun hf => ?_)
    obtain ⟨hx3, hf⟩ := ek_ck_s hf
    refine ek_ci hf hS hA (fun I' v hq => ek_rV (As := [.int (I x0 2)]) ⟨hx, hb, hml, hown, hts⟩ hK hw 8 rfl (by decide) (by decide) hx3 (mMo_isAbove hq) (cwV 1 hts (lw_V q_694 q_696 p_24 q_8 q_697) rfl rfl rfl (by decide +kernel) ⟨Nat.le_of_ble_eq_true rfl, Nat.le_of_ble_eq_true rfl⟩) rfl hl.1 rfl (Nat.le_of_ble_eq_true rfl) dMo_solve_67 ⟨Nat.zero_le _, Nat.zero_le _⟩) (fun I2 ir4 H locs hf hw hS => ?_)
    refine lv_if_ne (tgt := 77) hx hb dMo_solve_70 (by decide) (fun c5 => ?_) (fun c5 => ?_)
    · have hf := ek_f c5 hf
      refine lv_iconst (v := (0 : Int32)) hx hb dMo_solve_77 (by decide) ?_
      exact wMo_solve_78 X hf hw hS (lv_sub hl [0, 1] rfl)
    · have hf := ek_t c5 hf
      refine lv_iconst (v := (1 : Int32)) hx hb dMo_solve_73 (by decide) ?_
      refine lv_goto (tgt := 78) hx hb dMo_solve_74 (by decide) ?_
      exact wMo_solve_78 X hf hw hS (lv_sub hl [0, 1] rfl)
  · have hf := ek_f c1 hf
    refine ek_aload_n hx hb dMo_solve_26 rfl (lv_at hl 0 rfl) ?_
    refine lv_iload_n hx hb dMo_solve_27 rfl (lv_at hl 2 rfl) ?_
    obtain ⟨hx7, hf⟩ := ek_ck_s hf
    refine ek_ci hf hS hA (fun I' v hq => ek_rV (As := [.int i2]) ⟨hx, hb, hml, hown, hts⟩ hK hw 8 rfl (by decide) (by decide) hx7 (mMo_counts hq) (cwV 1 hts (lw_V q_710 q_712 p_28 q_8 q_713) rfl rfl rfl (by decide +kernel) ⟨Nat.le_of_ble_eq_true rfl, Nat.le_of_ble_eq_true rfl⟩) rfl hl.1 rfl (Nat.le_of_ble_eq_true rfl) dMo_solve_28 ⟨Nat.zero_le _, Nat.zero_le _⟩) (fun I6 ir8 H locs hf hw hS => ?_)
    refine lv_if_ne (tgt := 37) hx hb dMo_solve_31 (by decide) (fun c9 => ?_) (fun c9 => ?_)
    · have hf := ek_f c9 hf
      refine ek_aload_n hx hb dMo_solve_37 rfl (lv_at hl 0 rfl) ?_
      refine ek_aload_n hx hb dMo_solve_38 rfl (lv_at hl 0 rfl) ?_
      refine ek_getr hx hb 8 hts (in_Mo) hown hK hw rfl (by decide) (by decide) 9 (by decide) (n := 1) rfl rfl (hts _ q_585) hf dMo_solve_39 (fun hf => ?_)
      refine lv_iload_n hx hb dMo_solve_42 rfl (lv_at hl 2 rfl) ?_
      refine ek_iald hx hb hK hw 12 rfl hf dMo_solve_43 (fun hf => ?_)
      refine ek_aload_n hx hb dMo_solve_44 rfl (lv_at hl 0 rfl) ?_
      refine ek_getr hx hb 8 hts (in_Mo) hown hK hw rfl (by decide) (by decide) 10 (by decide) (n := 2) rfl rfl (hts _ q_586) hf dMo_solve_45 (fun hf => ?_)
      refine lv_iload_n hx hb dMo_solve_48 rfl (lv_at hl 2 rfl) ?_
      refine ek_iald hx hb hK hw 12 rfl hf dMo_solve_49 (fun hf => ?_)
      obtain ⟨hx11, hf⟩ := ek_ck_s hf
      refine ek_cv hf hS hA (fun I' hq => ek_rV (As := [.int (I6 (x0 + 2) i2.toNatClampNeg), .int (I6 (x0 + 3) i2.toNatClampNeg)]) ⟨hx, hb, hml, hown, hts⟩ hK hw 8 rfl (by decide) (by decide) hx11 (mMo_addFraction hq) (cwV 2 hts (lw_V q_681 q_683 p_21 q_8 q_684) rfl rfl rfl (by decide +kernel) ⟨Nat.le_of_ble_eq_true rfl, Nat.le_of_ble_eq_true rfl⟩) rfl hl.1 rfl (Nat.le_of_ble_eq_true rfl) dMo_solve_50 ⟨Nat.zero_le _, Nat.zero_le _⟩) (fun I10 H locs hf hw hS => ?_)
      refine ek_iinc hx hb 1 (fun i1_12 => [(1, .int i1_12), (0, ek_r G x0), (2, .int i2)]) dMo_solve_53 hl rfl (v := i1 + (1 : Int32)) rfl hf (by decide) (fun i1_12 => ek_s1k 0 rfl rfl ek_r_cat rfl rfl) (fun i1_12 ls hf hl => ?_)
      exact wMo_solve_56 X hk18 hf hw hS (lv_sub hl [1, 0, 2] rfl)
    · have hf := ek_t c9 hf
      refine lv_goto (tgt := 56) hx hb dMo_solve_34 (by decide) ?_
      exact wMo_solve_56 X hk18 hf hw hS (lv_sub hl [0, 1, 2] rfl)
set_option maxHeartbeats 4000000 in
set_option maxRecDepth 100000 in
theorem wMo_solve_18_lp {l : Launch} {G : ek_G} {kd : Nat → Nat} {p : Program} {e : Env} {s : State} {m : MethodId} {args : Array Value} {below : List Frame} {meth : Method} {c : Code} (X : ek_X p s m meth c args G prog_9_method_22_code 5 "ElasticKernelModel" none) {q : ek_St} (n : Nat) : ∀ q0 : ek_St × Nat × Int32 × Int32, ek_lp (fun (k : (ek_St × Nat × Int32 × Int32) → Option (ek_St)) (q : (ek_St × Nat × Int32 × Int32)) => fMo_solve_18 kd k q.1 q.2.1 q.2.2.1 q.2.2.2) n q0 = some q → ∀ (H : Heap) (locs : List Loc) (ls : Array Slot), ek_W G kd q0.1 H → va_S (ek_A G kd) s.heap H locs → lv_has ls 5 [(0, ek_r G q0.2.1), (1, .int q0.2.2.1), (2, .int q0.2.2.2)] → W p l e ({ frames := 3, cells := 0, slots := 0, locals := 77 } : Room) s m args below meth c H locs 0 0 (MQ below (ek_Q G kd none q) args s 0 0 (ek_A G kd)) (F0 m 18 ls []) :=
  ek_lp_ind (fun k hk q0 hf => fun H locs ls hw hS hl => wMo_solve_18 X hk hf hw hS hl) n
set_option maxHeartbeats 4000000 in
set_option maxRecDepth 100000 in
theorem wMo_solve_0 {l : Launch} {G : ek_G} {kd : Nat → Nat} {p : Program} {e : Env} {s : State} {m : MethodId} {args : Array Value} {below : List Frame} {meth : Method} {c : Code} (X : ek_X p s m meth c args G prog_9_method_22_code 5 "ElasticKernelModel" none) {q : ek_St} {I : ek_St} {x0 : Nat} (hf : fMo_solve_0 kd I x0 = some q) {H : Heap} {locs : List Loc} {ls : Array Slot} (hw : ek_W G kd I H) (hS : va_S (ek_A G kd) s.heap H locs) (hl : lv_has ls 5 [(0, ek_r G x0)]) : W p l e ({ frames := 3, cells := 0, slots := 0, locals := 77 } : Room) s m args below meth c H locs 0 0 (MQ below (ek_Q G kd none q) args s 0 0 (ek_A G kd)) (F0 m 0 ls []) := by
  obtain ⟨hx, hb, hml, hown, hts, hr, hlocks, hK⟩ := id X
  have hA : ∀ q, ek_A G kd q → ek_A G kd q := fun _ h => h
  unfold fMo_solve_0 at hf
  refine ek_aload_n hx hb dMo_solve_0 rfl (lv_at hl 0 rfl) ?_
  refine lv_dup hx hb dMo_solve_1 ek_r_cat ?_
  refine ek_geti hx hb 8 hts (in_Mo) hown hK hw rfl (by decide) (by decide) 4 (by decide) rfl (hts _ q_580) hf dMo_solve_2 (fun hf => ?_)
  refine lv_iconst (v := (1 : Int32)) hx hb dMo_solve_5 (by decide) ?_
  refine lv_iadd hx hb dMo_solve_6 ?_
  refine ek_puti hx hb 8 hts (in_Mo) ty_Mo ty_Mo_ok nm_Mo hown hK hw hS hA rfl (by decide) (by decide) 4 (by decide) rfl (hts _ q_580) rfl rfl rfl hf dMo_solve_7 (fun I1 H locs hf hw hS => ?_)
  refine ek_aload_n hx hb dMo_solve_10 rfl (lv_at hl 0 rfl) ?_
  obtain ⟨hx3, hf⟩ := ek_ck_s hf
  refine ek_cv hf hS hA (fun I' hq => ek_rV (As := []) ⟨hx, hb, hml, hown, hts⟩ hK hw 8 rfl (by decide) (by decide) hx3 (mMo_none hq) (cwV 0 hts (lw_V q_677 q_679 p_20 q_8 q_680) rfl rfl rfl (by decide +kernel) ⟨Nat.le_of_ble_eq_true rfl, Nat.le_of_ble_eq_true rfl⟩) rfl hl.1 rfl (Nat.le_of_ble_eq_true rfl) dMo_solve_11 ⟨Nat.zero_le _, Nat.zero_le _⟩) (fun I2 H locs hf hw hS => ?_)
  refine lv_iconst (v := (0 : Int32)) hx hb dMo_solve_14 (by decide) ?_
  refine ek_istore_n (lv' := [(1, .int ((0 : Int32))), (0, ek_r G x0)]) hx hb dMo_solve_15 rfl hl (by decide) (ek_s1k 0 rfl rfl ek_r_cat rfl rfl) (fun ls hl => ?_)
  refine lv_iconst (v := (0 : Int32)) hx hb dMo_solve_16 (by decide) ?_
  refine ek_istore_n (lv' := [(2, .int ((0 : Int32))), (1, .int ((0 : Int32))), (0, ek_r G x0)]) hx hb dMo_solve_17 rfl hl (by decide) (ek_s1k 0 rfl rfl rfl rfl rfl) (fun ls hl => ?_)
  exact wMo_solve_18_lp X ek_N (I2, x0, (0 : Int32), (0 : Int32)) hf _ _ _ hw hS (lv_sub hl [2, 1, 0] rfl)
set_option maxHeartbeats 4000000 in
set_option maxRecDepth 100000 in
theorem mMo_solve {l : Launch} {G : ek_G} {kd : Nat → Nat} {I : ek_St} {x0 : Nat} {q : ek_St} (hf : fMo_solve kd I x0 = some q) : ek_M l G kd y_Mo_solve (.code y_Mo_solve prog_9_method_22_code 5 none :: lw_g) ({ frames := 3, cells := 0, slots := 0, locals := 77 } : Room) [ek_r G x0] I none q :=
  ek_body [(0, ek_r G x0)] (by decide) (by simp [lg_sl, ek_r_cat, ek_c_i, ek_c_l]) (by simp [lv_args, ek_r_cat, ek_c_i, ek_c_l]) (fun p e s m below meth c ls X hw hS hl => wMo_solve_0 X hf hw hS hl)
/-! ElasticKernelModel.find(I)I -/
def fMo_find_2 (kd : Nat → Nat) (k2 : (ek_St × Nat × Int32 × Int32) → Option (ek_St × Int32)) (I : ek_St) (x0 : Nat) (i1 : Int32) (i2 : Int32) : Option (ek_St × Int32) :=
  ek_ck (kd x0 = 8) (if (I x0 7) ≤ i2 then (some (I, (-1 : Int32))) else (ek_ck (kd x0 = 8) (ek_ck (kd (x0 + 1) = 112) (ek_ck (ek_in i2 12) (if (I (x0 + 1) i2.toNatClampNeg) = i1 then (some (I, i2)) else (ek_let (i2 + (1 : Int32)) (fun i2_3 => k2 (I, x0, i1, i2_3))))))))
def fMo_find_0 (kd : Nat → Nat) (I : ek_St) (x0 : Nat) (i1 : Int32) : Option (ek_St × Int32) :=
  ek_lp (fun (k : (ek_St × Nat × Int32 × Int32) → Option (ek_St × Int32)) (q : (ek_St × Nat × Int32 × Int32)) => fMo_find_2 kd k q.1 q.2.1 q.2.2.1 q.2.2.2) ek_N (I, x0, i1, (0 : Int32))
def fMo_find (kd : Nat → Nat) (I : ek_St) (x0 : Nat) (i1 : Int32) : Option (ek_St × Int32) := fMo_find_0 kd I x0 i1
theorem dMo_find_0 : decode prog_9_method_26_code 0 = .ok (.iconst 0, 1) := by decide +kernel
theorem dMo_find_1 : decode prog_9_method_26_code 1 = .ok (.istore_n 2, 1) := by decide +kernel
theorem dMo_find_2 : decode prog_9_method_26_code 2 = .ok (.iload_n 2, 1) := by decide +kernel
theorem dMo_find_3 : decode prog_9_method_26_code 3 = .ok (.aload_n 0, 1) := by decide +kernel
theorem dMo_find_4 : decode prog_9_method_26_code 4 = .ok (.getfield 105, 3) := by decide +kernel
theorem dMo_find_7 : decode prog_9_method_26_code 7 = .ok (.if_icmp .ge 21, 3) := by decide +kernel
theorem dMo_find_10 : decode prog_9_method_26_code 10 = .ok (.aload_n 0, 1) := by decide +kernel
theorem dMo_find_11 : decode prog_9_method_26_code 11 = .ok (.getfield 13, 3) := by decide +kernel
theorem dMo_find_14 : decode prog_9_method_26_code 14 = .ok (.iload_n 2, 1) := by decide +kernel
theorem dMo_find_15 : decode prog_9_method_26_code 15 = .ok (.iaload, 1) := by decide +kernel
theorem dMo_find_16 : decode prog_9_method_26_code 16 = .ok (.iload_n 1, 1) := by decide +kernel
theorem dMo_find_17 : decode prog_9_method_26_code 17 = .ok (.if_icmp .ne 5, 3) := by decide +kernel
theorem dMo_find_20 : decode prog_9_method_26_code 20 = .ok (.iload_n 2, 1) := by decide +kernel
theorem dMo_find_21 : decode prog_9_method_26_code 21 = .ok (.ireturn, 1) := by decide +kernel
theorem dMo_find_22 : decode prog_9_method_26_code 22 = .ok (.iinc 2 1, 3) := by decide +kernel
theorem dMo_find_25 : decode prog_9_method_26_code 25 = .ok (.goto (-23), 3) := by decide +kernel
theorem dMo_find_28 : decode prog_9_method_26_code 28 = .ok (.iconst (-1), 1) := by decide +kernel
theorem dMo_find_29 : decode prog_9_method_26_code 29 = .ok (.ireturn, 1) := by decide +kernel
set_option maxHeartbeats 4000000 in
set_option maxRecDepth 100000 in
theorem wMo_find_2 {l : Launch} {G : ek_G} {kd : Nat → Nat} {p : Program} {e : Env} {s : State} {m : MethodId} {args : Array Value} {below : List Frame} {meth : Method} {c : Code} (X : ek_X p s m meth c args G prog_9_method_26_code 3 "ElasticKernelModel" (some .int)) {q : ek_St × Int32} {k2 : (ek_St × Nat × Int32 × Int32) → Option (ek_St × Int32)} (hk2 : ∀ q0 : ek_St × Nat × Int32 × Int32, k2 q0 = some q → ∀ (H : Heap) (locs : List Loc) (ls : Array Slot), ek_W G kd q0.1 H → va_S (ek_A G kd) s.heap H locs → lv_has ls 3 [(0, ek_r G q0.2.1), (1, .int q0.2.2.1), (2, .int q0.2.2.2)] → W p l e ({ frames := 0, cells := 0, slots := 0, locals := 0 } : Room) s m args below meth c H locs 0 0 (MQ below (ek_Q G kd (some (.int q.2)) q.1) args s 0 0 (ek_A G kd)) (F0 m 2 ls [])) {I : ek_St} {x0 : Nat} {i1 : Int32} {i2 : Int32} (hf : fMo_find_2 kd k2 I x0 i1 i2 = some q) {H : Heap} {locs : List Loc} {ls : Array Slot} (hw : ek_W G kd I H) (hS : va_S (ek_A G kd) s.heap H locs) (hl : lv_has ls 3 [(0, ek_r G x0), (1, .int i1), (2, .int i2)]) : W p l e ({ frames := 0, cells := 0, slots := 0, locals := 0 } : Room) s m args below meth c H locs 0 0 (MQ below (ek_Q G kd (some (.int q.2)) q.1) args s 0 0 (ek_A G kd)) (F0 m 2 ls []) := by
  obtain ⟨hx, hb, hml, hown, hts, hr, hlocks, hK⟩ := id X
  have hA : ∀ q, ek_A G kd q → ek_A G kd q := fun _ h => h
  unfold fMo_find_2 at hf
  refine lv_iload_n hx hb dMo_find_2 rfl (lv_at hl 2 rfl) ?_
  refine ek_aload_n hx hb dMo_find_3 rfl (lv_at hl 0 rfl) ?_
  refine ek_geti hx hb 8 hts (in_Mo) hown hK hw rfl (by decide) (by decide) 7 (by decide) rfl (hts _ q_583) hf dMo_find_4 (fun hf => ?_)
  refine lv_icmp_ge (tgt := 28) hx hb dMo_find_7 (by decide) (fun c1 => ?_) (fun c1 => ?_)
  · have hf := ek_t c1 hf
    refine lv_iconst (v := (-1 : Int32)) hx hb dMo_find_28 (by decide) ?_
    exact ek_iret hx hb hr hlocks hw hS hf dMo_find_29
  · have hf := ek_f c1 hf
    refine ek_aload_n hx hb dMo_find_10 rfl (lv_at hl 0 rfl) ?_
    refine ek_getr hx hb 8 hts (in_Mo) hown hK hw rfl (by decide) (by decide) 8 (by decide) (n := 0) rfl rfl (hts _ q_584) hf dMo_find_11 (fun hf => ?_)
    refine lv_iload_n hx hb dMo_find_14 rfl (lv_at hl 2 rfl) ?_
    refine ek_iald hx hb hK hw 12 rfl hf dMo_find_15 (fun hf => ?_)
    refine lv_iload_n hx hb dMo_find_16 rfl (lv_at hl 1 rfl) ?_
    refine lv_icmp_ne (tgt := 22) hx hb dMo_find_17 (by decide) (fun c2 => ?_) (fun c2 => ?_)
    · have hf := ek_f c2 hf
      refine ek_iinc hx hb 2 (fun i2_3 => [(2, .int i2_3), (1, .int i1), (0, ek_r G x0)]) dMo_find_22 hl rfl (v := i2 + (1 : Int32)) rfl hf (by decide) (fun i2_3 => ek_s1k 1 rfl rfl rfl rfl rfl) (fun i2_3 ls hf hl => ?_)
      refine lv_goto (tgt := 2) hx hb dMo_find_25 (by decide) ?_
      exact hk2 (I, x0, i1, i2_3) hf _ _ _ hw hS (lv_sub hl [2, 1, 0] rfl)
    · have hf := ek_t c2 hf
      refine lv_iload_n hx hb dMo_find_20 rfl (lv_at hl 2 rfl) ?_
      exact ek_iret hx hb hr hlocks hw hS hf dMo_find_21
set_option maxHeartbeats 4000000 in
set_option maxRecDepth 100000 in
theorem wMo_find_2_lp {l : Launch} {G : ek_G} {kd : Nat → Nat} {p : Program} {e : Env} {s : State} {m : MethodId} {args : Array Value} {below : List Frame} {meth : Method} {c : Code} (X : ek_X p s m meth c args G prog_9_method_26_code 3 "ElasticKernelModel" (some .int)) {q : ek_St × Int32} (n : Nat) : ∀ q0 : ek_St × Nat × Int32 × Int32, ek_lp (fun (k : (ek_St × Nat × Int32 × Int32) → Option (ek_St × Int32)) (q : (ek_St × Nat × Int32 × Int32)) => fMo_find_2 kd k q.1 q.2.1 q.2.2.1 q.2.2.2) n q0 = some q → ∀ (H : Heap) (locs : List Loc) (ls : Array Slot), ek_W G kd q0.1 H → va_S (ek_A G kd) s.heap H locs → lv_has ls 3 [(0, ek_r G q0.2.1), (1, .int q0.2.2.1), (2, .int q0.2.2.2)] → W p l e ({ frames := 0, cells := 0, slots := 0, locals := 0 } : Room) s m args below meth c H locs 0 0 (MQ below (ek_Q G kd (some (.int q.2)) q.1) args s 0 0 (ek_A G kd)) (F0 m 2 ls []) :=
  ek_lp_ind (fun k hk q0 hf => fun H locs ls hw hS hl => wMo_find_2 X hk hf hw hS hl) n
set_option maxHeartbeats 4000000 in
set_option maxRecDepth 100000 in
theorem wMo_find_0 {l : Launch} {G : ek_G} {kd : Nat → Nat} {p : Program} {e : Env} {s : State} {m : MethodId} {args : Array Value} {below : List Frame} {meth : Method} {c : Code} (X : ek_X p s m meth c args G prog_9_method_26_code 3 "ElasticKernelModel" (some .int)) {q : ek_St × Int32} {I : ek_St} {x0 : Nat} {i1 : Int32} (hf : fMo_find_0 kd I x0 i1 = some q) {H : Heap} {locs : List Loc} {ls : Array Slot} (hw : ek_W G kd I H) (hS : va_S (ek_A G kd) s.heap H locs) (hl : lv_has ls 3 [(0, ek_r G x0), (1, .int i1)]) : W p l e ({ frames := 0, cells := 0, slots := 0, locals := 0 } : Room) s m args below meth c H locs 0 0 (MQ below (ek_Q G kd (some (.int q.2)) q.1) args s 0 0 (ek_A G kd)) (F0 m 0 ls []) := by
  obtain ⟨hx, hb, hml, hown, hts, hr, hlocks, hK⟩ := id X
  have hA : ∀ q, ek_A G kd q → ek_A G kd q := fun _ h => h
  unfold fMo_find_0 at hf
  refine lv_iconst (v := (0 : Int32)) hx hb dMo_find_0 (by decide) ?_
  refine ek_istore_n (lv' := [(2, .int ((0 : Int32))), (1, .int i1), (0, ek_r G x0)]) hx hb dMo_find_1 rfl hl (by decide) (ek_s1k 1 rfl rfl rfl rfl rfl) (fun ls hl => ?_)
  exact wMo_find_2_lp X ek_N (I, x0, i1, (0 : Int32)) hf _ _ _ hw hS (lv_sub hl [2, 1, 0] rfl)
set_option maxHeartbeats 4000000 in
set_option maxRecDepth 100000 in
theorem mMo_find {l : Launch} {G : ek_G} {kd : Nat → Nat} {I : ek_St} {x0 : Nat} {i1 : Int32} {q : ek_St × Int32} (hf : fMo_find kd I x0 i1 = some q) : ek_M l G kd y_Mo_find (.code y_Mo_find prog_9_method_26_code 3 (some .int) :: lw_g) ({ frames := 0, cells := 0, slots := 0, locals := 0 } : Room) [ek_r G x0, .int i1] I (some (.int q.2)) q.1 :=
  ek_body [(0, ek_r G x0), (1, .int i1)] (by decide) (by simp [lg_sl, ek_r_cat, ek_c_i, ek_c_l]) (by simp [lv_args, ek_r_cat, ek_c_i, ek_c_l]) (fun p e s m below meth c ls X hw hS hl => wMo_find_0 X hf hw hS hl)
