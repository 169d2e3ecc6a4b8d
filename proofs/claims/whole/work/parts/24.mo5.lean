/-! ElasticKernelModel.release(IZ)V -/
def fMo_release_124 (kd : Nat → Nat) (I : ek_St) (x0 : Nat) (i1 : Int32) (t0 : Nat) (t1 : Int32) (t2 : Int32) : Option (ek_St) :=
  ek_ck (kd t0 = 112) (ek_ck (ek_in t1 12) (ek_let (ek_up I t0 t1.toNatClampNeg t2) (fun I1 => ek_ck (kd x0 = 8) (ek_ck (kd (x0 + 11) = 112) (ek_ck (ek_in i1 12) (ek_let (ek_up I1 (x0 + 11) i1.toNatClampNeg ((-1 : Int32))) (fun I2 => ek_ck (kd x0 = 8) (ek_ck (kd (x0 + 10) = 112) (ek_ck (ek_in i1 12) (if (I2 (x0 + 10) i1.toNatClampNeg) ≤ ((0 : Int32)) then (ek_ck (kd x0 = 8) (ek_ck (kd (x0 + 12) = 112) (ek_ck (ek_in i1 12) (ek_ck (kd (x0 + 12) = 112) (ek_ck (ek_in i1 12) (ek_let (ek_up I2 (x0 + 12) i1.toNatClampNeg ((I2 (x0 + 12) i1.toNatClampNeg) + ((1 : Int32)))) (fun I4 => ek_ck (kd x0 = 8) (ek_ck (kd x0 = 8) (ek_ck (kd (x0 + 13) = 112) (ek_ck (ek_in i1 12) (ek_let (ek_up I4 (x0 + 13) i1.toNatClampNeg (I4 x0 1)) (fun I5 => some I5)))))))))))) else (some I2)))))))))))
def fMo_release_61 (kd : Nat → Nat) (I : ek_St) (x0 : Nat) (i1 : Int32) (t0 : Nat) (t1 : Int32) (t2 : Int32) : Option (ek_St) :=
  ek_ck (kd t0 = 8) (ek_let (ek_up I t0 3 (t1 + t2)) (fun I1 => ek_ck (kd x0 = 8) (ek_ck (kd x0 = 8) (ek_ck (kd x0 = 8) (ek_ck (kd (x0 + 7) = 112) (ek_ck (ek_in i1 12) (ek_ck (kd (x0 + 9) = 112) (ek_ck (ek_in i1 12) (ek_let (ek_up I1 (x0 + 9) i1.toNatClampNeg ((I1 x0 1) + (I1 (x0 + 7) i1.toNatClampNeg))) (fun I2 => ek_ck (kd x0 = 8) (ek_ck (kd x0 = 8) (ek_ck (kd (x0 + 9) = 112) (ek_ck (ek_in i1 12) (ek_ck (kd (x0 + 14) = 112) (ek_ck (ek_in i1 12) (ek_let (ek_up I2 (x0 + 14) i1.toNatClampNeg (I2 (x0 + 9) i1.toNatClampNeg)) (fun I3 => ek_ck (kd x0 = 8) (ek_ck (kd x0 = 8) (ek_ck (kd (x0 + 11) = 112) (ek_ck (ek_in i1 12) (if (I3 (x0 + 11) i1.toNatClampNeg) = ((-1 : Int32)) then (ek_ck (kd x0 = 8) (ek_ck (kd (x0 + 2) = 112) (ek_ck (ek_in i1 12) (fMo_release_124 kd I3 x0 i1 (x0 + 10) i1 (I3 (x0 + 2) i1.toNatClampNeg))))) else (ek_ck (kd x0 = 8) (ek_ck (kd (x0 + 11) = 112) (ek_ck (ek_in i1 12) (fMo_release_124 kd I3 x0 i1 (x0 + 10) i1 (I3 (x0 + 11) i1.toNatClampNeg))))))))))))))))))))))))))
def fMo_release_42 (kd : Nat → Nat) (I : ek_St) (x0 : Nat) (i1 : Int32) : Option (ek_St) :=
  ek_ck (kd x0 = 8) (ek_ck (kd x0 = 8) (ek_ck (kd (x0 + 10) = 112) (ek_ck (ek_in i1 12) (if (I (x0 + 10) i1.toNatClampNeg) ≤ ((0 : Int32)) then (fMo_release_61 kd I x0 i1 x0 (I x0 3) ((0 : Int32))) else (fMo_release_61 kd I x0 i1 x0 (I x0 3) ((1 : Int32)))))))
def fMo_release_30 (kd : Nat → Nat) (I : ek_St) (x0 : Nat) (i1 : Int32) : Option (ek_St) :=
  ek_ck (kd x0 = 8) (ek_ck (kd x0 = 8) (ek_ck (kd (x0 + 8) = 112) (ek_ck (ek_in i1 12) (ek_ck (kd (x0 + 7) = 112) (ek_ck (ek_in i1 12) (ek_let (ek_up I (x0 + 7) i1.toNatClampNeg (I (x0 + 8) i1.toNatClampNeg)) (fun I1 => fMo_release_42 kd I1 x0 i1)))))))
def fMo_release_0 (kd : Nat → Nat) (I : ek_St) (x0 : Nat) (i1 : Int32) (i2 : Int32) : Option (ek_St) :=
  if i2 = ((0 : Int32)) then (ek_ck (kd x0 = 8) (ek_ck (kd (x0 + 8) = 112) (ek_ck (ek_in i1 12) (ek_ck (kd x0 = 8) (ek_ck (kd (x0 + 7) = 112) (ek_ck (ek_in i1 12) (if (I (x0 + 7) i1.toNatClampNeg) < (I (x0 + 8) i1.toNatClampNeg) then (fMo_release_30 kd I x0 i1) else (ek_ck (kd x0 = 8) (ek_ck (kd x0 = 8) (if (I x0 1) < (I x0 5) then (fMo_release_42 kd I x0 i1) else (fMo_release_30 kd I x0 i1))))))))))) else (fMo_release_30 kd I x0 i1)
def fMo_release (kd : Nat → Nat) (I : ek_St) (x0 : Nat) (i1 : Int32) (i2 : Int32) : Option (ek_St) := fMo_release_0 kd I x0 i1 i2
theorem dMo_release_0 : decode prog_9_method_34_code 0 = .ok (.iload_n 2, 1) := by decide +kernel
theorem dMo_release_1 : decode prog_9_method_34_code 1 = .ok (.ifCond .ne 29, 3) := by decide +kernel
theorem dMo_release_4 : decode prog_9_method_34_code 4 = .ok (.aload_n 0, 1) := by decide +kernel
theorem dMo_release_5 : decode prog_9_method_34_code 5 = .ok (.getfield 35, 3) := by decide +kernel
theorem dMo_release_8 : decode prog_9_method_34_code 8 = .ok (.iload_n 1, 1) := by decide +kernel
theorem dMo_release_9 : decode prog_9_method_34_code 9 = .ok (.iaload, 1) := by decide +kernel
theorem dMo_release_10 : decode prog_9_method_34_code 10 = .ok (.aload_n 0, 1) := by decide +kernel
theorem dMo_release_11 : decode prog_9_method_34_code 11 = .ok (.getfield 32, 3) := by decide +kernel
theorem dMo_release_14 : decode prog_9_method_34_code 14 = .ok (.iload_n 1, 1) := by decide +kernel
theorem dMo_release_15 : decode prog_9_method_34_code 15 = .ok (.iaload, 1) := by decide +kernel
theorem dMo_release_16 : decode prog_9_method_34_code 16 = .ok (.if_icmp .gt 14, 3) := by decide +kernel
theorem dMo_release_19 : decode prog_9_method_34_code 19 = .ok (.aload_n 0, 1) := by decide +kernel
theorem dMo_release_20 : decode prog_9_method_34_code 20 = .ok (.getfield 155, 3) := by decide +kernel
theorem dMo_release_23 : decode prog_9_method_34_code 23 = .ok (.aload_n 0, 1) := by decide +kernel
theorem dMo_release_24 : decode prog_9_method_34_code 24 = .ok (.getfield 152, 3) := by decide +kernel
theorem dMo_release_27 : decode prog_9_method_34_code 27 = .ok (.if_icmp .lt 15, 3) := by decide +kernel
theorem dMo_release_30 : decode prog_9_method_34_code 30 = .ok (.aload_n 0, 1) := by decide +kernel
theorem dMo_release_31 : decode prog_9_method_34_code 31 = .ok (.getfield 32, 3) := by decide +kernel
theorem dMo_release_34 : decode prog_9_method_34_code 34 = .ok (.iload_n 1, 1) := by decide +kernel
theorem dMo_release_35 : decode prog_9_method_34_code 35 = .ok (.aload_n 0, 1) := by decide +kernel
theorem dMo_release_36 : decode prog_9_method_34_code 36 = .ok (.getfield 35, 3) := by decide +kernel
theorem dMo_release_39 : decode prog_9_method_34_code 39 = .ok (.iload_n 1, 1) := by decide +kernel
theorem dMo_release_40 : decode prog_9_method_34_code 40 = .ok (.iaload, 1) := by decide +kernel
theorem dMo_release_41 : decode prog_9_method_34_code 41 = .ok (.iastore, 1) := by decide +kernel
theorem dMo_release_42 : decode prog_9_method_34_code 42 = .ok (.aload_n 0, 1) := by decide +kernel
theorem dMo_release_43 : decode prog_9_method_34_code 43 = .ok (.dup, 1) := by decide +kernel
theorem dMo_release_44 : decode prog_9_method_34_code 44 = .ok (.getfield 176, 3) := by decide +kernel
theorem dMo_release_47 : decode prog_9_method_34_code 47 = .ok (.aload_n 0, 1) := by decide +kernel
theorem dMo_release_48 : decode prog_9_method_34_code 48 = .ok (.getfield 41, 3) := by decide +kernel
theorem dMo_release_51 : decode prog_9_method_34_code 51 = .ok (.iload_n 1, 1) := by decide +kernel
theorem dMo_release_52 : decode prog_9_method_34_code 52 = .ok (.iaload, 1) := by decide +kernel
theorem dMo_release_53 : decode prog_9_method_34_code 53 = .ok (.ifCond .le 7, 3) := by decide +kernel
theorem dMo_release_56 : decode prog_9_method_34_code 56 = .ok (.iconst 1, 1) := by decide +kernel
theorem dMo_release_57 : decode prog_9_method_34_code 57 = .ok (.goto 4, 3) := by decide +kernel
theorem dMo_release_60 : decode prog_9_method_34_code 60 = .ok (.iconst 0, 1) := by decide +kernel
theorem dMo_release_61 : decode prog_9_method_34_code 61 = .ok (.iadd, 1) := by decide +kernel
theorem dMo_release_62 : decode prog_9_method_34_code 62 = .ok (.putfield 176, 3) := by decide +kernel
theorem dMo_release_65 : decode prog_9_method_34_code 65 = .ok (.aload_n 0, 1) := by decide +kernel
theorem dMo_release_66 : decode prog_9_method_34_code 66 = .ok (.getfield 38, 3) := by decide +kernel
theorem dMo_release_69 : decode prog_9_method_34_code 69 = .ok (.iload_n 1, 1) := by decide +kernel
theorem dMo_release_70 : decode prog_9_method_34_code 70 = .ok (.aload_n 0, 1) := by decide +kernel
theorem dMo_release_71 : decode prog_9_method_34_code 71 = .ok (.getfield 155, 3) := by decide +kernel
theorem dMo_release_74 : decode prog_9_method_34_code 74 = .ok (.aload_n 0, 1) := by decide +kernel
theorem dMo_release_75 : decode prog_9_method_34_code 75 = .ok (.getfield 32, 3) := by decide +kernel
theorem dMo_release_78 : decode prog_9_method_34_code 78 = .ok (.iload_n 1, 1) := by decide +kernel
theorem dMo_release_79 : decode prog_9_method_34_code 79 = .ok (.iaload, 1) := by decide +kernel
theorem dMo_release_80 : decode prog_9_method_34_code 80 = .ok (.iadd, 1) := by decide +kernel
theorem dMo_release_81 : decode prog_9_method_34_code 81 = .ok (.iastore, 1) := by decide +kernel
theorem dMo_release_82 : decode prog_9_method_34_code 82 = .ok (.aload_n 0, 1) := by decide +kernel
theorem dMo_release_83 : decode prog_9_method_34_code 83 = .ok (.getfield 53, 3) := by decide +kernel
theorem dMo_release_86 : decode prog_9_method_34_code 86 = .ok (.iload_n 1, 1) := by decide +kernel
theorem dMo_release_87 : decode prog_9_method_34_code 87 = .ok (.aload_n 0, 1) := by decide +kernel
theorem dMo_release_88 : decode prog_9_method_34_code 88 = .ok (.getfield 38, 3) := by decide +kernel
theorem dMo_release_91 : decode prog_9_method_34_code 91 = .ok (.iload_n 1, 1) := by decide +kernel
theorem dMo_release_92 : decode prog_9_method_34_code 92 = .ok (.iaload, 1) := by decide +kernel
theorem dMo_release_93 : decode prog_9_method_34_code 93 = .ok (.iastore, 1) := by decide +kernel
theorem dMo_release_94 : decode prog_9_method_34_code 94 = .ok (.aload_n 0, 1) := by decide +kernel
theorem dMo_release_95 : decode prog_9_method_34_code 95 = .ok (.getfield 41, 3) := by decide +kernel
theorem dMo_release_98 : decode prog_9_method_34_code 98 = .ok (.iload_n 1, 1) := by decide +kernel
theorem dMo_release_99 : decode prog_9_method_34_code 99 = .ok (.aload_n 0, 1) := by decide +kernel
theorem dMo_release_100 : decode prog_9_method_34_code 100 = .ok (.getfield 44, 3) := by decide +kernel
theorem dMo_release_103 : decode prog_9_method_34_code 103 = .ok (.iload_n 1, 1) := by decide +kernel
theorem dMo_release_104 : decode prog_9_method_34_code 104 = .ok (.iaload, 1) := by decide +kernel
theorem dMo_release_105 : decode prog_9_method_34_code 105 = .ok (.iconst (-1), 1) := by decide +kernel
theorem dMo_release_106 : decode prog_9_method_34_code 106 = .ok (.if_icmp .ne 12, 3) := by decide +kernel
theorem dMo_release_109 : decode prog_9_method_34_code 109 = .ok (.aload_n 0, 1) := by decide +kernel
theorem dMo_release_110 : decode prog_9_method_34_code 110 = .ok (.getfield 17, 3) := by decide +kernel
theorem dMo_release_113 : decode prog_9_method_34_code 113 = .ok (.iload_n 1, 1) := by decide +kernel
theorem dMo_release_114 : decode prog_9_method_34_code 114 = .ok (.iaload, 1) := by decide +kernel
theorem dMo_release_115 : decode prog_9_method_34_code 115 = .ok (.goto 9, 3) := by decide +kernel
theorem dMo_release_118 : decode prog_9_method_34_code 118 = .ok (.aload_n 0, 1) := by decide +kernel
theorem dMo_release_119 : decode prog_9_method_34_code 119 = .ok (.getfield 44, 3) := by decide +kernel
theorem dMo_release_122 : decode prog_9_method_34_code 122 = .ok (.iload_n 1, 1) := by decide +kernel
theorem dMo_release_123 : decode prog_9_method_34_code 123 = .ok (.iaload, 1) := by decide +kernel
theorem dMo_release_124 : decode prog_9_method_34_code 124 = .ok (.iastore, 1) := by decide +kernel
theorem dMo_release_125 : decode prog_9_method_34_code 125 = .ok (.aload_n 0, 1) := by decide +kernel
theorem dMo_release_126 : decode prog_9_method_34_code 126 = .ok (.getfield 44, 3) := by decide +kernel
theorem dMo_release_129 : decode prog_9_method_34_code 129 = .ok (.iload_n 1, 1) := by decide +kernel
theorem dMo_release_130 : decode prog_9_method_34_code 130 = .ok (.iconst (-1), 1) := by decide +kernel
theorem dMo_release_131 : decode prog_9_method_34_code 131 = .ok (.iastore, 1) := by decide +kernel
theorem dMo_release_132 : decode prog_9_method_34_code 132 = .ok (.aload_n 0, 1) := by decide +kernel
theorem dMo_release_133 : decode prog_9_method_34_code 133 = .ok (.getfield 41, 3) := by decide +kernel
theorem dMo_release_136 : decode prog_9_method_34_code 136 = .ok (.iload_n 1, 1) := by decide +kernel
theorem dMo_release_137 : decode prog_9_method_34_code 137 = .ok (.iaload, 1) := by decide +kernel
theorem dMo_release_138 : decode prog_9_method_34_code 138 = .ok (.ifCond .le 4, 3) := by decide +kernel
theorem dMo_release_141 : decode prog_9_method_34_code 141 = .ok (.return_, 1) := by decide +kernel
theorem dMo_release_142 : decode prog_9_method_34_code 142 = .ok (.aload_n 0, 1) := by decide +kernel
theorem dMo_release_143 : decode prog_9_method_34_code 143 = .ok (.getfield 47, 3) := by decide +kernel
theorem dMo_release_146 : decode prog_9_method_34_code 146 = .ok (.iload_n 1, 1) := by decide +kernel
theorem dMo_release_147 : decode prog_9_method_34_code 147 = .ok (.dup2, 1) := by decide +kernel
theorem dMo_release_148 : decode prog_9_method_34_code 148 = .ok (.iaload, 1) := by decide +kernel
theorem dMo_release_149 : decode prog_9_method_34_code 149 = .ok (.iconst 1, 1) := by decide +kernel
theorem dMo_release_150 : decode prog_9_method_34_code 150 = .ok (.iadd, 1) := by decide +kernel
theorem dMo_release_151 : decode prog_9_method_34_code 151 = .ok (.iastore, 1) := by decide +kernel
theorem dMo_release_152 : decode prog_9_method_34_code 152 = .ok (.aload_n 0, 1) := by decide +kernel
theorem dMo_release_153 : decode prog_9_method_34_code 153 = .ok (.getfield 50, 3) := by decide +kernel
theorem dMo_release_156 : decode prog_9_method_34_code 156 = .ok (.iload_n 1, 1) := by decide +kernel
theorem dMo_release_157 : decode prog_9_method_34_code 157 = .ok (.aload_n 0, 1) := by decide +kernel
theorem dMo_release_158 : decode prog_9_method_34_code 158 = .ok (.getfield 155, 3) := by decide +kernel
theorem dMo_release_161 : decode prog_9_method_34_code 161 = .ok (.iastore, 1) := by decide +kernel
theorem dMo_release_162 : decode prog_9_method_34_code 162 = .ok (.return_, 1) := by decide +kernel
set_option maxHeartbeats 4000000 in
set_option maxRecDepth 100000 in
theorem wMo_release_124 {l : Launch} {G : ek_G} {kd : Nat → Nat} {p : Program} {e : Env} {s : State} {m : MethodId} {args : Array Value} {below : List Frame} {meth : Method} {c : Code} (X : ek_X p s m meth c args G prog_9_method_34_code 3 "ElasticKernelModel" none) {q : ek_St} {I : ek_St} {x0 : Nat} {i1 : Int32} {t0 : Nat} {t1 : Int32} {t2 : Int32} (hf : fMo_release_124 kd I x0 i1 t0 t1 t2 = some q) {H : Heap} {locs : List Loc} {ls : Array Slot} (hw : ek_W G kd I H) (hS : va_S (ek_A G kd) s.heap H locs) (hl : lv_has ls 3 [(0, ek_r G x0), (1, .int i1)]) : W p l e ({ frames := 0, cells := 0, slots := 0, locals := 0 } : Room) s m args below meth c H locs 0 0 (MQ below (ek_Q G kd none q) args s 0 0 (ek_A G kd)) (F0 m 124 ls [.int t2, .int t1, ek_r G t0]) := by
  obtain ⟨hx, hb, hml, hown, hts, hr, hlocks, hK⟩ := id X
  have hA : ∀ q, ek_A G kd q → ek_A G kd q := fun _ h => h
  unfold fMo_release_124 at hf
  refine ek_iast hx hb hK hw hS hA 12 rfl hf dMo_release_124 (fun I1 H locs hf hw hS => ?_)
  refine ek_aload_n hx hb dMo_release_125 rfl (lv_at hl 0 rfl) ?_
  refine ek_getr hx hb 8 hts (in_Mo) hown hK hw rfl (by decide) (by decide) 18 (by decide) (n := 10) rfl rfl (hts _ q_594) hf dMo_release_126 (fun hf => ?_)
  refine lv_iload_n hx hb dMo_release_129 rfl (lv_at hl 1 rfl) ?_
  refine lv_iconst (v := (-1 : Int32)) hx hb dMo_release_130 (by decide) ?_
  refine ek_iast hx hb hK hw hS hA 12 rfl hf dMo_release_131 (fun I2 H locs hf hw hS => ?_)
  refine ek_aload_n hx hb dMo_release_132 rfl (lv_at hl 0 rfl) ?_
  refine ek_getr hx hb 8 hts (in_Mo) hown hK hw rfl (by decide) (by decide) 17 (by decide) (n := 9) rfl rfl (hts _ q_593) hf dMo_release_133 (fun hf => ?_)
  refine lv_iload_n hx hb dMo_release_136 rfl (lv_at hl 1 rfl) ?_
  refine ek_iald hx hb hK hw 12 rfl hf dMo_release_137 (fun hf => ?_)
  refine lv_if_le (tgt := 142) hx hb dMo_release_138 (by decide) (fun c3 => ?_) (fun c3 => ?_)
  · have hf := ek_t c3 hf
    refine ek_aload_n hx hb dMo_release_142 rfl (lv_at hl 0 rfl) ?_
    refine ek_getr hx hb 8 hts (in_Mo) hown hK hw rfl (by decide) (by decide) 19 (by decide) (n := 11) rfl rfl (hts _ q_595) hf dMo_release_143 (fun hf => ?_)
    refine lv_iload_n hx hb dMo_release_146 rfl (lv_at hl 1 rfl) ?_
    refine lv_dup2_11 hx hb dMo_release_147 rfl ek_r_cat ?_
    refine ek_iald hx hb hK hw 12 rfl hf dMo_release_148 (fun hf => ?_)
    refine lv_iconst (v := (1 : Int32)) hx hb dMo_release_149 (by decide) ?_
    refine lv_iadd hx hb dMo_release_150 ?_
    refine ek_iast hx hb hK hw hS hA 12 rfl hf dMo_release_151 (fun I4 H locs hf hw hS => ?_)
    refine ek_aload_n hx hb dMo_release_152 rfl (lv_at hl 0 rfl) ?_
    refine ek_getr hx hb 8 hts (in_Mo) hown hK hw rfl (by decide) (by decide) 20 (by decide) (n := 12) rfl rfl (hts _ q_596) hf dMo_release_153 (fun hf => ?_)
    refine lv_iload_n hx hb dMo_release_156 rfl (lv_at hl 1 rfl) ?_
    refine ek_aload_n hx hb dMo_release_157 rfl (lv_at hl 0 rfl) ?_
    refine ek_geti hx hb 8 hts (in_Mo) hown hK hw rfl (by decide) (by decide) 1 (by decide) rfl (hts _ q_577) hf dMo_release_158 (fun hf => ?_)
    refine ek_iast hx hb hK hw hS hA 12 rfl hf dMo_release_161 (fun I5 H locs hf hw hS => ?_)
    exact ek_vret hx hb hr hlocks hw hS hf dMo_release_162
  · have hf := ek_f c3 hf
    exact ek_vret hx hb hr hlocks hw hS hf dMo_release_141
set_option maxHeartbeats 4000000 in
set_option maxRecDepth 100000 in
theorem wMo_release_61 {l : Launch} {G : ek_G} {kd : Nat → Nat} {p : Program} {e : Env} {s : State} {m : MethodId} {args : Array Value} {below : List Frame} {meth : Method} {c : Code} (X : ek_X p s m meth c args G prog_9_method_34_code 3 "ElasticKernelModel" none) {q : ek_St} {I : ek_St} {x0 : Nat} {i1 : Int32} {t0 : Nat} {t1 : Int32} {t2 : Int32} (hf : fMo_release_61 kd I x0 i1 t0 t1 t2 = some q) {H : Heap} {locs : List Loc} {ls : Array Slot} (hw : ek_W G kd I H) (hS : va_S (ek_A G kd) s.heap H locs) (hl : lv_has ls 3 [(0, ek_r G x0), (1, .int i1)]) : W p l e ({ frames := 0, cells := 0, slots := 0, locals := 0 } : Room) s m args below meth c H locs 0 0 (MQ below (ek_Q G kd none q) args s 0 0 (ek_A G kd)) (F0 m 61 ls [.int t2, .int t1, ek_r G t0]) := by
  obtain ⟨hx, hb, hml, hown, hts, hr, hlocks, hK⟩ := id X
  have hA : ∀ q, ek_A G kd q → ek_A G kd q := fun _ h => h
  unfold fMo_release_61 at hf
  refine lv_iadd hx hb dMo_release_61 ?_
  refine ek_puti hx hb 8 hts (in_Mo) ty_Mo ty_Mo_ok nm_Mo hown hK hw hS hA rfl (by decide) (by decide) 3 (by decide) rfl (hts _ q_579) rfl rfl rfl hf dMo_release_62 (fun I1 H locs hf hw hS => ?_)
  refine ek_aload_n hx hb dMo_release_65 rfl (lv_at hl 0 rfl) ?_
  refine ek_getr hx hb 8 hts (in_Mo) hown hK hw rfl (by decide) (by decide) 16 (by decide) (n := 8) rfl rfl (hts _ q_592) hf dMo_release_66 (fun hf => ?_)
  refine lv_iload_n hx hb dMo_release_69 rfl (lv_at hl 1 rfl) ?_
  refine ek_aload_n hx hb dMo_release_70 rfl (lv_at hl 0 rfl) ?_
  refine ek_geti hx hb 8 hts (in_Mo) hown hK hw rfl (by decide) (by decide) 1 (by decide) rfl (hts _ q_577) hf dMo_release_71 (fun hf => ?_)
  refine ek_aload_n hx hb dMo_release_74 rfl (lv_at hl 0 rfl) ?_
  refine ek_getr hx hb 8 hts (in_Mo) hown hK hw rfl (by decide) (by decide) 14 (by decide) (n := 6) rfl rfl (hts _ q_590) hf dMo_release_75 (fun hf => ?_)
  refine lv_iload_n hx hb dMo_release_78 rfl (lv_at hl 1 rfl) ?_
  refine ek_iald hx hb hK hw 12 rfl hf dMo_release_79 (fun hf => ?_)
  refine lv_iadd hx hb dMo_release_80 ?_
  refine ek_iast hx hb hK hw hS hA 12 rfl hf dMo_release_81 (fun I2 H locs hf hw hS => ?_)
  refine ek_aload_n hx hb dMo_release_82 rfl (lv_at hl 0 rfl) ?_
  refine ek_getr hx hb 8 hts (in_Mo) hown hK hw rfl (by decide) (by decide) 21 (by decide) (n := 13) rfl rfl (hts _ q_597) hf dMo_release_83 (fun hf => ?_)
  refine lv_iload_n hx hb dMo_release_86 rfl (lv_at hl 1 rfl) ?_
  refine ek_aload_n hx hb dMo_release_87 rfl (lv_at hl 0 rfl) ?_
  refine ek_getr hx hb 8 hts (in_Mo) hown hK hw rfl (by decide) (by decide) 16 (by decide) (n := 8) rfl rfl (hts _ q_592) hf dMo_release_88 (fun hf => ?_)
  refine lv_iload_n hx hb dMo_release_91 rfl (lv_at hl 1 rfl) ?_
  refine ek_iald hx hb hK hw 12 rfl hf dMo_release_92 (fun hf => ?_)
  refine ek_iast hx hb hK hw hS hA 12 rfl hf dMo_release_93 (fun I3 H locs hf hw hS => ?_)
  refine ek_aload_n hx hb dMo_release_94 rfl (lv_at hl 0 rfl) ?_
  refine ek_getr hx hb 8 hts (in_Mo) hown hK hw rfl (by decide) (by decide) 17 (by decide) (n := 9) rfl rfl (hts _ q_593) hf dMo_release_95 (fun hf => ?_)
  refine lv_iload_n hx hb dMo_release_98 rfl (lv_at hl 1 rfl) ?_
  refine ek_aload_n hx hb dMo_release_99 rfl (lv_at hl 0 rfl) ?_
  refine ek_getr hx hb 8 hts (in_Mo) hown hK hw rfl (by decide) (by decide) 18 (by decide) (n := 10) rfl rfl (hts _ q_594) hf dMo_release_100 (fun hf => ?_)
  refine lv_iload_n hx hb dMo_release_103 rfl (lv_at hl 1 rfl) ?_
  refine ek_iald hx hb hK hw 12 rfl hf dMo_release_104 (fun hf => ?_)
  refine lv_iconst (v := (-1 : Int32)) hx hb dMo_release_105 (by decide) ?_
  refine lv_icmp_ne (tgt := 118) hx hb dMo_release_106 (by decide) (fun c4 => ?_) (fun c4 => ?_)
  · have hf := ek_f c4 hf
    refine ek_aload_n hx hb dMo_release_118 rfl (lv_at hl 0 rfl) ?_
    refine ek_getr hx hb 8 hts (in_Mo) hown hK hw rfl (by decide) (by decide) 18 (by decide) (n := 10) rfl rfl (hts _ q_594) hf dMo_release_119 (fun hf => ?_)
    refine lv_iload_n hx hb dMo_release_122 rfl (lv_at hl 1 rfl) ?_
    refine ek_iald hx hb hK hw 12 rfl hf dMo_release_123 (fun hf => ?_)
    exact wMo_release_124 X hf hw hS (lv_sub hl [0, 1] rfl)
  · have hf := ek_t c4 hf
    refine ek_aload_n hx hb dMo_release_109 rfl (lv_at hl 0 rfl) ?_
    refine ek_getr hx hb 8 hts (in_Mo) hown hK hw rfl (by decide) (by decide) 9 (by decide) (n := 1) rfl rfl (hts _ q_585) hf dMo_release_110 (fun hf => ?_)
    refine lv_iload_n hx hb dMo_release_113 rfl (lv_at hl 1 rfl) ?_
    refine ek_iald hx hb hK hw 12 rfl hf dMo_release_114 (fun hf => ?_)
    refine lv_goto (tgt := 124) hx hb dMo_release_115 (by decide) ?_
    exact wMo_release_124 X hf hw hS (lv_sub hl [0, 1] rfl)
set_option maxHeartbeats 4000000 in
set_option maxRecDepth 100000 in
theorem wMo_release_42 {l : Launch} {G : ek_G} {kd : Nat → Nat} {p : Program} {e : Env} {s : State} {m : MethodId} {args : Array Value} {below : List Frame} {meth : Method} {c : Code} (X : ek_X p s m meth c args G prog_9_method_34_code 3 "ElasticKernelModel" none) {q : ek_St} {I : ek_St} {x0 : Nat} {i1 : Int32} (hf : fMo_release_42 kd I x0 i1 = some q) {H : Heap} {locs : List Loc} {ls : Array Slot} (hw : ek_W G kd I H) (hS : va_S (ek_A G kd) s.heap H locs) (hl : lv_has ls 3 [(0, ek_r G x0), (1, .int i1)]) : W p l e ({ frames := 0, cells := 0, slots := 0, locals := 0 } : Room) s m args below meth c H locs 0 0 (MQ below (ek_Q G kd none q) args s 0 0 (ek_A G kd)) (F0 m 42 ls []) := by
  obtain ⟨hx, hb, hml, hown, hts, hr, hlocks, hK⟩ := id X
  have hA : ∀ q, ek_A G kd q → ek_A G kd q := fun _ h => h
  unfold fMo_release_42 at hf
  refine ek_aload_n hx hb dMo_release_42 rfl (lv_at hl 0 rfl) ?_
  refine lv_dup hx hb dMo_release_43 ek_r_cat ?_
  refine ek_geti hx hb 8 hts (in_Mo) hown hK hw rfl (by decide) (by decide) 3 (by decide) rfl (hts _ q_579) hf dMo_release_44 (fun hf => ?_)
  refine ek_aload_n hx hb dMo_release_47 rfl (lv_at hl 0 rfl) ?_
  refine ek_getr hx hb 8 hts (in_Mo) hown hK hw rfl (by decide) (by decide) 17 (by decide) (n := 9) rfl rfl (hts _ q_593) hf dMo_release_48 (fun hf => ?_)
  refine lv_iload_n hx hb dMo_release_51 rfl (lv_at hl 1 rfl) ?_
  refine ek_iald hx hb hK hw 12 rfl hf dMo_release_52 (fun hf => ?_)
  refine lv_if_le (tgt := 60) hx hb dMo_release_53 (by decide) (fun c1 => ?_) (fun c1 => ?_)
  · have hf := ek_t c1 hf
    refine lv_iconst (v := (0 : Int32)) hx hb dMo_release_60 (by decide) ?_
    exact wMo_release_61 X hf hw hS (lv_sub hl [0, 1] rfl)
  · have hf := ek_f c1 hf
    refine lv_iconst (v := (1 : Int32)) hx hb dMo_release_56 (by decide) ?_
    refine lv_goto (tgt := 61) hx hb dMo_release_57 (by decide) ?_
    exact wMo_release_61 X hf hw hS (lv_sub hl [0, 1] rfl)
set_option maxHeartbeats 4000000 in
set_option maxRecDepth 100000 in
theorem wMo_release_30 {l : Launch} {G : ek_G} {kd : Nat → Nat} {p : Program} {e : Env} {s : State} {m : MethodId} {args : Array Value} {below : List Frame} {meth : Method} {c : Code} (X : ek_X p s m meth c args G prog_9_method_34_code 3 "ElasticKernelModel" none) {q : ek_St} {I : ek_St} {x0 : Nat} {i1 : Int32} (hf : fMo_release_30 kd I x0 i1 = some q) {H : Heap} {locs : List Loc} {ls : Array Slot} (hw : ek_W G kd I H) (hS : va_S (ek_A G kd) s.heap H locs) (hl : lv_has ls 3 [(0, ek_r G x0), (1, .int i1)]) : W p l e ({ frames := 0, cells := 0, slots := 0, locals := 0 } : Room) s m args below meth c H locs 0 0 (MQ below (ek_Q G kd none q) args s 0 0 (ek_A G kd)) (F0 m 30 ls []) := by
  obtain ⟨hx, hb, hml, hown, hts, hr, hlocks, hK⟩ := id X
  have hA : ∀ q, ek_A G kd q → ek_A G kd q := fun _ h => h
  unfold fMo_release_30 at hf
  refine ek_aload_n hx hb dMo_release_30 rfl (lv_at hl 0 rfl) ?_
  refine ek_getr hx hb 8 hts (in_Mo) hown hK hw rfl (by decide) (by decide) 14 (by decide) (n := 6) rfl rfl (hts _ q_590) hf dMo_release_31 (fun hf => ?_)
  refine lv_iload_n hx hb dMo_release_34 rfl (lv_at hl 1 rfl) ?_
  refine ek_aload_n hx hb dMo_release_35 rfl (lv_at hl 0 rfl) ?_
  refine ek_getr hx hb 8 hts (in_Mo) hown hK hw rfl (by decide) (by decide) 15 (by decide) (n := 7) rfl rfl (hts _ q_591) hf dMo_release_36 (fun hf => ?_)
  refine lv_iload_n hx hb dMo_release_39 rfl (lv_at hl 1 rfl) ?_
  refine ek_iald hx hb hK hw 12 rfl hf dMo_release_40 (fun hf => ?_)
  refine ek_iast hx hb hK hw hS hA 12 rfl hf dMo_release_41 (fun I1 H locs hf hw hS => ?_)
  exact wMo_release_42 X hf hw hS (lv_sub hl [0, 1] rfl)
set_option maxHeartbeats 4000000 in
set_option maxRecDepth 100000 in
theorem wMo_release_0 {l : Launch} {G : ek_G} {kd : Nat → Nat} {p : Program} {e : Env} {s : State} {m : MethodId} {args : Array Value} {below : List Frame} {meth : Method} {c : Code} (X : ek_X p s m meth c args G prog_9_method_34_code 3 "ElasticKernelModel" none) {q : ek_St} {I : ek_St} {x0 : Nat} {i1 : Int32} {i2 : Int32} (hf : fMo_release_0 kd I x0 i1 i2 = some q) {H : Heap} {locs : List Loc} {ls : Array Slot} (hw : ek_W G kd I H) (hS : va_S (ek_A G kd) s.heap H locs) (hl : lv_has ls 3 [(0, ek_r G x0), (1, .int i1), (2, .int i2)]) : W p l e ({ frames := 0, cells := 0, slots := 0, locals := 0 } : Room) s m args below meth c H locs 0 0 (MQ below (ek_Q G kd none q) args s 0 0 (ek_A G kd)) (F0 m 0 ls []) := by
  obtain ⟨hx, hb, hml, hown, hts, hr, hlocks, hK⟩ := id X
  have hA : ∀ q, ek_A G kd q → ek_A G kd q := fun _ h => h
  unfold fMo_release_0 at hf
  refine lv_iload_n hx hb dMo_release_0 rfl (lv_at hl 2 rfl) ?_
  refine lv_if_ne (tgt := 30) hx hb dMo_release_1 (by decide) (fun c1 => ?_) (fun c1 => ?_)
  · have hf := ek_f c1 hf
    exact wMo_release_30 X hf hw hS (lv_sub hl [0, 1] rfl)
  · have hf := ek_t c1 hf
    refine ek_aload_n hx hb dMo_release_4 rfl (lv_at hl 0 rfl) ?_
    refine ek_getr hx hb 8 hts (in_Mo) hown hK hw rfl (by decide) (by decide) 15 (by decide) (n := 7) rfl rfl (hts _ q_591) hf dMo_release_5 (fun hf => ?_)
    refine lv_iload_n hx hb dMo_release_8 rfl (lv_at hl 1 rfl) ?_
    refine ek_iald hx hb hK hw 12 rfl hf dMo_release_9 (fun hf => ?_)
    refine ek_aload_n hx hb dMo_release_10 rfl (lv_at hl 0 rfl) ?_
    refine ek_getr hx hb 8 hts (in_Mo) hown hK hw rfl (by decide) (by decide) 14 (by decide) (n := 6) rfl rfl (hts _ q_590) hf dMo_release_11 (fun hf => ?_)
    refine lv_iload_n hx hb dMo_release_14 rfl (lv_at hl 1 rfl) ?_
    refine ek_iald hx hb hK hw 12 rfl hf dMo_release_15 (fun hf => ?_)
    refine lv_icmp_gt (tgt := 30) hx hb dMo_release_16 (by decide) (fun c2 => ?_) (fun c2 => ?_)
    · have hf := ek_t c2 hf
      exact wMo_release_30 X hf hw hS (lv_sub hl [0, 1] rfl)
    · have hf := ek_f c2 hf
      refine ek_aload_n hx hb dMo_release_19 rfl (lv_at hl 0 rfl) ?_
      refine ek_geti hx hb 8 hts (in_Mo) hown hK hw rfl (by decide) (by decide) 1 (by decide) rfl (hts _ q_577) hf dMo_release_20 (fun hf => ?_)
      refine ek_aload_n hx hb dMo_release_23 rfl (lv_at hl 0 rfl) ?_
      refine ek_geti hx hb 8 hts (in_Mo) hown hK hw rfl (by decide) (by decide) 5 (by decide) rfl (hts _ q_581) hf dMo_release_24 (fun hf => ?_)
      refine lv_icmp_lt (tgt := 42) hx hb dMo_release_27 (by decide) (fun c3 => ?_) (fun c3 => ?_)
      · have hf := ek_t c3 hf
        exact wMo_release_42 X hf hw hS (lv_sub hl [0, 1] rfl)
      · have hf := ek_f c3 hf
        exact wMo_release_30 X hf hw hS (lv_sub hl [0, 1] rfl)
set_option maxHeartbeats 4000000 in
set_option maxRecDepth 100000 in
theorem mMo_release {l : Launch} {G : ek_G} {kd : Nat → Nat} {I : ek_St} {x0 : Nat} {i1 : Int32} {i2 : Int32} {q : ek_St} (hf : fMo_release kd I x0 i1 i2 = some q) : ek_M l G kd y_Mo_release (.code y_Mo_release prog_9_method_34_code 3 none :: lw_g) ({ frames := 0, cells := 0, slots := 0, locals := 0 } : Room) [ek_r G x0, .int i1, .int i2] I none q :=
  ek_body [(0, ek_r G x0), (1, .int i1), (2, .int i2)] (by decide) (by simp [lg_sl, ek_r_cat, ek_c_i, ek_c_l]) (by simp [lv_args, ek_r_cat, ek_c_i, ek_c_l]) (fun p e s m below meth c ls X hw hS hl => wMo_release_0 X hf hw hS hl)
/-! ElasticKernelModel.step()I -/
def fMo_step_65 (kd : Nat → Nat) (k7 : (ek_St × Nat × Int32) → Option (ek_St × Int32)) (I : ek_St) (x0 : Nat) (i1 : Int32) : Option (ek_St × Int32) :=
  ek_let (i1 + (-1 : Int32)) (fun i1_1 => k7 (I, x0, i1_1))
def fMo_step_56 (kd : Nat → Nat) (k7 : (ek_St × Nat × Int32) → Option (ek_St × Int32)) (I : ek_St) (x0 : Nat) (i1 : Int32) (t0 : Nat) (t1 : Int32) (t2 : Int32) : Option (ek_St × Int32) :=
  ek_ck (kd t0 = 8) (ek_let (ek_up I t0 3 (t1 + t2)) (fun I1 => ek_ck (kd x0 = 8) (ek_bv (fMo_remove kd I1 x0 i1) (fun I2 => fMo_step_65 kd k7 I2 x0 i1))))
def fMo_step_151 (kd : Nat → Nat) (k73 : (ek_St × Nat × Int32) → Option (ek_St × Int32)) (I : ek_St) (x0 : Nat) (i1 : Int32) : Option (ek_St × Int32) :=
  ek_let (i1 + (1 : Int32)) (fun i1_1 => k73 (I, x0, i1_1))
def fMo_step_145 (kd : Nat → Nat) (k73 : (ek_St × Nat × Int32) → Option (ek_St × Int32)) (I : ek_St) (x0 : Nat) (i1 : Int32) (i2 : Int32) : Option (ek_St × Int32) :=
  ek_ck (kd x0 = 8) (ek_bv (fMo_release kd I x0 i1 i2) (fun I1 => fMo_step_151 kd k73 I1 x0 i1))
def fMo_step_118 (kd : Nat → Nat) (k73 : (ek_St × Nat × Int32) → Option (ek_St × Int32)) (I : ek_St) (x0 : Nat) (i1 : Int32) (i2 : Int32) : Option (ek_St × Int32) :=
  if i2 = ((0 : Int32)) then (ek_ck (kd x0 = 8) (ek_ck (kd (x0 + 6) = 112) (ek_ck (ek_in i1 12) (if (I (x0 + 6) i1.toNatClampNeg) = ((1 : Int32)) then (ek_ck (kd x0 = 8) (ek_ck (kd (x0 + 9) = 112) (ek_ck (ek_in i1 12) (ek_ck (kd x0 = 8) (if (I (x0 + 9) i1.toNatClampNeg) = (I x0 1) then (fMo_step_145 kd k73 I x0 i1 i2) else (fMo_step_151 kd k73 I x0 i1)))))) else (fMo_step_151 kd k73 I x0 i1))))) else (fMo_step_145 kd k73 I x0 i1 i2)
def fMo_step_106 (kd : Nat → Nat) (k73 : (ek_St × Nat × Int32) → Option (ek_St × Int32)) (I : ek_St) (x0 : Nat) (i1 : Int32) (t0 : Int32) : Option (ek_St × Int32) :=
  if t0 = ((0 : Int32)) then (fMo_step_118 kd k73 I x0 i1 t0) else (ek_ck (kd x0 = 8) (ek_ck (kd (x0 + 6) = 112) (ek_ck (ek_in i1 12) (ek_let (ek_up I (x0 + 6) i1.toNatClampNeg ((1 : Int32))) (fun I2 => fMo_step_118 kd k73 I2 x0 i1 t0)))))
def fMo_step_105 (kd : Nat → Nat) (k73 : (ek_St × Nat × Int32) → Option (ek_St × Int32)) (I : ek_St) (x0 : Nat) (i1 : Int32) : Option (ek_St × Int32) :=
  fMo_step_106 kd k73 I x0 i1 ((0 : Int32))
def fMo_step_200 (kd : Nat → Nat) (k161 : (ek_St × Nat × Int32 × Int32) → Option (ek_St × Int32)) (I : ek_St) (x0 : Nat) (i1 : Int32) (i2 : Int32) : Option (ek_St × Int32) :=
  ek_let (i2 + (1 : Int32)) (fun i2_1 => k161 (I, x0, i1, i2_1))
def fMo_step_198 (kd : Nat → Nat) (k161 : (ek_St × Nat × Int32 × Int32) → Option (ek_St × Int32)) (I : ek_St) (x0 : Nat) (i2 : Int32) : Option (ek_St × Int32) :=
  fMo_step_200 kd k161 I x0 i2 i2
def fMo_step_262 (kd : Nat → Nat) (I : ek_St) (x0 : Nat) (i1 : Int32) : Option (ek_St × Int32) :=
  ek_ck (kd x0 = 8) (ek_ck (kd (x0 + 1) = 112) (ek_ck (ek_in i1 12) (some (I, I (x0 + 1) i1.toNatClampNeg))))
def fMo_step_161 (kd : Nat → Nat) (k161 : (ek_St × Nat × Int32 × Int32) → Option (ek_St × Int32)) (I : ek_St) (x0 : Nat) (i1 : Int32) (i2 : Int32) : Option (ek_St × Int32) :=
  ek_ck (kd x0 = 8) (if (I x0 7) ≤ i2 then (ek_ck (kd x0 = 8) (ek_ck (kd x0 = 8) (ek_let (ek_up I x0 1 ((I x0 1) + ((1 : Int32)))) (fun I2 => if i1 = ((-1 : Int32)) then (some (I2, (0 : Int32))) else (ek_ck (kd x0 = 8) (ek_ck (kd (x0 + 10) = 112) (ek_ck (ek_in i1 12) (ek_ck (kd (x0 + 10) = 112) (ek_ck (ek_in i1 12) (ek_let (ek_up I2 (x0 + 10) i1.toNatClampNeg ((I2 (x0 + 10) i1.toNatClampNeg) - ((1 : Int32)))) (fun I4 => ek_ck (kd x0 = 8) (ek_ck (kd (x0 + 10) = 112) (ek_ck (ek_in i1 12) (if (I4 (x0 + 10) i1.toNatClampNeg) = ((0 : Int32)) then (ek_ck (kd x0 = 8) (ek_ck (kd (x0 + 12) = 112) (ek_ck (ek_in i1 12) (ek_ck (kd (x0 + 12) = 112) (ek_ck (ek_in i1 12) (ek_let (ek_up I4 (x0 + 12) i1.toNatClampNeg ((I4 (x0 + 12) i1.toNatClampNeg) + ((1 : Int32)))) (fun I6 => ek_ck (kd x0 = 8) (ek_ck (kd x0 = 8) (ek_ck (kd (x0 + 13) = 112) (ek_ck (ek_in i1 12) (ek_let (ek_up I6 (x0 + 13) i1.toNatClampNeg (I6 x0 1)) (fun I7 => fMo_step_262 kd I7 x0 i1)))))))))))) else (fMo_step_262 kd I4 x0 i1))))))))))))))) else (ek_ck (kd x0 = 8) (ek_ck (kd (x0 + 10) = 112) (ek_ck (ek_in i2 12) (if (I (x0 + 10) i2.toNatClampNeg) ≤ ((0 : Int32)) then (fMo_step_200 kd k161 I x0 i1 i2) else (if i1 = ((-1 : Int32)) then (fMo_step_198 kd k161 I x0 i2) else (ek_ck (kd x0 = 8) (ek_ck (kd (x0 + 14) = 112) (ek_ck (ek_in i2 12) (ek_ck (kd x0 = 8) (ek_ck (kd (x0 + 14) = 112) (ek_ck (ek_in i1 12) (if (I (x0 + 14) i1.toNatClampNeg) ≤ (I (x0 + 14) i2.toNatClampNeg) then (fMo_step_200 kd k161 I x0 i1 i2) else (fMo_step_198 kd k161 I x0 i2))))))))))))))
def fMo_step_73 (kd : Nat → Nat) (k73 : (ek_St × Nat × Int32) → Option (ek_St × Int32)) (I : ek_St) (x0 : Nat) (i1 : Int32) : Option (ek_St × Int32) :=
  ek_ck (kd x0 = 8) (if (I x0 7) ≤ i1 then (ek_lp (fun (k : (ek_St × Nat × Int32 × Int32) → Option (ek_St × Int32)) (q : (ek_St × Nat × Int32 × Int32)) => fMo_step_161 kd k q.1 q.2.1 q.2.2.1 q.2.2.2) ek_N (I, x0, (-1 : Int32), (0 : Int32))) else (ek_ck (kd x0 = 8) (ek_ck (kd (x0 + 6) = 112) (ek_ck (ek_in i1 12) (if (I (x0 + 6) i1.toNatClampNeg) = ((0 : Int32)) then (ek_ck (kd x0 = 8) (ek_ck (kd x0 = 8) (if (I x0 1) < (I x0 5) then (fMo_step_105 kd k73 I x0 i1) else (fMo_step_106 kd k73 I x0 i1 ((1 : Int32)))))) else (fMo_step_105 kd k73 I x0 i1))))))
def fMo_step_7 (kd : Nat → Nat) (k7 : (ek_St × Nat × Int32) → Option (ek_St × Int32)) (I : ek_St) (x0 : Nat) (i1 : Int32) : Option (ek_St × Int32) :=
  if i1 < ((0 : Int32)) then (ek_lp (fun (k : (ek_St × Nat × Int32) → Option (ek_St × Int32)) (q : (ek_St × Nat × Int32)) => fMo_step_73 kd k q.1 q.2.1 q.2.2) ek_N (I, x0, (0 : Int32))) else (ek_ck (kd x0 = 8) (ek_ck (kd (x0 + 6) = 112) (ek_ck (ek_in i1 12) (if (I (x0 + 6) i1.toNatClampNeg) = ((2 : Int32)) then (ek_ck (kd x0 = 8) (ek_ck (kd (x0 + 9) = 112) (ek_ck (ek_in i1 12) (ek_ck (kd x0 = 8) (if (I (x0 + 9) i1.toNatClampNeg) = (I x0 1) then (ek_ck (kd x0 = 8) (ek_ck (kd x0 = 8) (ek_ck (kd (x0 + 10) = 112) (ek_ck (ek_in i1 12) (if (I (x0 + 10) i1.toNatClampNeg) ≤ ((0 : Int32)) then (fMo_step_56 kd k7 I x0 i1 x0 (I x0 3) ((0 : Int32))) else (fMo_step_56 kd k7 I x0 i1 x0 (I x0 3) ((1 : Int32)))))))) else (fMo_step_65 kd k7 I x0 i1)))))) else (fMo_step_65 kd k7 I x0 i1)))))
def fMo_step_0 (kd : Nat → Nat) (I : ek_St) (x0 : Nat) : Option (ek_St × Int32) :=
  ek_ck (kd x0 = 8) (ek_let ((I x0 7) - ((1 : Int32))) (fun i1_1 => ek_lp (fun (k : (ek_St × Nat × Int32) → Option (ek_St × Int32)) (q : (ek_St × Nat × Int32)) => fMo_step_7 kd k q.1 q.2.1 q.2.2) ek_N (I, x0, i1_1)))
def fMo_step (kd : Nat → Nat) (I : ek_St) (x0 : Nat) : Option (ek_St × Int32) := fMo_step_0 kd I x0
theorem dMo_step_0 : decode prog_9_method_35_code 0 = .ok (.aload_n 0, 1) := by decide +kernel
theorem dMo_step_1 : decode prog_9_method_35_code 1 = .ok (.getfield 105, 3) := by decide +kernel
theorem dMo_step_4 : decode prog_9_method_35_code 4 = .ok (.iconst 1, 1) := by decide +kernel
theorem dMo_step_5 : decode prog_9_method_35_code 5 = .ok (.isub, 1) := by decide +kernel
theorem dMo_step_6 : decode prog_9_method_35_code 6 = .ok (.istore_n 1, 1) := by decide +kernel
theorem dMo_step_7 : decode prog_9_method_35_code 7 = .ok (.iload_n 1, 1) := by decide +kernel
theorem dMo_step_8 : decode prog_9_method_35_code 8 = .ok (.ifCond .lt 63, 3) := by decide +kernel
theorem dMo_step_11 : decode prog_9_method_35_code 11 = .ok (.aload_n 0, 1) := by decide +kernel
theorem dMo_step_12 : decode prog_9_method_35_code 12 = .ok (.getfield 29, 3) := by decide +kernel
theorem dMo_step_15 : decode prog_9_method_35_code 15 = .ok (.iload_n 1, 1) := by decide +kernel
theorem dMo_step_16 : decode prog_9_method_35_code 16 = .ok (.iaload, 1) := by decide +kernel
theorem dMo_step_17 : decode prog_9_method_35_code 17 = .ok (.iconst 2, 1) := by decide +kernel
theorem dMo_step_18 : decode prog_9_method_35_code 18 = .ok (.if_icmp .ne 47, 3) := by decide +kernel
theorem dMo_step_21 : decode prog_9_method_35_code 21 = .ok (.aload_n 0, 1) := by decide +kernel
theorem dMo_step_22 : decode prog_9_method_35_code 22 = .ok (.getfield 38, 3) := by decide +kernel
theorem dMo_step_25 : decode prog_9_method_35_code 25 = .ok (.iload_n 1, 1) := by decide +kernel
theorem dMo_step_26 : decode prog_9_method_35_code 26 = .ok (.iaload, 1) := by decide +kernel
theorem dMo_step_27 : decode prog_9_method_35_code 27 = .ok (.aload_n 0, 1) := by decide +kernel
theorem dMo_step_28 : decode prog_9_method_35_code 28 = .ok (.getfield 155, 3) := by decide +kernel
theorem dMo_step_31 : decode prog_9_method_35_code 31 = .ok (.if_icmp .eq 6, 3) := by decide +kernel
theorem dMo_step_34 : decode prog_9_method_35_code 34 = .ok (.goto 31, 3) := by decide +kernel
theorem dMo_step_37 : decode prog_9_method_35_code 37 = .ok (.aload_n 0, 1) := by decide +kernel
theorem dMo_step_38 : decode prog_9_method_35_code 38 = .ok (.dup, 1) := by decide +kernel
theorem dMo_step_39 : decode prog_9_method_35_code 39 = .ok (.getfield 176, 3) := by decide +kernel
theorem dMo_step_42 : decode prog_9_method_35_code 42 = .ok (.aload_n 0, 1) := by decide +kernel
theorem dMo_step_43 : decode prog_9_method_35_code 43 = .ok (.getfield 41, 3) := by decide +kernel
theorem dMo_step_46 : decode prog_9_method_35_code 46 = .ok (.iload_n 1, 1) := by decide +kernel
theorem dMo_step_47 : decode prog_9_method_35_code 47 = .ok (.iaload, 1) := by decide +kernel
theorem dMo_step_48 : decode prog_9_method_35_code 48 = .ok (.ifCond .le 7, 3) := by decide +kernel
theorem dMo_step_51 : decode prog_9_method_35_code 51 = .ok (.iconst 1, 1) := by decide +kernel
theorem dMo_step_52 : decode prog_9_method_35_code 52 = .ok (.goto 4, 3) := by decide +kernel
theorem dMo_step_55 : decode prog_9_method_35_code 55 = .ok (.iconst 0, 1) := by decide +kernel
theorem dMo_step_56 : decode prog_9_method_35_code 56 = .ok (.iadd, 1) := by decide +kernel
theorem dMo_step_57 : decode prog_9_method_35_code 57 = .ok (.putfield 176, 3) := by decide +kernel
theorem dMo_step_60 : decode prog_9_method_35_code 60 = .ok (.aload_n 0, 1) := by decide +kernel
theorem dMo_step_61 : decode prog_9_method_35_code 61 = .ok (.iload_n 1, 1) := by decide +kernel
theorem dMo_step_62 : decode prog_9_method_35_code 62 = .ok (.invokevirtual 170, 3) := by decide +kernel
theorem dMo_step_65 : decode prog_9_method_35_code 65 = .ok (.iinc 1 (-1), 3) := by decide +kernel
theorem dMo_step_68 : decode prog_9_method_35_code 68 = .ok (.goto (-61), 3) := by decide +kernel
theorem dMo_step_71 : decode prog_9_method_35_code 71 = .ok (.iconst 0, 1) := by decide +kernel
theorem dMo_step_72 : decode prog_9_method_35_code 72 = .ok (.istore_n 1, 1) := by decide +kernel
theorem dMo_step_73 : decode prog_9_method_35_code 73 = .ok (.iload_n 1, 1) := by decide +kernel
theorem dMo_step_74 : decode prog_9_method_35_code 74 = .ok (.aload_n 0, 1) := by decide +kernel
theorem dMo_step_75 : decode prog_9_method_35_code 75 = .ok (.getfield 105, 3) := by decide +kernel
theorem dMo_step_78 : decode prog_9_method_35_code 78 = .ok (.if_icmp .ge 79, 3) := by decide +kernel
theorem dMo_step_81 : decode prog_9_method_35_code 81 = .ok (.aload_n 0, 1) := by decide +kernel
theorem dMo_step_82 : decode prog_9_method_35_code 82 = .ok (.getfield 29, 3) := by decide +kernel
theorem dMo_step_85 : decode prog_9_method_35_code 85 = .ok (.iload_n 1, 1) := by decide +kernel
theorem dMo_step_86 : decode prog_9_method_35_code 86 = .ok (.iaload, 1) := by decide +kernel
theorem dMo_step_87 : decode prog_9_method_35_code 87 = .ok (.ifCond .ne 18, 3) := by decide +kernel
theorem dMo_step_90 : decode prog_9_method_35_code 90 = .ok (.aload_n 0, 1) := by decide +kernel
theorem dMo_step_91 : decode prog_9_method_35_code 91 = .ok (.getfield 155, 3) := by decide +kernel
theorem dMo_step_94 : decode prog_9_method_35_code 94 = .ok (.aload_n 0, 1) := by decide +kernel
theorem dMo_step_95 : decode prog_9_method_35_code 95 = .ok (.getfield 152, 3) := by decide +kernel
theorem dMo_step_98 : decode prog_9_method_35_code 98 = .ok (.if_icmp .lt 7, 3) := by decide +kernel
theorem dMo_step_101 : decode prog_9_method_35_code 101 = .ok (.iconst 1, 1) := by decide +kernel
theorem dMo_step_102 : decode prog_9_method_35_code 102 = .ok (.goto 4, 3) := by decide +kernel
theorem dMo_step_105 : decode prog_9_method_35_code 105 = .ok (.iconst 0, 1) := by decide +kernel
theorem dMo_step_106 : decode prog_9_method_35_code 106 = .ok (.istore_n 2, 1) := by decide +kernel
theorem dMo_step_107 : decode prog_9_method_35_code 107 = .ok (.iload_n 2, 1) := by decide +kernel
theorem dMo_step_108 : decode prog_9_method_35_code 108 = .ok (.ifCond .eq 10, 3) := by decide +kernel
theorem dMo_step_111 : decode prog_9_method_35_code 111 = .ok (.aload_n 0, 1) := by decide +kernel
theorem dMo_step_112 : decode prog_9_method_35_code 112 = .ok (.getfield 29, 3) := by decide +kernel
theorem dMo_step_115 : decode prog_9_method_35_code 115 = .ok (.iload_n 1, 1) := by decide +kernel
theorem dMo_step_116 : decode prog_9_method_35_code 116 = .ok (.iconst 1, 1) := by decide +kernel
theorem dMo_step_117 : decode prog_9_method_35_code 117 = .ok (.iastore, 1) := by decide +kernel
theorem dMo_step_118 : decode prog_9_method_35_code 118 = .ok (.iload_n 2, 1) := by decide +kernel
theorem dMo_step_119 : decode prog_9_method_35_code 119 = .ok (.ifCond .ne 26, 3) := by decide +kernel
theorem dMo_step_122 : decode prog_9_method_35_code 122 = .ok (.aload_n 0, 1) := by decide +kernel
theorem dMo_step_123 : decode prog_9_method_35_code 123 = .ok (.getfield 29, 3) := by decide +kernel
theorem dMo_step_126 : decode prog_9_method_35_code 126 = .ok (.iload_n 1, 1) := by decide +kernel
theorem dMo_step_127 : decode prog_9_method_35_code 127 = .ok (.iaload, 1) := by decide +kernel
theorem dMo_step_128 : decode prog_9_method_35_code 128 = .ok (.iconst 1, 1) := by decide +kernel
theorem dMo_step_129 : decode prog_9_method_35_code 129 = .ok (.if_icmp .ne 22, 3) := by decide +kernel
theorem dMo_step_132 : decode prog_9_method_35_code 132 = .ok (.aload_n 0, 1) := by decide +kernel
theorem dMo_step_133 : decode prog_9_method_35_code 133 = .ok (.getfield 38, 3) := by decide +kernel
theorem dMo_step_136 : decode prog_9_method_35_code 136 = .ok (.iload_n 1, 1) := by decide +kernel
theorem dMo_step_137 : decode prog_9_method_35_code 137 = .ok (.iaload, 1) := by decide +kernel
theorem dMo_step_138 : decode prog_9_method_35_code 138 = .ok (.aload_n 0, 1) := by decide +kernel
theorem dMo_step_139 : decode prog_9_method_35_code 139 = .ok (.getfield 155, 3) := by decide +kernel
theorem dMo_step_142 : decode prog_9_method_35_code 142 = .ok (.if_icmp .ne 9, 3) := by decide +kernel
theorem dMo_step_145 : decode prog_9_method_35_code 145 = .ok (.aload_n 0, 1) := by decide +kernel
theorem dMo_step_146 : decode prog_9_method_35_code 146 = .ok (.iload_n 1, 1) := by decide +kernel
theorem dMo_step_147 : decode prog_9_method_35_code 147 = .ok (.iload_n 2, 1) := by decide +kernel
theorem dMo_step_148 : decode prog_9_method_35_code 148 = .ok (.invokevirtual 179, 3) := by decide +kernel
theorem dMo_step_151 : decode prog_9_method_35_code 151 = .ok (.iinc 1 1, 3) := by decide +kernel
theorem dMo_step_154 : decode prog_9_method_35_code 154 = .ok (.goto (-81), 3) := by decide +kernel
theorem dMo_step_157 : decode prog_9_method_35_code 157 = .ok (.iconst (-1), 1) := by decide +kernel
theorem dMo_step_158 : decode prog_9_method_35_code 158 = .ok (.istore_n 1, 1) := by decide +kernel
theorem dMo_step_159 : decode prog_9_method_35_code 159 = .ok (.iconst 0, 1) := by decide +kernel
theorem dMo_step_160 : decode prog_9_method_35_code 160 = .ok (.istore_n 2, 1) := by decide +kernel
theorem dMo_step_161 : decode prog_9_method_35_code 161 = .ok (.iload_n 2, 1) := by decide +kernel
theorem dMo_step_162 : decode prog_9_method_35_code 162 = .ok (.aload_n 0, 1) := by decide +kernel
theorem dMo_step_163 : decode prog_9_method_35_code 163 = .ok (.getfield 105, 3) := by decide +kernel
theorem dMo_step_166 : decode prog_9_method_35_code 166 = .ok (.if_icmp .ge 40, 3) := by decide +kernel
theorem dMo_step_169 : decode prog_9_method_35_code 169 = .ok (.aload_n 0, 1) := by decide +kernel
theorem dMo_step_170 : decode prog_9_method_35_code 170 = .ok (.getfield 41, 3) := by decide +kernel
theorem dMo_step_173 : decode prog_9_method_35_code 173 = .ok (.iload_n 2, 1) := by decide +kernel
theorem dMo_step_174 : decode prog_9_method_35_code 174 = .ok (.iaload, 1) := by decide +kernel
theorem dMo_step_175 : decode prog_9_method_35_code 175 = .ok (.ifCond .le 25, 3) := by decide +kernel
theorem dMo_step_178 : decode prog_9_method_35_code 178 = .ok (.iload_n 1, 1) := by decide +kernel
theorem dMo_step_179 : decode prog_9_method_35_code 179 = .ok (.iconst (-1), 1) := by decide +kernel
theorem dMo_step_180 : decode prog_9_method_35_code 180 = .ok (.if_icmp .eq 18, 3) := by decide +kernel
theorem dMo_step_183 : decode prog_9_method_35_code 183 = .ok (.aload_n 0, 1) := by decide +kernel
theorem dMo_step_184 : decode prog_9_method_35_code 184 = .ok (.getfield 53, 3) := by decide +kernel
theorem dMo_step_187 : decode prog_9_method_35_code 187 = .ok (.iload_n 2, 1) := by decide +kernel
theorem dMo_step_188 : decode prog_9_method_35_code 188 = .ok (.iaload, 1) := by decide +kernel
theorem dMo_step_189 : decode prog_9_method_35_code 189 = .ok (.aload_n 0, 1) := by decide +kernel
theorem dMo_step_190 : decode prog_9_method_35_code 190 = .ok (.getfield 53, 3) := by decide +kernel
theorem dMo_step_193 : decode prog_9_method_35_code 193 = .ok (.iload_n 1, 1) := by decide +kernel
theorem dMo_step_194 : decode prog_9_method_35_code 194 = .ok (.iaload, 1) := by decide +kernel
theorem dMo_step_195 : decode prog_9_method_35_code 195 = .ok (.if_icmp .ge 5, 3) := by decide +kernel
theorem dMo_step_198 : decode prog_9_method_35_code 198 = .ok (.iload_n 2, 1) := by decide +kernel
theorem dMo_step_199 : decode prog_9_method_35_code 199 = .ok (.istore_n 1, 1) := by decide +kernel
theorem dMo_step_200 : decode prog_9_method_35_code 200 = .ok (.iinc 2 1, 3) := by decide +kernel
theorem dMo_step_203 : decode prog_9_method_35_code 203 = .ok (.goto (-42), 3) := by decide +kernel
theorem dMo_step_206 : decode prog_9_method_35_code 206 = .ok (.aload_n 0, 1) := by decide +kernel
theorem dMo_step_207 : decode prog_9_method_35_code 207 = .ok (.dup, 1) := by decide +kernel
theorem dMo_step_208 : decode prog_9_method_35_code 208 = .ok (.getfield 155, 3) := by decide +kernel
theorem dMo_step_211 : decode prog_9_method_35_code 211 = .ok (.iconst 1, 1) := by decide +kernel
theorem dMo_step_212 : decode prog_9_method_35_code 212 = .ok (.iadd, 1) := by decide +kernel
theorem dMo_step_213 : decode prog_9_method_35_code 213 = .ok (.putfield 155, 3) := by decide +kernel
theorem dMo_step_216 : decode prog_9_method_35_code 216 = .ok (.iload_n 1, 1) := by decide +kernel
theorem dMo_step_217 : decode prog_9_method_35_code 217 = .ok (.iconst (-1), 1) := by decide +kernel
theorem dMo_step_218 : decode prog_9_method_35_code 218 = .ok (.if_icmp .ne 5, 3) := by decide +kernel
theorem dMo_step_221 : decode prog_9_method_35_code 221 = .ok (.iconst 0, 1) := by decide +kernel
theorem dMo_step_222 : decode prog_9_method_35_code 222 = .ok (.ireturn, 1) := by decide +kernel
theorem dMo_step_223 : decode prog_9_method_35_code 223 = .ok (.aload_n 0, 1) := by decide +kernel
theorem dMo_step_224 : decode prog_9_method_35_code 224 = .ok (.getfield 41, 3) := by decide +kernel
theorem dMo_step_227 : decode prog_9_method_35_code 227 = .ok (.iload_n 1, 1) := by decide +kernel
theorem dMo_step_228 : decode prog_9_method_35_code 228 = .ok (.dup2, 1) := by decide +kernel
theorem dMo_step_229 : decode prog_9_method_35_code 229 = .ok (.iaload, 1) := by decide +kernel
theorem dMo_step_230 : decode prog_9_method_35_code 230 = .ok (.iconst 1, 1) := by decide +kernel
theorem dMo_step_231 : decode prog_9_method_35_code 231 = .ok (.isub, 1) := by decide +kernel
theorem dMo_step_232 : decode prog_9_method_35_code 232 = .ok (.iastore, 1) := by decide +kernel
theorem dMo_step_233 : decode prog_9_method_35_code 233 = .ok (.aload_n 0, 1) := by decide +kernel
theorem dMo_step_234 : decode prog_9_method_35_code 234 = .ok (.getfield 41, 3) := by decide +kernel
theorem dMo_step_237 : decode prog_9_method_35_code 237 = .ok (.iload_n 1, 1) := by decide +kernel
theorem dMo_step_238 : decode prog_9_method_35_code 238 = .ok (.iaload, 1) := by decide +kernel
theorem dMo_step_239 : decode prog_9_method_35_code 239 = .ok (.ifCond .ne 23, 3) := by decide +kernel
theorem dMo_step_242 : decode prog_9_method_35_code 242 = .ok (.aload_n 0, 1) := by decide +kernel
theorem dMo_step_243 : decode prog_9_method_35_code 243 = .ok (.getfield 47, 3) := by decide +kernel
theorem dMo_step_246 : decode prog_9_method_35_code 246 = .ok (.iload_n 1, 1) := by decide +kernel
theorem dMo_step_247 : decode prog_9_method_35_code 247 = .ok (.dup2, 1) := by decide +kernel
theorem dMo_step_248 : decode prog_9_method_35_code 248 = .ok (.iaload, 1) := by decide +kernel
theorem dMo_step_249 : decode prog_9_method_35_code 249 = .ok (.iconst 1, 1) := by decide +kernel
theorem dMo_step_250 : decode prog_9_method_35_code 250 = .ok (.iadd, 1) := by decide +kernel
theorem dMo_step_251 : decode prog_9_method_35_code 251 = .ok (.iastore, 1) := by decide +kernel
theorem dMo_step_252 : decode prog_9_method_35_code 252 = .ok (.aload_n 0, 1) := by decide +kernel
theorem dMo_step_253 : decode prog_9_method_35_code 253 = .ok (.getfield 50, 3) := by decide +kernel
theorem dMo_step_256 : decode prog_9_method_35_code 256 = .ok (.iload_n 1, 1) := by decide +kernel
theorem dMo_step_257 : decode prog_9_method_35_code 257 = .ok (.aload_n 0, 1) := by decide +kernel
theorem dMo_step_258 : decode prog_9_method_35_code 258 = .ok (.getfield 155, 3) := by decide +kernel
theorem dMo_step_261 : decode prog_9_method_35_code 261 = .ok (.iastore, 1) := by decide +kernel
theorem dMo_step_262 : decode prog_9_method_35_code 262 = .ok (.aload_n 0, 1) := by decide +kernel
theorem dMo_step_263 : decode prog_9_method_35_code 263 = .ok (.getfield 13, 3) := by decide +kernel
theorem dMo_step_266 : decode prog_9_method_35_code 266 = .ok (.iload_n 1, 1) := by decide +kernel
theorem dMo_step_267 : decode prog_9_method_35_code 267 = .ok (.iaload, 1) := by decide +kernel
theorem dMo_step_268 : decode prog_9_method_35_code 268 = .ok (.ireturn, 1) := by decide +kernel
set_option maxHeartbeats 4000000 in
set_option maxRecDepth 100000 in
theorem wMo_step_65 {l : Launch} {G : ek_G} {kd : Nat → Nat} {p : Program} {e : Env} {s : State} {m : MethodId} {args : Array Value} {below : List Frame} {meth : Method} {c : Code} (X : ek_X p s m meth c args G prog_9_method_35_code 3 "ElasticKernelModel" (some .int)) {q : ek_St × Int32} {k7 : (ek_St × Nat × Int32) → Option (ek_St × Int32)} (hk7 : ∀ q0 : ek_St × Nat × Int32, k7 q0 = some q → ∀ (H : Heap) (locs : List Loc) (ls : Array Slot), ek_W G kd q0.1 H → va_S (ek_A G kd) s.heap H locs → lv_has ls 3 [(0, ek_r G q0.2.1), (1, .int q0.2.2)] → W p l e ({ frames := 3, cells := 0, slots := 0, locals := 67 } : Room) s m args below meth c H locs 0 0 (MQ below (ek_Q G kd (some (.int q.2)) q.1) args s 0 0 (ek_A G kd)) (F0 m 7 ls [])) {I : ek_St} {x0 : Nat} {i1 : Int32} (hf : fMo_step_65 kd k7 I x0 i1 = some q) {H : Heap} {locs : List Loc} {ls : Array Slot} (hw : ek_W G kd I H) (hS : va_S (ek_A G kd) s.heap H locs) (hl : lv_has ls 3 [(0, ek_r G x0), (1, .int i1)]) : W p l e ({ frames := 3, cells := 0, slots := 0, locals := 67 } : Room) s m args below meth c H locs 0 0 (MQ below (ek_Q G kd (some (.int q.2)) q.1) args s 0 0 (ek_A G kd)) (F0 m 65 ls []) := by
  obtain ⟨hx, hb, hml, hown, hts, hr, hlocks, hK⟩ := id X
  have hA : ∀ q, ek_A G kd q → ek_A G kd q := fun _ h => h
  unfold fMo_step_65 at hf
  refine ek_iinc hx hb 1 (fun i1_1 => [(1, .int i1_1), (0, ek_r G x0)]) dMo_step_65 hl rfl (v := i1 + (-1 : Int32)) rfl hf (by decide) (fun i1_1 => ek_s1k 0 rfl rfl ek_r_cat rfl rfl) (fun i1_1 ls hf hl => ?_)
  refine lv_goto (tgt := 7) hx hb dMo_step_68 (by decide) ?_
  exact hk7 (I, x0, i1_1) hf _ _ _ hw hS (lv_sub hl [1, 0] rfl)
set_option maxHeartbeats 4000000 in
set_option maxRecDepth 100000 in
theorem wMo_step_56 {l : Launch} {G : ek_G} {kd : Nat → Nat} {p : Program} {e : Env} {s : State} {m : MethodId} {args : Array Value} {below : List Frame} {meth : Method} {c : Code} (X : ek_X p s m meth c args G prog_9_method_35_code 3 "ElasticKernelModel" (some .int)) {q : ek_St × Int32} {k7 : (ek_St × Nat × Int32) → Option (ek_St × Int32)} (hk7 : ∀ q0 : ek_St × Nat × Int32, k7 q0 = some q → ∀ (H : Heap) (locs : List Loc) (ls : Array Slot), ek_W G kd q0.1 H → va_S (ek_A G kd) s.heap H locs → lv_has ls 3 [(0, ek_r G q0.2.1), (1, .int q0.2.2)] → W p l e ({ frames := 3, cells := 0, slots := 0, locals := 67 } : Room) s m args below meth c H locs 0 0 (MQ below (ek_Q G kd (some (.int q.2)) q.1) args s 0 0 (ek_A G kd)) (F0 m 7 ls [])) {I : ek_St} {x0 : Nat} {i1 : Int32} {t0 : Nat} {t1 : Int32} {t2 : Int32} (hf : fMo_step_56 kd k7 I x0 i1 t0 t1 t2 = some q) {H : Heap} {locs : List Loc} {ls : Array Slot} (hw : ek_W G kd I H) (hS : va_S (ek_A G kd) s.heap H locs) (hl : lv_has ls 3 [(0, ek_r G x0), (1, .int i1)]) : W p l e ({ frames := 3, cells := 0, slots := 0, locals := 67 } : Room) s m args below meth c H locs 0 0 (MQ below (ek_Q G kd (some (.int q.2)) q.1) args s 0 0 (ek_A G kd)) (F0 m 56 ls [.int t2, .int t1, ek_r G t0]) := by
  obtain ⟨hx, hb, hml, hown, hts, hr, hlocks, hK⟩ := id X
  have hA : ∀ q, ek_A G kd q → ek_A G kd q := fun _ h => h
  unfold fMo_step_56 at hf
  refine lv_iadd hx hb dMo_step_56 ?_
  refine ek_puti hx hb 8 hts (in_Mo) ty_Mo ty_Mo_ok nm_Mo hown hK hw hS hA rfl (by decide) (by decide) 3 (by decide) rfl (hts _ q_579) rfl rfl rfl hf dMo_step_57 (fun I1 H locs hf hw hS => ?_)
  refine ek_aload_n hx hb dMo_step_60 rfl (lv_at hl 0 rfl) ?_
  refine lv_iload_n hx hb dMo_step_61 rfl (lv_at hl 1 rfl) ?_
  obtain ⟨hx3, hf⟩ := ek_ck_s hf
  refine ek_cv hf hS hA (fun I' hq => ek_rV (As := [.int i1]) ⟨hx, hb, hml, hown, hts⟩ hK hw 8 rfl (by decide) (by decide) hx3 (mMo_remove hq) (cwV 1 hts (lw_V q_702 q_704 p_26 q_8 q_705) rfl rfl rfl (by decide +kernel) ⟨Nat.le_of_ble_eq_true rfl, Nat.le_of_ble_eq_true rfl⟩) rfl hl.1 rfl (Nat.le_of_ble_eq_true rfl) dMo_step_62 ⟨Nat.zero_le _, Nat.zero_le _⟩) (fun I2 H locs hf hw hS => ?_)
  exact wMo_step_65 X hk7 hf hw hS (lv_sub hl [0, 1] rfl)
set_option maxHeartbeats 4000000 in
set_option maxRecDepth 100000 in
theorem wMo_step_151 {l : Launch} {G : ek_G} {kd : Nat → Nat} {p : Program} {e : Env} {s : State} {m : MethodId} {args : Array Value} {below : List Frame} {meth : Method} {c : Code} (X : ek_X p s m meth c args G prog_9_method_35_code 3 "ElasticKernelModel" (some .int)) {q : ek_St × Int32} {k73 : (ek_St × Nat × Int32) → Option (ek_St × Int32)} (hk73 : ∀ q0 : ek_St × Nat × Int32, k73 q0 = some q → ∀ (H : Heap) (locs : List Loc) (ls : Array Slot), ek_W G kd q0.1 H → va_S (ek_A G kd) s.heap H locs → lv_has ls 3 [(0, ek_r G q0.2.1), (1, .int q0.2.2)] → W p l e ({ frames := 3, cells := 0, slots := 0, locals := 67 } : Room) s m args below meth c H locs 0 0 (MQ below (ek_Q G kd (some (.int q.2)) q.1) args s 0 0 (ek_A G kd)) (F0 m 73 ls [])) {I : ek_St} {x0 : Nat} {i1 : Int32} (hf : fMo_step_151 kd k73 I x0 i1 = some q) {H : Heap} {locs : List Loc} {ls : Array Slot} (hw : ek_W G kd I H) (hS : va_S (ek_A G kd) s.heap H locs) (hl : lv_has ls 3 [(0, ek_r G x0), (1, .int i1)]) : W p l e ({ frames := 3, cells := 0, slots := 0, locals := 67 } : Room) s m args below meth c H locs 0 0 (MQ below (ek_Q G kd (some (.int q.2)) q.1) args s 0 0 (ek_A G kd)) (F0 m 151 ls []) := by
  obtain ⟨hx, hb, hml, hown, hts, hr, hlocks, hK⟩ := id X
  have hA : ∀ q, ek_A G kd q → ek_A G kd q := fun _ h => h
  unfold fMo_step_151 at hf
  refine ek_iinc hx hb 1 (fun i1_1 => [(1, .int i1_1), (0, ek_r G x0)]) dMo_step_151 hl rfl (v := i1 + (1 : Int32)) rfl hf (by decide) (fun i1_1 => ek_s1k 0 rfl rfl ek_r_cat rfl rfl) (fun i1_1 ls hf hl => ?_)
  refine lv_goto (tgt := 73) hx hb dMo_step_154 (by decide) ?_
  exact hk73 (I, x0, i1_1) hf _ _ _ hw hS (lv_sub hl [1, 0] rfl)
set_option maxHeartbeats 4000000 in
set_option maxRecDepth 100000 in
theorem wMo_step_145 {l : Launch} {G : ek_G} {kd : Nat → Nat} {p : Program} {e : Env} {s : State} {m : MethodId} {args : Array Value} {below : List Frame} {meth : Method} {c : Code} (X : ek_X p s m meth c args G prog_9_method_35_code 3 "ElasticKernelModel" (some .int)) {q : ek_St × Int32} {k73 : (ek_St × Nat × Int32) → Option (ek_St × Int32)} (hk73 : ∀ q0 : ek_St × Nat × Int32, k73 q0 = some q → ∀ (H : Heap) (locs : List Loc) (ls : Array Slot), ek_W G kd q0.1 H → va_S (ek_A G kd) s.heap H locs → lv_has ls 3 [(0, ek_r G q0.2.1), (1, .int q0.2.2)] → W p l e ({ frames := 3, cells := 0, slots := 0, locals := 67 } : Room) s m args below meth c H locs 0 0 (MQ below (ek_Q G kd (some (.int q.2)) q.1) args s 0 0 (ek_A G kd)) (F0 m 73 ls [])) {I : ek_St} {x0 : Nat} {i1 : Int32} {i2 : Int32} (hf : fMo_step_145 kd k73 I x0 i1 i2 = some q) {H : Heap} {locs : List Loc} {ls : Array Slot} (hw : ek_W G kd I H) (hS : va_S (ek_A G kd) s.heap H locs) (hl : lv_has ls 3 [(0, ek_r G x0), (1, .int i1), (2, .int i2)]) : W p l e ({ frames := 3, cells := 0, slots := 0, locals := 67 } : Room) s m args below meth c H locs 0 0 (MQ below (ek_Q G kd (some (.int q.2)) q.1) args s 0 0 (ek_A G kd)) (F0 m 145 ls []) := by
  obtain ⟨hx, hb, hml, hown, hts, hr, hlocks, hK⟩ := id X
  have hA : ∀ q, ek_A G kd q → ek_A G kd q := fun _ h => h
  unfold fMo_step_145 at hf
  refine ek_aload_n hx hb dMo_step_145 rfl (lv_at hl 0 rfl) ?_
  refine lv_iload_n hx hb dMo_step_146 rfl (lv_at hl 1 rfl) ?_
  refine lv_iload_n hx hb dMo_step_147 rfl (lv_at hl 2 rfl) ?_
  obtain ⟨hx2, hf⟩ := ek_ck_s hf
  refine ek_cv hf hS hA (fun I' hq => ek_rV (As := [.int i1, .int i2]) ⟨hx, hb, hml, hown, hts⟩ hK hw 8 rfl (by decide) (by decide) hx2 (mMo_release hq) (cwV 2 hts (lw_V q_767 q_769 p_38 q_8 q_770) rfl rfl rfl (by decide +kernel) ⟨Nat.le_of_ble_eq_true rfl, Nat.le_of_ble_eq_true rfl⟩) rfl hl.1 rfl (Nat.le_of_ble_eq_true rfl) dMo_step_148 ⟨Nat.zero_le _, Nat.zero_le _⟩) (fun I1 H locs hf hw hS => ?_)
  exact wMo_step_151 X hk73 hf hw hS (lv_sub hl [0, 1] rfl)
set_option maxHeartbeats 4000000 in
set_option maxRecDepth 100000 in
theorem wMo_step_118 {l : Launch} {G : ek_G} {kd : Nat → Nat} {p : Program} {e : Env} {s : State} {m : MethodId} {args : Array Value} {below : List Frame} {meth : Method} {c : Code} (X : ek_X p s m meth c args G prog_9_method_35_code 3 "ElasticKernelModel" (some .int)) {q : ek_St × Int32} {k73 : (ek_St × Nat × Int32) → Option (ek_St × Int32)} (hk73 : ∀ q0 : ek_St × Nat × Int32, k73 q0 = some q → ∀ (H : Heap) (locs : List Loc) (ls : Array Slot), ek_W G kd q0.1 H → va_S (ek_A G kd) s.heap H locs → lv_has ls 3 [(0, ek_r G q0.2.1), (1, .int q0.2.2)] → W p l e ({ frames := 3, cells := 0, slots := 0, locals := 67 } : Room) s m args below meth c H locs 0 0 (MQ below (ek_Q G kd (some (.int q.2)) q.1) args s 0 0 (ek_A G kd)) (F0 m 73 ls [])) {I : ek_St} {x0 : Nat} {i1 : Int32} {i2 : Int32} (hf : fMo_step_118 kd k73 I x0 i1 i2 = some q) {H : Heap} {locs : List Loc} {ls : Array Slot} (hw : ek_W G kd I H) (hS : va_S (ek_A G kd) s.heap H locs) (hl : lv_has ls 3 [(0, ek_r G x0), (1, .int i1), (2, .int i2)]) : W p l e ({ frames := 3, cells := 0, slots := 0, locals := 67 } : Room) s m args below meth c H locs 0 0 (MQ below (ek_Q G kd (some (.int q.2)) q.1) args s 0 0 (ek_A G kd)) (F0 m 118 ls []) := by
  obtain ⟨hx, hb, hml, hown, hts, hr, hlocks, hK⟩ := id X
  have hA : ∀ q, ek_A G kd q → ek_A G kd q := fun _ h => h
  unfold fMo_step_118 at hf
  refine lv_iload_n hx hb dMo_step_118 rfl (lv_at hl 2 rfl) ?_
  refine lv_if_ne (tgt := 145) hx hb dMo_step_119 (by decide) (fun c1 => ?_) (fun c1 => ?_)
  · have hf := ek_f c1 hf
    exact wMo_step_145 X hk73 hf hw hS (lv_sub hl [0, 1, 2] rfl)
  · have hf := ek_t c1 hf
    refine ek_aload_n hx hb dMo_step_122 rfl (lv_at hl 0 rfl) ?_
    refine ek_getr hx hb 8 hts (in_Mo) hown hK hw rfl (by decide) (by decide) 13 (by decide) (n := 5) rfl rfl (hts _ q_589) hf dMo_step_123 (fun hf => ?_)
    refine lv_iload_n hx hb dMo_step_126 rfl (lv_at hl 1 rfl) ?_
    refine ek_iald hx hb hK hw 12 rfl hf dMo_step_127 (fun hf => ?_)
    refine lv_iconst (v := (1 : Int32)) hx hb dMo_step_128 (by decide) ?_
    refine lv_icmp_ne (tgt := 151) hx hb dMo_step_129 (by decide) (fun c2 => ?_) (fun c2 => ?_)
    · have hf := ek_f c2 hf
      exact wMo_step_151 X hk73 hf hw hS (lv_sub hl [0, 1] rfl)
    · have hf := ek_t c2 hf
      refine ek_aload_n hx hb dMo_step_132 rfl (lv_at hl 0 rfl) ?_
      refine ek_getr hx hb 8 hts (in_Mo) hown hK hw rfl (by decide) (by decide) 16 (by decide) (n := 8) rfl rfl (hts _ q_592) hf dMo_step_133 (fun hf => ?_)
      refine lv_iload_n hx hb dMo_step_136 rfl (lv_at hl 1 rfl) ?_
      refine ek_iald hx hb hK hw 12 rfl hf dMo_step_137 (fun hf => ?_)
      refine ek_aload_n hx hb dMo_step_138 rfl (lv_at hl 0 rfl) ?_
      refine ek_geti hx hb 8 hts (in_Mo) hown hK hw rfl (by decide) (by decide) 1 (by decide) rfl (hts _ q_577) hf dMo_step_139 (fun hf => ?_)
      refine lv_icmp_ne (tgt := 151) hx hb dMo_step_142 (by decide) (fun c3 => ?_) (fun c3 => ?_)
      · have hf := ek_f c3 hf
        exact wMo_step_151 X hk73 hf hw hS (lv_sub hl [0, 1] rfl)
      · have hf := ek_t c3 hf
        exact wMo_step_145 X hk73 hf hw hS (lv_sub hl [0, 1, 2] rfl)
set_option maxHeartbeats 4000000 in
set_option maxRecDepth 100000 in
theorem wMo_step_106 {l : Launch} {G : ek_G} {kd : Nat → Nat} {p : Program} {e : Env} {s : State} {m : MethodId} {args : Array Value} {below : List Frame} {meth : Method} {c : Code} (X : ek_X p s m meth c args G prog_9_method_35_code 3 "ElasticKernelModel" (some .int)) {q : ek_St × Int32} {k73 : (ek_St × Nat × Int32) → Option (ek_St × Int32)} (hk73 : ∀ q0 : ek_St × Nat × Int32, k73 q0 = some q → ∀ (H : Heap) (locs : List Loc) (ls : Array Slot), ek_W G kd q0.1 H → va_S (ek_A G kd) s.heap H locs → lv_has ls 3 [(0, ek_r G q0.2.1), (1, .int q0.2.2)] → W p l e ({ frames := 3, cells := 0, slots := 0, locals := 67 } : Room) s m args below meth c H locs 0 0 (MQ below (ek_Q G kd (some (.int q.2)) q.1) args s 0 0 (ek_A G kd)) (F0 m 73 ls [])) {I : ek_St} {x0 : Nat} {i1 : Int32} {t0 : Int32} (hf : fMo_step_106 kd k73 I x0 i1 t0 = some q) {H : Heap} {locs : List Loc} {ls : Array Slot} (hw : ek_W G kd I H) (hS : va_S (ek_A G kd) s.heap H locs) (hl : lv_has ls 3 [(0, ek_r G x0), (1, .int i1)]) : W p l e ({ frames := 3, cells := 0, slots := 0, locals := 67 } : Room) s m args below meth c H locs 0 0 (MQ below (ek_Q G kd (some (.int q.2)) q.1) args s 0 0 (ek_A G kd)) (F0 m 106 ls [.int t0]) := by
  obtain ⟨hx, hb, hml, hown, hts, hr, hlocks, hK⟩ := id X
  have hA : ∀ q, ek_A G kd q → ek_A G kd q := fun _ h => h
  unfold fMo_step_106 at hf
  refine ek_istore_n (lv' := [(2, .int t0), (1, .int i1), (0, ek_r G x0)]) hx hb dMo_step_106 rfl hl (by decide) (ek_s1k 1 rfl rfl rfl rfl rfl) (fun ls hl => ?_)
  refine lv_iload_n hx hb dMo_step_107 rfl (lv_at hl 0 rfl) ?_
  refine lv_if_eq (tgt := 118) hx hb dMo_step_108 (by decide) (fun c1 => ?_) (fun c1 => ?_)
  · have hf := ek_t c1 hf
    exact wMo_step_118 X hk73 hf hw hS (lv_sub hl [2, 1, 0] rfl)
  · have hf := ek_f c1 hf
    refine ek_aload_n hx hb dMo_step_111 rfl (lv_at hl 2 rfl) ?_
    refine ek_getr hx hb 8 hts (in_Mo) hown hK hw rfl (by decide) (by decide) 13 (by decide) (n := 5) rfl rfl (hts _ q_589) hf dMo_step_112 (fun hf => ?_)
    refine lv_iload_n hx hb dMo_step_115 rfl (lv_at hl 1 rfl) ?_
    refine lv_iconst (v := (1 : Int32)) hx hb dMo_step_116 (by decide) ?_
    refine ek_iast hx hb hK hw hS hA 12 rfl hf dMo_step_117 (fun I2 H locs hf hw hS => ?_)
    exact wMo_step_118 X hk73 hf hw hS (lv_sub hl [2, 1, 0] rfl)
set_option maxHeartbeats 4000000 in
set_option maxRecDepth 100000 in
theorem wMo_step_105 {l : Launch} {G : ek_G} {kd : Nat → Nat} {p : Program} {e : Env} {s : State} {m : MethodId} {args : Array Value} {below : List Frame} {meth : Method} {c : Code} (X : ek_X p s m meth c args G prog_9_method_35_code 3 "ElasticKernelModel" (some .int)) {q : ek_St × Int32} {k73 : (ek_St × Nat × Int32) → Option (ek_St × Int32)} (hk73 : ∀ q0 : ek_St × Nat × Int32, k73 q0 = some q → ∀ (H : Heap) (locs : List Loc) (ls : Array Slot), ek_W G kd q0.1 H → va_S (ek_A G kd) s.heap H locs → lv_has ls 3 [(0, ek_r G q0.2.1), (1, .int q0.2.2)] → W p l e ({ frames := 3, cells := 0, slots := 0, locals := 67 } : Room) s m args below meth c H locs 0 0 (MQ below (ek_Q G kd (some (.int q.2)) q.1) args s 0 0 (ek_A G kd)) (F0 m 73 ls [])) {I : ek_St} {x0 : Nat} {i1 : Int32} (hf : fMo_step_105 kd k73 I x0 i1 = some q) {H : Heap} {locs : List Loc} {ls : Array Slot} (hw : ek_W G kd I H) (hS : va_S (ek_A G kd) s.heap H locs) (hl : lv_has ls 3 [(0, ek_r G x0), (1, .int i1)]) : W p l e ({ frames := 3, cells := 0, slots := 0, locals := 67 } : Room) s m args below meth c H locs 0 0 (MQ below (ek_Q G kd (some (.int q.2)) q.1) args s 0 0 (ek_A G kd)) (F0 m 105 ls []) := by
  obtain ⟨hx, hb, hml, hown, hts, hr, hlocks, hK⟩ := id X
  have hA : ∀ q, ek_A G kd q → ek_A G kd q := fun _ h => h
  unfold fMo_step_105 at hf
  refine lv_iconst (v := (0 : Int32)) hx hb dMo_step_105 (by decide) ?_
  exact wMo_step_106 X hk73 hf hw hS (lv_sub hl [0, 1] rfl)
set_option maxHeartbeats 4000000 in
set_option maxRecDepth 100000 in
theorem wMo_step_200 {l : Launch} {G : ek_G} {kd : Nat → Nat} {p : Program} {e : Env} {s : State} {m : MethodId} {args : Array Value} {below : List Frame} {meth : Method} {c : Code} (X : ek_X p s m meth c args G prog_9_method_35_code 3 "ElasticKernelModel" (some .int)) {q : ek_St × Int32} {k161 : (ek_St × Nat × Int32 × Int32) → Option (ek_St × Int32)} (hk161 : ∀ q0 : ek_St × Nat × Int32 × Int32, k161 q0 = some q → ∀ (H : Heap) (locs : List Loc) (ls : Array Slot), ek_W G kd q0.1 H → va_S (ek_A G kd) s.heap H locs → lv_has ls 3 [(0, ek_r G q0.2.1), (1, .int q0.2.2.1), (2, .int q0.2.2.2)] → W p l e ({ frames := 3, cells := 0, slots := 0, locals := 67 } : Room) s m args below meth c H locs 0 0 (MQ below (ek_Q G kd (some (.int q.2)) q.1) args s 0 0 (ek_A G kd)) (F0 m 161 ls [])) {I : ek_St} {x0 : Nat} {i1 : Int32} {i2 : Int32} (hf : fMo_step_200 kd k161 I x0 i1 i2 = some q) {H : Heap} {locs : List Loc} {ls : Array Slot} (hw : ek_W G kd I H) (hS : va_S (ek_A G kd) s.heap H locs) (hl : lv_has ls 3 [(0, ek_r G x0), (1, .int i1), (2, .int i2)]) : W p l e ({ frames := 3, cells := 0, slots := 0, locals := 67 } : Room) s m args below meth c H locs 0 0 (MQ below (ek_Q G kd (some (.int q.2)) q.1) args s 0 0 (ek_A G kd)) (F0 m 200 ls []) := by
  obtain ⟨hx, hb, hml, hown, hts, hr, hlocks, hK⟩ := id X
  have hA : ∀ q, ek_A G kd q → ek_A G kd q := fun _ h => h
  unfold fMo_step_200 at hf
  refine ek_iinc hx hb 2 (fun i2_1 => [(2, .int i2_1), (1, .int i1), (0, ek_r G x0)]) dMo_step_200 hl rfl (v := i2 + (1 : Int32)) rfl hf (by decide) (fun i2_1 => ek_s1k 1 rfl rfl rfl rfl rfl) (fun i2_1 ls hf hl => ?_)
  refine lv_goto (tgt := 161) hx hb dMo_step_203 (by decide) ?_
  exact hk161 (I, x0, i1, i2_1) hf _ _ _ hw hS (lv_sub hl [2, 1, 0] rfl)
set_option maxHeartbeats 4000000 in
set_option maxRecDepth 100000 in
theorem wMo_step_198 {l : Launch} {G : ek_G} {kd : Nat → Nat} {p : Program} {e : Env} {s : State} {m : MethodId} {args : Array Value} {below : List Frame} {meth : Method} {c : Code} (X : ek_X p s m meth c args G prog_9_method_35_code 3 "ElasticKernelModel" (some .int)) {q : ek_St × Int32} {k161 : (ek_St × Nat × Int32 × Int32) → Option (ek_St × Int32)} (hk161 : ∀ q0 : ek_St × Nat × Int32 × Int32, k161 q0 = some q → ∀ (H : Heap) (locs : List Loc) (ls : Array Slot), ek_W G kd q0.1 H → va_S (ek_A G kd) s.heap H locs → lv_has ls 3 [(0, ek_r G q0.2.1), (1, .int q0.2.2.1), (2, .int q0.2.2.2)] → W p l e ({ frames := 3, cells := 0, slots := 0, locals := 67 } : Room) s m args below meth c H locs 0 0 (MQ below (ek_Q G kd (some (.int q.2)) q.1) args s 0 0 (ek_A G kd)) (F0 m 161 ls [])) {I : ek_St} {x0 : Nat} {i2 : Int32} (hf : fMo_step_198 kd k161 I x0 i2 = some q) {H : Heap} {locs : List Loc} {ls : Array Slot} (hw : ek_W G kd I H) (hS : va_S (ek_A G kd) s.heap H locs) (hl : lv_has ls 3 [(0, ek_r G x0), (2, .int i2)]) : W p l e ({ frames := 3, cells := 0, slots := 0, locals := 67 } : Room) s m args below meth c H locs 0 0 (MQ below (ek_Q G kd (some (.int q.2)) q.1) args s 0 0 (ek_A G kd)) (F0 m 198 ls []) := by
  obtain ⟨hx, hb, hml, hown, hts, hr, hlocks, hK⟩ := id X
  have hA : ∀ q, ek_A G kd q → ek_A G kd q := fun _ h => h
  unfold fMo_step_198 at hf
  refine lv_iload_n hx hb dMo_step_198 rfl (lv_at hl 1 rfl) ?_
  refine ek_istore_n (lv' := [(1, .int i2), (0, ek_r G x0), (2, .int i2)]) hx hb dMo_step_199 rfl hl (by decide) (ek_s1k 0 rfl rfl ek_r_cat rfl rfl) (fun ls hl => ?_)
  exact wMo_step_200 X hk161 hf hw hS (lv_sub hl [1, 0, 2] rfl)
set_option maxHeartbeats 4000000 in
set_option maxRecDepth 100000 in
theorem wMo_step_262 {l : Launch} {G : ek_G} {kd : Nat → Nat} {p : Program} {e : Env} {s : State} {m : MethodId} {args : Array Value} {below : List Frame} {meth : Method} {c : Code} (X : ek_X p s m meth c args G prog_9_method_35_code 3 "ElasticKernelModel" (some .int)) {q : ek_St × Int32} {I : ek_St} {x0 : Nat} {i1 : Int32} (hf : fMo_step_262 kd I x0 i1 = some q) {H : Heap} {locs : List Loc} {ls : Array Slot} (hw : ek_W G kd I H) (hS : va_S (ek_A G kd) s.heap H locs) (hl : lv_has ls 3 [(0, ek_r G x0), (1, .int i1)]) : W p l e ({ frames := 3, cells := 0, slots := 0, locals := 67 } : Room) s m args below meth c H locs 0 0 (MQ below (ek_Q G kd (some (.int q.2)) q.1) args s 0 0 (ek_A G kd)) (F0 m 262 ls []) := by
  obtain ⟨hx, hb, hml, hown, hts, hr, hlocks, hK⟩ := id X
  have hA : ∀ q, ek_A G kd q → ek_A G kd q := fun _ h => h
  unfold fMo_step_262 at hf
  refine ek_aload_n hx hb dMo_step_262 rfl (lv_at hl 0 rfl) ?_
  refine ek_getr hx hb 8 hts (in_Mo) hown hK hw rfl (by decide) (by decide) 8 (by decide) (n := 0) rfl rfl (hts _ q_584) hf dMo_step_263 (fun hf => ?_)
  refine lv_iload_n hx hb dMo_step_266 rfl (lv_at hl 1 rfl) ?_
  refine ek_iald hx hb hK hw 12 rfl hf dMo_step_267 (fun hf => ?_)
  exact ek_iret hx hb hr hlocks hw hS hf dMo_step_268
set_option maxHeartbeats 4000000 in
set_option maxRecDepth 100000 in
theorem wMo_step_161 {l : Launch} {G : ek_G} {kd : Nat → Nat} {p : Program} {e : Env} {s : State} {m : MethodId} {args : Array Value} {below : List Frame} {meth : Method} {c : Code} (X : ek_X p s m meth c args G prog_9_method_35_code 3 "ElasticKernelModel" (some .int)) {q : ek_St × Int32} {k161 : (ek_St × Nat × Int32 × Int32) → Option (ek_St × Int32)} (hk161 : ∀ q0 : ek_St × Nat × Int32 × Int32, k161 q0 = some q → ∀ (H : Heap) (locs : List Loc) (ls : Array Slot), ek_W G kd q0.1 H → va_S (ek_A G kd) s.heap H locs → lv_has ls 3 [(0, ek_r G q0.2.1), (1, .int q0.2.2.1), (2, .int q0.2.2.2)] → W p l e ({ frames := 3, cells := 0, slots := 0, locals := 67 } : Room) s m args below meth c H locs 0 0 (MQ below (ek_Q G kd (some (.int q.2)) q.1) args s 0 0 (ek_A G kd)) (F0 m 161 ls [])) {I : ek_St} {x0 : Nat} {i1 : Int32} {i2 : Int32} (hf : fMo_step_161 kd k161 I x0 i1 i2 = some q) {H : Heap} {locs : List Loc} {ls : Array Slot} (hw : ek_W G kd I H) (hS : va_S (ek_A G kd) s.heap H locs) (hl : lv_has ls 3 [(0, ek_r G x0), (1, .int i1), (2, .int i2)]) : W p l e ({ frames := 3, cells := 0, slots := 0, locals := 67 } : Room) s m args below meth c H locs 0 0 (MQ below (ek_Q G kd (some (.int q.2)) q.1) args s 0 0 (ek_A G kd)) (F0 m 161 ls []) := by
  obtain ⟨hx, hb, hml, hown, hts, hr, hlocks, hK⟩ := id X
  have hA : ∀ q, ek_A G kd q → ek_A G kd q := fun _ h => h
  unfold fMo_step_161 at hf
  refine lv_iload_n hx hb dMo_step_161 rfl (lv_at hl 2 rfl) ?_
  refine ek_aload_n hx hb dMo_step_162 rfl (lv_at hl 0 rfl) ?_
  refine ek_geti hx hb 8 hts (in_Mo) hown hK hw rfl (by decide) (by decide) 7 (by decide) rfl (hts _ q_583) hf dMo_step_163 (fun hf => ?_)
  refine lv_icmp_ge (tgt := 206) hx hb dMo_step_166 (by decide) (fun c1 => ?_) (fun c1 => ?_)
  · have hf := ek_t c1 hf
    refine ek_aload_n hx hb dMo_step_206 rfl (lv_at hl 0 rfl) ?_
    refine lv_dup hx hb dMo_step_207 ek_r_cat ?_
    refine ek_geti hx hb 8 hts (in_Mo) hown hK hw rfl (by decide) (by decide) 1 (by decide) rfl (hts _ q_577) hf dMo_step_208 (fun hf => ?_)
    refine lv_iconst (v := (1 : Int32)) hx hb dMo_step_211 (by decide) ?_
    refine lv_iadd hx hb dMo_step_212 ?_
    refine ek_puti hx hb 8 hts (in_Mo) ty_Mo ty_Mo_ok nm_Mo hown hK hw hS hA rfl (by decide) (by decide) 1 (by decide) rfl (hts _ q_577) rfl rfl rfl hf dMo_step_213 (fun I2 H locs hf hw hS => ?_)
    refine lv_iload_n hx hb dMo_step_216 rfl (lv_at hl 1 rfl) ?_
    refine lv_iconst (v := (-1 : Int32)) hx hb dMo_step_217 (by decide) ?_
    refine lv_icmp_ne (tgt := 223) hx hb dMo_step_218 (by decide) (fun c3 => ?_) (fun c3 => ?_)
    · have hf := ek_f c3 hf
      refine ek_aload_n hx hb dMo_step_223 rfl (lv_at hl 0 rfl) ?_
      refine ek_getr hx hb 8 hts (in_Mo) hown hK hw rfl (by decide) (by decide) 17 (by decide) (n := 9) rfl rfl (hts _ q_593) hf dMo_step_224 (fun hf => ?_)
      refine lv_iload_n hx hb dMo_step_227 rfl (lv_at hl 1 rfl) ?_
      refine lv_dup2_11 hx hb dMo_step_228 rfl ek_r_cat ?_
      refine ek_iald hx hb hK hw 12 rfl hf dMo_step_229 (fun hf => ?_)
      refine lv_iconst (v := (1 : Int32)) hx hb dMo_step_230 (by decide) ?_
      refine lv_isub hx hb dMo_step_231 ?_
      refine ek_iast hx hb hK hw hS hA 12 rfl hf dMo_step_232 (fun I4 H locs hf hw hS => ?_)
      refine ek_aload_n hx hb dMo_step_233 rfl (lv_at hl 0 rfl) ?_
      refine ek_getr hx hb 8 hts (in_Mo) hown hK hw rfl (by decide) (by decide) 17 (by decide) (n := 9) rfl rfl (hts _ q_593) hf dMo_step_234 (fun hf => ?_)
      refine lv_iload_n hx hb dMo_step_237 rfl (lv_at hl 1 rfl) ?_
      refine ek_iald hx hb hK hw 12 rfl hf dMo_step_238 (fun hf => ?_)
      refine lv_if_ne (tgt := 262) hx hb dMo_step_239 (by decide) (fun c5 => ?_) (fun c5 => ?_)
      · have hf := ek_f c5 hf
        exact wMo_step_262 X hf hw hS (lv_sub hl [0, 1] rfl)
      · have hf := ek_t c5 hf
        refine ek_aload_n hx hb dMo_step_242 rfl (lv_at hl 0 rfl) ?_
        refine ek_getr hx hb 8 hts (in_Mo) hown hK hw rfl (by decide) (by decide) 19 (by decide) (n := 11) rfl rfl (hts _ q_595) hf dMo_step_243 (fun hf => ?_)
        refine lv_iload_n hx hb dMo_step_246 rfl (lv_at hl 1 rfl) ?_
        refine lv_dup2_11 hx hb dMo_step_247 rfl ek_r_cat ?_
        refine ek_iald hx hb hK hw 12 rfl hf dMo_step_248 (fun hf => ?_)
        refine lv_iconst (v := (1 : Int32)) hx hb dMo_step_249 (by decide) ?_
        refine lv_iadd hx hb dMo_step_250 ?_
        refine ek_iast hx hb hK hw hS hA 12 rfl hf dMo_step_251 (fun I6 H locs hf hw hS => ?_)
        refine ek_aload_n hx hb dMo_step_252 rfl (lv_at hl 0 rfl) ?_
        refine ek_getr hx hb 8 hts (in_Mo) hown hK hw rfl (by decide) (by decide) 20 (by decide) (n := 12) rfl rfl (hts _ q_596) hf dMo_step_253 (fun hf => ?_)
        refine lv_iload_n hx hb dMo_step_256 rfl (lv_at hl 1 rfl) ?_
        refine ek_aload_n hx hb dMo_step_257 rfl (lv_at hl 0 rfl) ?_
        refine ek_geti hx hb 8 hts (in_Mo) hown hK hw rfl (by decide) (by decide) 1 (by decide) rfl (hts _ q_577) hf dMo_step_258 (fun hf => ?_)
        refine ek_iast hx hb hK hw hS hA 12 rfl hf dMo_step_261 (fun I7 H locs hf hw hS => ?_)
        exact wMo_step_262 X hf hw hS (lv_sub hl [0, 1] rfl)
    · have hf := ek_t c3 hf
      refine lv_iconst (v := (0 : Int32)) hx hb dMo_step_221 (by decide) ?_
      exact ek_iret hx hb hr hlocks hw hS hf dMo_step_222
  · have hf := ek_f c1 hf
    refine ek_aload_n hx hb dMo_step_169 rfl (lv_at hl 0 rfl) ?_
    refine ek_getr hx hb 8 hts (in_Mo) hown hK hw rfl (by decide) (by decide) 17 (by decide) (n := 9) rfl rfl (hts _ q_593) hf dMo_step_170 (fun hf => ?_)
    refine lv_iload_n hx hb dMo_step_173 rfl (lv_at hl 2 rfl) ?_
    refine ek_iald hx hb hK hw 12 rfl hf dMo_step_174 (fun hf => ?_)
    refine lv_if_le (tgt := 200) hx hb dMo_step_175 (by decide) (fun c8 => ?_) (fun c8 => ?_)
    · have hf := ek_t c8 hf
      exact wMo_step_200 X hk161 hf hw hS (lv_sub hl [0, 1, 2] rfl)
    · have hf := ek_f c8 hf
      refine lv_iload_n hx hb dMo_step_178 rfl (lv_at hl 1 rfl) ?_
      refine lv_iconst (v := (-1 : Int32)) hx hb dMo_step_179 (by decide) ?_
      refine lv_icmp_eq (tgt := 198) hx hb dMo_step_180 (by decide) (fun c9 => ?_) (fun c9 => ?_)
      · have hf := ek_t c9 hf
        exact wMo_step_198 X hk161 hf hw hS (lv_sub hl [0, 2] rfl)
      · have hf := ek_f c9 hf
        refine ek_aload_n hx hb dMo_step_183 rfl (lv_at hl 0 rfl) ?_
        refine ek_getr hx hb 8 hts (in_Mo) hown hK hw rfl (by decide) (by decide) 21 (by decide) (n := 13) rfl rfl (hts _ q_597) hf dMo_step_184 (fun hf => ?_)
        refine lv_iload_n hx hb dMo_step_187 rfl (lv_at hl 2 rfl) ?_
        refine ek_iald hx hb hK hw 12 rfl hf dMo_step_188 (fun hf => ?_)
        refine ek_aload_n hx hb dMo_step_189 rfl (lv_at hl 0 rfl) ?_
        refine ek_getr hx hb 8 hts (in_Mo) hown hK hw rfl (by decide) (by decide) 21 (by decide) (n := 13) rfl rfl (hts _ q_597) hf dMo_step_190 (fun hf => ?_)
        refine lv_iload_n hx hb dMo_step_193 rfl (lv_at hl 1 rfl) ?_
        refine ek_iald hx hb hK hw 12 rfl hf dMo_step_194 (fun hf => ?_)
        refine lv_icmp_ge (tgt := 200) hx hb dMo_step_195 (by decide) (fun c10 => ?_) (fun c10 => ?_)
        · have hf := ek_t c10 hf
          exact wMo_step_200 X hk161 hf hw hS (lv_sub hl [0, 1, 2] rfl)
        · have hf := ek_f c10 hf
          exact wMo_step_198 X hk161 hf hw hS (lv_sub hl [0, 2] rfl)
set_option maxHeartbeats 4000000 in
set_option maxRecDepth 100000 in
theorem wMo_step_161_lp {l : Launch} {G : ek_G} {kd : Nat → Nat} {p : Program} {e : Env} {s : State} {m : MethodId} {args : Array Value} {below : List Frame} {meth : Method} {c : Code} (X : ek_X p s m meth c args G prog_9_method_35_code 3 "ElasticKernelModel" (some .int)) {q : ek_St × Int32} (n : Nat) : ∀ q0 : ek_St × Nat × Int32 × Int32, ek_lp (fun (k : (ek_St × Nat × Int32 × Int32) → Option (ek_St × Int32)) (q : (ek_St × Nat × Int32 × Int32)) => fMo_step_161 kd k q.1 q.2.1 q.2.2.1 q.2.2.2) n q0 = some q → ∀ (H : Heap) (locs : List Loc) (ls : Array Slot), ek_W G kd q0.1 H → va_S (ek_A G kd) s.heap H locs → lv_has ls 3 [(0, ek_r G q0.2.1), (1, .int q0.2.2.1), (2, .int q0.2.2.2)] → W p l e ({ frames := 3, cells := 0, slots := 0, locals := 67 } : Room) s m args below meth c H locs 0 0 (MQ below (ek_Q G kd (some (.int q.2)) q.1) args s 0 0 (ek_A G kd)) (F0 m 161 ls []) :=
  ek_lp_ind (fun k hk q0 hf => fun H locs ls hw hS hl => wMo_step_161 X hk hf hw hS hl) n
set_option maxHeartbeats 4000000 in
set_option maxRecDepth 100000 in
theorem wMo_step_73 {l : Launch} {G : ek_G} {kd : Nat → Nat} {p : Program} {e : Env} {s : State} {m : MethodId} {args : Array Value} {below : List Frame} {meth : Method} {c : Code} (X : ek_X p s m meth c args G prog_9_method_35_code 3 "ElasticKernelModel" (some .int)) {q : ek_St × Int32} {k73 : (ek_St × Nat × Int32) → Option (ek_St × Int32)} (hk73 : ∀ q0 : ek_St × Nat × Int32, k73 q0 = some q → ∀ (H : Heap) (locs : List Loc) (ls : Array Slot), ek_W G kd q0.1 H → va_S (ek_A G kd) s.heap H locs → lv_has ls 3 [(0, ek_r G q0.2.1), (1, .int q0.2.2)] → W p l e ({ frames := 3, cells := 0, slots := 0, locals := 67 } : Room) s m args below meth c H locs 0 0 (MQ below (ek_Q G kd (some (.int q.2)) q.1) args s 0 0 (ek_A G kd)) (F0 m 73 ls [])) {I : ek_St} {x0 : Nat} {i1 : Int32} (hf : fMo_step_73 kd k73 I x0 i1 = some q) {H : Heap} {locs : List Loc} {ls : Array Slot} (hw : ek_W G kd I H) (hS : va_S (ek_A G kd) s.heap H locs) (hl : lv_has ls 3 [(0, ek_r G x0), (1, .int i1)]) : W p l e ({ frames := 3, cells := 0, slots := 0, locals := 67 } : Room) s m args below meth c H locs 0 0 (MQ below (ek_Q G kd (some (.int q.2)) q.1) args s 0 0 (ek_A G kd)) (F0 m 73 ls []) := by
  obtain ⟨hx, hb, hml, hown, hts, hr, hlocks, hK⟩ := id X
  have hA : ∀ q, ek_A G kd q → ek_A G kd q := fun _ h => h
  unfold fMo_step_73 at hf
  refine lv_iload_n hx hb dMo_step_73 rfl (lv_at hl 1 rfl) ?_
  refine ek_aload_n hx hb dMo_step_74 rfl (lv_at hl 0 rfl) ?_
  refine ek_geti hx hb 8 hts (in_Mo) hown hK hw rfl (by decide) (by decide) 7 (by decide) rfl (hts _ q_583) hf dMo_step_75 (fun hf => ?_)
  refine lv_icmp_ge (tgt := 157) hx hb dMo_step_78 (by decide) (fun c1 => ?_) (fun c1 => ?_)
  · have hf := ek_t c1 hf
    refine lv_iconst (v := (-1 : Int32)) hx hb dMo_step_157 (by decide) ?_
    refine ek_istore_n (lv' := [(1, .int ((-1 : Int32))), (0, ek_r G x0)]) hx hb dMo_step_158 rfl hl (by decide) (ek_s1k 0 rfl rfl ek_r_cat rfl rfl) (fun ls hl => ?_)
    refine lv_iconst (v := (0 : Int32)) hx hb dMo_step_159 (by decide) ?_
    refine ek_istore_n (lv' := [(2, .int ((0 : Int32))), (1, .int ((-1 : Int32))), (0, ek_r G x0)]) hx hb dMo_step_160 rfl hl (by decide) (ek_s1k 0 rfl rfl rfl rfl rfl) (fun ls hl => ?_)
    exact wMo_step_161_lp X ek_N (I, x0, (-1 : Int32), (0 : Int32)) hf _ _ _ hw hS (lv_sub hl [2, 1, 0] rfl)
  · have hf := ek_f c1 hf
    refine ek_aload_n hx hb dMo_step_81 rfl (lv_at hl 0 rfl) ?_
    refine ek_getr hx hb 8 hts (in_Mo) hown hK hw rfl (by decide) (by decide) 13 (by decide) (n := 5) rfl rfl (hts _ q_589) hf dMo_step_82 (fun hf => ?_)
    refine lv_iload_n hx hb dMo_step_85 rfl (lv_at hl 1 rfl) ?_
    refine ek_iald hx hb hK hw 12 rfl hf dMo_step_86 (fun hf => ?_)
    refine lv_if_ne (tgt := 105) hx hb dMo_step_87 (by decide) (fun c2 => ?_) (fun c2 => ?_)
    · have hf := ek_f c2 hf
      exact wMo_step_105 X hk73 hf hw hS (lv_sub hl [0, 1] rfl)
    · have hf := ek_t c2 hf
      refine ek_aload_n hx hb dMo_step_90 rfl (lv_at hl 0 rfl) ?_
      refine ek_geti hx hb 8 hts (in_Mo) hown hK hw rfl (by decide) (by decide) 1 (by decide) rfl (hts _ q_577) hf dMo_step_91 (fun hf => ?_)
      refine ek_aload_n hx hb dMo_step_94 rfl (lv_at hl 0 rfl) ?_
      refine ek_geti hx hb 8 hts (in_Mo) hown hK hw rfl (by decide) (by decide) 5 (by decide) rfl (hts _ q_581) hf dMo_step_95 (fun hf => ?_)
      refine lv_icmp_lt (tgt := 105) hx hb dMo_step_98 (by decide) (fun c3 => ?_) (fun c3 => ?_)
      · have hf := ek_t c3 hf
        exact wMo_step_105 X hk73 hf hw hS (lv_sub hl [0, 1] rfl)
      · have hf := ek_f c3 hf
        refine lv_iconst (v := (1 : Int32)) hx hb dMo_step_101 (by decide) ?_
        refine lv_goto (tgt := 106) hx hb dMo_step_102 (by decide) ?_
        exact wMo_step_106 X hk73 hf hw hS (lv_sub hl [0, 1] rfl)
set_option maxHeartbeats 4000000 in
set_option maxRecDepth 100000 in
theorem wMo_step_73_lp {l : Launch} {G : ek_G} {kd : Nat → Nat} {p : Program} {e : Env} {s : State} {m : MethodId} {args : Array Value} {below : List Frame} {meth : Method} {c : Code} (X : ek_X p s m meth c args G prog_9_method_35_code 3 "ElasticKernelModel" (some .int)) {q : ek_St × Int32} (n : Nat) : ∀ q0 : ek_St × Nat × Int32, ek_lp (fun (k : (ek_St × Nat × Int32) → Option (ek_St × Int32)) (q : (ek_St × Nat × Int32)) => fMo_step_73 kd k q.1 q.2.1 q.2.2) n q0 = some q → ∀ (H : Heap) (locs : List Loc) (ls : Array Slot), ek_W G kd q0.1 H → va_S (ek_A G kd) s.heap H locs → lv_has ls 3 [(0, ek_r G q0.2.1), (1, .int q0.2.2)] → W p l e ({ frames := 3, cells := 0, slots := 0, locals := 67 } : Room) s m args below meth c H locs 0 0 (MQ below (ek_Q G kd (some (.int q.2)) q.1) args s 0 0 (ek_A G kd)) (F0 m 73 ls []) :=
  ek_lp_ind (fun k hk q0 hf => fun H locs ls hw hS hl => wMo_step_73 X hk hf hw hS hl) n
set_option maxHeartbeats 4000000 in
set_option maxRecDepth 100000 in
theorem wMo_step_7 {l : Launch} {G : ek_G} {kd : Nat → Nat} {p : Program} {e : Env} {s : State} {m : MethodId} {args : Array Value} {below : List Frame} {meth : Method} {c : Code} (X : ek_X p s m meth c args G prog_9_method_35_code 3 "ElasticKernelModel" (some .int)) {q : ek_St × Int32} {k7 : (ek_St × Nat × Int32) → Option (ek_St × Int32)} (hk7 : ∀ q0 : ek_St × Nat × Int32, k7 q0 = some q → ∀ (H : Heap) (locs : List Loc) (ls : Array Slot), ek_W G kd q0.1 H → va_S (ek_A G kd) s.heap H locs → lv_has ls 3 [(0, ek_r G q0.2.1), (1, .int q0.2.2)] → W p l e ({ frames := 3, cells := 0, slots := 0, locals := 67 } : Room) s m args below meth c H locs 0 0 (MQ below (ek_Q G kd (some (.int q.2)) q.1) args s 0 0 (ek_A G kd)) (F0 m 7 ls [])) {I : ek_St} {x0 : Nat} {i1 : Int32} (hf : fMo_step_7 kd k7 I x0 i1 = some q) {H : Heap} {locs : List Loc} {ls : Array Slot} (hw : ek_W G kd I H) (hS : va_S (ek_A G kd) s.heap H locs) (hl : lv_has ls 3 [(0, ek_r G x0), (1, .int i1)]) : W p l e ({ frames := 3, cells := 0, slots := 0, locals := 67 } : Room) s m args below meth c H locs 0 0 (MQ below (ek_Q G kd (some (.int q.2)) q.1) args s 0 0 (ek_A G kd)) (F0 m 7 ls []) := by
  obtain ⟨hx, hb, hml, hown, hts, hr, hlocks, hK⟩ := id X
  have hA : ∀ q, ek_A G kd q → ek_A G kd q := fun _ h => h
  unfold fMo_step_7 at hf
  refine lv_iload_n hx hb dMo_step_7 rfl (lv_at hl 1 rfl) ?_
  refine lv_if_lt (tgt := 71) hx hb dMo_step_8 (by decide) (fun c1 => ?_) (fun c1 => ?_)
  · have hf := ek_t c1 hf
    refine lv_iconst (v := (0 : Int32)) hx hb dMo_step_71 (by decide) ?_
    refine ek_istore_n (lv' := [(1, .int ((0 : Int32))), (0, ek_r G x0)]) hx hb dMo_step_72 rfl hl (by decide) (ek_s1k 0 rfl rfl ek_r_cat rfl rfl) (fun ls hl => ?_)
    exact wMo_step_73_lp X ek_N (I, x0, (0 : Int32)) hf _ _ _ hw hS (lv_sub hl [1, 0] rfl)
  · have hf := ek_f c1 hf
    refine ek_aload_n hx hb dMo_step_11 rfl (lv_at hl 0 rfl) ?_
    refine ek_getr hx hb 8 hts (in_Mo) hown hK hw rfl (by decide) (by decide) 13 (by decide) (n := 5) rfl rfl (hts _ q_589) hf dMo_step_12 (fun hf => ?_)
    refine lv_iload_n hx hb dMo_step_15 rfl (lv_at hl 1 rfl) ?_
    refine ek_iald hx hb hK hw 12 rfl hf dMo_step_16 (fun hf => ?_)
    refine lv_iconst (v := (2 : Int32)) hx hb dMo_step_17 (by decide) ?_
    refine lv_icmp_ne (tgt := 65) hx hb dMo_step_18 (by decide) (fun c2 => ?_) (fun c2 => ?_)
    · have hf := ek_f c2 hf
      exact wMo_step_65 X hk7 hf hw hS (lv_sub hl [0, 1] rfl)
    · have hf := ek_t c2 hf
      refine ek_aload_n hx hb dMo_step_21 rfl (lv_at hl 0 rfl) ?_
      refine ek_getr hx hb 8 hts (in_Mo) hown hK hw rfl (by decide) (by decide) 16 (by decide) (n := 8) rfl rfl (hts _ q_592) hf dMo_step_22 (fun hf => ?_)
      refine lv_iload_n hx hb dMo_step_25 rfl (lv_at hl 1 rfl) ?_
      refine ek_iald hx hb hK hw 12 rfl hf dMo_step_26 (fun hf => ?_)
      refine ek_aload_n hx hb dMo_step_27 rfl (lv_at hl 0 rfl) ?_
      refine ek_geti hx hb 8 hts (in_Mo) hown hK hw rfl (by decide) (by decide) 1 (by decide) rfl (hts _ q_577) hf dMo_step_28 (fun hf => ?_)
      refine lv_icmp_eq (tgt := 37) hx hb dMo_step_31 (by decide) (fun c3 => ?_) (fun c3 => ?_)
      · have hf := ek_t c3 hf
        refine ek_aload_n hx hb dMo_step_37 rfl (lv_at hl 0 rfl) ?_
        refine lv_dup hx hb dMo_step_38 ek_r_cat ?_
        refine ek_geti hx hb 8 hts (in_Mo) hown hK hw rfl (by decide) (by decide) 3 (by decide) rfl (hts _ q_579) hf dMo_step_39 (fun hf => ?_)
        refine ek_aload_n hx hb dMo_step_42 rfl (lv_at hl 0 rfl) ?_
        refine ek_getr hx hb 8 hts (in_Mo) hown hK hw rfl (by decide) (by decide) 17 (by decide) (n := 9) rfl rfl (hts _ q_593) hf dMo_step_43 (fun hf => ?_)
        refine lv_iload_n hx hb dMo_step_46 rfl (lv_at hl 1 rfl) ?_
        refine ek_iald hx hb hK hw 12 rfl hf dMo_step_47 (fun hf => ?_)
        refine lv_if_le (tgt := 55) hx hb dMo_step_48 (by decide) (fun c4 => ?_) (fun c4 => ?_)
        · have hf := ek_t c4 hf
          refine lv_iconst (v := (0 : Int32)) hx hb dMo_step_55 (by decide) ?_
          exact wMo_step_56 X hk7 hf hw hS (lv_sub hl [0, 1] rfl)
        · have hf := ek_f c4 hf
          refine lv_iconst (v := (1 : Int32)) hx hb dMo_step_51 (by decide) ?_
          refine lv_goto (tgt := 56) hx hb dMo_step_52 (by decide) ?_
          exact wMo_step_56 X hk7 hf hw hS (lv_sub hl [0, 1] rfl)
      · have hf := ek_f c3 hf
        refine lv_goto (tgt := 65) hx hb dMo_step_34 (by decide) ?_
        exact wMo_step_65 X hk7 hf hw hS (lv_sub hl [0, 1] rfl)
set_option maxHeartbeats 4000000 in
set_option maxRecDepth 100000 in
theorem wMo_step_7_lp {l : Launch} {G : ek_G} {kd : Nat → Nat} {p : Program} {e : Env} {s : State} {m : MethodId} {args : Array Value} {below : List Frame} {meth : Method} {c : Code} (X : ek_X p s m meth c args G prog_9_method_35_code 3 "ElasticKernelModel" (some .int)) {q : ek_St × Int32} (n : Nat) : ∀ q0 : ek_St × Nat × Int32, ek_lp (fun (k : (ek_St × Nat × Int32) → Option (ek_St × Int32)) (q : (ek_St × Nat × Int32)) => fMo_step_7 kd k q.1 q.2.1 q.2.2) n q0 = some q → ∀ (H : Heap) (locs : List Loc) (ls : Array Slot), ek_W G kd q0.1 H → va_S (ek_A G kd) s.heap H locs → lv_has ls 3 [(0, ek_r G q0.2.1), (1, .int q0.2.2)] → W p l e ({ frames := 3, cells := 0, slots := 0, locals := 67 } : Room) s m args below meth c H locs 0 0 (MQ below (ek_Q G kd (some (.int q.2)) q.1) args s 0 0 (ek_A G kd)) (F0 m 7 ls []) :=
  ek_lp_ind (fun k hk q0 hf => fun H locs ls hw hS hl => wMo_step_7 X hk hf hw hS hl) n
set_option maxHeartbeats 4000000 in
set_option maxRecDepth 100000 in
theorem wMo_step_0 {l : Launch} {G : ek_G} {kd : Nat → Nat} {p : Program} {e : Env} {s : State} {m : MethodId} {args : Array Value} {below : List Frame} {meth : Method} {c : Code} (X : ek_X p s m meth c args G prog_9_method_35_code 3 "ElasticKernelModel" (some .int)) {q : ek_St × Int32} {I : ek_St} {x0 : Nat} (hf : fMo_step_0 kd I x0 = some q) {H : Heap} {locs : List Loc} {ls : Array Slot} (hw : ek_W G kd I H) (hS : va_S (ek_A G kd) s.heap H locs) (hl : lv_has ls 3 [(0, ek_r G x0)]) : W p l e ({ frames := 3, cells := 0, slots := 0, locals := 67 } : Room) s m args below meth c H locs 0 0 (MQ below (ek_Q G kd (some (.int q.2)) q.1) args s 0 0 (ek_A G kd)) (F0 m 0 ls []) := by
  obtain ⟨hx, hb, hml, hown, hts, hr, hlocks, hK⟩ := id X
  have hA : ∀ q, ek_A G kd q → ek_A G kd q := fun _ h => h
  unfold fMo_step_0 at hf
  refine ek_aload_n hx hb dMo_step_0 rfl (lv_at hl 0 rfl) ?_
  refine ek_geti hx hb 8 hts (in_Mo) hown hK hw rfl (by decide) (by decide) 7 (by decide) rfl (hts _ q_583) hf dMo_step_1 (fun hf => ?_)
  refine lv_iconst (v := (1 : Int32)) hx hb dMo_step_4 (by decide) ?_
  refine lv_isub hx hb dMo_step_5 ?_
  refine ek_ti hf (fun i1_1 hf => ?_)
  refine ek_istore_n (lv' := [(1, .int i1_1), (0, ek_r G x0)]) hx hb dMo_step_6 rfl hl (by decide) (ek_s1k 0 rfl rfl ek_r_cat rfl rfl) (fun ls hl => ?_)
  exact wMo_step_7_lp X ek_N (I, x0, i1_1) hf _ _ _ hw hS (lv_sub hl [1, 0] rfl)
set_option maxHeartbeats 4000000 in
set_option maxRecDepth 100000 in
theorem mMo_step {l : Launch} {G : ek_G} {kd : Nat → Nat} {I : ek_St} {x0 : Nat} {q : ek_St × Int32} (hf : fMo_step kd I x0 = some q) : ek_M l G kd y_Mo_step (.code y_Mo_step prog_9_method_35_code 3 (some .int) :: lw_g) ({ frames := 3, cells := 0, slots := 0, locals := 67 } : Room) [ek_r G x0] I (some (.int q.2)) q.1 :=
  ek_body [(0, ek_r G x0)] (by decide) (by simp [lg_sl, ek_r_cat, ek_c_i, ek_c_l]) (by simp [lv_args, ek_r_cat, ek_c_i, ek_c_l]) (fun p e s m below meth c ls X hw hS hl => wMo_step_0 X hf hw hS hl)
/-! ElasticKernelModel.tick(I)I -/
def fMo_tick_34 (kd : Nat → Nat) (k34 : (ek_St × Nat × Int32 × Int32 × Int32) → Option (ek_St × Int32)) (I : ek_St) (x0 : Nat) (i1 : Int32) (i2 : Int32) (i3 : Int32) : Option (ek_St × Int32) :=
  if i1 ≤ i3 then (some (I, i2)) else (ek_ck (kd x0 = 8) (ek_bi (fMo_step kd I x0) (fun I2 ir4 => ek_let (i3 + (1 : Int32)) (fun i3_5 => k34 (I2, x0, i1, ir4, i3_5)))))
def fMo_tick_18 (kd : Nat → Nat) (I : ek_St) (x0 : Nat) (i1 : Int32) (t0 : Nat) (t1 : Int32) : Option (ek_St × Int32) :=
  ek_ck (kd t0 = 8) (ek_let (ek_up I t0 0 t1) (fun I1 => ek_ck (kd x0 = 8) (if (I1 x0 0) = ((0 : Int32)) then (ek_lp (fun (k : (ek_St × Nat × Int32 × Int32 × Int32) → Option (ek_St × Int32)) (q : (ek_St × Nat × Int32 × Int32 × Int32)) => fMo_tick_34 kd k q.1 q.2.1 q.2.2.1 q.2.2.2.1 q.2.2.2.2) ek_N (I1, x0, i1, (0 : Int32), (0 : Int32))) else (some (I1, (0 : Int32))))))
def fMo_tick_13 (kd : Nat → Nat) (I : ek_St) (x0 : Nat) (i1 : Int32) (t0 : Nat) : Option (ek_St × Int32) :=
  fMo_tick_18 kd I x0 i1 t0 ((1 : Int32))
def fMo_tick_0 (kd : Nat → Nat) (I : ek_St) (x0 : Nat) (i1 : Int32) : Option (ek_St × Int32) :=
  if i1 < ((1 : Int32)) then (fMo_tick_13 kd I x0 i1 x0) else (if i1 ≤ ((5000 : Int32)) then (fMo_tick_18 kd I x0 i1 x0 ((0 : Int32))) else (fMo_tick_13 kd I x0 i1 x0))
def fMo_tick (kd : Nat → Nat) (I : ek_St) (x0 : Nat) (i1 : Int32) : Option (ek_St × Int32) := fMo_tick_0 kd I x0 i1
theorem dMo_tick_0 : decode prog_9_method_36_code 0 = .ok (.aload_n 0, 1) := by decide +kernel
theorem dMo_tick_1 : decode prog_9_method_36_code 1 = .ok (.iload_n 1, 1) := by decide +kernel
theorem dMo_tick_2 : decode prog_9_method_36_code 2 = .ok (.iconst 1, 1) := by decide +kernel
theorem dMo_tick_3 : decode prog_9_method_36_code 3 = .ok (.if_icmp .lt 10, 3) := by decide +kernel
theorem dMo_tick_6 : decode prog_9_method_36_code 6 = .ok (.iload_n 1, 1) := by decide +kernel
theorem dMo_tick_7 : decode prog_9_method_36_code 7 = .ok (.sipush 5000, 3) := by decide +kernel
theorem dMo_tick_10 : decode prog_9_method_36_code 10 = .ok (.if_icmp .le 7, 3) := by decide +kernel
theorem dMo_tick_13 : decode prog_9_method_36_code 13 = .ok (.iconst 1, 1) := by decide +kernel
theorem dMo_tick_14 : decode prog_9_method_36_code 14 = .ok (.goto 4, 3) := by decide +kernel
theorem dMo_tick_17 : decode prog_9_method_36_code 17 = .ok (.iconst 0, 1) := by decide +kernel
theorem dMo_tick_18 : decode prog_9_method_36_code 18 = .ok (.putfield 70, 3) := by decide +kernel
theorem dMo_tick_21 : decode prog_9_method_36_code 21 = .ok (.aload_n 0, 1) := by decide +kernel
theorem dMo_tick_22 : decode prog_9_method_36_code 22 = .ok (.getfield 70, 3) := by decide +kernel
theorem dMo_tick_25 : decode prog_9_method_36_code 25 = .ok (.ifCond .eq 5, 3) := by decide +kernel
theorem dMo_tick_28 : decode prog_9_method_36_code 28 = .ok (.iconst 0, 1) := by decide +kernel
theorem dMo_tick_29 : decode prog_9_method_36_code 29 = .ok (.ireturn, 1) := by decide +kernel
theorem dMo_tick_30 : decode prog_9_method_36_code 30 = .ok (.iconst 0, 1) := by decide +kernel
theorem dMo_tick_31 : decode prog_9_method_36_code 31 = .ok (.istore_n 2, 1) := by decide +kernel
theorem dMo_tick_32 : decode prog_9_method_36_code 32 = .ok (.iconst 0, 1) := by decide +kernel
theorem dMo_tick_33 : decode prog_9_method_36_code 33 = .ok (.istore_n 3, 1) := by decide +kernel
theorem dMo_tick_34 : decode prog_9_method_36_code 34 = .ok (.iload_n 3, 1) := by decide +kernel
theorem dMo_tick_35 : decode prog_9_method_36_code 35 = .ok (.iload_n 1, 1) := by decide +kernel
theorem dMo_tick_36 : decode prog_9_method_36_code 36 = .ok (.if_icmp .ge 14, 3) := by decide +kernel
theorem dMo_tick_39 : decode prog_9_method_36_code 39 = .ok (.aload_n 0, 1) := by decide +kernel
theorem dMo_tick_40 : decode prog_9_method_36_code 40 = .ok (.invokevirtual 183, 3) := by decide +kernel
theorem dMo_tick_43 : decode prog_9_method_36_code 43 = .ok (.istore_n 2, 1) := by decide +kernel
theorem dMo_tick_44 : decode prog_9_method_36_code 44 = .ok (.iinc 3 1, 3) := by decide +kernel
theorem dMo_tick_47 : decode prog_9_method_36_code 47 = .ok (.goto (-13), 3) := by decide +kernel
theorem dMo_tick_50 : decode prog_9_method_36_code 50 = .ok (.iload_n 2, 1) := by decide +kernel
theorem dMo_tick_51 : decode prog_9_method_36_code 51 = .ok (.ireturn, 1) := by decide +kernel
set_option maxHeartbeats 4000000 in
set_option maxRecDepth 100000 in
theorem wMo_tick_34 {l : Launch} {G : ek_G} {kd : Nat → Nat} {p : Program} {e : Env} {s : State} {m : MethodId} {args : Array Value} {below : List Frame} {meth : Method} {c : Code} (X : ek_X p s m meth c args G prog_9_method_36_code 4 "ElasticKernelModel" (some .int)) {q : ek_St × Int32} {k34 : (ek_St × Nat × Int32 × Int32 × Int32) → Option (ek_St × Int32)} (hk34 : ∀ q0 : ek_St × Nat × Int32 × Int32 × Int32, k34 q0 = some q → ∀ (H : Heap) (locs : List Loc) (ls : Array Slot), ek_W G kd q0.1 H → va_S (ek_A G kd) s.heap H locs → lv_has ls 4 [(0, ek_r G q0.2.1), (1, .int q0.2.2.1), (2, .int q0.2.2.2.1), (3, .int q0.2.2.2.2)] → W p l e ({ frames := 4, cells := 0, slots := 0, locals := 89 } : Room) s m args below meth c H locs 0 0 (MQ below (ek_Q G kd (some (.int q.2)) q.1) args s 0 0 (ek_A G kd)) (F0 m 34 ls [])) {I : ek_St} {x0 : Nat} {i1 : Int32} {i2 : Int32} {i3 : Int32} (hf : fMo_tick_34 kd k34 I x0 i1 i2 i3 = some q) {H : Heap} {locs : List Loc} {ls : Array Slot} (hw : ek_W G kd I H) (hS : va_S (ek_A G kd) s.heap H locs) (hl : lv_has ls 4 [(0, ek_r G x0), (1, .int i1), (2, .int i2), (3, .int i3)]) : W p l e ({ frames := 4, cells := 0, slots := 0, locals := 89 } : Room) s m args below meth c H locs 0 0 (MQ below (ek_Q G kd (some (.int q.2)) q.1) args s 0 0 (ek_A G kd)) (F0 m 34 ls []) := by
  obtain ⟨hx, hb, hml, hown, hts, hr, hlocks, hK⟩ := id X
  have hA : ∀ q, ek_A G kd q → ek_A G kd q := fun _ h => h
  unfold fMo_tick_34 at hf
  refine lv_iload_n hx hb dMo_tick_34 rfl (lv_at hl 3 rfl) ?_
  refine lv_iload_n hx hb dMo_tick_35 rfl (lv_at hl 1 rfl) ?_
  refine lv_icmp_ge (tgt := 50) hx hb dMo_tick_36 (by decide) (fun c1 => ?_) (fun c1 => ?_)
  · have hf := ek_t c1 hf
    refine lv_iload_n hx hb dMo_tick_50 rfl (lv_at hl 2 rfl) ?_
    exact ek_iret hx hb hr hlocks hw hS hf dMo_tick_51
  · have hf := ek_f c1 hf
    refine ek_aload_n hx hb dMo_tick_39 rfl (lv_at hl 0 rfl) ?_
    obtain ⟨hx3, hf⟩ := ek_ck_s hf
    refine ek_ci hf hS hA (fun I' v hq => ek_rV (As := []) ⟨hx, hb, hml, hown, hts⟩ hK hw 8 rfl (by decide) (by decide) hx3 (mMo_step hq) (cwV 0 hts (lw_V q_763 q_765 p_37 q_8 q_766) rfl rfl rfl (by decide +kernel) ⟨Nat.le_of_ble_eq_true rfl, Nat.le_of_ble_eq_true rfl⟩) rfl hl.1 rfl (Nat.le_of_ble_eq_true rfl) dMo_tick_40 ⟨Nat.zero_le _, Nat.zero_le _⟩) (fun I2 ir4 H locs hf hw hS => ?_)
    refine ek_istore_n (lv' := [(2, .int ir4), (1, .int i1), (0, ek_r G x0), (3, .int i3)]) hx hb dMo_tick_43 rfl hl (by decide) (ek_s1k 1 rfl rfl rfl rfl rfl) (fun ls hl => ?_)
    refine ek_iinc hx hb 3 (fun i3_5 => [(3, .int i3_5), (2, .int ir4), (1, .int i1), (0, ek_r G x0)]) dMo_tick_44 hl rfl (v := i3 + (1 : Int32)) rfl hf (by decide) (fun i3_5 => ek_s1k 0 rfl rfl rfl rfl rfl) (fun i3_5 ls hf hl => ?_)
    refine lv_goto (tgt := 34) hx hb dMo_tick_47 (by decide) ?_
    exact hk34 (I2, x0, i1, ir4, i3_5) hf _ _ _ hw hS (lv_sub hl [3, 2, 1, 0] rfl)
set_option maxHeartbeats 4000000 in
set_option maxRecDepth 100000 in
theorem wMo_tick_34_lp {l : Launch} {G : ek_G} {kd : Nat → Nat} {p : Program} {e : Env} {s : State} {m : MethodId} {args : Array Value} {below : List Frame} {meth : Method} {c : Code} (X : ek_X p s m meth c args G prog_9_method_36_code 4 "ElasticKernelModel" (some .int)) {q : ek_St × Int32} (n : Nat) : ∀ q0 : ek_St × Nat × Int32 × Int32 × Int32, ek_lp (fun (k : (ek_St × Nat × Int32 × Int32 × Int32) → Option (ek_St × Int32)) (q : (ek_St × Nat × Int32 × Int32 × Int32)) => fMo_tick_34 kd k q.1 q.2.1 q.2.2.1 q.2.2.2.1 q.2.2.2.2) n q0 = some q → ∀ (H : Heap) (locs : List Loc) (ls : Array Slot), ek_W G kd q0.1 H → va_S (ek_A G kd) s.heap H locs → lv_has ls 4 [(0, ek_r G q0.2.1), (1, .int q0.2.2.1), (2, .int q0.2.2.2.1), (3, .int q0.2.2.2.2)] → W p l e ({ frames := 4, cells := 0, slots := 0, locals := 89 } : Room) s m args below meth c H locs 0 0 (MQ below (ek_Q G kd (some (.int q.2)) q.1) args s 0 0 (ek_A G kd)) (F0 m 34 ls []) :=
  ek_lp_ind (fun k hk q0 hf => fun H locs ls hw hS hl => wMo_tick_34 X hk hf hw hS hl) n
set_option maxHeartbeats 4000000 in
set_option maxRecDepth 100000 in
theorem wMo_tick_18 {l : Launch} {G : ek_G} {kd : Nat → Nat} {p : Program} {e : Env} {s : State} {m : MethodId} {args : Array Value} {below : List Frame} {meth : Method} {c : Code} (X : ek_X p s m meth c args G prog_9_method_36_code 4 "ElasticKernelModel" (some .int)) {q : ek_St × Int32} {I : ek_St} {x0 : Nat} {i1 : Int32} {t0 : Nat} {t1 : Int32} (hf : fMo_tick_18 kd I x0 i1 t0 t1 = some q) {H : Heap} {locs : List Loc} {ls : Array Slot} (hw : ek_W G kd I H) (hS : va_S (ek_A G kd) s.heap H locs) (hl : lv_has ls 4 [(0, ek_r G x0), (1, .int i1)]) : W p l e ({ frames := 4, cells := 0, slots := 0, locals := 89 } : Room) s m args below meth c H locs 0 0 (MQ below (ek_Q G kd (some (.int q.2)) q.1) args s 0 0 (ek_A G kd)) (F0 m 18 ls [.int t1, ek_r G t0]) := by
  obtain ⟨hx, hb, hml, hown, hts, hr, hlocks, hK⟩ := id X
  have hA : ∀ q, ek_A G kd q → ek_A G kd q := fun _ h => h
  unfold fMo_tick_18 at hf
  refine ek_puti hx hb 8 hts (in_Mo) ty_Mo ty_Mo_ok nm_Mo hown hK hw hS hA rfl (by decide) (by decide) 0 (by decide) rfl (hts _ q_576) rfl rfl rfl hf dMo_tick_18 (fun I1 H locs hf hw hS => ?_)
  refine ek_aload_n hx hb dMo_tick_21 rfl (lv_at hl 0 rfl) ?_
  refine ek_geti hx hb 8 hts (in_Mo) hown hK hw rfl (by decide) (by decide) 0 (by decide) rfl (hts _ q_576) hf dMo_tick_22 (fun hf => ?_)
  refine lv_if_eq (tgt := 30) hx hb dMo_tick_25 (by decide) (fun c2 => ?_) (fun c2 => ?_)
  · have hf := ek_t c2 hf
    refine lv_iconst (v := (0 : Int32)) hx hb dMo_tick_30 (by decide) ?_
    refine ek_istore_n (lv' := [(2, .int ((0 : Int32))), (1, .int i1), (0, ek_r G x0)]) hx hb dMo_tick_31 rfl hl (by decide) (ek_s1k 1 rfl rfl rfl rfl rfl) (fun ls hl => ?_)
    refine lv_iconst (v := (0 : Int32)) hx hb dMo_tick_32 (by decide) ?_
    refine ek_istore_n (lv' := [(3, .int ((0 : Int32))), (2, .int ((0 : Int32))), (1, .int i1), (0, ek_r G x0)]) hx hb dMo_tick_33 rfl hl (by decide) (ek_s1k 0 rfl rfl rfl rfl rfl) (fun ls hl => ?_)
    exact wMo_tick_34_lp X ek_N (I1, x0, i1, (0 : Int32), (0 : Int32)) hf _ _ _ hw hS (lv_sub hl [3, 2, 1, 0] rfl)
  · have hf := ek_f c2 hf
    refine lv_iconst (v := (0 : Int32)) hx hb dMo_tick_28 (by decide) ?_
    exact ek_iret hx hb hr hlocks hw hS hf dMo_tick_29
set_option maxHeartbeats 4000000 in
set_option maxRecDepth 100000 in
theorem wMo_tick_13 {l : Launch} {G : ek_G} {kd : Nat → Nat} {p : Program} {e : Env} {s : State} {m : MethodId} {args : Array Value} {below : List Frame} {meth : Method} {c : Code} (X : ek_X p s m meth c args G prog_9_method_36_code 4 "ElasticKernelModel" (some .int)) {q : ek_St × Int32} {I : ek_St} {x0 : Nat} {i1 : Int32} {t0 : Nat} (hf : fMo_tick_13 kd I x0 i1 t0 = some q) {H : Heap} {locs : List Loc} {ls : Array Slot} (hw : ek_W G kd I H) (hS : va_S (ek_A G kd) s.heap H locs) (hl : lv_has ls 4 [(0, ek_r G x0), (1, .int i1)]) : W p l e ({ frames := 4, cells := 0, slots := 0, locals := 89 } : Room) s m args below meth c H locs 0 0 (MQ below (ek_Q G kd (some (.int q.2)) q.1) args s 0 0 (ek_A G kd)) (F0 m 13 ls [ek_r G t0]) := by
  obtain ⟨hx, hb, hml, hown, hts, hr, hlocks, hK⟩ := id X
  have hA : ∀ q, ek_A G kd q → ek_A G kd q := fun _ h => h
  unfold fMo_tick_13 at hf
  refine lv_iconst (v := (1 : Int32)) hx hb dMo_tick_13 (by decide) ?_
  refine lv_goto (tgt := 18) hx hb dMo_tick_14 (by decide) ?_
  exact wMo_tick_18 X hf hw hS (lv_sub hl [0, 1] rfl)
set_option maxHeartbeats 4000000 in
set_option maxRecDepth 100000 in
theorem wMo_tick_0 {l : Launch} {G : ek_G} {kd : Nat → Nat} {p : Program} {e : Env} {s : State} {m : MethodId} {args : Array Value} {below : List Frame} {meth : Method} {c : Code} (X : ek_X p s m meth c args G prog_9_method_36_code 4 "ElasticKernelModel" (some .int)) {q : ek_St × Int32} {I : ek_St} {x0 : Nat} {i1 : Int32} (hf : fMo_tick_0 kd I x0 i1 = some q) {H : Heap} {locs : List Loc} {ls : Array Slot} (hw : ek_W G kd I H) (hS : va_S (ek_A G kd) s.heap H locs) (hl : lv_has ls 4 [(0, ek_r G x0), (1, .int i1)]) : W p l e ({ frames := 4, cells := 0, slots := 0, locals := 89 } : Room) s m args below meth c H locs 0 0 (MQ below (ek_Q G kd (some (.int q.2)) q.1) args s 0 0 (ek_A G kd)) (F0 m 0 ls []) := by
  obtain ⟨hx, hb, hml, hown, hts, hr, hlocks, hK⟩ := id X
  have hA : ∀ q, ek_A G kd q → ek_A G kd q := fun _ h => h
  unfold fMo_tick_0 at hf
  refine ek_aload_n hx hb dMo_tick_0 rfl (lv_at hl 0 rfl) ?_
  refine lv_iload_n hx hb dMo_tick_1 rfl (lv_at hl 1 rfl) ?_
  refine lv_iconst (v := (1 : Int32)) hx hb dMo_tick_2 (by decide) ?_
  refine lv_icmp_lt (tgt := 13) hx hb dMo_tick_3 (by decide) (fun c1 => ?_) (fun c1 => ?_)
  · have hf := ek_t c1 hf
    exact wMo_tick_13 X hf hw hS (lv_sub hl [0, 1] rfl)
  · have hf := ek_f c1 hf
    refine lv_iload_n hx hb dMo_tick_6 rfl (lv_at hl 1 rfl) ?_
    refine lv_sipush (v := (5000 : Int32)) hx hb dMo_tick_7 (by decide) ?_
    refine lv_icmp_le (tgt := 17) hx hb dMo_tick_10 (by decide) (fun c2 => ?_) (fun c2 => ?_)
    · have hf := ek_t c2 hf
      refine lv_iconst (v := (0 : Int32)) hx hb dMo_tick_17 (by decide) ?_
      exact wMo_tick_18 X hf hw hS (lv_sub hl [0, 1] rfl)
    · have hf := ek_f c2 hf
      exact wMo_tick_13 X hf hw hS (lv_sub hl [0, 1] rfl)
set_option maxHeartbeats 4000000 in
set_option maxRecDepth 100000 in
theorem mMo_tick {l : Launch} {G : ek_G} {kd : Nat → Nat} {I : ek_St} {x0 : Nat} {i1 : Int32} {q : ek_St × Int32} (hf : fMo_tick kd I x0 i1 = some q) : ek_M l G kd y_Mo_tick (.code y_Mo_tick prog_9_method_36_code 4 (some .int) :: lw_g) ({ frames := 4, cells := 0, slots := 0, locals := 89 } : Room) [ek_r G x0, .int i1] I (some (.int q.2)) q.1 :=
  ek_body [(0, ek_r G x0), (1, .int i1)] (by decide) (by simp [lg_sl, ek_r_cat, ek_c_i, ek_c_l]) (by simp [lv_args, ek_r_cat, ek_c_i, ek_c_l]) (fun p e s m below meth c ls X hw hS hl => wMo_tick_0 X hf hw hS hl)
/-! ElasticKernelModel.task(II)I -/
def fMo_task_181 (kd : Nat → Nat) (I : ek_St) : Option (ek_St × Int32) :=
  some (I, (0 : Int32))
def fMo_task_0 (kd : Nat → Nat) (I : ek_St) (x0 : Nat) (i1 : Int32) (i2 : Int32) : Option (ek_St × Int32) :=
  ek_ck (kd x0 = 8) (ek_let (ek_up I x0 0 ((0 : Int32))) (fun I1 => ek_ck (kd x0 = 8) (ek_bi (fMo_find kd I1 x0 i1) (fun I2 ir4 => if ir4 = ((-1 : Int32)) then (some (I2, (-1 : Int32))) else (if i2 = (0 : Int32) then (ek_ck (kd x0 = 8) (ek_ck (kd (x0 + 6) = 112) (ek_ck (ek_in ir4 12) (some (I2, I2 (x0 + 6) ir4.toNatClampNeg))))) else (if i2 = (1 : Int32) then (ek_ck (kd x0 = 8) (ek_ck (kd (x0 + 6) = 112) (ek_ck (ek_in ir4 12) (if (I2 (x0 + 6) ir4.toNatClampNeg) = ((0 : Int32)) then (some (I2, (0 : Int32))) else (ek_ck (kd x0 = 8) (ek_ck (kd (x0 + 7) = 112) (ek_ck (ek_in ir4 12) (some (I2, I2 (x0 + 7) ir4.toNatClampNeg))))))))) else (if i2 = (2 : Int32) then (ek_ck (kd x0 = 8) (ek_ck (kd (x0 + 6) = 112) (ek_ck (ek_in ir4 12) (if (I2 (x0 + 6) ir4.toNatClampNeg) = ((2 : Int32)) then (ek_ck (kd x0 = 8) (ek_ck (kd (x0 + 7) = 112) (ek_ck (ek_in ir4 12) (some (I2, I2 (x0 + 7) ir4.toNatClampNeg))))) else (ek_ck (kd x0 = 8) (ek_ck (kd (x0 + 8) = 112) (ek_ck (ek_in ir4 12) (some (I2, I2 (x0 + 8) ir4.toNatClampNeg))))))))) else (if i2 = (3 : Int32) then (ek_ck (kd x0 = 8) (ek_ck (kd (x0 + 6) = 112) (ek_ck (ek_in ir4 12) (if (I2 (x0 + 6) ir4.toNatClampNeg) = ((0 : Int32)) then (some (I2, (0 : Int32))) else (ek_ck (kd x0 = 8) (ek_ck (kd (x0 + 9) = 112) (ek_ck (ek_in ir4 12) (some (I2, I2 (x0 + 9) ir4.toNatClampNeg))))))))) else (if i2 = (4 : Int32) then (ek_ck (kd x0 = 8) (ek_ck (kd (x0 + 10) = 112) (ek_ck (ek_in ir4 12) (some (I2, I2 (x0 + 10) ir4.toNatClampNeg))))) else (if i2 = (5 : Int32) then (ek_ck (kd x0 = 8) (ek_ck (kd (x0 + 12) = 112) (ek_ck (ek_in ir4 12) (some (I2, I2 (x0 + 12) ir4.toNatClampNeg))))) else (if i2 = (6 : Int32) then (ek_ck (kd x0 = 8) (ek_ck (kd (x0 + 13) = 112) (ek_ck (ek_in ir4 12) (some (I2, I2 (x0 + 13) ir4.toNatClampNeg))))) else (if i2 = (7 : Int32) then (ek_ck (kd x0 = 8) (ek_ck (kd (x0 + 6) = 112) (ek_ck (ek_in ir4 12) (if (I2 (x0 + 6) ir4.toNatClampNeg) = ((2 : Int32)) then (fMo_task_181 kd I2) else (ek_ck (kd x0 = 8) (ek_ck (kd (x0 + 15) = 50) (ek_ck (ek_in ir4 12) (if (I2 (x0 + 15) ir4.toNatClampNeg) = ((0 : Int32)) then (fMo_task_181 kd I2) else (some (I2, (1 : Int32))))))))))) else (some (I2, (-1 : Int32)))))))))))))))
def fMo_task (kd : Nat → Nat) (I : ek_St) (x0 : Nat) (i1 : Int32) (i2 : Int32) : Option (ek_St × Int32) := fMo_task_0 kd I x0 i1 i2
theorem dMo_task_0 : decode prog_9_method_37_code 0 = .ok (.aload_n 0, 1) := by decide +kernel
theorem dMo_task_1 : decode prog_9_method_37_code 1 = .ok (.iconst 0, 1) := by decide +kernel
theorem dMo_task_2 : decode prog_9_method_37_code 2 = .ok (.putfield 70, 3) := by decide +kernel
theorem dMo_task_5 : decode prog_9_method_37_code 5 = .ok (.aload_n 0, 1) := by decide +kernel
theorem dMo_task_6 : decode prog_9_method_37_code 6 = .ok (.iload_n 1, 1) := by decide +kernel
theorem dMo_task_7 : decode prog_9_method_37_code 7 = .ok (.invokevirtual 161, 3) := by decide +kernel
theorem dMo_task_10 : decode prog_9_method_37_code 10 = .ok (.istore_n 3, 1) := by decide +kernel
theorem dMo_task_11 : decode prog_9_method_37_code 11 = .ok (.iload_n 3, 1) := by decide +kernel
theorem dMo_task_12 : decode prog_9_method_37_code 12 = .ok (.iconst (-1), 1) := by decide +kernel
theorem dMo_task_13 : decode prog_9_method_37_code 13 = .ok (.if_icmp .ne 5, 3) := by decide +kernel
theorem dMo_task_16 : decode prog_9_method_37_code 16 = .ok (.iconst (-1), 1) := by decide +kernel
theorem dMo_task_17 : decode prog_9_method_37_code 17 = .ok (.ireturn, 1) := by decide +kernel
theorem dMo_task_18 : decode prog_9_method_37_code 18 = .ok (.iload_n 2, 1) := by decide +kernel
theorem dMo_task_19 : decode prog_9_method_37_code 19 = .ok (.tableswitch 164 0 7 #[45, 52, 72, 98, 118, 125, 132, 139], 45) := by decide +kernel
theorem dMo_task_64 : decode prog_9_method_37_code 64 = .ok (.aload_n 0, 1) := by decide +kernel
theorem dMo_task_65 : decode prog_9_method_37_code 65 = .ok (.getfield 29, 3) := by decide +kernel
theorem dMo_task_68 : decode prog_9_method_37_code 68 = .ok (.iload_n 3, 1) := by decide +kernel
theorem dMo_task_69 : decode prog_9_method_37_code 69 = .ok (.iaload, 1) := by decide +kernel
theorem dMo_task_70 : decode prog_9_method_37_code 70 = .ok (.ireturn, 1) := by decide +kernel
theorem dMo_task_71 : decode prog_9_method_37_code 71 = .ok (.aload_n 0, 1) := by decide +kernel
theorem dMo_task_72 : decode prog_9_method_37_code 72 = .ok (.getfield 29, 3) := by decide +kernel
theorem dMo_task_75 : decode prog_9_method_37_code 75 = .ok (.iload_n 3, 1) := by decide +kernel
theorem dMo_task_76 : decode prog_9_method_37_code 76 = .ok (.iaload, 1) := by decide +kernel
theorem dMo_task_77 : decode prog_9_method_37_code 77 = .ok (.ifCond .ne 7, 3) := by decide +kernel
theorem dMo_task_80 : decode prog_9_method_37_code 80 = .ok (.iconst 0, 1) := by decide +kernel
theorem dMo_task_81 : decode prog_9_method_37_code 81 = .ok (.goto 9, 3) := by decide +kernel
theorem dMo_task_84 : decode prog_9_method_37_code 84 = .ok (.aload_n 0, 1) := by decide +kernel
theorem dMo_task_85 : decode prog_9_method_37_code 85 = .ok (.getfield 32, 3) := by decide +kernel
theorem dMo_task_88 : decode prog_9_method_37_code 88 = .ok (.iload_n 3, 1) := by decide +kernel
theorem dMo_task_89 : decode prog_9_method_37_code 89 = .ok (.iaload, 1) := by decide +kernel
theorem dMo_task_90 : decode prog_9_method_37_code 90 = .ok (.ireturn, 1) := by decide +kernel
theorem dMo_task_91 : decode prog_9_method_37_code 91 = .ok (.aload_n 0, 1) := by decide +kernel
theorem dMo_task_92 : decode prog_9_method_37_code 92 = .ok (.getfield 29, 3) := by decide +kernel
theorem dMo_task_95 : decode prog_9_method_37_code 95 = .ok (.iload_n 3, 1) := by decide +kernel
theorem dMo_task_96 : decode prog_9_method_37_code 96 = .ok (.iaload, 1) := by decide +kernel
theorem dMo_task_97 : decode prog_9_method_37_code 97 = .ok (.iconst 2, 1) := by decide +kernel
theorem dMo_task_98 : decode prog_9_method_37_code 98 = .ok (.if_icmp .ne 12, 3) := by decide +kernel
theorem dMo_task_101 : decode prog_9_method_37_code 101 = .ok (.aload_n 0, 1) := by decide +kernel
theorem dMo_task_102 : decode prog_9_method_37_code 102 = .ok (.getfield 32, 3) := by decide +kernel
theorem dMo_task_105 : decode prog_9_method_37_code 105 = .ok (.iload_n 3, 1) := by decide +kernel
theorem dMo_task_106 : decode prog_9_method_37_code 106 = .ok (.iaload, 1) := by decide +kernel
theorem dMo_task_107 : decode prog_9_method_37_code 107 = .ok (.goto 9, 3) := by decide +kernel
theorem dMo_task_110 : decode prog_9_method_37_code 110 = .ok (.aload_n 0, 1) := by decide +kernel
theorem dMo_task_111 : decode prog_9_method_37_code 111 = .ok (.getfield 35, 3) := by decide +kernel
theorem dMo_task_114 : decode prog_9_method_37_code 114 = .ok (.iload_n 3, 1) := by decide +kernel
theorem dMo_task_115 : decode prog_9_method_37_code 115 = .ok (.iaload, 1) := by decide +kernel
theorem dMo_task_116 : decode prog_9_method_37_code 116 = .ok (.ireturn, 1) := by decide +kernel
theorem dMo_task_117 : decode prog_9_method_37_code 117 = .ok (.aload_n 0, 1) := by decide +kernel
theorem dMo_task_118 : decode prog_9_method_37_code 118 = .ok (.getfield 29, 3) := by decide +kernel
theorem dMo_task_121 : decode prog_9_method_37_code 121 = .ok (.iload_n 3, 1) := by decide +kernel
theorem dMo_task_122 : decode prog_9_method_37_code 122 = .ok (.iaload, 1) := by decide +kernel
theorem dMo_task_123 : decode prog_9_method_37_code 123 = .ok (.ifCond .ne 7, 3) := by decide +kernel
theorem dMo_task_126 : decode prog_9_method_37_code 126 = .ok (.iconst 0, 1) := by decide +kernel
theorem dMo_task_127 : decode prog_9_method_37_code 127 = .ok (.goto 9, 3) := by decide +kernel
theorem dMo_task_130 : decode prog_9_method_37_code 130 = .ok (.aload_n 0, 1) := by decide +kernel
theorem dMo_task_131 : decode prog_9_method_37_code 131 = .ok (.getfield 38, 3) := by decide +kernel
theorem dMo_task_134 : decode prog_9_method_37_code 134 = .ok (.iload_n 3, 1) := by decide +kernel
theorem dMo_task_135 : decode prog_9_method_37_code 135 = .ok (.iaload, 1) := by decide +kernel
theorem dMo_task_136 : decode prog_9_method_37_code 136 = .ok (.ireturn, 1) := by decide +kernel
theorem dMo_task_137 : decode prog_9_method_37_code 137 = .ok (.aload_n 0, 1) := by decide +kernel
theorem dMo_task_138 : decode prog_9_method_37_code 138 = .ok (.getfield 41, 3) := by decide +kernel
theorem dMo_task_141 : decode prog_9_method_37_code 141 = .ok (.iload_n 3, 1) := by decide +kernel
theorem dMo_task_142 : decode prog_9_method_37_code 142 = .ok (.iaload, 1) := by decide +kernel
theorem dMo_task_143 : decode prog_9_method_37_code 143 = .ok (.ireturn, 1) := by decide +kernel
theorem dMo_task_144 : decode prog_9_method_37_code 144 = .ok (.aload_n 0, 1) := by decide +kernel
theorem dMo_task_145 : decode prog_9_method_37_code 145 = .ok (.getfield 47, 3) := by decide +kernel
theorem dMo_task_148 : decode prog_9_method_37_code 148 = .ok (.iload_n 3, 1) := by decide +kernel
theorem dMo_task_149 : decode prog_9_method_37_code 149 = .ok (.iaload, 1) := by decide +kernel
theorem dMo_task_150 : decode prog_9_method_37_code 150 = .ok (.ireturn, 1) := by decide +kernel
theorem dMo_task_151 : decode prog_9_method_37_code 151 = .ok (.aload_n 0, 1) := by decide +kernel
theorem dMo_task_152 : decode prog_9_method_37_code 152 = .ok (.getfield 50, 3) := by decide +kernel
theorem dMo_task_155 : decode prog_9_method_37_code 155 = .ok (.iload_n 3, 1) := by decide +kernel
theorem dMo_task_156 : decode prog_9_method_37_code 156 = .ok (.iaload, 1) := by decide +kernel
theorem dMo_task_157 : decode prog_9_method_37_code 157 = .ok (.ireturn, 1) := by decide +kernel
theorem dMo_task_158 : decode prog_9_method_37_code 158 = .ok (.aload_n 0, 1) := by decide +kernel
theorem dMo_task_159 : decode prog_9_method_37_code 159 = .ok (.getfield 29, 3) := by decide +kernel
theorem dMo_task_162 : decode prog_9_method_37_code 162 = .ok (.iload_n 3, 1) := by decide +kernel
theorem dMo_task_163 : decode prog_9_method_37_code 163 = .ok (.iaload, 1) := by decide +kernel
theorem dMo_task_164 : decode prog_9_method_37_code 164 = .ok (.iconst 2, 1) := by decide +kernel
theorem dMo_task_165 : decode prog_9_method_37_code 165 = .ok (.if_icmp .eq 16, 3) := by decide +kernel
theorem dMo_task_168 : decode prog_9_method_37_code 168 = .ok (.aload_n 0, 1) := by decide +kernel
theorem dMo_task_169 : decode prog_9_method_37_code 169 = .ok (.getfield 56, 3) := by decide +kernel
theorem dMo_task_172 : decode prog_9_method_37_code 172 = .ok (.iload_n 3, 1) := by decide +kernel
theorem dMo_task_173 : decode prog_9_method_37_code 173 = .ok (.baload, 1) := by decide +kernel
theorem dMo_task_174 : decode prog_9_method_37_code 174 = .ok (.ifCond .eq 7, 3) := by decide +kernel
theorem dMo_task_177 : decode prog_9_method_37_code 177 = .ok (.iconst 1, 1) := by decide +kernel
theorem dMo_task_178 : decode prog_9_method_37_code 178 = .ok (.goto 4, 3) := by decide +kernel
theorem dMo_task_181 : decode prog_9_method_37_code 181 = .ok (.iconst 0, 1) := by decide +kernel
theorem dMo_task_182 : decode prog_9_method_37_code 182 = .ok (.ireturn, 1) := by decide +kernel
theorem dMo_task_183 : decode prog_9_method_37_code 183 = .ok (.iconst (-1), 1) := by decide +kernel
theorem dMo_task_184 : decode prog_9_method_37_code 184 = .ok (.ireturn, 1) := by decide +kernel
set_option maxHeartbeats 4000000 in
set_option maxRecDepth 100000 in
theorem wMo_task_181 {l : Launch} {G : ek_G} {kd : Nat → Nat} {p : Program} {e : Env} {s : State} {m : MethodId} {args : Array Value} {below : List Frame} {meth : Method} {c : Code} (X : ek_X p s m meth c args G prog_9_method_37_code 4 "ElasticKernelModel" (some .int)) {q : ek_St × Int32} {I : ek_St} (hf : fMo_task_181 kd I = some q) {H : Heap} {locs : List Loc} {ls : Array Slot} (hw : ek_W G kd I H) (hS : va_S (ek_A G kd) s.heap H locs) (hl : lv_has ls 4 []) : W p l e ({ frames := 1, cells := 0, slots := 0, locals := 22 } : Room) s m args below meth c H locs 0 0 (MQ below (ek_Q G kd (some (.int q.2)) q.1) args s 0 0 (ek_A G kd)) (F0 m 181 ls []) := by
  obtain ⟨hx, hb, hml, hown, hts, hr, hlocks, hK⟩ := id X
  have hA : ∀ q, ek_A G kd q → ek_A G kd q := fun _ h => h
  unfold fMo_task_181 at hf
  refine lv_iconst (v := (0 : Int32)) hx hb dMo_task_181 (by decide) ?_
  exact ek_iret hx hb hr hlocks hw hS hf dMo_task_182
set_option maxHeartbeats 4000000 in
set_option maxRecDepth 100000 in
theorem wMo_task_0 {l : Launch} {G : ek_G} {kd : Nat → Nat} {p : Program} {e : Env} {s : State} {m : MethodId} {args : Array Value} {below : List Frame} {meth : Method} {c : Code} (X : ek_X p s m meth c args G prog_9_method_37_code 4 "ElasticKernelModel" (some .int)) {q : ek_St × Int32} {I : ek_St} {x0 : Nat} {i1 : Int32} {i2 : Int32} (hf : fMo_task_0 kd I x0 i1 i2 = some q) {H : Heap} {locs : List Loc} {ls : Array Slot} (hw : ek_W G kd I H) (hS : va_S (ek_A G kd) s.heap H locs) (hl : lv_has ls 4 [(0, ek_r G x0), (1, .int i1), (2, .int i2)]) : W p l e ({ frames := 1, cells := 0, slots := 0, locals := 22 } : Room) s m args below meth c H locs 0 0 (MQ below (ek_Q G kd (some (.int q.2)) q.1) args s 0 0 (ek_A G kd)) (F0 m 0 ls []) := by
  obtain ⟨hx, hb, hml, hown, hts, hr, hlocks, hK⟩ := id X
  have hA : ∀ q, ek_A G kd q → ek_A G kd q := fun _ h => h
  unfold fMo_task_0 at hf
  refine ek_aload_n hx hb dMo_task_0 rfl (lv_at hl 0 rfl) ?_
  refine lv_iconst (v := (0 : Int32)) hx hb dMo_task_1 (by decide) ?_
  refine ek_puti hx hb 8 hts (in_Mo) ty_Mo ty_Mo_ok nm_Mo hown hK hw hS hA rfl (by decide) (by decide) 0 (by decide) rfl (hts _ q_576) rfl rfl rfl hf dMo_task_2 (fun I1 H locs hf hw hS => ?_)
  refine ek_aload_n hx hb dMo_task_5 rfl (lv_at hl 0 rfl) ?_
  refine lv_iload_n hx hb dMo_task_6 rfl (lv_at hl 1 rfl) ?_
  obtain ⟨hx3, hf⟩ := ek_ck_s hf
  refine ek_ci hf hS hA (fun I' v hq => ek_rV (As := [.int i1]) ⟨hx, hb, hml, hown, hts⟩ hK hw 8 rfl (by decide) (by decide) hx3 (mMo_find hq) (cwV 1 hts (lw_V q_661 q_663 p_16 q_8 q_664) rfl rfl rfl (by decide +kernel) ⟨Nat.le_of_ble_eq_true rfl, Nat.le_of_ble_eq_true rfl⟩) rfl hl.1 rfl (Nat.le_of_ble_eq_true rfl) dMo_task_7 ⟨Nat.zero_le _, Nat.zero_le _⟩) (fun I2 ir4 H locs hf hw hS => ?_)
  refine ek_istore_n (lv' := [(3, .int ir4), (2, .int i2), (0, ek_r G x0), (1, .int i1)]) hx hb dMo_task_10 rfl hl (by decide) (ek_s1k 2 rfl rfl rfl rfl rfl) (fun ls hl => ?_)
  refine lv_iload_n hx hb dMo_task_11 rfl (lv_at hl 0 rfl) ?_
  refine lv_iconst (v := (-1 : Int32)) hx hb dMo_task_12 (by decide) ?_
  refine lv_icmp_ne (tgt := 18) hx hb dMo_task_13 (by decide) (fun c5 => ?_) (fun c5 => ?_)
  · have hf := ek_f c5 hf
    refine lv_iload_n hx hb dMo_task_18 rfl (lv_at hl 1 rfl) ?_
    by_cases c6 : i2 = (0 : Int32)
    · have hf := ek_t c6 hf
      refine lv_tableIn (tgt := 64) hx hb dMo_task_19 (by rw [c6]; decide) (by rw [c6]; decide) (off := 45) (by rw [c6]; rfl) (by decide) ?_
      refine ek_aload_n hx hb dMo_task_64 rfl (lv_at hl 2 rfl) ?_
      refine ek_getr hx hb 8 hts (in_Mo) hown hK hw rfl (by decide) (by decide) 13 (by decide) (n := 5) rfl rfl (hts _ q_589) hf dMo_task_65 (fun hf => ?_)
      refine lv_iload_n hx hb dMo_task_68 rfl (lv_at hl 0 rfl) ?_
      refine ek_iald hx hb hK hw 12 rfl hf dMo_task_69 (fun hf => ?_)
      exact ek_iret hx hb hr hlocks hw hS hf dMo_task_70
    have hf := ek_f c6 hf
    by_cases c7 : i2 = (1 : Int32)
    · have hf := ek_t c7 hf
      refine lv_tableIn (tgt := 71) hx hb dMo_task_19 (by rw [c7]; decide) (by rw [c7]; decide) (off := 52) (by rw [c7]; rfl) (by decide) ?_
      refine ek_aload_n hx hb dMo_task_71 rfl (lv_at hl 2 rfl) ?_
      refine ek_getr hx hb 8 hts (in_Mo) hown hK hw rfl (by decide) (by decide) 13 (by decide) (n := 5) rfl rfl (hts _ q_589) hf dMo_task_72 (fun hf => ?_)
      refine lv_iload_n hx hb dMo_task_75 rfl (lv_at hl 0 rfl) ?_
      refine ek_iald hx hb hK hw 12 rfl hf dMo_task_76 (fun hf => ?_)
      refine lv_if_ne (tgt := 84) hx hb dMo_task_77 (by decide) (fun c8 => ?_) (fun c8 => ?_)
      · have hf := ek_f c8 hf
        refine ek_aload_n hx hb dMo_task_84 rfl (lv_at hl 2 rfl) ?_
        refine ek_getr hx hb 8 hts (in_Mo) hown hK hw rfl (by decide) (by decide) 14 (by decide) (n := 6) rfl rfl (hts _ q_590) hf dMo_task_85 (fun hf => ?_)
        refine lv_iload_n hx hb dMo_task_88 rfl (lv_at hl 0 rfl) ?_
        refine ek_iald hx hb hK hw 12 rfl hf dMo_task_89 (fun hf => ?_)
        exact ek_iret hx hb hr hlocks hw hS hf dMo_task_90
      · have hf := ek_t c8 hf
        refine lv_iconst (v := (0 : Int32)) hx hb dMo_task_80 (by decide) ?_
        refine lv_goto (tgt := 90) hx hb dMo_task_81 (by decide) ?_
        exact ek_iret hx hb hr hlocks hw hS hf dMo_task_90
    have hf := ek_f c7 hf
    by_cases c9 : i2 = (2 : Int32)
    · have hf := ek_t c9 hf
      refine lv_tableIn (tgt := 91) hx hb dMo_task_19 (by rw [c9]; decide) (by rw [c9]; decide) (off := 72) (by rw [c9]; rfl) (by decide) ?_
      refine ek_aload_n hx hb dMo_task_91 rfl (lv_at hl 2 rfl) ?_
      refine ek_getr hx hb 8 hts (in_Mo) hown hK hw rfl (by decide) (by decide) 13 (by decide) (n := 5) rfl rfl (hts _ q_589) hf dMo_task_92 (fun hf => ?_)
      refine lv_iload_n hx hb dMo_task_95 rfl (lv_at hl 0 rfl) ?_
      refine ek_iald hx hb hK hw 12 rfl hf dMo_task_96 (fun hf => ?_)
      refine lv_iconst (v := (2 : Int32)) hx hb dMo_task_97 (by decide) ?_
      refine lv_icmp_ne (tgt := 110) hx hb dMo_task_98 (by decide) (fun c10 => ?_) (fun c10 => ?_)
      · have hf := ek_f c10 hf
        refine ek_aload_n hx hb dMo_task_110 rfl (lv_at hl 2 rfl) ?_
        refine ek_getr hx hb 8 hts (in_Mo) hown hK hw rfl (by decide) (by decide) 15 (by decide) (n := 7) rfl rfl (hts _ q_591) hf dMo_task_111 (fun hf => ?_)
        refine lv_iload_n hx hb dMo_task_114 rfl (lv_at hl 0 rfl) ?_
        refine ek_iald hx hb hK hw 12 rfl hf dMo_task_115 (fun hf => ?_)
        exact ek_iret hx hb hr hlocks hw hS hf dMo_task_116
      · have hf := ek_t c10 hf
        refine ek_aload_n hx hb dMo_task_101 rfl (lv_at hl 2 rfl) ?_
        refine ek_getr hx hb 8 hts (in_Mo) hown hK hw rfl (by decide) (by decide) 14 (by decide) (n := 6) rfl rfl (hts _ q_590) hf dMo_task_102 (fun hf => ?_)
        refine lv_iload_n hx hb dMo_task_105 rfl (lv_at hl 0 rfl) ?_
        refine ek_iald hx hb hK hw 12 rfl hf dMo_task_106 (fun hf => ?_)
        refine lv_goto (tgt := 116) hx hb dMo_task_107 (by decide) ?_
        exact ek_iret hx hb hr hlocks hw hS hf dMo_task_116
    have hf := ek_f c9 hf
    by_cases c11 : i2 = (3 : Int32)
    · have hf := ek_t c11 hf
      refine lv_tableIn (tgt := 117) hx hb dMo_task_19 (by rw [c11]; decide) (by rw [c11]; decide) (off := 98) (by rw [c11]; rfl) (by decide) ?_
      refine ek_aload_n hx hb dMo_task_117 rfl (lv_at hl 2 rfl) ?_
      refine ek_getr hx hb 8 hts (in_Mo) hown hK hw rfl (by decide) (by decide) 13 (by decide) (n := 5) rfl rfl (hts _ q_589) hf dMo_task_118 (fun hf => ?_)
      refine lv_iload_n hx hb dMo_task_121 rfl (lv_at hl 0 rfl) ?_
      refine ek_iald hx hb hK hw 12 rfl hf dMo_task_122 (fun hf => ?_)
      refine lv_if_ne (tgt := 130) hx hb dMo_task_123 (by decide) (fun c12 => ?_) (fun c12 => ?_)
      · have hf := ek_f c12 hf
        refine ek_aload_n hx hb dMo_task_130 rfl (lv_at hl 2 rfl) ?_
        refine ek_getr hx hb 8 hts (in_Mo) hown hK hw rfl (by decide) (by decide) 16 (by decide) (n := 8) rfl rfl (hts _ q_592) hf dMo_task_131 (fun hf => ?_)
        refine lv_iload_n hx hb dMo_task_134 rfl (lv_at hl 0 rfl) ?_
        refine ek_iald hx hb hK hw 12 rfl hf dMo_task_135 (fun hf => ?_)
        exact ek_iret hx hb hr hlocks hw hS hf dMo_task_136
      · have hf := ek_t c12 hf
        refine lv_iconst (v := (0 : Int32)) hx hb dMo_task_126 (by decide) ?_
        refine lv_goto (tgt := 136) hx hb dMo_task_127 (by decide) ?_
        exact ek_iret hx hb hr hlocks hw hS hf dMo_task_136
    have hf := ek_f c11 hf
    by_cases c13 : i2 = (4 : Int32)
    · have hf := ek_t c13 hf
      refine lv_tableIn (tgt := 137) hx hb dMo_task_19 (by rw [c13]; decide) (by rw [c13]; decide) (off := 118) (by rw [c13]; rfl) (by decide) ?_
      refine ek_aload_n hx hb dMo_task_137 rfl (lv_at hl 2 rfl) ?_
      refine ek_getr hx hb 8 hts (in_Mo) hown hK hw rfl (by decide) (by decide) 17 (by decide) (n := 9) rfl rfl (hts _ q_593) hf dMo_task_138 (fun hf => ?_)
      refine lv_iload_n hx hb dMo_task_141 rfl (lv_at hl 0 rfl) ?_
      refine ek_iald hx hb hK hw 12 rfl hf dMo_task_142 (fun hf => ?_)
      exact ek_iret hx hb hr hlocks hw hS hf dMo_task_143
    have hf := ek_f c13 hf
    by_cases c14 : i2 = (5 : Int32)
    · have hf := ek_t c14 hf
      refine lv_tableIn (tgt := 144) hx hb dMo_task_19 (by rw [c14]; decide) (by rw [c14]; decide) (off := 125) (by rw [c14]; rfl) (by decide) ?_
      refine ek_aload_n hx hb dMo_task_144 rfl (lv_at hl 2 rfl) ?_
      refine ek_getr hx hb 8 hts (in_Mo) hown hK hw rfl (by decide) (by decide) 19 (by decide) (n := 11) rfl rfl (hts _ q_595) hf dMo_task_145 (fun hf => ?_)
      refine lv_iload_n hx hb dMo_task_148 rfl (lv_at hl 0 rfl) ?_
      refine ek_iald hx hb hK hw 12 rfl hf dMo_task_149 (fun hf => ?_)
      exact ek_iret hx hb hr hlocks hw hS hf dMo_task_150
    have hf := ek_f c14 hf
    by_cases c15 : i2 = (6 : Int32)
    · have hf := ek_t c15 hf
      refine lv_tableIn (tgt := 151) hx hb dMo_task_19 (by rw [c15]; decide) (by rw [c15]; decide) (off := 132) (by rw [c15]; rfl) (by decide) ?_
      refine ek_aload_n hx hb dMo_task_151 rfl (lv_at hl 2 rfl) ?_
      refine ek_getr hx hb 8 hts (in_Mo) hown hK hw rfl (by decide) (by decide) 20 (by decide) (n := 12) rfl rfl (hts _ q_596) hf dMo_task_152 (fun hf => ?_)
      refine lv_iload_n hx hb dMo_task_155 rfl (lv_at hl 0 rfl) ?_
      refine ek_iald hx hb hK hw 12 rfl hf dMo_task_156 (fun hf => ?_)
      exact ek_iret hx hb hr hlocks hw hS hf dMo_task_157
    have hf := ek_f c15 hf
    by_cases c16 : i2 = (7 : Int32)
    · have hf := ek_t c16 hf
      refine lv_tableIn (tgt := 158) hx hb dMo_task_19 (by rw [c16]; decide) (by rw [c16]; decide) (off := 139) (by rw [c16]; rfl) (by decide) ?_
      refine ek_aload_n hx hb dMo_task_158 rfl (lv_at hl 2 rfl) ?_
      refine ek_getr hx hb 8 hts (in_Mo) hown hK hw rfl (by decide) (by decide) 13 (by decide) (n := 5) rfl rfl (hts _ q_589) hf dMo_task_159 (fun hf => ?_)
      refine lv_iload_n hx hb dMo_task_162 rfl (lv_at hl 0 rfl) ?_
      refine ek_iald hx hb hK hw 12 rfl hf dMo_task_163 (fun hf => ?_)
      refine lv_iconst (v := (2 : Int32)) hx hb dMo_task_164 (by decide) ?_
      refine lv_icmp_eq (tgt := 181) hx hb dMo_task_165 (by decide) (fun c17 => ?_) (fun c17 => ?_)
      · have hf := ek_t c17 hf
        exact wMo_task_181 X hf hw hS (lv_sub hl [] rfl)
      · have hf := ek_f c17 hf
        refine ek_aload_n hx hb dMo_task_168 rfl (lv_at hl 2 rfl) ?_
        refine ek_getr hx hb 8 hts (in_Mo) hown hK hw rfl (by decide) (by decide) 22 (by decide) (n := 14) rfl rfl (hts _ q_598) hf dMo_task_169 (fun hf => ?_)
        refine lv_iload_n hx hb dMo_task_172 rfl (lv_at hl 0 rfl) ?_
        refine ek_zald hx hb hK hw hf dMo_task_173 (fun hf => ?_)
        refine lv_if_eq (tgt := 181) hx hb dMo_task_174 (by decide) (fun c18 => ?_) (fun c18 => ?_)
        · have hf := ek_t c18 hf
          exact wMo_task_181 X hf hw hS (lv_sub hl [] rfl)
        · have hf := ek_f c18 hf
          refine lv_iconst (v := (1 : Int32)) hx hb dMo_task_177 (by decide) ?_
          refine lv_goto (tgt := 182) hx hb dMo_task_178 (by decide) ?_
          exact ek_iret hx hb hr hlocks hw hS hf dMo_task_182
    have hf := ek_f c16 hf
    refine lv_tableOut (tgt := 183) hx hb dMo_task_19 (by have := lv_neT c6 (a := 0) (by decide); have := lv_neT c7 (a := 1) (by decide); have := lv_neT c9 (a := 2) (by decide); have := lv_neT c11 (a := 3) (by decide); have := lv_neT c13 (a := 4) (by decide); have := lv_neT c14 (a := 5) (by decide); have := lv_neT c15 (a := 6) (by decide); have := lv_neT c16 (a := 7) (by decide); omega) (by decide) ?_
    refine lv_iconst (v := (-1 : Int32)) hx hb dMo_task_183 (by decide) ?_
    exact ek_iret hx hb hr hlocks hw hS hf dMo_task_184
  · have hf := ek_t c5 hf
    refine lv_iconst (v := (-1 : Int32)) hx hb dMo_task_16 (by decide) ?_
    exact ek_iret hx hb hr hlocks hw hS hf dMo_task_17
set_option maxHeartbeats 4000000 in
set_option maxRecDepth 100000 in
theorem mMo_task {l : Launch} {G : ek_G} {kd : Nat → Nat} {I : ek_St} {x0 : Nat} {i1 : Int32} {i2 : Int32} {q : ek_St × Int32} (hf : fMo_task kd I x0 i1 i2 = some q) : ek_M l G kd y_Mo_task (.code y_Mo_task prog_9_method_37_code 4 (some .int) :: lw_g) ({ frames := 1, cells := 0, slots := 0, locals := 22 } : Room) [ek_r G x0, .int i1, .int i2] I (some (.int q.2)) q.1 :=
  ek_body [(0, ek_r G x0), (1, .int i1), (2, .int i2)] (by decide) (by simp [lg_sl, ek_r_cat, ek_c_i, ek_c_l]) (by simp [lv_args, ek_r_cat, ek_c_i, ek_c_l]) (fun p e s m below meth c ls X hw hS hl => wMo_task_0 X hf hw hS hl)
/-! ElasticKernelModel.wordOf(III)I -/
def fMo_wordOf_51 (kd : Nat → Nat) (I : ek_St) (i3 : Int32) (t0 : Nat) (t1 : Int32) (t2 : Int32) : Option (ek_St × Int32) :=
  ek_ck (kd t0 = 964) (ek_ck (ek_in ((t1 * t2) + i3) 864) (some (I, I t0 ((t1 * t2) + i3).toNatClampNeg)))
def fMo_wordOf_0 (kd : Nat → Nat) (I : ek_St) (x0 : Nat) (i1 : Int32) (i2 : Int32) (i3 : Int32) : Option (ek_St × Int32) :=
  ek_ck (kd x0 = 8) (ek_bv (fMo_copy kd I x0 ((30 : Int32)) i1) (fun I1 => ek_ck (kd x0 = 8) (ek_bv (fMo_copy kd I1 x0 ((31 : Int32)) (i1 + ((1 : Int32)))) (fun I3 => ek_ck (kd x0 = 8) (ek_bv (fMo_reduce kd I3 x0 ((30 : Int32)) ((31 : Int32))) (fun I5 => if i3 < ((24 : Int32)) then (ek_ck (kd x0 = 8) (if i2 = ((0 : Int32)) then (fMo_wordOf_51 kd I5 i3 (x0 + 16) ((24 : Int32)) ((30 : Int32))) else (fMo_wordOf_51 kd I5 i3 (x0 + 16) ((24 : Int32)) ((31 : Int32))))) else (some (I5, (0 : Int32)))))))))
def fMo_wordOf (kd : Nat → Nat) (I : ek_St) (x0 : Nat) (i1 : Int32) (i2 : Int32) (i3 : Int32) : Option (ek_St × Int32) := fMo_wordOf_0 kd I x0 i1 i2 i3
theorem dMo_wordOf_0 : decode prog_9_method_38_code 0 = .ok (.aload_n 0, 1) := by decide +kernel
theorem dMo_wordOf_1 : decode prog_9_method_38_code 1 = .ok (.bipush 30, 2) := by decide +kernel
theorem dMo_wordOf_3 : decode prog_9_method_38_code 3 = .ok (.iload_n 1, 1) := by decide +kernel
theorem dMo_wordOf_4 : decode prog_9_method_38_code 4 = .ok (.invokevirtual 87, 3) := by decide +kernel
theorem dMo_wordOf_7 : decode prog_9_method_38_code 7 = .ok (.aload_n 0, 1) := by decide +kernel
theorem dMo_wordOf_8 : decode prog_9_method_38_code 8 = .ok (.bipush 31, 2) := by decide +kernel
theorem dMo_wordOf_10 : decode prog_9_method_38_code 10 = .ok (.iload_n 1, 1) := by decide +kernel
theorem dMo_wordOf_11 : decode prog_9_method_38_code 11 = .ok (.iconst 1, 1) := by decide +kernel
theorem dMo_wordOf_12 : decode prog_9_method_38_code 12 = .ok (.iadd, 1) := by decide +kernel
theorem dMo_wordOf_13 : decode prog_9_method_38_code 13 = .ok (.invokevirtual 87, 3) := by decide +kernel
theorem dMo_wordOf_16 : decode prog_9_method_38_code 16 = .ok (.aload_n 0, 1) := by decide +kernel
theorem dMo_wordOf_17 : decode prog_9_method_38_code 17 = .ok (.bipush 30, 2) := by decide +kernel
theorem dMo_wordOf_19 : decode prog_9_method_38_code 19 = .ok (.bipush 31, 2) := by decide +kernel
theorem dMo_wordOf_21 : decode prog_9_method_38_code 21 = .ok (.invokevirtual 187, 3) := by decide +kernel
theorem dMo_wordOf_24 : decode prog_9_method_38_code 24 = .ok (.iload_n 3, 1) := by decide +kernel
theorem dMo_wordOf_25 : decode prog_9_method_38_code 25 = .ok (.bipush 24, 2) := by decide +kernel
theorem dMo_wordOf_27 : decode prog_9_method_38_code 27 = .ok (.if_icmp .lt 7, 3) := by decide +kernel
theorem dMo_wordOf_30 : decode prog_9_method_38_code 30 = .ok (.iconst 0, 1) := by decide +kernel
theorem dMo_wordOf_31 : decode prog_9_method_38_code 31 = .ok (.goto 24, 3) := by decide +kernel
theorem dMo_wordOf_34 : decode prog_9_method_38_code 34 = .ok (.aload_n 0, 1) := by decide +kernel
theorem dMo_wordOf_35 : decode prog_9_method_38_code 35 = .ok (.getfield 60, 3) := by decide +kernel
theorem dMo_wordOf_38 : decode prog_9_method_38_code 38 = .ok (.bipush 24, 2) := by decide +kernel
theorem dMo_wordOf_40 : decode prog_9_method_38_code 40 = .ok (.iload_n 2, 1) := by decide +kernel
theorem dMo_wordOf_41 : decode prog_9_method_38_code 41 = .ok (.ifCond .ne 8, 3) := by decide +kernel
theorem dMo_wordOf_44 : decode prog_9_method_38_code 44 = .ok (.bipush 30, 2) := by decide +kernel
theorem dMo_wordOf_46 : decode prog_9_method_38_code 46 = .ok (.goto 5, 3) := by decide +kernel
theorem dMo_wordOf_49 : decode prog_9_method_38_code 49 = .ok (.bipush 31, 2) := by decide +kernel
theorem dMo_wordOf_51 : decode prog_9_method_38_code 51 = .ok (.imul, 1) := by decide +kernel
theorem dMo_wordOf_52 : decode prog_9_method_38_code 52 = .ok (.iload_n 3, 1) := by decide +kernel
theorem dMo_wordOf_53 : decode prog_9_method_38_code 53 = .ok (.iadd, 1) := by decide +kernel
theorem dMo_wordOf_54 : decode prog_9_method_38_code 54 = .ok (.iaload, 1) := by decide +kernel
theorem dMo_wordOf_55 : decode prog_9_method_38_code 55 = .ok (.ireturn, 1) := by decide +kernel
set_option maxHeartbeats 4000000 in
set_option maxRecDepth 100000 in
theorem wMo_wordOf_51 {l : Launch} {G : ek_G} {kd : Nat → Nat} {p : Program} {e : Env} {s : State} {m : MethodId} {args : Array Value} {below : List Frame} {meth : Method} {c : Code} (X : ek_X p s m meth c args G prog_9_method_38_code 4 "ElasticKernelModel" (some .int)) {q : ek_St × Int32} {I : ek_St} {i3 : Int32} {t0 : Nat} {t1 : Int32} {t2 : Int32} (hf : fMo_wordOf_51 kd I i3 t0 t1 t2 = some q) {H : Heap} {locs : List Loc} {ls : Array Slot} (hw : ek_W G kd I H) (hS : va_S (ek_A G kd) s.heap H locs) (hl : lv_has ls 4 [(3, .int i3)]) : W p l e ({ frames := 3, cells := 0, slots := 0, locals := 70 } : Room) s m args below meth c H locs 0 0 (MQ below (ek_Q G kd (some (.int q.2)) q.1) args s 0 0 (ek_A G kd)) (F0 m 51 ls [.int t2, .int t1, ek_r G t0]) := by
  obtain ⟨hx, hb, hml, hown, hts, hr, hlocks, hK⟩ := id X
  have hA : ∀ q, ek_A G kd q → ek_A G kd q := fun _ h => h
  unfold fMo_wordOf_51 at hf
  refine lv_imul hx hb dMo_wordOf_51 ?_
  refine lv_iload_n hx hb dMo_wordOf_52 rfl (lv_at hl 0 rfl) ?_
  refine lv_iadd hx hb dMo_wordOf_53 ?_
  refine ek_iald hx hb hK hw 864 rfl hf dMo_wordOf_54 (fun hf => ?_)
  exact ek_iret hx hb hr hlocks hw hS hf dMo_wordOf_55
set_option maxHeartbeats 4000000 in
set_option maxRecDepth 100000 in
theorem wMo_wordOf_0 {l : Launch} {G : ek_G} {kd : Nat → Nat} {p : Program} {e : Env} {s : State} {m : MethodId} {args : Array Value} {below : List Frame} {meth : Method} {c : Code} (X : ek_X p s m meth c args G prog_9_method_38_code 4 "ElasticKernelModel" (some .int)) {q : ek_St × Int32} {I : ek_St} {x0 : Nat} {i1 : Int32} {i2 : Int32} {i3 : Int32} (hf : fMo_wordOf_0 kd I x0 i1 i2 i3 = some q) {H : Heap} {locs : List Loc} {ls : Array Slot} (hw : ek_W G kd I H) (hS : va_S (ek_A G kd) s.heap H locs) (hl : lv_has ls 4 [(0, ek_r G x0), (1, .int i1), (2, .int i2), (3, .int i3)]) : W p l e ({ frames := 3, cells := 0, slots := 0, locals := 70 } : Room) s m args below meth c H locs 0 0 (MQ below (ek_Q G kd (some (.int q.2)) q.1) args s 0 0 (ek_A G kd)) (F0 m 0 ls []) := by
  obtain ⟨hx, hb, hml, hown, hts, hr, hlocks, hK⟩ := id X
  have hA : ∀ q, ek_A G kd q → ek_A G kd q := fun _ h => h
  unfold fMo_wordOf_0 at hf
  refine ek_aload_n hx hb dMo_wordOf_0 rfl (lv_at hl 0 rfl) ?_
  refine lv_bipush (v := (30 : Int32)) hx hb dMo_wordOf_1 (by decide) ?_
  refine lv_iload_n hx hb dMo_wordOf_3 rfl (lv_at hl 1 rfl) ?_
  obtain ⟨hx2, hf⟩ := ek_ck_s hf
  refine ek_cv hf hS hA (fun I' hq => ek_rV (As := [.int ((30 : Int32)), .int i1]) ⟨hx, hb, hml, hown, hts⟩ hK hw 8 rfl (by decide) (by decide) hx2 (mMo_copy hq) (cwV 2 hts (lw_V q_669 q_671 p_18 q_8 q_672) rfl rfl rfl (by decide +kernel) ⟨Nat.le_of_ble_eq_true rfl, Nat.le_of_ble_eq_true rfl⟩) rfl hl.1 rfl (Nat.le_of_ble_eq_true rfl) dMo_wordOf_4 ⟨Nat.zero_le _, Nat.zero_le _⟩) (fun I1 H locs hf hw hS => ?_)
  refine ek_aload_n hx hb dMo_wordOf_7 rfl (lv_at hl 0 rfl) ?_
  refine lv_bipush (v := (31 : Int32)) hx hb dMo_wordOf_8 (by decide) ?_
  refine lv_iload_n hx hb dMo_wordOf_10 rfl (lv_at hl 1 rfl) ?_
  refine lv_iconst (v := (1 : Int32)) hx hb dMo_wordOf_11 (by decide) ?_
  refine lv_iadd hx hb dMo_wordOf_12 ?_
  obtain ⟨hx4, hf⟩ := ek_ck_s hf
  refine ek_cv hf hS hA (fun I' hq => ek_rV (As := [.int ((31 : Int32)), .int (i1 + ((1 : Int32)))]) ⟨hx, hb, hml, hown, hts⟩ hK hw 8 rfl (by decide) (by decide) hx4 (mMo_copy hq) (cwV 2 hts (lw_V q_669 q_671 p_18 q_8 q_672) rfl rfl rfl (by decide +kernel) ⟨Nat.le_of_ble_eq_true rfl, Nat.le_of_ble_eq_true rfl⟩) rfl hl.1 rfl (Nat.le_of_ble_eq_true rfl) dMo_wordOf_13 ⟨Nat.zero_le _, Nat.zero_le _⟩) (fun I3 H locs hf hw hS => ?_)
  refine ek_aload_n hx hb dMo_wordOf_16 rfl (lv_at hl 0 rfl) ?_
  refine lv_bipush (v := (30 : Int32)) hx hb dMo_wordOf_17 (by decide) ?_
  refine lv_bipush (v := (31 : Int32)) hx hb dMo_wordOf_19 (by decide) ?_
  obtain ⟨hx6, hf⟩ := ek_ck_s hf
  refine ek_cv hf hS hA (fun I' hq => ek_rV (As := [.int ((30 : Int32)), .int ((31 : Int32))]) ⟨hx, hb, hml, hown, hts⟩ hK hw 8 rfl (by decide) (by decide) hx6 (mMo_reduce hq) (cwV 2 hts (lw_V q_783 q_785 p_40 q_8 q_786) rfl rfl rfl (by decide +kernel) ⟨Nat.le_of_ble_eq_true rfl, Nat.le_of_ble_eq_true rfl⟩) rfl hl.1 rfl (Nat.le_of_ble_eq_true rfl) dMo_wordOf_21 ⟨Nat.zero_le _, Nat.zero_le _⟩) (fun I5 H locs hf hw hS => ?_)
  refine lv_iload_n hx hb dMo_wordOf_24 rfl (lv_at hl 3 rfl) ?_
  refine lv_bipush (v := (24 : Int32)) hx hb dMo_wordOf_25 (by decide) ?_
  refine lv_icmp_lt (tgt := 34) hx hb dMo_wordOf_27 (by decide) (fun c7 => ?_) (fun c7 => ?_)
  · have hf := ek_t c7 hf
    refine ek_aload_n hx hb dMo_wordOf_34 rfl (lv_at hl 0 rfl) ?_
    refine ek_getr hx hb 8 hts (in_Mo) hown hK hw rfl (by decide) (by decide) 23 (by decide) (n := 15) rfl rfl (hts _ q_599) hf dMo_wordOf_35 (fun hf => ?_)
    refine lv_bipush (v := (24 : Int32)) hx hb dMo_wordOf_38 (by decide) ?_
    refine lv_iload_n hx hb dMo_wordOf_40 rfl (lv_at hl 2 rfl) ?_
    refine lv_if_ne (tgt := 49) hx hb dMo_wordOf_41 (by decide) (fun c8 => ?_) (fun c8 => ?_)
    · have hf := ek_f c8 hf
      refine lv_bipush (v := (31 : Int32)) hx hb dMo_wordOf_49 (by decide) ?_
      exact wMo_wordOf_51 X hf hw hS (lv_sub hl [3] rfl)
    · have hf := ek_t c8 hf
      refine lv_bipush (v := (30 : Int32)) hx hb dMo_wordOf_44 (by decide) ?_
      refine lv_goto (tgt := 51) hx hb dMo_wordOf_46 (by decide) ?_
      exact wMo_wordOf_51 X hf hw hS (lv_sub hl [3] rfl)
  · have hf := ek_f c7 hf
    refine lv_iconst (v := (0 : Int32)) hx hb dMo_wordOf_30 (by decide) ?_
    refine lv_goto (tgt := 55) hx hb dMo_wordOf_31 (by decide) ?_
    exact ek_iret hx hb hr hlocks hw hS hf dMo_wordOf_55
set_option maxHeartbeats 4000000 in
set_option maxRecDepth 100000 in
theorem mMo_wordOf {l : Launch} {G : ek_G} {kd : Nat → Nat} {I : ek_St} {x0 : Nat} {i1 : Int32} {i2 : Int32} {i3 : Int32} {q : ek_St × Int32} (hf : fMo_wordOf kd I x0 i1 i2 i3 = some q) : ek_M l G kd y_Mo_wordOf (.code y_Mo_wordOf prog_9_method_38_code 4 (some .int) :: lw_g) ({ frames := 3, cells := 0, slots := 0, locals := 70 } : Room) [ek_r G x0, .int i1, .int i2, .int i3] I (some (.int q.2)) q.1 :=
  ek_body [(0, ek_r G x0), (1, .int i1), (2, .int i2), (3, .int i3)] (by decide) (by simp [lg_sl, ek_r_cat, ek_c_i, ek_c_l]) (by simp [lv_args, ek_r_cat, ek_c_i, ek_c_l]) (fun p e s m below meth c ls X hw hS hl => wMo_wordOf_0 X hf hw hS hl)
/-! ElasticKernelModel.rate(III)I -/
def fMo_rate_42 (kd : Nat → Nat) (I : ek_St) : Option (ek_St × Int32) :=
  some (I, (-1 : Int32))
def fMo_rate_0 (kd : Nat → Nat) (I : ek_St) (x0 : Nat) (i1 : Int32) (i2 : Int32) (i3 : Int32) : Option (ek_St × Int32) :=
  ek_ck (kd x0 = 8) (ek_let (ek_up I x0 0 ((0 : Int32))) (fun I1 => ek_ck (kd x0 = 8) (ek_bi (fMo_find kd I1 x0 i1) (fun I2 ir4 => if ir4 = ((-1 : Int32)) then (fMo_rate_42 kd I2) else (ek_ck (kd x0 = 8) (ek_ck (kd (x0 + 6) = 112) (ek_ck (ek_in ir4 12) (if (I2 (x0 + 6) ir4.toNatClampNeg) = ((2 : Int32)) then (fMo_rate_42 kd I2) else (if i2 < ((0 : Int32)) then (fMo_rate_42 kd I2) else (if ((1 : Int32)) < i2 then (fMo_rate_42 kd I2) else (if ((0 : Int32)) ≤ i3 then (ek_ck (kd x0 = 8) (ek_bi (fMo_wordOf kd I2 x0 (((2 : Int32)) * ir4) i2 i3) (fun I10 ir12 => some (I10, ir12)))) else (fMo_rate_42 kd I2))))))))))))
def fMo_rate (kd : Nat → Nat) (I : ek_St) (x0 : Nat) (i1 : Int32) (i2 : Int32) (i3 : Int32) : Option (ek_St × Int32) := fMo_rate_0 kd I x0 i1 i2 i3
theorem dMo_rate_0 : decode prog_9_method_39_code 0 = .ok (.aload_n 0, 1) := by decide +kernel
theorem dMo_rate_1 : decode prog_9_method_39_code 1 = .ok (.iconst 0, 1) := by decide +kernel
theorem dMo_rate_2 : decode prog_9_method_39_code 2 = .ok (.putfield 70, 3) := by decide +kernel
theorem dMo_rate_5 : decode prog_9_method_39_code 5 = .ok (.aload_n 0, 1) := by decide +kernel
theorem dMo_rate_6 : decode prog_9_method_39_code 6 = .ok (.iload_n 1, 1) := by decide +kernel
theorem dMo_rate_7 : decode prog_9_method_39_code 7 = .ok (.invokevirtual 161, 3) := by decide +kernel
theorem dMo_rate_10 : decode prog_9_method_39_code 10 = .ok (.istore 4, 2) := by decide +kernel
theorem dMo_rate_12 : decode prog_9_method_39_code 12 = .ok (.iload 4, 2) := by decide +kernel
theorem dMo_rate_14 : decode prog_9_method_39_code 14 = .ok (.iconst (-1), 1) := by decide +kernel
theorem dMo_rate_15 : decode prog_9_method_39_code 15 = .ok (.if_icmp .eq 27, 3) := by decide +kernel
theorem dMo_rate_18 : decode prog_9_method_39_code 18 = .ok (.aload_n 0, 1) := by decide +kernel
theorem dMo_rate_19 : decode prog_9_method_39_code 19 = .ok (.getfield 29, 3) := by decide +kernel
theorem dMo_rate_22 : decode prog_9_method_39_code 22 = .ok (.iload 4, 2) := by decide +kernel
theorem dMo_rate_24 : decode prog_9_method_39_code 24 = .ok (.iaload, 1) := by decide +kernel
theorem dMo_rate_25 : decode prog_9_method_39_code 25 = .ok (.iconst 2, 1) := by decide +kernel
theorem dMo_rate_26 : decode prog_9_method_39_code 26 = .ok (.if_icmp .eq 16, 3) := by decide +kernel
theorem dMo_rate_29 : decode prog_9_method_39_code 29 = .ok (.iload_n 2, 1) := by decide +kernel
theorem dMo_rate_30 : decode prog_9_method_39_code 30 = .ok (.ifCond .lt 12, 3) := by decide +kernel
theorem dMo_rate_33 : decode prog_9_method_39_code 33 = .ok (.iload_n 2, 1) := by decide +kernel
theorem dMo_rate_34 : decode prog_9_method_39_code 34 = .ok (.iconst 1, 1) := by decide +kernel
theorem dMo_rate_35 : decode prog_9_method_39_code 35 = .ok (.if_icmp .gt 7, 3) := by decide +kernel
theorem dMo_rate_38 : decode prog_9_method_39_code 38 = .ok (.iload_n 3, 1) := by decide +kernel
theorem dMo_rate_39 : decode prog_9_method_39_code 39 = .ok (.ifCond .ge 7, 3) := by decide +kernel
theorem dMo_rate_42 : decode prog_9_method_39_code 42 = .ok (.iconst (-1), 1) := by decide +kernel
theorem dMo_rate_43 : decode prog_9_method_39_code 43 = .ok (.goto 13, 3) := by decide +kernel
theorem dMo_rate_46 : decode prog_9_method_39_code 46 = .ok (.aload_n 0, 1) := by decide +kernel
theorem dMo_rate_47 : decode prog_9_method_39_code 47 = .ok (.iconst 2, 1) := by decide +kernel
theorem dMo_rate_48 : decode prog_9_method_39_code 48 = .ok (.iload 4, 2) := by decide +kernel
theorem dMo_rate_50 : decode prog_9_method_39_code 50 = .ok (.imul, 1) := by decide +kernel
theorem dMo_rate_51 : decode prog_9_method_39_code 51 = .ok (.iload_n 2, 1) := by decide +kernel
theorem dMo_rate_52 : decode prog_9_method_39_code 52 = .ok (.iload_n 3, 1) := by decide +kernel
theorem dMo_rate_53 : decode prog_9_method_39_code 53 = .ok (.invokevirtual 190, 3) := by decide +kernel
theorem dMo_rate_56 : decode prog_9_method_39_code 56 = .ok (.ireturn, 1) := by decide +kernel
set_option maxHeartbeats 4000000 in
set_option maxRecDepth 100000 in
theorem wMo_rate_42 {l : Launch} {G : ek_G} {kd : Nat → Nat} {p : Program} {e : Env} {s : State} {m : MethodId} {args : Array Value} {below : List Frame} {meth : Method} {c : Code} (X : ek_X p s m meth c args G prog_9_method_39_code 5 "ElasticKernelModel" (some .int)) {q : ek_St × Int32} {I : ek_St} (hf : fMo_rate_42 kd I = some q) {H : Heap} {locs : List Loc} {ls : Array Slot} (hw : ek_W G kd I H) (hS : va_S (ek_A G kd) s.heap H locs) (hl : lv_has ls 5 []) : W p l e ({ frames := 4, cells := 0, slots := 0, locals := 93 } : Room) s m args below meth c H locs 0 0 (MQ below (ek_Q G kd (some (.int q.2)) q.1) args s 0 0 (ek_A G kd)) (F0 m 42 ls []) := by
  obtain ⟨hx, hb, hml, hown, hts, hr, hlocks, hK⟩ := id X
  have hA : ∀ q, ek_A G kd q → ek_A G kd q := fun _ h => h
  unfold fMo_rate_42 at hf
  refine lv_iconst (v := (-1 : Int32)) hx hb dMo_rate_42 (by decide) ?_
  refine lv_goto (tgt := 56) hx hb dMo_rate_43 (by decide) ?_
  exact ek_iret hx hb hr hlocks hw hS hf dMo_rate_56
set_option maxHeartbeats 4000000 in
set_option maxRecDepth 100000 in
theorem wMo_rate_0 {l : Launch} {G : ek_G} {kd : Nat → Nat} {p : Program} {e : Env} {s : State} {m : MethodId} {args : Array Value} {below : List Frame} {meth : Method} {c : Code} (X : ek_X p s m meth c args G prog_9_method_39_code 5 "ElasticKernelModel" (some .int)) {q : ek_St × Int32} {I : ek_St} {x0 : Nat} {i1 : Int32} {i2 : Int32} {i3 : Int32} (hf : fMo_rate_0 kd I x0 i1 i2 i3 = some q) {H : Heap} {locs : List Loc} {ls : Array Slot} (hw : ek_W G kd I H) (hS : va_S (ek_A G kd) s.heap H locs) (hl : lv_has ls 5 [(0, ek_r G x0), (1, .int i1), (2, .int i2), (3, .int i3)]) : W p l e ({ frames := 4, cells := 0, slots := 0, locals := 93 } : Room) s m args below meth c H locs 0 0 (MQ below (ek_Q G kd (some (.int q.2)) q.1) args s 0 0 (ek_A G kd)) (F0 m 0 ls []) := by
  obtain ⟨hx, hb, hml, hown, hts, hr, hlocks, hK⟩ := id X
  have hA : ∀ q, ek_A G kd q → ek_A G kd q := fun _ h => h
  unfold fMo_rate_0 at hf
  refine ek_aload_n hx hb dMo_rate_0 rfl (lv_at hl 0 rfl) ?_
  refine lv_iconst (v := (0 : Int32)) hx hb dMo_rate_1 (by decide) ?_
  refine ek_puti hx hb 8 hts (in_Mo) ty_Mo ty_Mo_ok nm_Mo hown hK hw hS hA rfl (by decide) (by decide) 0 (by decide) rfl (hts _ q_576) rfl rfl rfl hf dMo_rate_2 (fun I1 H locs hf hw hS => ?_)
  refine ek_aload_n hx hb dMo_rate_5 rfl (lv_at hl 0 rfl) ?_
  refine lv_iload_n hx hb dMo_rate_6 rfl (lv_at hl 1 rfl) ?_
  obtain ⟨hx3, hf⟩ := ek_ck_s hf
  refine ek_ci hf hS hA (fun I' v hq => ek_rV (As := [.int i1]) ⟨hx, hb, hml, hown, hts⟩ hK hw 8 rfl (by decide) (by decide) hx3 (mMo_find hq) (cwV 1 hts (lw_V q_661 q_663 p_16 q_8 q_664) rfl rfl rfl (by decide +kernel) ⟨Nat.le_of_ble_eq_true rfl, Nat.le_of_ble_eq_true rfl⟩) rfl hl.1 rfl (Nat.le_of_ble_eq_true rfl) dMo_rate_7 ⟨Nat.zero_le _, Nat.zero_le _⟩) (fun I2 ir4 H locs hf hw hS => ?_)
  refine ek_istore (lv' := [(4, .int ir4), (3, .int i3), (0, ek_r G x0), (1, .int i1), (2, .int i2)]) hx hb dMo_rate_10 hl (by decide) (ek_s1k 3 rfl rfl rfl rfl rfl) (fun ls hl => ?_)
  refine lv_iload hx hb dMo_rate_12 (lv_at hl 0 rfl) ?_
  refine lv_iconst (v := (-1 : Int32)) hx hb dMo_rate_14 (by decide) ?_
  refine lv_icmp_eq (tgt := 42) hx hb dMo_rate_15 (by decide) (fun c5 => ?_) (fun c5 => ?_)
  · have hf := ek_t c5 hf
    exact wMo_rate_42 X hf hw hS (lv_sub hl [] rfl)
  · have hf := ek_f c5 hf
    refine ek_aload_n hx hb dMo_rate_18 rfl (lv_at hl 2 rfl) ?_
    refine ek_getr hx hb 8 hts (in_Mo) hown hK hw rfl (by decide) (by decide) 13 (by decide) (n := 5) rfl rfl (hts _ q_589) hf dMo_rate_19 (fun hf => ?_)
    refine lv_iload hx hb dMo_rate_22 (lv_at hl 0 rfl) ?_
    refine ek_iald hx hb hK hw 12 rfl hf dMo_rate_24 (fun hf => ?_)
    refine lv_iconst (v := (2 : Int32)) hx hb dMo_rate_25 (by decide) ?_
    refine lv_icmp_eq (tgt := 42) hx hb dMo_rate_26 (by decide) (fun c6 => ?_) (fun c6 => ?_)
    · have hf := ek_t c6 hf
      exact wMo_rate_42 X hf hw hS (lv_sub hl [] rfl)
    · have hf := ek_f c6 hf
      refine lv_iload_n hx hb dMo_rate_29 rfl (lv_at hl 4 rfl) ?_
      refine lv_if_lt (tgt := 42) hx hb dMo_rate_30 (by decide) (fun c7 => ?_) (fun c7 => ?_)
      · have hf := ek_t c7 hf
        exact wMo_rate_42 X hf hw hS (lv_sub hl [] rfl)
      · have hf := ek_f c7 hf
        refine lv_iload_n hx hb dMo_rate_33 rfl (lv_at hl 4 rfl) ?_
        refine lv_iconst (v := (1 : Int32)) hx hb dMo_rate_34 (by decide) ?_
        refine lv_icmp_gt (tgt := 42) hx hb dMo_rate_35 (by decide) (fun c8 => ?_) (fun c8 => ?_)
        · have hf := ek_t c8 hf
          exact wMo_rate_42 X hf hw hS (lv_sub hl [] rfl)
        · have hf := ek_f c8 hf
          refine lv_iload_n hx hb dMo_rate_38 rfl (lv_at hl 1 rfl) ?_
          refine lv_if_ge (tgt := 46) hx hb dMo_rate_39 (by decide) (fun c9 => ?_) (fun c9 => ?_)
          · have hf := ek_t c9 hf
            refine ek_aload_n hx hb dMo_rate_46 rfl (lv_at hl 2 rfl) ?_
            refine lv_iconst (v := (2 : Int32)) hx hb dMo_rate_47 (by decide) ?_
            refine lv_iload hx hb dMo_rate_48 (lv_at hl 0 rfl) ?_
            refine lv_imul hx hb dMo_rate_50 ?_
            refine lv_iload_n hx hb dMo_rate_51 rfl (lv_at hl 4 rfl) ?_
            refine lv_iload_n hx hb dMo_rate_52 rfl (lv_at hl 1 rfl) ?_
            obtain ⟨hx11, hf⟩ := ek_ck_s hf
            refine ek_ci hf hS hA (fun I' v hq => ek_rV (As := [.int (((2 : Int32)) * ir4), .int i2, .int i3]) ⟨hx, hb, hml, hown, hts⟩ hK hw 8 rfl (by decide) (by decide) hx11 (mMo_wordOf hq) (cwV 3 hts (lw_V q_779 q_781 p_39 q_8 q_782) rfl rfl rfl (by decide +kernel) ⟨Nat.le_of_ble_eq_true rfl, Nat.le_of_ble_eq_true rfl⟩) rfl hl.1 rfl (Nat.le_of_ble_eq_true rfl) dMo_rate_53 ⟨Nat.zero_le _, Nat.zero_le _⟩) (fun I10 ir12 H locs hf hw hS => ?_)
            exact ek_iret hx hb hr hlocks hw hS hf dMo_rate_56
          · have hf := ek_f c9 hf
            exact wMo_rate_42 X hf hw hS (lv_sub hl [] rfl)
set_option maxHeartbeats 4000000 in
set_option maxRecDepth 100000 in
theorem mMo_rate {l : Launch} {G : ek_G} {kd : Nat → Nat} {I : ek_St} {x0 : Nat} {i1 : Int32} {i2 : Int32} {i3 : Int32} {q : ek_St × Int32} (hf : fMo_rate kd I x0 i1 i2 i3 = some q) : ek_M l G kd y_Mo_rate (.code y_Mo_rate prog_9_method_39_code 5 (some .int) :: lw_g) ({ frames := 4, cells := 0, slots := 0, locals := 93 } : Room) [ek_r G x0, .int i1, .int i2, .int i3] I (some (.int q.2)) q.1 :=
  ek_body [(0, ek_r G x0), (1, .int i1), (2, .int i2), (3, .int i3)] (by decide) (by simp [lg_sl, ek_r_cat, ek_c_i, ek_c_l]) (by simp [lv_args, ek_r_cat, ek_c_i, ek_c_l]) (fun p e s m below meth c ls X hw hS hl => wMo_rate_0 X hf hw hS hl)
/-! ElasticKernelModel.total(II)I -/
def fMo_total_18 (kd : Nat → Nat) (I : ek_St) : Option (ek_St × Int32) :=
  some (I, (-1 : Int32))
def fMo_total_0 (kd : Nat → Nat) (I : ek_St) (x0 : Nat) (i1 : Int32) (i2 : Int32) : Option (ek_St × Int32) :=
  ek_ck (kd x0 = 8) (ek_let (ek_up I x0 0 ((0 : Int32))) (fun I1 => if i1 < ((0 : Int32)) then (fMo_total_18 kd I1) else (if ((1 : Int32)) < i1 then (fMo_total_18 kd I1) else (if ((0 : Int32)) ≤ i2 then (ek_ck (kd x0 = 8) (ek_bi (fMo_wordOf kd I1 x0 ((24 : Int32)) i1 i2) (fun I5 ir7 => some (I5, ir7)))) else (fMo_total_18 kd I1)))))
def fMo_total (kd : Nat → Nat) (I : ek_St) (x0 : Nat) (i1 : Int32) (i2 : Int32) : Option (ek_St × Int32) := fMo_total_0 kd I x0 i1 i2
theorem dMo_total_0 : decode prog_9_method_40_code 0 = .ok (.aload_n 0, 1) := by decide +kernel
theorem dMo_total_1 : decode prog_9_method_40_code 1 = .ok (.iconst 0, 1) := by decide +kernel
theorem dMo_total_2 : decode prog_9_method_40_code 2 = .ok (.putfield 70, 3) := by decide +kernel
theorem dMo_total_5 : decode prog_9_method_40_code 5 = .ok (.iload_n 1, 1) := by decide +kernel
theorem dMo_total_6 : decode prog_9_method_40_code 6 = .ok (.ifCond .lt 12, 3) := by decide +kernel
theorem dMo_total_9 : decode prog_9_method_40_code 9 = .ok (.iload_n 1, 1) := by decide +kernel
theorem dMo_total_10 : decode prog_9_method_40_code 10 = .ok (.iconst 1, 1) := by decide +kernel
theorem dMo_total_11 : decode prog_9_method_40_code 11 = .ok (.if_icmp .gt 7, 3) := by decide +kernel
theorem dMo_total_14 : decode prog_9_method_40_code 14 = .ok (.iload_n 2, 1) := by decide +kernel
theorem dMo_total_15 : decode prog_9_method_40_code 15 = .ok (.ifCond .ge 7, 3) := by decide +kernel
theorem dMo_total_18 : decode prog_9_method_40_code 18 = .ok (.iconst (-1), 1) := by decide +kernel
theorem dMo_total_19 : decode prog_9_method_40_code 19 = .ok (.goto 11, 3) := by decide +kernel
theorem dMo_total_22 : decode prog_9_method_40_code 22 = .ok (.aload_n 0, 1) := by decide +kernel
theorem dMo_total_23 : decode prog_9_method_40_code 23 = .ok (.bipush 24, 2) := by decide +kernel
theorem dMo_total_25 : decode prog_9_method_40_code 25 = .ok (.iload_n 1, 1) := by decide +kernel
theorem dMo_total_26 : decode prog_9_method_40_code 26 = .ok (.iload_n 2, 1) := by decide +kernel
theorem dMo_total_27 : decode prog_9_method_40_code 27 = .ok (.invokevirtual 190, 3) := by decide +kernel
theorem dMo_total_30 : decode prog_9_method_40_code 30 = .ok (.ireturn, 1) := by decide +kernel
set_option maxHeartbeats 4000000 in
set_option maxRecDepth 100000 in
theorem wMo_total_18 {l : Launch} {G : ek_G} {kd : Nat → Nat} {p : Program} {e : Env} {s : State} {m : MethodId} {args : Array Value} {below : List Frame} {meth : Method} {c : Code} (X : ek_X p s m meth c args G prog_9_method_40_code 3 "ElasticKernelModel" (some .int)) {q : ek_St × Int32} {I : ek_St} (hf : fMo_total_18 kd I = some q) {H : Heap} {locs : List Loc} {ls : Array Slot} (hw : ek_W G kd I H) (hS : va_S (ek_A G kd) s.heap H locs) (hl : lv_has ls 3 []) : W p l e ({ frames := 4, cells := 0, slots := 0, locals := 93 } : Room) s m args below meth c H locs 0 0 (MQ below (ek_Q G kd (some (.int q.2)) q.1) args s 0 0 (ek_A G kd)) (F0 m 18 ls []) := by
  obtain ⟨hx, hb, hml, hown, hts, hr, hlocks, hK⟩ := id X
  have hA : ∀ q, ek_A G kd q → ek_A G kd q := fun _ h => h
  unfold fMo_total_18 at hf
  refine lv_iconst (v := (-1 : Int32)) hx hb dMo_total_18 (by decide) ?_
  refine lv_goto (tgt := 30) hx hb dMo_total_19 (by decide) ?_
  exact ek_iret hx hb hr hlocks hw hS hf dMo_total_30
set_option maxHeartbeats 4000000 in
set_option maxRecDepth 100000 in
theorem wMo_total_0 {l : Launch} {G : ek_G} {kd : Nat → Nat} {p : Program} {e : Env} {s : State} {m : MethodId} {args : Array Value} {below : List Frame} {meth : Method} {c : Code} (X : ek_X p s m meth c args G prog_9_method_40_code 3 "ElasticKernelModel" (some .int)) {q : ek_St × Int32} {I : ek_St} {x0 : Nat} {i1 : Int32} {i2 : Int32} (hf : fMo_total_0 kd I x0 i1 i2 = some q) {H : Heap} {locs : List Loc} {ls : Array Slot} (hw : ek_W G kd I H) (hS : va_S (ek_A G kd) s.heap H locs) (hl : lv_has ls 3 [(0, ek_r G x0), (1, .int i1), (2, .int i2)]) : W p l e ({ frames := 4, cells := 0, slots := 0, locals := 93 } : Room) s m args below meth c H locs 0 0 (MQ below (ek_Q G kd (some (.int q.2)) q.1) args s 0 0 (ek_A G kd)) (F0 m 0 ls []) := by
  obtain ⟨hx, hb, hml, hown, hts, hr, hlocks, hK⟩ := id X
  have hA : ∀ q, ek_A G kd q → ek_A G kd q := fun _ h => h
  unfold fMo_total_0 at hf
  refine ek_aload_n hx hb dMo_total_0 rfl (lv_at hl 0 rfl) ?_
  refine lv_iconst (v := (0 : Int32)) hx hb dMo_total_1 (by decide) ?_
  refine ek_puti hx hb 8 hts (in_Mo) ty_Mo ty_Mo_ok nm_Mo hown hK hw hS hA rfl (by decide) (by decide) 0 (by decide) rfl (hts _ q_576) rfl rfl rfl hf dMo_total_2 (fun I1 H locs hf hw hS => ?_)
  refine lv_iload_n hx hb dMo_total_5 rfl (lv_at hl 1 rfl) ?_
  refine lv_if_lt (tgt := 18) hx hb dMo_total_6 (by decide) (fun c2 => ?_) (fun c2 => ?_)
  · have hf := ek_t c2 hf
    exact wMo_total_18 X hf hw hS (lv_sub hl [] rfl)
  · have hf := ek_f c2 hf
    refine lv_iload_n hx hb dMo_total_9 rfl (lv_at hl 1 rfl) ?_
    refine lv_iconst (v := (1 : Int32)) hx hb dMo_total_10 (by decide) ?_
    refine lv_icmp_gt (tgt := 18) hx hb dMo_total_11 (by decide) (fun c3 => ?_) (fun c3 => ?_)
    · have hf := ek_t c3 hf
      exact wMo_total_18 X hf hw hS (lv_sub hl [] rfl)
    · have hf := ek_f c3 hf
      refine lv_iload_n hx hb dMo_total_14 rfl (lv_at hl 2 rfl) ?_
      refine lv_if_ge (tgt := 22) hx hb dMo_total_15 (by decide) (fun c4 => ?_) (fun c4 => ?_)
      · have hf := ek_t c4 hf
        refine ek_aload_n hx hb dMo_total_22 rfl (lv_at hl 0 rfl) ?_
        refine lv_bipush (v := (24 : Int32)) hx hb dMo_total_23 (by decide) ?_
        refine lv_iload_n hx hb dMo_total_25 rfl (lv_at hl 1 rfl) ?_
        refine lv_iload_n hx hb dMo_total_26 rfl (lv_at hl 2 rfl) ?_
        obtain ⟨hx6, hf⟩ := ek_ck_s hf
        refine ek_ci hf hS hA (fun I' v hq => ek_rV (As := [.int ((24 : Int32)), .int i1, .int i2]) ⟨hx, hb, hml, hown, hts⟩ hK hw 8 rfl (by decide) (by decide) hx6 (mMo_wordOf hq) (cwV 3 hts (lw_V q_779 q_781 p_39 q_8 q_782) rfl rfl rfl (by decide +kernel) ⟨Nat.le_of_ble_eq_true rfl, Nat.le_of_ble_eq_true rfl⟩) rfl hl.1 rfl (Nat.le_of_ble_eq_true rfl) dMo_total_27 ⟨Nat.zero_le _, Nat.zero_le _⟩) (fun I5 ir7 H locs hf hw hS => ?_)
        exact ek_iret hx hb hr hlocks hw hS hf dMo_total_30
      · have hf := ek_f c4 hf
        exact wMo_total_18 X hf hw hS (lv_sub hl [] rfl)
set_option maxHeartbeats 4000000 in
set_option maxRecDepth 100000 in
theorem mMo_total {l : Launch} {G : ek_G} {kd : Nat → Nat} {I : ek_St} {x0 : Nat} {i1 : Int32} {i2 : Int32} {q : ek_St × Int32} (hf : fMo_total kd I x0 i1 i2 = some q) : ek_M l G kd y_Mo_total (.code y_Mo_total prog_9_method_40_code 3 (some .int) :: lw_g) ({ frames := 4, cells := 0, slots := 0, locals := 93 } : Room) [ek_r G x0, .int i1, .int i2] I (some (.int q.2)) q.1 :=
  ek_body [(0, ek_r G x0), (1, .int i1), (2, .int i2)] (by decide) (by simp [lg_sl, ek_r_cat, ek_c_i, ek_c_l]) (by simp [lv_args, ek_r_cat, ek_c_i, ek_c_l]) (fun p e s m below meth c ls X hw hS hl => wMo_total_0 X hf hw hS hl)
/-! ElasticKernelModel.unused()I -/
def fMo_unused_26 (kd : Nat → Nat) (k26 : (ek_St × Nat × Int32) → Option (ek_St × Int32)) (I : ek_St) (x0 : Nat) (i1 : Int32) : Option (ek_St × Int32) :=
  ek_ck (kd x0 = 8) (ek_bi (fMo_compare kd I x0 ((31 : Int32)) ((30 : Int32))) (fun I1 ir3 => if ((0 : Int32)) ≤ ir3 then (ek_ck (kd x0 = 8) (some (I1, (I1 x0 2) - i1))) else (ek_ck (kd x0 = 8) (ek_bv (fMo_add3 kd I1 x0 ((31 : Int32)) ((25 : Int32)) ((0 : Int32))) (fun I5 => ek_let (i1 + (1 : Int32)) (fun i1_7 => k26 (I5, x0, i1_7)))))))
def fMo_unused_0 (kd : Nat → Nat) (I : ek_St) (x0 : Nat) : Option (ek_St × Int32) :=
  ek_ck (kd x0 = 8) (ek_bv (fMo_copy kd I x0 ((30 : Int32)) ((24 : Int32))) (fun I1 => ek_ck (kd x0 = 8) (ek_bv (fMo_times kd I1 x0 ((30 : Int32)) ((1000 : Int32))) (fun I3 => ek_ck (kd x0 = 8) (ek_bv (fMo_be kd I3 x0 ((31 : Int32)) ((0 : Int64))) (fun I5 => ek_lp (fun (k : (ek_St × Nat × Int32) → Option (ek_St × Int32)) (q : (ek_St × Nat × Int32)) => fMo_unused_26 kd k q.1 q.2.1 q.2.2) ek_N (I5, x0, (0 : Int32))))))))
def fMo_unused (kd : Nat → Nat) (I : ek_St) (x0 : Nat) : Option (ek_St × Int32) := fMo_unused_0 kd I x0
theorem dMo_unused_0 : decode prog_9_method_41_code 0 = .ok (.aload_n 0, 1) := by decide +kernel
theorem dMo_unused_1 : decode prog_9_method_41_code 1 = .ok (.bipush 30, 2) := by decide +kernel
theorem dMo_unused_3 : decode prog_9_method_41_code 3 = .ok (.bipush 24, 2) := by decide +kernel
theorem dMo_unused_5 : decode prog_9_method_41_code 5 = .ok (.invokevirtual 87, 3) := by decide +kernel
theorem dMo_unused_8 : decode prog_9_method_41_code 8 = .ok (.aload_n 0, 1) := by decide +kernel
theorem dMo_unused_9 : decode prog_9_method_41_code 9 = .ok (.bipush 30, 2) := by decide +kernel
theorem dMo_unused_11 : decode prog_9_method_41_code 11 = .ok (.sipush 1000, 3) := by decide +kernel
theorem dMo_unused_14 : decode prog_9_method_41_code 14 = .ok (.invokevirtual 102, 3) := by decide +kernel
theorem dMo_unused_17 : decode prog_9_method_41_code 17 = .ok (.iconst 0, 1) := by decide +kernel
theorem dMo_unused_18 : decode prog_9_method_41_code 18 = .ok (.istore_n 1, 1) := by decide +kernel
theorem dMo_unused_19 : decode prog_9_method_41_code 19 = .ok (.aload_n 0, 1) := by decide +kernel
theorem dMo_unused_20 : decode prog_9_method_41_code 20 = .ok (.bipush 31, 2) := by decide +kernel
theorem dMo_unused_22 : decode prog_9_method_41_code 22 = .ok (.lconst 0, 1) := by decide +kernel
theorem dMo_unused_23 : decode prog_9_method_41_code 23 = .ok (.invokevirtual 66, 3) := by decide +kernel
theorem dMo_unused_26 : decode prog_9_method_41_code 26 = .ok (.aload_n 0, 1) := by decide +kernel
theorem dMo_unused_27 : decode prog_9_method_41_code 27 = .ok (.bipush 31, 2) := by decide +kernel
theorem dMo_unused_29 : decode prog_9_method_41_code 29 = .ok (.bipush 30, 2) := by decide +kernel
theorem dMo_unused_31 : decode prog_9_method_41_code 31 = .ok (.invokevirtual 91, 3) := by decide +kernel
theorem dMo_unused_34 : decode prog_9_method_41_code 34 = .ok (.ifCond .ge 18, 3) := by decide +kernel
theorem dMo_unused_37 : decode prog_9_method_41_code 37 = .ok (.aload_n 0, 1) := by decide +kernel
theorem dMo_unused_38 : decode prog_9_method_41_code 38 = .ok (.bipush 31, 2) := by decide +kernel
theorem dMo_unused_40 : decode prog_9_method_41_code 40 = .ok (.bipush 25, 2) := by decide +kernel
theorem dMo_unused_42 : decode prog_9_method_41_code 42 = .ok (.iconst 0, 1) := by decide +kernel
theorem dMo_unused_43 : decode prog_9_method_41_code 43 = .ok (.invokevirtual 95, 3) := by decide +kernel
theorem dMo_unused_46 : decode prog_9_method_41_code 46 = .ok (.iinc 1 1, 3) := by decide +kernel
theorem dMo_unused_49 : decode prog_9_method_41_code 49 = .ok (.goto (-23), 3) := by decide +kernel
theorem dMo_unused_52 : decode prog_9_method_41_code 52 = .ok (.aload_n 0, 1) := by decide +kernel
theorem dMo_unused_53 : decode prog_9_method_41_code 53 = .ok (.getfield 7, 3) := by decide +kernel
theorem dMo_unused_56 : decode prog_9_method_41_code 56 = .ok (.iload_n 1, 1) := by decide +kernel
theorem dMo_unused_57 : decode prog_9_method_41_code 57 = .ok (.isub, 1) := by decide +kernel
theorem dMo_unused_58 : decode prog_9_method_41_code 58 = .ok (.ireturn, 1) := by decide +kernel
set_option maxHeartbeats 4000000 in
set_option maxRecDepth 100000 in
theorem wMo_unused_26 {l : Launch} {G : ek_G} {kd : Nat → Nat} {p : Program} {e : Env} {s : State} {m : MethodId} {args : Array Value} {below : List Frame} {meth : Method} {c : Code} (X : ek_X p s m meth c args G prog_9_method_41_code 2 "ElasticKernelModel" (some .int)) {q : ek_St × Int32} {k26 : (ek_St × Nat × Int32) → Option (ek_St × Int32)} (hk26 : ∀ q0 : ek_St × Nat × Int32, k26 q0 = some q → ∀ (H : Heap) (locs : List Loc) (ls : Array Slot), ek_W G kd q0.1 H → va_S (ek_A G kd) s.heap H locs → lv_has ls 2 [(0, ek_r G q0.2.1), (1, .int q0.2.2)] → W p l e ({ frames := 1, cells := 0, slots := 0, locals := 27 } : Room) s m args below meth c H locs 0 0 (MQ below (ek_Q G kd (some (.int q.2)) q.1) args s 0 0 (ek_A G kd)) (F0 m 26 ls [])) {I : ek_St} {x0 : Nat} {i1 : Int32} (hf : fMo_unused_26 kd k26 I x0 i1 = some q) {H : Heap} {locs : List Loc} {ls : Array Slot} (hw : ek_W G kd I H) (hS : va_S (ek_A G kd) s.heap H locs) (hl : lv_has ls 2 [(0, ek_r G x0), (1, .int i1)]) : W p l e ({ frames := 1, cells := 0, slots := 0, locals := 27 } : Room) s m args below meth c H locs 0 0 (MQ below (ek_Q G kd (some (.int q.2)) q.1) args s 0 0 (ek_A G kd)) (F0 m 26 ls []) := by
  obtain ⟨hx, hb, hml, hown, hts, hr, hlocks, hK⟩ := id X
  have hA : ∀ q, ek_A G kd q → ek_A G kd q := fun _ h => h
  unfold fMo_unused_26 at hf
  refine ek_aload_n hx hb dMo_unused_26 rfl (lv_at hl 0 rfl) ?_
  refine lv_bipush (v := (31 : Int32)) hx hb dMo_unused_27 (by decide) ?_
  refine lv_bipush (v := (30 : Int32)) hx hb dMo_unused_29 (by decide) ?_
  obtain ⟨hx2, hf⟩ := ek_ck_s hf
  refine ek_ci hf hS hA (fun I' v hq => ek_rV (As := [.int ((31 : Int32)), .int ((30 : Int32))]) ⟨hx, hb, hml, hown, hts⟩ hK hw 8 rfl (by decide) (by decide) hx2 (mMo_compare hq) (cwV 2 hts (lw_V q_698 q_700 p_25 q_8 q_701) rfl rfl rfl (by decide +kernel) ⟨Nat.le_of_ble_eq_true rfl, Nat.le_of_ble_eq_true rfl⟩) rfl hl.1 rfl (Nat.le_of_ble_eq_true rfl) dMo_unused_31 ⟨Nat.zero_le _, Nat.zero_le _⟩) (fun I1 ir3 H locs hf hw hS => ?_)
  refine lv_if_ge (tgt := 52) hx hb dMo_unused_34 (by decide) (fun c4 => ?_) (fun c4 => ?_)
  · have hf := ek_t c4 hf
    refine ek_aload_n hx hb dMo_unused_52 rfl (lv_at hl 0 rfl) ?_
    refine ek_geti hx hb 8 hts (in_Mo) hown hK hw rfl (by decide) (by decide) 2 (by decide) rfl (hts _ q_578) hf dMo_unused_53 (fun hf => ?_)
    refine lv_iload_n hx hb dMo_unused_56 rfl (lv_at hl 1 rfl) ?_
    refine lv_isub hx hb dMo_unused_57 ?_
    exact ek_iret hx hb hr hlocks hw hS hf dMo_unused_58
  · have hf := ek_f c4 hf
    refine ek_aload_n hx hb dMo_unused_37 rfl (lv_at hl 0 rfl) ?_
    refine lv_bipush (v := (31 : Int32)) hx hb dMo_unused_38 (by decide) ?_
    refine lv_bipush (v := (25 : Int32)) hx hb dMo_unused_40 (by decide) ?_
    refine lv_iconst (v := (0 : Int32)) hx hb dMo_unused_42 (by decide) ?_
    obtain ⟨hx6, hf⟩ := ek_ck_s hf
    refine ek_cv hf hS hA (fun I' hq => ek_rV (As := [.int ((31 : Int32)), .int ((25 : Int32)), .int ((0 : Int32))]) ⟨hx, hb, hml, hown, hts⟩ hK hw 8 rfl (by decide) (by decide) hx6 (mMo_add3 hq) (cwV 3 hts (lw_V q_689 q_691 p_23 q_8 q_692) rfl rfl rfl (by decide +kernel) ⟨Nat.le_of_ble_eq_true rfl, Nat.le_of_ble_eq_true rfl⟩) rfl hl.1 rfl (Nat.le_of_ble_eq_true rfl) dMo_unused_43 ⟨Nat.zero_le _, Nat.zero_le _⟩) (fun I5 H locs hf hw hS => ?_)
    refine ek_iinc hx hb 1 (fun i1_7 => [(1, .int i1_7), (0, ek_r G x0)]) dMo_unused_46 hl rfl (v := i1 + (1 : Int32)) rfl hf (by decide) (fun i1_7 => ek_s1k 0 rfl rfl ek_r_cat rfl rfl) (fun i1_7 ls hf hl => ?_)
    refine lv_goto (tgt := 26) hx hb dMo_unused_49 (by decide) ?_
    exact hk26 (I5, x0, i1_7) hf _ _ _ hw hS (lv_sub hl [1, 0] rfl)
set_option maxHeartbeats 4000000 in
set_option maxRecDepth 100000 in
theorem wMo_unused_26_lp {l : Launch} {G : ek_G} {kd : Nat → Nat} {p : Program} {e : Env} {s : State} {m : MethodId} {args : Array Value} {below : List Frame} {meth : Method} {c : Code} (X : ek_X p s m meth c args G prog_9_method_41_code 2 "ElasticKernelModel" (some .int)) {q : ek_St × Int32} (n : Nat) : ∀ q0 : ek_St × Nat × Int32, ek_lp (fun (k : (ek_St × Nat × Int32) → Option (ek_St × Int32)) (q : (ek_St × Nat × Int32)) => fMo_unused_26 kd k q.1 q.2.1 q.2.2) n q0 = some q → ∀ (H : Heap) (locs : List Loc) (ls : Array Slot), ek_W G kd q0.1 H → va_S (ek_A G kd) s.heap H locs → lv_has ls 2 [(0, ek_r G q0.2.1), (1, .int q0.2.2)] → W p l e ({ frames := 1, cells := 0, slots := 0, locals := 27 } : Room) s m args below meth c H locs 0 0 (MQ below (ek_Q G kd (some (.int q.2)) q.1) args s 0 0 (ek_A G kd)) (F0 m 26 ls []) :=
  ek_lp_ind (fun k hk q0 hf => fun H locs ls hw hS hl => wMo_unused_26 X hk hf hw hS hl) n
set_option maxHeartbeats 4000000 in
set_option maxRecDepth 100000 in
theorem wMo_unused_0 {l : Launch} {G : ek_G} {kd : Nat → Nat} {p : Program} {e : Env} {s : State} {m : MethodId} {args : Array Value} {below : List Frame} {meth : Method} {c : Code} (X : ek_X p s m meth c args G prog_9_method_41_code 2 "ElasticKernelModel" (some .int)) {q : ek_St × Int32} {I : ek_St} {x0 : Nat} (hf : fMo_unused_0 kd I x0 = some q) {H : Heap} {locs : List Loc} {ls : Array Slot} (hw : ek_W G kd I H) (hS : va_S (ek_A G kd) s.heap H locs) (hl : lv_has ls 2 [(0, ek_r G x0)]) : W p l e ({ frames := 1, cells := 0, slots := 0, locals := 27 } : Room) s m args below meth c H locs 0 0 (MQ below (ek_Q G kd (some (.int q.2)) q.1) args s 0 0 (ek_A G kd)) (F0 m 0 ls []) := by
  obtain ⟨hx, hb, hml, hown, hts, hr, hlocks, hK⟩ := id X
  have hA : ∀ q, ek_A G kd q → ek_A G kd q := fun _ h => h
  unfold fMo_unused_0 at hf
  refine ek_aload_n hx hb dMo_unused_0 rfl (lv_at hl 0 rfl) ?_
  refine lv_bipush (v := (30 : Int32)) hx hb dMo_unused_1 (by decide) ?_
  refine lv_bipush (v := (24 : Int32)) hx hb dMo_unused_3 (by decide) ?_
  obtain ⟨hx2, hf⟩ := ek_ck_s hf
  refine ek_cv hf hS hA (fun I' hq => ek_rV (As := [.int ((30 : Int32)), .int ((24 : Int32))]) ⟨hx, hb, hml, hown, hts⟩ hK hw 8 rfl (by decide) (by decide) hx2 (mMo_copy hq) (cwV 2 hts (lw_V q_669 q_671 p_18 q_8 q_672) rfl rfl rfl (by decide +kernel) ⟨Nat.le_of_ble_eq_true rfl, Nat.le_of_ble_eq_true rfl⟩) rfl hl.1 rfl (Nat.le_of_ble_eq_true rfl) dMo_unused_5 ⟨Nat.zero_le _, Nat.zero_le _⟩) (fun I1 H locs hf hw hS => ?_)
  refine ek_aload_n hx hb dMo_unused_8 rfl (lv_at hl 0 rfl) ?_
  refine lv_bipush (v := (30 : Int32)) hx hb dMo_unused_9 (by decide) ?_
  refine lv_sipush (v := (1000 : Int32)) hx hb dMo_unused_11 (by decide) ?_
  obtain ⟨hx4, hf⟩ := ek_ck_s hf
  refine ek_cv hf hS hA (fun I' hq => ek_rV (As := [.int ((30 : Int32)), .int ((1000 : Int32))]) ⟨hx, hb, hml, hown, hts⟩ hK hw 8 rfl (by decide) (by decide) hx4 (mMo_times hq) (cwV 2 hts (lw_V q_685 q_687 p_22 q_8 q_688) rfl rfl rfl (by decide +kernel) ⟨Nat.le_of_ble_eq_true rfl, Nat.le_of_ble_eq_true rfl⟩) rfl hl.1 rfl (Nat.le_of_ble_eq_true rfl) dMo_unused_14 ⟨Nat.zero_le _, Nat.zero_le _⟩) (fun I3 H locs hf hw hS => ?_)
  refine lv_iconst (v := (0 : Int32)) hx hb dMo_unused_17 (by decide) ?_
  refine ek_istore_n (lv' := [(1, .int ((0 : Int32))), (0, ek_r G x0)]) hx hb dMo_unused_18 rfl hl (by decide) (ek_s1k 0 rfl rfl ek_r_cat rfl rfl) (fun ls hl => ?_)
  refine ek_aload_n hx hb dMo_unused_19 rfl (lv_at hl 1 rfl) ?_
  refine lv_bipush (v := (31 : Int32)) hx hb dMo_unused_20 (by decide) ?_
  refine lv_lconst (v := (0 : Int64)) hx hb dMo_unused_22 (by decide) ?_
  obtain ⟨hx6, hf⟩ := ek_ck_s hf
  refine ek_cv hf hS hA (fun I' hq => ek_rV (As := [.int ((31 : Int32)), .long ((0 : Int64))]) ⟨hx, hb, hml, hown, hts⟩ hK hw 8 rfl (by decide) (by decide) hx6 (mMo_be hq) (cwV 2 hts (lw_V q_571 q_573 p_15 q_8 q_574) rfl rfl rfl (by decide +kernel) ⟨Nat.le_of_ble_eq_true rfl, Nat.le_of_ble_eq_true rfl⟩) rfl hl.1 rfl (Nat.le_of_ble_eq_true rfl) dMo_unused_23 ⟨Nat.zero_le _, Nat.zero_le _⟩) (fun I5 H locs hf hw hS => ?_)
  exact wMo_unused_26_lp X ek_N (I5, x0, (0 : Int32)) hf _ _ _ hw hS (lv_sub hl [1, 0] rfl)
set_option maxHeartbeats 4000000 in
set_option maxRecDepth 100000 in
theorem mMo_unused {l : Launch} {G : ek_G} {kd : Nat → Nat} {I : ek_St} {x0 : Nat} {q : ek_St × Int32} (hf : fMo_unused kd I x0 = some q) : ek_M l G kd y_Mo_unused (.code y_Mo_unused prog_9_method_41_code 2 (some .int) :: lw_g) ({ frames := 1, cells := 0, slots := 0, locals := 27 } : Room) [ek_r G x0] I (some (.int q.2)) q.1 :=
  ek_body [(0, ek_r G x0)] (by decide) (by simp [lg_sl, ek_r_cat, ek_c_i, ek_c_l]) (by simp [lv_args, ek_r_cat, ek_c_i, ek_c_l]) (fun p e s m below meth c ls X hw hS hl => wMo_unused_0 X hf hw hS hl)
