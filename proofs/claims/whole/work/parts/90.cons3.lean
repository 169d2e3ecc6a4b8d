/-! TASK, DIVIDER, SPRINGS are made -/
def cNa (kd : Nat → Nat) (I : ek_St) (x : Nat) : Prop := kd x = 3 ∧ kd (x + 1) = 116 ∧ I (x + 1) = fun _ => 0
def cFr (kd : Nat → Nat) (I : ek_St) (x : Nat) : Prop := kd x = 2 ∧ kd (x + 1) = 3 ∧ kd (x + 2) = 116 ∧ kd (x + 3) = 3 ∧ kd (x + 4) = 116 ∧ I (x + 2) = (fun _ => 0) ∧ I (x + 4) = oneF
def cTa (kd : Nat → Nat) (I : ek_St) (x : Nat) : Prop := kd x = 6 ∧ I x = (fun _ => 0) ∧ cFr kd I (x + 1)
def cDv (kd : Nat → Nat) (I : ek_St) (x : Nat) : Prop := kd x = 1 ∧ cNa kd I (x + 1) ∧ cNa kd I (x + 1 + 2) ∧ cNa kd I (x + 1 + 2 + 2) ∧ cNa kd I (x + 1 + 2 + 2 + 2)
def cSp (kd : Nat → Nat) (I : ek_St) (x : Nat) : Prop := kd x = 5 ∧ cFr kd I (x + 1) ∧ cFr kd I (x + 1 + 5) ∧ cFr kd I (x + 1 + 5 + 5) ∧ cFr kd I (x + 1 + 5 + 5 + 5) ∧ cDv kd I (x + 1 + 5 + 5 + 5 + 5)
theorem c_Na' {l : Launch} {G : ek_G} {kd : Nat → Nat} {I : ek_St} {x : Nat} (h : cNa kd I x) : ek_CM l G kd I y_Na_i (.code y_Na_i prog_4_method_1_code 1 none :: lw_g) rm_Na 3 x 2 1 16 := c_Na h.1 h.2.1 h.2.2
theorem c_Fr' {l : Launch} {G : ek_G} {kd : Nat → Nat} {I : ek_St} {x : Nat} (h : cFr kd I x) : ek_CM l G kd I y_Fr_i (.code y_Fr_i prog_3_method_1_code 1 none :: lw_g) rm_Fr 2 x 5 4 34 := c_Fr h.1 h.2.1 h.2.2.1 h.2.2.2.1 h.2.2.2.2.1 h.2.2.2.2.2.1 h.2.2.2.2.2.2
theorem dTai0 : decode prog_7_method_1_code 0 = .ok (.aload_n 0, 1) := by decide +kernel
theorem dTai1 : decode prog_7_method_1_code 1 = .ok (.invokespecial 3, 3) := by decide +kernel
theorem dTai4 : decode prog_7_method_1_code 4 = .ok (.aload_n 0, 1) := by decide +kernel
theorem dTai5 : decode prog_7_method_1_code 5 = .ok (.new 9, 3) := by decide +kernel
theorem dTai8 : decode prog_7_method_1_code 8 = .ok (.dup, 1) := by decide +kernel
theorem dTai9 : decode prog_7_method_1_code 9 = .ok (.invokespecial 11, 3) := by decide +kernel
theorem dTai12 : decode prog_7_method_1_code 12 = .ok (.putfield 12, 3) := by decide +kernel
theorem dTai15 : decode prog_7_method_1_code 15 = .ok (.return_, 1) := by decide +kernel
abbrev rm_Ta : Room := { frames := 3, cells := 5, slots := 36, locals := 52 }
set_option maxHeartbeats 4000000 in
theorem c_Ta {l : Launch} {G : ek_G} {kd : Nat → Nat} {I : ek_St} {x : Nat} (h : cTa kd I x) : ek_CM l G kd I y_Ta_i (.code y_Ta_i prog_7_method_1_code 1 none :: lw_g) rm_Ta 6 x 6 5 36 := by
  refine ek_cbody (by decide) rfl (by decide) (fun p e s m below meth c ls Y hCS hl => ?_)
  have hlo : ∀ q ∈ ([] : List Loc), G.2.2 + x ≤ q.base := fun q hq => by cases hq
  refine ek_obj Y (lv_at hl 0 rfl) hl.1 q_36 dTai0 dTai1 (by decide) ?_
  refine ek_sub (x1 := x + 1) Y (lv_at hl 0 rfl) hl.1 (by omega) hCS hlo in_Ta ty_Ta ty_Ta_ok nm_Ta rfl in_Fr ty_Fr ty_Fr_ok rfl (by decide +kernel) q_37 q_38 q_4 (c_Fr' h.2.2) q_39 q_40 q_4 q_41 rfl (by decide +kernel) ⟨rfl, rfl⟩ (by decide) (by decide) 14 (by decide) q_102 rfl rfl (fun _ => ⟨rfl, rfl⟩) dTai4 dTai5 dTai8 dTai9 dTai12 (fun H locs hlo hCS => ?_)
  refine ek_cend (n := 6) (kx := 6) Y hCS (by decide) h.1 (by decide) rfl (fun k hk => ?_) hlo dTai15
  have hk : k < 15 := hk
  match k, hk with
  | 0, _ => rw [ek_V, h.2.1]; rfl
  | 1, _ => rw [ek_V, h.2.1]; rfl
  | 2, _ => rw [ek_V, h.2.1]; rfl
  | 3, _ => rw [ek_V, h.2.1]; rfl
  | 4, _ => rw [ek_V, h.2.1]; rfl
  | 5, _ => rw [ek_V, h.2.1]; rfl
  | 6, _ => rw [ek_V, h.2.1]; rfl
  | 7, _ => rw [ek_V, h.2.1]; rfl
  | 8, _ => rw [ek_V, h.2.1]; rfl
  | 9, _ => rw [ek_V, h.2.1]; rfl
  | 10, _ => rw [ek_V, h.2.1]; rfl
  | 11, _ => rw [ek_V, h.2.1]; rfl
  | 12, _ => rw [ek_V, h.2.1]; rfl
  | 13, _ => rw [ek_V, h.2.1]; rfl
  | 14, _ => rfl
  | j + 15, h => exact absurd h (by omega)
theorem dDvi0 : decode prog_2_method_1_code 0 = .ok (.aload_n 0, 1) := by decide +kernel
theorem dDvi1 : decode prog_2_method_1_code 1 = .ok (.invokespecial 1, 3) := by decide +kernel
theorem dDvi4 : decode prog_2_method_1_code 4 = .ok (.aload_n 0, 1) := by decide +kernel
theorem dDvi5 : decode prog_2_method_1_code 5 = .ok (.new 7, 3) := by decide +kernel
theorem dDvi8 : decode prog_2_method_1_code 8 = .ok (.dup, 1) := by decide +kernel
theorem dDvi9 : decode prog_2_method_1_code 9 = .ok (.invokespecial 9, 3) := by decide +kernel
theorem dDvi12 : decode prog_2_method_1_code 12 = .ok (.putfield 10, 3) := by decide +kernel
theorem dDvi15 : decode prog_2_method_1_code 15 = .ok (.aload_n 0, 1) := by decide +kernel
theorem dDvi16 : decode prog_2_method_1_code 16 = .ok (.new 7, 3) := by decide +kernel
theorem dDvi19 : decode prog_2_method_1_code 19 = .ok (.dup, 1) := by decide +kernel
theorem dDvi20 : decode prog_2_method_1_code 20 = .ok (.invokespecial 9, 3) := by decide +kernel
theorem dDvi23 : decode prog_2_method_1_code 23 = .ok (.putfield 16, 3) := by decide +kernel
theorem dDvi26 : decode prog_2_method_1_code 26 = .ok (.aload_n 0, 1) := by decide +kernel
theorem dDvi27 : decode prog_2_method_1_code 27 = .ok (.new 7, 3) := by decide +kernel
theorem dDvi30 : decode prog_2_method_1_code 30 = .ok (.dup, 1) := by decide +kernel
theorem dDvi31 : decode prog_2_method_1_code 31 = .ok (.invokespecial 9, 3) := by decide +kernel
theorem dDvi34 : decode prog_2_method_1_code 34 = .ok (.putfield 19, 3) := by decide +kernel
theorem dDvi37 : decode prog_2_method_1_code 37 = .ok (.aload_n 0, 1) := by decide +kernel
theorem dDvi38 : decode prog_2_method_1_code 38 = .ok (.new 7, 3) := by decide +kernel
theorem dDvi41 : decode prog_2_method_1_code 41 = .ok (.dup, 1) := by decide +kernel
theorem dDvi42 : decode prog_2_method_1_code 42 = .ok (.invokespecial 9, 3) := by decide +kernel
theorem dDvi45 : decode prog_2_method_1_code 45 = .ok (.putfield 22, 3) := by decide +kernel
theorem dDvi48 : decode prog_2_method_1_code 48 = .ok (.return_, 1) := by decide +kernel
abbrev rm_Dv : Room := { frames := 2, cells := 8, slots := 68, locals := 32 }
set_option maxHeartbeats 4000000 in
theorem c_Dv {l : Launch} {G : ek_G} {kd : Nat → Nat} {I : ek_St} {x : Nat} (h : cDv kd I x) : ek_CM l G kd I y_Dv_i (.code y_Dv_i prog_2_method_1_code 1 none :: lw_g) rm_Dv 1 x 9 8 68 := by
  refine ek_cbody (by decide) rfl (by decide) (fun p e s m below meth c ls Y hCS hl => ?_)
  have hlo : ∀ q ∈ ([] : List Loc), G.2.2 + x ≤ q.base := fun q hq => by cases hq
  refine ek_obj Y (lv_at hl 0 rfl) hl.1 q_160 dDvi0 dDvi1 (by decide) ?_
  refine ek_sub (x1 := x + 1) Y (lv_at hl 0 rfl) hl.1 (by omega) hCS hlo in_Dv ty_Dv ty_Dv_ok nm_Dv rfl in_Na ty_Na ty_Na_ok rfl (by decide +kernel) q_161 q_44 q_5 (c_Na' h.2.1) q_162 q_46 q_5 q_47 rfl (by decide +kernel) ⟨rfl, rfl⟩ (by decide) (by decide) 0 (by decide) q_163 rfl rfl (fun _ => ⟨rfl, rfl⟩) dDvi4 dDvi5 dDvi8 dDvi9 dDvi12 (fun H locs hlo hCS => ?_)
  refine ek_sub (x1 := x + 1 + 2) Y (lv_at hl 0 rfl) hl.1 (by omega) hCS hlo in_Dv ty_Dv ty_Dv_ok nm_Dv rfl in_Na ty_Na ty_Na_ok rfl (by decide +kernel) q_161 q_44 q_5 (c_Na' h.2.2.1) q_162 q_46 q_5 q_47 rfl (by decide +kernel) ⟨rfl, rfl⟩ (by decide) (by decide) 1 (by decide) q_164 rfl rfl (fun _ => ⟨rfl, rfl⟩) dDvi15 dDvi16 dDvi19 dDvi20 dDvi23 (fun H locs hlo hCS => ?_)
  refine ek_sub (x1 := x + 1 + 2 + 2) Y (lv_at hl 0 rfl) hl.1 (by omega) hCS hlo in_Dv ty_Dv ty_Dv_ok nm_Dv rfl in_Na ty_Na ty_Na_ok rfl (by decide +kernel) q_161 q_44 q_5 (c_Na' h.2.2.2.1) q_162 q_46 q_5 q_47 rfl (by decide +kernel) ⟨rfl, rfl⟩ (by decide) (by decide) 2 (by decide) q_165 rfl rfl (fun _ => ⟨rfl, rfl⟩) dDvi26 dDvi27 dDvi30 dDvi31 dDvi34 (fun H locs hlo hCS => ?_)
  refine ek_sub (x1 := x + 1 + 2 + 2 + 2) Y (lv_at hl 0 rfl) hl.1 (by omega) hCS hlo in_Dv ty_Dv ty_Dv_ok nm_Dv rfl in_Na ty_Na ty_Na_ok rfl (by decide +kernel) q_161 q_44 q_5 (c_Na' h.2.2.2.2) q_162 q_46 q_5 q_47 rfl (by decide +kernel) ⟨rfl, rfl⟩ (by decide) (by decide) 3 (by decide) q_166 rfl rfl (fun _ => ⟨rfl, rfl⟩) dDvi37 dDvi38 dDvi41 dDvi42 dDvi45 (fun H locs hlo hCS => ?_)
  refine ek_cend (n := 9) (kx := 1) Y hCS (by decide) h.1 (by decide) rfl (fun k hk => ?_) hlo dDvi48
  have hk : k < 4 := hk
  match k, hk with
  | 0, _ => rfl
  | 1, _ => rfl
  | 2, _ => rfl
  | 3, _ => rfl
  | j + 4, h => exact absurd h (by omega)
theorem dSpi0 : decode prog_6_method_1_code 0 = .ok (.aload_n 0, 1) := by decide +kernel
theorem dSpi1 : decode prog_6_method_1_code 1 = .ok (.invokespecial 3, 3) := by decide +kernel
theorem dSpi4 : decode prog_6_method_1_code 4 = .ok (.aload_n 0, 1) := by decide +kernel
theorem dSpi5 : decode prog_6_method_1_code 5 = .ok (.new 9, 3) := by decide +kernel
theorem dSpi8 : decode prog_6_method_1_code 8 = .ok (.dup, 1) := by decide +kernel
theorem dSpi9 : decode prog_6_method_1_code 9 = .ok (.invokespecial 11, 3) := by decide +kernel
theorem dSpi12 : decode prog_6_method_1_code 12 = .ok (.putfield 12, 3) := by decide +kernel
theorem dSpi15 : decode prog_6_method_1_code 15 = .ok (.aload_n 0, 1) := by decide +kernel
theorem dSpi16 : decode prog_6_method_1_code 16 = .ok (.new 9, 3) := by decide +kernel
theorem dSpi19 : decode prog_6_method_1_code 19 = .ok (.dup, 1) := by decide +kernel
theorem dSpi20 : decode prog_6_method_1_code 20 = .ok (.invokespecial 11, 3) := by decide +kernel
theorem dSpi23 : decode prog_6_method_1_code 23 = .ok (.putfield 18, 3) := by decide +kernel
theorem dSpi26 : decode prog_6_method_1_code 26 = .ok (.aload_n 0, 1) := by decide +kernel
theorem dSpi27 : decode prog_6_method_1_code 27 = .ok (.new 9, 3) := by decide +kernel
theorem dSpi30 : decode prog_6_method_1_code 30 = .ok (.dup, 1) := by decide +kernel
theorem dSpi31 : decode prog_6_method_1_code 31 = .ok (.invokespecial 11, 3) := by decide +kernel
theorem dSpi34 : decode prog_6_method_1_code 34 = .ok (.putfield 21, 3) := by decide +kernel
theorem dSpi37 : decode prog_6_method_1_code 37 = .ok (.aload_n 0, 1) := by decide +kernel
theorem dSpi38 : decode prog_6_method_1_code 38 = .ok (.new 9, 3) := by decide +kernel
theorem dSpi41 : decode prog_6_method_1_code 41 = .ok (.dup, 1) := by decide +kernel
theorem dSpi42 : decode prog_6_method_1_code 42 = .ok (.invokespecial 11, 3) := by decide +kernel
theorem dSpi45 : decode prog_6_method_1_code 45 = .ok (.putfield 24, 3) := by decide +kernel
theorem dSpi48 : decode prog_6_method_1_code 48 = .ok (.aload_n 0, 1) := by decide +kernel
theorem dSpi49 : decode prog_6_method_1_code 49 = .ok (.new 27, 3) := by decide +kernel
theorem dSpi52 : decode prog_6_method_1_code 52 = .ok (.dup, 1) := by decide +kernel
theorem dSpi53 : decode prog_6_method_1_code 53 = .ok (.invokespecial 29, 3) := by decide +kernel
theorem dSpi56 : decode prog_6_method_1_code 56 = .ok (.putfield 30, 3) := by decide +kernel
theorem dSpi59 : decode prog_6_method_1_code 59 = .ok (.return_, 1) := by decide +kernel
abbrev rm_Sp : Room := { frames := 3, cells := 29, slots := 216, locals := 52 }
set_option maxHeartbeats 4000000 in
theorem c_Sp {l : Launch} {G : ek_G} {kd : Nat → Nat} {I : ek_St} {x : Nat} (h : cSp kd I x) : ek_CM l G kd I y_Sp_i (.code y_Sp_i prog_6_method_1_code 1 none :: lw_g) rm_Sp 5 x 30 29 216 := by
  refine ek_cbody (by decide) rfl (by decide) (fun p e s m below meth c ls Y hCS hl => ?_)
  have hlo : ∀ q ∈ ([] : List Loc), G.2.2 + x ≤ q.base := fun q hq => by cases hq
  refine ek_obj Y (lv_at hl 0 rfl) hl.1 q_152 dSpi0 dSpi1 (by decide) ?_
  refine ek_sub (x1 := x + 1) Y (lv_at hl 0 rfl) hl.1 (by omega) hCS hlo in_Sp ty_Sp ty_Sp_ok nm_Sp rfl in_Fr ty_Fr ty_Fr_ok rfl (by decide +kernel) q_153 q_38 q_4 (c_Fr' h.2.1) q_154 q_40 q_4 q_41 rfl (by decide +kernel) ⟨rfl, rfl⟩ (by decide) (by decide) 0 (by decide) q_176 rfl rfl (fun _ => ⟨rfl, rfl⟩) dSpi4 dSpi5 dSpi8 dSpi9 dSpi12 (fun H locs hlo hCS => ?_)
  refine ek_sub (x1 := x + 1 + 5) Y (lv_at hl 0 rfl) hl.1 (by omega) hCS hlo in_Sp ty_Sp ty_Sp_ok nm_Sp rfl in_Fr ty_Fr ty_Fr_ok rfl (by decide +kernel) q_153 q_38 q_4 (c_Fr' h.2.2.1) q_154 q_40 q_4 q_41 rfl (by decide +kernel) ⟨rfl, rfl⟩ (by decide) (by decide) 1 (by decide) q_178 rfl rfl (fun _ => ⟨rfl, rfl⟩) dSpi15 dSpi16 dSpi19 dSpi20 dSpi23 (fun H locs hlo hCS => ?_)
  refine ek_sub (x1 := x + 1 + 5 + 5) Y (lv_at hl 0 rfl) hl.1 (by omega) hCS hlo in_Sp ty_Sp ty_Sp_ok nm_Sp rfl in_Fr ty_Fr ty_Fr_ok rfl (by decide +kernel) q_153 q_38 q_4 (c_Fr' h.2.2.2.1) q_154 q_40 q_4 q_41 rfl (by decide +kernel) ⟨rfl, rfl⟩ (by decide) (by decide) 2 (by decide) q_179 rfl rfl (fun _ => ⟨rfl, rfl⟩) dSpi26 dSpi27 dSpi30 dSpi31 dSpi34 (fun H locs hlo hCS => ?_)
  refine ek_sub (x1 := x + 1 + 5 + 5 + 5) Y (lv_at hl 0 rfl) hl.1 (by omega) hCS hlo in_Sp ty_Sp ty_Sp_ok nm_Sp rfl in_Fr ty_Fr ty_Fr_ok rfl (by decide +kernel) q_153 q_38 q_4 (c_Fr' h.2.2.2.2.1) q_154 q_40 q_4 q_41 rfl (by decide +kernel) ⟨rfl, rfl⟩ (by decide) (by decide) 3 (by decide) q_180 rfl rfl (fun _ => ⟨rfl, rfl⟩) dSpi37 dSpi38 dSpi41 dSpi42 dSpi45 (fun H locs hlo hCS => ?_)
  refine ek_sub (x1 := x + 1 + 5 + 5 + 5 + 5) Y (lv_at hl 0 rfl) hl.1 (by omega) hCS hlo in_Sp ty_Sp ty_Sp_ok nm_Sp rfl in_Dv ty_Dv ty_Dv_ok rfl (by decide +kernel) q_155 q_156 q_7 (c_Dv h.2.2.2.2.2) q_157 q_158 q_7 q_159 rfl (by decide +kernel) ⟨rfl, rfl⟩ (by decide) (by decide) 4 (by decide) q_181 rfl rfl (fun _ => ⟨rfl, rfl⟩) dSpi48 dSpi49 dSpi52 dSpi53 dSpi56 (fun H locs hlo hCS => ?_)
  refine ek_cend (n := 30) (kx := 5) Y hCS (by decide) h.1 (by decide) rfl (fun k hk => ?_) hlo dSpi59
  have hk : k < 5 := hk
  match k, hk with
  | 0, _ => rfl
  | 1, _ => rfl
  | 2, _ => rfl
  | 3, _ => rfl
  | 4, _ => rfl
  | j + 5, h => exact absurd h (by omega)
