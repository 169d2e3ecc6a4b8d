/-! KERNEL and MODEL are made -/
abbrev belowW (z : Nat) : Prop := (4 ≤ z ∧ z < 76 ∧ z % 6 = 3) ∨ (76 < z ∧ z < 97 ∧ z % 5 = 1)
/-- the class's cells at the start -/
def iX : ek_St := fun z k => if z = 1 then (if k = 3 then 1000 else 0) else if z = 3 then rwF 2 12 k else if belowW z then oneF k else 0
theorem iX_0 {z : Nat} (h1 : z ≠ 1) (h3 : z ≠ 3) (hb : ¬ belowW z) : iX z = fun _ => 0 := by
  funext k
  unfold iX
  rw [if_neg h1, if_neg h3, if_neg hb]
theorem iX_b {z : Nat} (h1 : z ≠ 1) (h3 : z ≠ 3) (hb : belowW z) : iX z = oneF := by
  funext k
  unfold iX
  rw [if_neg h1, if_neg h3, if_pos hb]
theorem iX_3 : iX 3 = rwF 2 12 := by
  funext k
  rfl
theorem cFr_T {i : Nat} (h : i < 12) : cFr kX iX (2 + 2 + 6 * i + 1) := by
  obtain ⟨-, a2, a3, a4, a5, a6⟩ := kX_tk i h
  exact ⟨a2, a3, a4, a5, a6, iX_0 (by omega) (by omega) (by unfold belowW; omega), iX_b (by omega) (by omega) (by unfold belowW; omega)⟩
theorem cTa_T {i : Nat} (h : i < 12) : cTa kX iX (2 + 2 + 6 * i) := ⟨(kX_tk i h).1, iX_0 (by omega) (by omega) (by unfold belowW; omega), cFr_T h⟩
theorem cRo_2 : cRo kX iX 2 := ⟨by decide, by decide, iX_0 (by decide) (by decide) (by decide), iX_3, fun _ h => cTa_T h⟩
theorem cFr_S {x : Nat} (hx : x = 77 ∨ x = 82 ∨ x = 87 ∨ x = 92) : cFr kX iX x := by
  rcases hx with rfl | rfl | rfl | rfl <;> exact ⟨by decide, by decide, by decide, by decide, by decide, iX_0 (by decide) (by decide) (by decide), iX_b (by decide) (by decide) (by decide)⟩
theorem cNa_D {x : Nat} (hx : x = 98 ∨ x = 100 ∨ x = 102 ∨ x = 104) : cNa kX iX x := by
  rcases hx with rfl | rfl | rfl | rfl <;> exact ⟨by decide, by decide, iX_0 (by decide) (by decide) (by decide)⟩
theorem cSp_76 : cSp kX iX 76 := ⟨by decide, cFr_S (by decide), cFr_S (by decide), cFr_S (by decide), cFr_S (by decide), by decide, cNa_D (by decide), cNa_D (by decide), cNa_D (by decide), cNa_D (by decide)⟩
abbrev rm_Ke : Room := { frames := 5, cells := 104, slots := 847, locals := 93 }
theorem dKei0 : decode prog_1_method_1_code 0 = .ok (.aload_n 0, 1) := by decide +kernel
theorem dKei1 : decode prog_1_method_1_code 1 = .ok (.invokespecial 1, 3) := by decide +kernel
theorem dKei4 : decode prog_1_method_1_code 4 = .ok (.aload_n 0, 1) := by decide +kernel
theorem dKei5 : decode prog_1_method_1_code 5 = .ok (.new 7, 3) := by decide +kernel
theorem dKei8 : decode prog_1_method_1_code 8 = .ok (.dup, 1) := by decide +kernel
theorem dKei9 : decode prog_1_method_1_code 9 = .ok (.invokespecial 9, 3) := by decide +kernel
theorem dKei12 : decode prog_1_method_1_code 12 = .ok (.putfield 10, 3) := by decide +kernel
theorem dKei15 : decode prog_1_method_1_code 15 = .ok (.aload_n 0, 1) := by decide +kernel
theorem dKei16 : decode prog_1_method_1_code 16 = .ok (.new 16, 3) := by decide +kernel
theorem dKei19 : decode prog_1_method_1_code 19 = .ok (.dup, 1) := by decide +kernel
theorem dKei20 : decode prog_1_method_1_code 20 = .ok (.invokespecial 18, 3) := by decide +kernel
theorem dKei23 : decode prog_1_method_1_code 23 = .ok (.putfield 19, 3) := by decide +kernel
theorem dKei26 : decode prog_1_method_1_code 26 = .ok (.aload_n 0, 1) := by decide +kernel
theorem dKei27 : decode prog_1_method_1_code 27 = .ok (.sipush 1000, 3) := by decide +kernel
theorem dKei30 : decode prog_1_method_1_code 30 = .ok (.putfield 23, 3) := by decide +kernel
theorem dKei33 : decode prog_1_method_1_code 33 = .ok (.return_, 1) := by decide +kernel
set_option maxHeartbeats 4000000 in
theorem c_Ke {l : Launch} {G : ek_G} : ek_CM l G kX iX y_Ke_i (.code y_Ke_i prog_1_method_1_code 1 none :: lw_g) rm_Ke 7 1 105 104 847 := by
  refine ek_cbody (by decide) rfl (by decide) (fun p e s m below meth c ls Y hCS hl => ?_)
  obtain ⟨⟨hx, hb, hmlx, hown, hts⟩, hr, hlk, hnm0, hK, hov⟩ := id Y
  have hlo : ∀ q ∈ ([] : List Loc), G.2.2 + 1 ≤ q.base := fun q hq => by cases hq
  refine ek_obj Y (lv_at hl 0 rfl) hl.1 q_21 dKei0 dKei1 (by decide) ?_
  refine ek_sub (x1 := 2) Y (lv_at hl 0 rfl) hl.1 (by omega) hCS hlo in_Ke ty_Ke ty_Ke_ok nm_Ke rfl in_Ro ty_Ro ty_Ro_ok rfl (by decide +kernel) q_24 q_25 q_2 (c_Ro cRo_2 (by decide)) q_26 q_27 q_2 q_28 rfl (by decide +kernel) ⟨rfl, rfl⟩ (by decide) (by decide) 0 (by decide) q_193 rfl rfl (fun _ => ⟨rfl, rfl⟩) dKei4 dKei5 dKei8 dKei9 dKei12 (fun H locs hlo hCS => ?_)
  refine ek_sub (x1 := 76) Y (lv_at hl 0 rfl) hl.1 (by omega) hCS hlo in_Ke ty_Ke ty_Ke_ok nm_Ke rfl in_Sp ty_Sp ty_Sp_ok rfl (by decide +kernel) q_147 q_148 q_6 (c_Sp cSp_76) q_149 q_150 q_6 q_151 rfl (by decide +kernel) ⟨rfl, rfl⟩ (by decide) (by decide) 1 (by decide) q_194 rfl rfl (fun _ => ⟨rfl, rfl⟩) dKei15 dKei16 dKei19 dKei20 dKei23 (fun H locs hlo hCS => ?_)
  obtain ⟨s1, s2, s3, s4⟩ := hCS
  refine lv_aload_n hx hb dKei26 rfl (lv_at hl 0 rfl) ?_
  refine lv_sipush (v := 1000) hx hb dKei27 (by decide) ?_
  refine ek_putI hx hb hts 7 in_Ke ty_Ke ty_Ke_ok nm_Ke hown hK s2 rfl 3 (by decide) q_196 rfl rfl rfl dKei30 (fun H2 locs2 l2 o2 z2 k2 => ?_)
  refine ek_cend (n := 105) (kx := 7) Y ⟨by rw [z2]; exact s1, o2, s3.kept (fun q g1 g2 => k2 q (by omega)), fun q hq => by rw [k2 q (by omega)]; exact s4 q hq⟩ (by decide) (by decide) (by decide) rfl (fun k hk => ?_) (fun q hq => ?_) dKei33
  · have hk : k < 8 := hk
    match k, hk with
    | 0, _ => rfl
    | 1, _ => rfl
    | 2, _ => rfl
    | 3, _ => rfl
    | 4, _ => rfl
    | 5, _ => rfl
    | 6, _ => rfl
    | 7, _ => rfl
    | j + 8, h => exact absurd h (by omega)
  · rw [l2] at hq
    rcases List.mem_append.mp hq with h | h
    · exact hlo q h
    · rw [List.mem_singleton.mp h]
      exact Nat.le_refl _
/-- an array is made and laid into a field -/
theorem ek_arrI {p : Program} {l : Launch} {e : Env} {R : Room} {s : State} {m : MethodId} {args : Array Value} {below : List Frame} {meth : Method} {c : Code} {H H0 : Heap} {locs : List Loc} {cells slots : Nat} {Q : State → Prop} {cc : ByteArray} {pc nL : Nat} {own : String} {ls : Array Slot} {G : ek_G} {kd : Nat → Nat} {I : ek_St} {x0 x1 kx : Nat} {V : Nat → Value}
    (Y : ek_Y p s m meth c args G cc nL own) (hx01 : x0 < x1) (hCS : ek_CS G kd I kx x0 x1 V H H0) (hlocs : ∀ q ∈ locs, G.2.2 + x0 ≤ q.base) {C : String} {T : u_T} {N i3 : Nat} (hinT : ∀ w ∈ u_ws C T N, w ∈ lw_g) (ty : Nat → FieldType) (hty : ∀ k, k < N → parseFieldDescriptor (T k).2.2.1 = some (ty k)) (hnm : ∀ a, a < N → ∀ b, b < N → a ≠ b → (T a).2.1 ≠ (T b).2.1) (hc : vwCl[kx - 1]? = some (C, T, N))
    {n : Int32} (Na : Nat) (hn : ¬ n < 0) (hN : n.toNatClampNeg = Na) (hb2 : Na ≤ 1000) (hkd : kd x1 = 100 + Na) (hI : I x1 = fun _ => 0) (hf : cells + 1 ≤ R.cells ∧ slots + Na ≤ R.slots) (k : Nat) (hk : k < N) (hlink : Cond.fieldLink own i3 (T k).1 (T k).2.1 (T k).2.2.1 ∈ lw_g) (hfin : (T k).2.2.2 = true) (hdecl : (T k).1 = own) (hnr : ∀ a, narrow (ty k) (.ref a) = .ref a ∧ fits (ty k) (.ref a) = true)
    (d0 : decode cc pc = .ok (.newarray .int, 2)) (d1 : decode cc (pc + 2) = .ok (.putfield i3, 3))
    (kk : ∀ (H1 : Heap) (locs1 : List Loc), (∀ q ∈ locs1, G.2.2 + x0 ≤ q.base) → ek_CS G kd I kx x0 (x1 + 1) (updV V k (.ref (G.2.2 + x1))) H1 H0 → W p l e R s m args below meth c H1 locs1 (cells + 1) (slots + Na) Q (F0 m (pc + 2 + 3) ls [])) : W p l e R s m args below meth c H locs cells slots Q (F0 m pc ls (.int n :: .ref (G.2.2 + x0) :: [])) := by
  obtain ⟨hS, hr, hlk, hnm0, hK, hov⟩ := id Y
  obtain ⟨hx, hb, hmlx, hown, hts⟩ := id hS
  obtain ⟨s1, s2, s3, s4⟩ := hCS
  refine ek_newi (N := Na) hx hb hts hK hn hN hb2 s1 hf.1 hf.2 d0 (fun H1 z1 a1 k1 => ?_)
  refine ek_putF hx hb hts kx hinT ty hty hnm hown hK (V := V) (s2.kept (k1 _ (by omega))) hc k hk hlink hfin hnm0 hdecl (hnr _).1 (hnr _).2 d1 (fun H3 locs3 l3 o3 z3 k3 => ?_)
  refine kk H3 locs3 (fun q hq => ?_) ⟨by omega, o3, ?_, fun q hq => ?_⟩
  · rw [l3] at hq
    rcases List.mem_append.mp hq with h | h
    · exact hlocs q h
    · rw [List.mem_singleton.mp h]
      exact Nat.le_refl _
  · refine ek_C.app (mi := x1) ?_ (ek_C.one ?_)
    · exact s3.kept (fun q h1 h2 => by rw [k3 q (by omega), k1 q (by omega)])
    · rw [hkd, hI]
      exact ek_at_kept a1 (k3 _ (by omega))
  · rw [k3 q (by omega), k1 q (by omega)]
    exact s4 q hq
/-- the reference's cells before its constructor's last call -/
def iM0 : ek_St := fun z k => if z = 1 then (if k = 2 then 1000 else 0) else 0
theorem iM0_0 {z : Nat} (h : z ≠ 1) : iM0 z = fun _ => 0 := by
  funext k
  unfold iM0
  rw [if_neg h]
abbrev rm_Mo : Room := { frames := 1, cells := 17, slots := 1056, locals := 24 }
theorem dMoi0 : decode prog_9_method_1_code 0 = .ok (.aload_n 0, 1) := by decide +kernel
theorem dMoi1 : decode prog_9_method_1_code 1 = .ok (.invokespecial 1, 3) := by decide +kernel
theorem dMoi4 : decode prog_9_method_1_code 4 = .ok (.aload_n 0, 1) := by decide +kernel
theorem dMoi5 : decode prog_9_method_1_code 5 = .ok (.sipush 1000, 3) := by decide +kernel
theorem dMoi8 : decode prog_9_method_1_code 8 = .ok (.putfield 7, 3) := by decide +kernel
theorem dMoi11 : decode prog_9_method_1_code 11 = .ok (.aload_n 0, 1) := by decide +kernel
theorem dMoi12 : decode prog_9_method_1_code 12 = .ok (.bipush 12, 2) := by decide +kernel
theorem dMoi14 : decode prog_9_method_1_code 14 = .ok (.newarray .int, 2) := by decide +kernel
theorem dMoi16 : decode prog_9_method_1_code 16 = .ok (.putfield 13, 3) := by decide +kernel
theorem dMoi19 : decode prog_9_method_1_code 19 = .ok (.aload_n 0, 1) := by decide +kernel
theorem dMoi20 : decode prog_9_method_1_code 20 = .ok (.bipush 12, 2) := by decide +kernel
theorem dMoi22 : decode prog_9_method_1_code 22 = .ok (.newarray .int, 2) := by decide +kernel
theorem dMoi24 : decode prog_9_method_1_code 24 = .ok (.putfield 17, 3) := by decide +kernel
theorem dMoi27 : decode prog_9_method_1_code 27 = .ok (.aload_n 0, 1) := by decide +kernel
theorem dMoi28 : decode prog_9_method_1_code 28 = .ok (.bipush 12, 2) := by decide +kernel
theorem dMoi30 : decode prog_9_method_1_code 30 = .ok (.newarray .int, 2) := by decide +kernel
theorem dMoi32 : decode prog_9_method_1_code 32 = .ok (.putfield 20, 3) := by decide +kernel
theorem dMoi35 : decode prog_9_method_1_code 35 = .ok (.aload_n 0, 1) := by decide +kernel
theorem dMoi36 : decode prog_9_method_1_code 36 = .ok (.bipush 12, 2) := by decide +kernel
theorem dMoi38 : decode prog_9_method_1_code 38 = .ok (.newarray .int, 2) := by decide +kernel
theorem dMoi40 : decode prog_9_method_1_code 40 = .ok (.putfield 23, 3) := by decide +kernel
theorem dMoi43 : decode prog_9_method_1_code 43 = .ok (.aload_n 0, 1) := by decide +kernel
theorem dMoi44 : decode prog_9_method_1_code 44 = .ok (.bipush 12, 2) := by decide +kernel
theorem dMoi46 : decode prog_9_method_1_code 46 = .ok (.newarray .int, 2) := by decide +kernel
theorem dMoi48 : decode prog_9_method_1_code 48 = .ok (.putfield 26, 3) := by decide +kernel
theorem dMoi51 : decode prog_9_method_1_code 51 = .ok (.aload_n 0, 1) := by decide +kernel
theorem dMoi52 : decode prog_9_method_1_code 52 = .ok (.bipush 12, 2) := by decide +kernel
theorem dMoi54 : decode prog_9_method_1_code 54 = .ok (.newarray .int, 2) := by decide +kernel
theorem dMoi56 : decode prog_9_method_1_code 56 = .ok (.putfield 29, 3) := by decide +kernel
theorem dMoi59 : decode prog_9_method_1_code 59 = .ok (.aload_n 0, 1) := by decide +kernel
theorem dMoi60 : decode prog_9_method_1_code 60 = .ok (.bipush 12, 2) := by decide +kernel
theorem dMoi62 : decode prog_9_method_1_code 62 = .ok (.newarray .int, 2) := by decide +kernel
theorem dMoi64 : decode prog_9_method_1_code 64 = .ok (.putfield 32, 3) := by decide +kernel
theorem dMoi67 : decode prog_9_method_1_code 67 = .ok (.aload_n 0, 1) := by decide +kernel
theorem dMoi68 : decode prog_9_method_1_code 68 = .ok (.bipush 12, 2) := by decide +kernel
theorem dMoi70 : decode prog_9_method_1_code 70 = .ok (.newarray .int, 2) := by decide +kernel
theorem dMoi72 : decode prog_9_method_1_code 72 = .ok (.putfield 35, 3) := by decide +kernel
theorem dMoi75 : decode prog_9_method_1_code 75 = .ok (.aload_n 0, 1) := by decide +kernel
theorem dMoi76 : decode prog_9_method_1_code 76 = .ok (.bipush 12, 2) := by decide +kernel
theorem dMoi78 : decode prog_9_method_1_code 78 = .ok (.newarray .int, 2) := by decide +kernel
theorem dMoi80 : decode prog_9_method_1_code 80 = .ok (.putfield 38, 3) := by decide +kernel
theorem dMoi83 : decode prog_9_method_1_code 83 = .ok (.aload_n 0, 1) := by decide +kernel
theorem dMoi84 : decode prog_9_method_1_code 84 = .ok (.bipush 12, 2) := by decide +kernel
theorem dMoi86 : decode prog_9_method_1_code 86 = .ok (.newarray .int, 2) := by decide +kernel
theorem dMoi88 : decode prog_9_method_1_code 88 = .ok (.putfield 41, 3) := by decide +kernel
theorem dMoi91 : decode prog_9_method_1_code 91 = .ok (.aload_n 0, 1) := by decide +kernel
theorem dMoi92 : decode prog_9_method_1_code 92 = .ok (.bipush 12, 2) := by decide +kernel
theorem dMoi94 : decode prog_9_method_1_code 94 = .ok (.newarray .int, 2) := by decide +kernel
theorem dMoi96 : decode prog_9_method_1_code 96 = .ok (.putfield 44, 3) := by decide +kernel
theorem dMoi99 : decode prog_9_method_1_code 99 = .ok (.aload_n 0, 1) := by decide +kernel
theorem dMoi100 : decode prog_9_method_1_code 100 = .ok (.bipush 12, 2) := by decide +kernel
theorem dMoi102 : decode prog_9_method_1_code 102 = .ok (.newarray .int, 2) := by decide +kernel
theorem dMoi104 : decode prog_9_method_1_code 104 = .ok (.putfield 47, 3) := by decide +kernel
theorem dMoi107 : decode prog_9_method_1_code 107 = .ok (.aload_n 0, 1) := by decide +kernel
theorem dMoi108 : decode prog_9_method_1_code 108 = .ok (.bipush 12, 2) := by decide +kernel
theorem dMoi110 : decode prog_9_method_1_code 110 = .ok (.newarray .int, 2) := by decide +kernel
theorem dMoi112 : decode prog_9_method_1_code 112 = .ok (.putfield 50, 3) := by decide +kernel
theorem dMoi115 : decode prog_9_method_1_code 115 = .ok (.aload_n 0, 1) := by decide +kernel
theorem dMoi116 : decode prog_9_method_1_code 116 = .ok (.bipush 12, 2) := by decide +kernel
theorem dMoi118 : decode prog_9_method_1_code 118 = .ok (.newarray .int, 2) := by decide +kernel
theorem dMoi120 : decode prog_9_method_1_code 120 = .ok (.putfield 53, 3) := by decide +kernel
theorem dMoi123 : decode prog_9_method_1_code 123 = .ok (.aload_n 0, 1) := by decide +kernel
theorem dMoi124 : decode prog_9_method_1_code 124 = .ok (.bipush 12, 2) := by decide +kernel
theorem dMoi126 : decode prog_9_method_1_code 126 = .ok (.newarray .boolean, 2) := by decide +kernel
theorem dMoi128 : decode prog_9_method_1_code 128 = .ok (.putfield 56, 3) := by decide +kernel
theorem dMoi131 : decode prog_9_method_1_code 131 = .ok (.aload_n 0, 1) := by decide +kernel
theorem dMoi132 : decode prog_9_method_1_code 132 = .ok (.sipush 864, 3) := by decide +kernel
theorem dMoi135 : decode prog_9_method_1_code 135 = .ok (.newarray .int, 2) := by decide +kernel
theorem dMoi137 : decode prog_9_method_1_code 137 = .ok (.putfield 60, 3) := by decide +kernel
theorem dMoi140 : decode prog_9_method_1_code 140 = .ok (.aload_n 0, 1) := by decide +kernel
theorem dMoi141 : decode prog_9_method_1_code 141 = .ok (.bipush 12, 2) := by decide +kernel
theorem dMoi143 : decode prog_9_method_1_code 143 = .ok (.newarray .int, 2) := by decide +kernel
theorem dMoi145 : decode prog_9_method_1_code 145 = .ok (.putfield 63, 3) := by decide +kernel
theorem dMoi148 : decode prog_9_method_1_code 148 = .ok (.aload_n 0, 1) := by decide +kernel
theorem dMoi149 : decode prog_9_method_1_code 149 = .ok (.bipush 25, 2) := by decide +kernel
theorem dMoi151 : decode prog_9_method_1_code 151 = .ok (.lconst 1, 1) := by decide +kernel
theorem dMoi152 : decode prog_9_method_1_code 152 = .ok (.invokevirtual 66, 3) := by decide +kernel
theorem dMoi155 : decode prog_9_method_1_code 155 = .ok (.return_, 1) := by decide +kernel
set_option maxHeartbeats 8000000 in
theorem c_Mo {l : Launch} {G : ek_G} {I' : ek_St} (hbe : fMo_be kM iM0 1 25 1 = some I') : ek_CM l G kM I' y_Mo_i (.code y_Mo_i prog_9_method_1_code 1 none :: lw_g) rm_Mo 8 1 18 17 1056 := by
  refine ek_cbody (by decide) rfl (by decide) (fun p e s m below meth c ls Y hCS hl => ?_)
  obtain ⟨⟨hx, hb, hmlx, hown, hts⟩, hr, hlk, hnm0, hK, hov⟩ := id Y
  have hsz := hCS.1
  have hCS : ek_CS G kM iM0 8 1 (1 + 1) (ek_D 8) s.heap s.heap := ⟨hCS.1, hCS.2.1, ek_C.nil, hCS.2.2.2⟩
  refine ek_obj Y (lv_at hl 0 rfl) hl.1 q_570 dMoi0 dMoi1 (by decide) ?_
  refine lv_aload_n hx hb dMoi4 rfl (lv_at hl 0 rfl) ?_
  refine lv_sipush (v := 1000) hx hb dMoi5 (by decide) ?_
  obtain ⟨s1, s2, s3, s4⟩ := hCS
  refine ek_putI hx hb hts 8 in_Mo ty_Mo ty_Mo_ok nm_Mo hown hK s2 rfl 2 (by decide) q_578 rfl rfl rfl dMoi8 (fun H locs l2 o2 z2 k2 => ?_)
  have hCS : ek_CS G kM iM0 8 1 2 (updV (ek_D 8) 2 (.int 1000)) H s.heap := ⟨by rw [z2]; exact s1, o2, fun z g1 g2 => absurd g2 (by omega), fun q hq => k2 q (by omega)⟩
  have hlo : ∀ q ∈ locs, G.2.2 + 1 ≤ q.base := fun q hq => by rw [l2] at hq; rw [List.mem_singleton.mp hq]; exact Nat.le_refl _
  refine lv_aload_n hx hb dMoi11 rfl (lv_at hl 0 rfl) ?_
  refine lv_bipush (v := 12) hx hb dMoi12 (by decide) ?_
  refine ek_arrI (x1 := 2) Y (by decide) hCS hlo in_Mo ty_Mo ty_Mo_ok nm_Mo rfl 12 (by decide) (by decide) (by decide) (by decide) (iM0_0 (by decide)) (by decide) 8 (by decide) q_584 rfl rfl (fun _ => ⟨rfl, rfl⟩) dMoi14 dMoi16 (fun H locs hlo hCS => ?_)
  refine lv_aload_n hx hb dMoi19 rfl (lv_at hl 0 rfl) ?_
  refine lv_bipush (v := 12) hx hb dMoi20 (by decide) ?_
  refine ek_arrI (x1 := 3) Y (by decide) hCS hlo in_Mo ty_Mo ty_Mo_ok nm_Mo rfl 12 (by decide) (by decide) (by decide) (by decide) (iM0_0 (by decide)) (by decide) 9 (by decide) q_585 rfl rfl (fun _ => ⟨rfl, rfl⟩) dMoi22 dMoi24 (fun H locs hlo hCS => ?_)
  refine lv_aload_n hx hb dMoi27 rfl (lv_at hl 0 rfl) ?_
  refine lv_bipush (v := 12) hx hb dMoi28 (by decide) ?_
  refine ek_arrI (x1 := 4) Y (by decide) hCS hlo in_Mo ty_Mo ty_Mo_ok nm_Mo rfl 12 (by decide) (by decide) (by decide) (by decide) (iM0_0 (by decide)) (by decide) 10 (by decide) q_586 rfl rfl (fun _ => ⟨rfl, rfl⟩) dMoi30 dMoi32 (fun H locs hlo hCS => ?_)
  refine lv_aload_n hx hb dMoi35 rfl (lv_at hl 0 rfl) ?_
  refine lv_bipush (v := 12) hx hb dMoi36 (by decide) ?_
  refine ek_arrI (x1 := 5) Y (by decide) hCS hlo in_Mo ty_Mo ty_Mo_ok nm_Mo rfl 12 (by decide) (by decide) (by decide) (by decide) (iM0_0 (by decide)) (by decide) 11 (by decide) q_587 rfl rfl (fun _ => ⟨rfl, rfl⟩) dMoi38 dMoi40 (fun H locs hlo hCS => ?_)
  refine lv_aload_n hx hb dMoi43 rfl (lv_at hl 0 rfl) ?_
  refine lv_bipush (v := 12) hx hb dMoi44 (by decide) ?_
  refine ek_arrI (x1 := 6) Y (by decide) hCS hlo in_Mo ty_Mo ty_Mo_ok nm_Mo rfl 12 (by decide) (by decide) (by decide) (by decide) (iM0_0 (by decide)) (by decide) 12 (by decide) q_588 rfl rfl (fun _ => ⟨rfl, rfl⟩) dMoi46 dMoi48 (fun H locs hlo hCS => ?_)
  refine lv_aload_n hx hb dMoi51 rfl (lv_at hl 0 rfl) ?_
  refine lv_bipush (v := 12) hx hb dMoi52 (by decide) ?_
  refine ek_arrI (x1 := 7) Y (by decide) hCS hlo in_Mo ty_Mo ty_Mo_ok nm_Mo rfl 12 (by decide) (by decide) (by decide) (by decide) (iM0_0 (by decide)) (by decide) 13 (by decide) q_589 rfl rfl (fun _ => ⟨rfl, rfl⟩) dMoi54 dMoi56 (fun H locs hlo hCS => ?_)
  refine lv_aload_n hx hb dMoi59 rfl (lv_at hl 0 rfl) ?_
  refine lv_bipush (v := 12) hx hb dMoi60 (by decide) ?_
  refine ek_arrI (x1 := 8) Y (by decide) hCS hlo in_Mo ty_Mo ty_Mo_ok nm_Mo rfl 12 (by decide) (by decide) (by decide) (by decide) (iM0_0 (by decide)) (by decide) 14 (by decide) q_590 rfl rfl (fun _ => ⟨rfl, rfl⟩) dMoi62 dMoi64 (fun H locs hlo hCS => ?_)
  refine lv_aload_n hx hb dMoi67 rfl (lv_at hl 0 rfl) ?_
  refine lv_bipush (v := 12) hx hb dMoi68 (by decide) ?_
  refine ek_arrI (x1 := 9) Y (by decide) hCS hlo in_Mo ty_Mo ty_Mo_ok nm_Mo rfl 12 (by decide) (by decide) (by decide) (by decide) (iM0_0 (by decide)) (by decide) 15 (by decide) q_591 rfl rfl (fun _ => ⟨rfl, rfl⟩) dMoi70 dMoi72 (fun H locs hlo hCS => ?_)
  refine lv_aload_n hx hb dMoi75 rfl (lv_at hl 0 rfl) ?_
  refine lv_bipush (v := 12) hx hb dMoi76 (by decide) ?_
  refine ek_arrI (x1 := 10) Y (by decide) hCS hlo in_Mo ty_Mo ty_Mo_ok nm_Mo rfl 12 (by decide) (by decide) (by decide) (by decide) (iM0_0 (by decide)) (by decide) 16 (by decide) q_592 rfl rfl (fun _ => ⟨rfl, rfl⟩) dMoi78 dMoi80 (fun H locs hlo hCS => ?_)
  refine lv_aload_n hx hb dMoi83 rfl (lv_at hl 0 rfl) ?_
  refine lv_bipush (v := 12) hx hb dMoi84 (by decide) ?_
  refine ek_arrI (x1 := 11) Y (by decide) hCS hlo in_Mo ty_Mo ty_Mo_ok nm_Mo rfl 12 (by decide) (by decide) (by decide) (by decide) (iM0_0 (by decide)) (by decide) 17 (by decide) q_593 rfl rfl (fun _ => ⟨rfl, rfl⟩) dMoi86 dMoi88 (fun H locs hlo hCS => ?_)
  refine lv_aload_n hx hb dMoi91 rfl (lv_at hl 0 rfl) ?_
  refine lv_bipush (v := 12) hx hb dMoi92 (by decide) ?_
  refine ek_arrI (x1 := 12) Y (by decide) hCS hlo in_Mo ty_Mo ty_Mo_ok nm_Mo rfl 12 (by decide) (by decide) (by decide) (by decide) (iM0_0 (by decide)) (by decide) 18 (by decide) q_594 rfl rfl (fun _ => ⟨rfl, rfl⟩) dMoi94 dMoi96 (fun H locs hlo hCS => ?_)
  refine lv_aload_n hx hb dMoi99 rfl (lv_at hl 0 rfl) ?_
  refine lv_bipush (v := 12) hx hb dMoi100 (by decide) ?_
  refine ek_arrI (x1 := 13) Y (by decide) hCS hlo in_Mo ty_Mo ty_Mo_ok nm_Mo rfl 12 (by decide) (by decide) (by decide) (by decide) (iM0_0 (by decide)) (by decide) 19 (by decide) q_595 rfl rfl (fun _ => ⟨rfl, rfl⟩) dMoi102 dMoi104 (fun H locs hlo hCS => ?_)
  refine lv_aload_n hx hb dMoi107 rfl (lv_at hl 0 rfl) ?_
  refine lv_bipush (v := 12) hx hb dMoi108 (by decide) ?_
  refine ek_arrI (x1 := 14) Y (by decide) hCS hlo in_Mo ty_Mo ty_Mo_ok nm_Mo rfl 12 (by decide) (by decide) (by decide) (by decide) (iM0_0 (by decide)) (by decide) 20 (by decide) q_596 rfl rfl (fun _ => ⟨rfl, rfl⟩) dMoi110 dMoi112 (fun H locs hlo hCS => ?_)
  refine lv_aload_n hx hb dMoi115 rfl (lv_at hl 0 rfl) ?_
  refine lv_bipush (v := 12) hx hb dMoi116 (by decide) ?_
  refine ek_arrI (x1 := 15) Y (by decide) hCS hlo in_Mo ty_Mo ty_Mo_ok nm_Mo rfl 12 (by decide) (by decide) (by decide) (by decide) (iM0_0 (by decide)) (by decide) 21 (by decide) q_597 rfl rfl (fun _ => ⟨rfl, rfl⟩) dMoi118 dMoi120 (fun H locs hlo hCS => ?_)
  refine lv_aload_n hx hb dMoi123 rfl (lv_at hl 0 rfl) ?_
  refine lv_bipush (v := 12) hx hb dMoi124 (by decide) ?_
  obtain ⟨s1, s2, s3, s4⟩ := hCS
  refine ek_newz hx hb (hts _ q_652) hK rfl s1 (by decide) (by decide) dMoi126 (fun H1 z1 a1 k1 => ?_)
  refine ek_putF hx hb hts 8 in_Mo ty_Mo ty_Mo_ok nm_Mo hown hK (s2.kept (k1 _ (by omega))) rfl 22 (by decide) q_598 rfl hnm0 rfl rfl rfl dMoi128 (fun H3 locs3 l3 o3 z3 k3 => ?_)
  have hCS : ek_CS G kM iM0 8 1 17 _ H3 s.heap := ⟨by omega, o3, by
    refine ek_C.app (mi := 16) (s3.kept (fun q h1 h2 => by rw [k3 q (by omega), k1 q (by omega)])) (ek_C.one ?_)
    rw [show kM 16 = 50 from rfl, iM0_0 (by decide)]
    exact ek_at_kept a1 (k3 _ (by omega)), fun q hq => by rw [k3 q (by omega), k1 q (by omega)]; exact s4 q hq⟩
  have hlo : ∀ q ∈ locs3, G.2.2 + 1 ≤ q.base := fun q hq => by
    rw [l3] at hq
    rcases List.mem_append.mp hq with h | h
    · exact hlo q h
    · rw [List.mem_singleton.mp h]
      exact Nat.le_refl _
  refine lv_aload_n hx hb dMoi131 rfl (lv_at hl 0 rfl) ?_
  refine lv_sipush (v := 864) hx hb dMoi132 (by decide) ?_
  refine ek_arrI (x1 := 17) Y (by decide) hCS hlo in_Mo ty_Mo ty_Mo_ok nm_Mo rfl 864 (by decide) (by decide) (by decide) (by decide) (iM0_0 (by decide)) (by decide) 23 (by decide) q_599 rfl rfl (fun _ => ⟨rfl, rfl⟩) dMoi135 dMoi137 (fun H locs hlo hCS => ?_)
  refine lv_aload_n hx hb dMoi140 rfl (lv_at hl 0 rfl) ?_
  refine lv_bipush (v := 12) hx hb dMoi141 (by decide) ?_
  refine ek_arrI (x1 := 18) Y (by decide) hCS hlo in_Mo ty_Mo ty_Mo_ok nm_Mo rfl 12 (by decide) (by decide) (by decide) (by decide) (iM0_0 (by decide)) (by decide) 24 (by decide) q_600 rfl rfl (fun _ => ⟨rfl, rfl⟩) dMoi143 dMoi145 (fun H locs hlo hCS => ?_)
  obtain ⟨s1, s2, s3, s4⟩ := hCS
  have hw : ek_W G kM iM0 H := by
    refine ⟨rfl, fun z hz => ?_⟩
    have hz2 : 1 ≤ z ∧ z < 19 := by
      unfold kM at hz
      by_cases a : z = 1
      · omega
      · rw [if_neg a] at hz
        by_cases b : 2 ≤ z ∧ z ≤ 15
        · omega
        · rw [if_neg b] at hz
          by_cases c : z = 16
          · omega
          · rw [if_neg c] at hz
            by_cases d : z = 17
            · omega
            · rw [if_neg d] at hz
              by_cases e : z = 18
              · omega
              · rw [if_neg e] at hz
                exact absurd rfl hz
    by_cases a : z = 1
    · subst a
      refine (s2.to rfl (fun k hk => ?_)).at (by decide)
      have hk : k < 25 := hk
      match k, hk with
      | 0, _ => rfl
      | 1, _ => rfl
      | 2, _ => rfl
      | 3, _ => rfl
      | 4, _ => rfl
      | 5, _ => rfl
      | 6, _ => rfl
      | 7, _ => rfl
      | 8, _ => rfl
      | 9, _ => rfl
      | 10, _ => rfl
      | 11, _ => rfl
      | 12, _ => rfl
      | 13, _ => rfl
      | 14, _ => rfl
      | 15, _ => rfl
      | 16, _ => rfl
      | 17, _ => rfl
      | 18, _ => rfl
      | 19, _ => rfl
      | 20, _ => rfl
      | 21, _ => rfl
      | 22, _ => rfl
      | 23, _ => rfl
      | 24, _ => rfl
      | j + 25, h => exact absurd h (by omega)
    · exact s3 z (by omega) (by omega)
  refine lv_aload_n hx hb dMoi148 rfl (lv_at hl 0 rfl) ?_
  refine lv_bipush (v := 25) hx hb dMoi149 (by decide) ?_
  refine lv_lconst (v := 1) hx hb dMoi151 (by decide) ?_
  have hA : ∀ q, ek_A G kM q → G.2.2 + 1 ≤ q := by
    rintro q ⟨z, hz, rfl⟩
    have : z ≠ 0 := fun e => hz (by rw [e]; rfl)
    omega
  have hrun := ek_rV (e := e) (below := below) (meth := meth) (locs := locs) (cells := 17) (slots := 1056) (R := rm_Mo) (pc := 152) (ls := ls) (G := G) (kd := kM) (x := 1) (rest := []) (n := 2) ⟨hx, hb, hmlx, hown, hts⟩ hK hw 8 (C := "ElasticKernelModel") rfl (by decide) (by decide) (by decide) (mMo_be (l := l) (G := G) hbe) (cwV 2 hts (lw_V q_571 q_573 p_15 q_8 q_574) rfl rfl rfl (by decide +kernel) (by decide)) rfl hl.1 (st0 := [.long 1, .int 25, .ref (G.2.2 + 1)]) (by rw [ek_r_ref (by omega)]; rfl) (by decide) dMoi152 (by decide)
  refine ek_runX (lo := G.2.2 + 1) hrun (by rw [hsz, s1]; omega) hlo hA (fun H1 locs1 l1 w1 z1 k1 => ?_)
  refine W.vret hx hb hr (fun t ht _ => ⟨rfl, by rw [ht, z1]; exact s1, fun z g1 g2 => ?_, fun q hq => ?_⟩) l1 dMoi155 hlk
  · rw [ht]
    refine w1.2 z ?_
    unfold kM
    by_cases a : z = 1
    · rw [if_pos a]; decide
    · rw [if_neg a]
      by_cases b : 2 ≤ z ∧ z ≤ 15
      · rw [if_pos b]; decide
      · rw [if_neg b]
        by_cases c : z = 16
        · rw [if_pos c]; decide
        · rw [if_neg c]
          by_cases d : z = 17
          · rw [if_pos d]; decide
          · rw [if_neg d, if_pos (by omega)]; decide
  · rw [ht, k1 q (by omega) (fun h => by have := hA q h; omega)]
    exact s4 q hq
