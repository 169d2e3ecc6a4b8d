/-! ROSTER is made -/
section EKA
variable {p : Program} {l : Launch} {e : Env} {R : Room} {s : State} {m : MethodId} {args : Array Value} {below : List Frame} {meth : Method} {c : Code} {H : Heap} {locs : List Loc} {cells slots : Nat} {Q : State → Prop}
variable {cc : ByteArray} {pc : Nat} {ls : Array Slot} {rest : List Value} {G : ek_G}
theorem ek_aastO (hexec : p.tables.exec = Jvm.exec) (hb : c.code = cc) (hK : ek_K G s) {i x y : Nat} {f g : Nat → Int32} (hx : ek_at G 60 x f H) (hy : ek_at G 6 y g H) (hi : i < 12) (hy0 : y ≠ 0) (hy2 : y < 2147483648) {lo : Nat} (hlo : lo ≤ G.2.2 + x) (hlocs : ∀ q ∈ locs, lo ≤ q.base) (hdg : decode cc pc = .ok (.aastore, 1))
    (kk : ∀ (H1 : Heap) (locs1 : List Loc), (∀ q ∈ locs1, lo ≤ q.base) → ek_at G 60 x (fun j => if j = i then nI y else f j) H1 → H1.size = H.size → (∀ q, q ≠ G.2.2 + x → H1[q]? = H[q]?) → W p l e R s m args below meth c H1 locs1 cells slots Q (F0 m (pc + 1) ls rest)) : W p l e R s m args below meth c H locs cells slots Q (F0 m pc ls (.ref (G.2.2 + y) :: .int (nI i) :: .ref (G.2.2 + x) :: rest)) := by
  unfold ek_at at hx hy
  rw [if_neg (by decide), if_neg (by decide), if_pos rfl] at hx
  rw [if_pos (by decide)] at hy
  obtain ⟨r, hr, cellV, g1, g2, g3, -⟩ := hy
  have hcr : vwCl[6 - 1]? = some (ek_TaskC, T_Ta, 15) := rfl
  have hcls := (hK.1.1 (6 - 1) _ hcr).2
  obtain ⟨kA, comp, k1, k2, k3, -⟩ := (hK.1.2 2 _ rfl).2
  have hcomp : comp = G.1.1 (6 - 1) := Option.some.inj (k3.symm.trans hcls.1)
  subst hcomp
  obtain ⟨kC, hkC, -⟩ := hcls.2
  have hi2 : (nI i).toNatClampNeg = i := nI_clamp (by omega)
  refine W.aast hexec hb hx (fun q h => by cases h) (fun h => by cases h) k1 k2 rfl hkC ⟨nI_pos (by omega), by show _ < (arrV _ _ _).slots.size; rw [arrV_size, hi2]; exact hi⟩ g1 (fun q h => by rw [g3] at h; cases h) (by rw [g2]; exact hkC) (by rw [g2]; exact va_assign hcls) rfl rfl hdg fun H1 e z oq => ?_
  refine kk H1 _ (fun q hq => ?_) (ek_at_row ?_) z oq
  · rcases List.mem_append.mp hq with h | h
    · exact hlocs q h
    · rw [List.mem_singleton.mp h]
      exact hlo
  · rw [e, vp_cell_q, vp_cell_q, arrV_store, hi2]
    congr 2
    funext q
    by_cases hq : q = i
    · subst hq
      simp [updV, upd, nI_clamp hy2, ek_o, hy0, va_rf]
    · simp [updV, upd, hq]
end EKA
/-- the row while it is filled -/
def rwF (x i j : Nat) : Int32 := if j < i then nI (x + 2 + 6 * j) else 0
def cRo (kd : Nat → Nat) (I : ek_St) (x : Nat) : Prop := kd x = 4 ∧ kd (x + 1) = 60 ∧ I x = (fun _ => 0) ∧ I (x + 1) = rwF x 12 ∧ ∀ i, i < 12 → cTa kd I (x + 2 + 6 * i)
theorem dRoi0 : decode prog_5_method_1_code 0 = .ok (.aload_n 0, 1) := by decide +kernel
theorem dRoi1 : decode prog_5_method_1_code 1 = .ok (.invokespecial 3, 3) := by decide +kernel
theorem dRoi4 : decode prog_5_method_1_code 4 = .ok (.aload_n 0, 1) := by decide +kernel
theorem dRoi5 : decode prog_5_method_1_code 5 = .ok (.bipush 12, 2) := by decide +kernel
theorem dRoi7 : decode prog_5_method_1_code 7 = .ok (.anewarray 9, 3) := by decide +kernel
theorem dRoi10 : decode prog_5_method_1_code 10 = .ok (.putfield 11, 3) := by decide +kernel
theorem dRoi13 : decode prog_5_method_1_code 13 = .ok (.iconst 0, 1) := by decide +kernel
theorem dRoi14 : decode prog_5_method_1_code 14 = .ok (.istore_n 1, 1) := by decide +kernel
theorem dRoi15 : decode prog_5_method_1_code 15 = .ok (.iload_n 1, 1) := by decide +kernel
theorem dRoi16 : decode prog_5_method_1_code 16 = .ok (.bipush 12, 2) := by decide +kernel
theorem dRoi18 : decode prog_5_method_1_code 18 = .ok (.if_icmp .ge 22, 3) := by decide +kernel
theorem dRoi21 : decode prog_5_method_1_code 21 = .ok (.aload_n 0, 1) := by decide +kernel
theorem dRoi22 : decode prog_5_method_1_code 22 = .ok (.getfield 11, 3) := by decide +kernel
theorem dRoi25 : decode prog_5_method_1_code 25 = .ok (.iload_n 1, 1) := by decide +kernel
theorem dRoi26 : decode prog_5_method_1_code 26 = .ok (.new 9, 3) := by decide +kernel
theorem dRoi29 : decode prog_5_method_1_code 29 = .ok (.dup, 1) := by decide +kernel
theorem dRoi30 : decode prog_5_method_1_code 30 = .ok (.invokespecial 17, 3) := by decide +kernel
theorem dRoi33 : decode prog_5_method_1_code 33 = .ok (.aastore, 1) := by decide +kernel
theorem dRoi34 : decode prog_5_method_1_code 34 = .ok (.iinc 1 1, 3) := by decide +kernel
theorem dRoi37 : decode prog_5_method_1_code 37 = .ok (.goto (-22), 3) := by decide +kernel
theorem dRoi40 : decode prog_5_method_1_code 40 = .ok (.return_, 1) := by decide +kernel
abbrev rm_Ro : Room := { frames := 4, cells := 73, slots := 624, locals := 72 }
def RoV (G : ek_G) (x : Nat) : Nat → Value := updV (ek_D 4) 0 (.ref (G.2.2 + (x + 1)))
set_option maxHeartbeats 4000000 in
theorem w_Ro {l : Launch} {G : ek_G} {kd : Nat → Nat} {I : ek_St} {x : Nat} (h : cRo kd I x) (hx1 : x < 1000) {p : Program} {e : Env} {s : State} {m : MethodId} {below : List Frame} {meth : Method} {c : Code} (Y : ek_Y p s m meth c #[Value.ref (G.2.2 + x)] G prog_5_method_1_code 2 "ElasticKernel$Roster") : ∀ (k i : Nat), k + i = 12 → ∀ (ls : Array Slot) (H : Heap) (locs : List Loc), lv_has ls 2 [(1, .int (nI i)), (0, .ref (G.2.2 + x))] → (∀ q ∈ locs, G.2.2 + x ≤ q.base) → H.size = G.2.2 + (x + 2 + 6 * i) → ek_ob G 4 x (RoV G x) H → ek_at G 60 (x + 1) (rwF x i) H → ek_C G kd I (x + 2) (x + 2 + 6 * i) H → (∀ q, q < G.2.2 + x → H[q]? = s.heap[q]?) →
    W p l e rm_Ro s m #[Value.ref (G.2.2 + x)] below meth c H locs (1 + 6 * i) (12 + 51 * i) (MQ below (ek_CQ G kd I x 74) #[Value.ref (G.2.2 + x)] s 73 624 (fun q => G.2.2 + x ≤ q)) (F0 m 15 ls []) := by
  obtain ⟨⟨hx, hb, hmlx, hown, hts⟩, hr, hlk, hnm0, hK, hov⟩ := id Y
  intro k
  induction k with
  | zero =>
    intro i hi ls H locs hl hlo hsz hob hrow hC hk
    have hi : i = 12 := by omega
    subst hi
    refine lv_iload_n hx hb dRoi15 rfl (lv_at hl 0 rfl) ?_
    refine lv_bipush (v := nI 12) hx hb dRoi16 (by decide) ?_
    refine lv_icmp_ge (tgt := 40) hx hb dRoi18 (by decide) (fun _ => ?_) (fun q => absurd (nI_le (Nat.le_refl 12) (by decide)) q)
    refine ek_cend (n := 74) (kx := 4) (x0 := x) (V := RoV G x) Y ⟨hsz, hob, ?_, hk⟩ (by decide) h.1 (by decide) rfl (fun k hk => ?_) hlo dRoi40
    · refine ek_C.app (mi := x + 2) (ek_C.one ?_) hC
      rw [h.2.1, h.2.2.2.1]
      exact hrow
    · have hk : k < 2 := hk
      match k, hk with
      | 0, _ => rfl
      | 1, _ => rw [ek_V, h.2.2.1]; rfl
      | j + 2, h => exact absurd h (by omega)
  | succ k ih =>
    intro i hi ls H locs hl hlo hsz hob hrow hC hk
    refine lv_iload_n hx hb dRoi15 rfl (lv_at hl 0 rfl) ?_
    refine lv_bipush (v := nI 12) hx hb dRoi16 (by decide) ?_
    refine lv_icmp_ge (tgt := 40) hx hb dRoi18 (by decide) (fun q => absurd q (nI_ge (show i < 12 by omega) (by decide))) (fun _ => ?_)
    refine lv_aload_n hx hb dRoi21 rfl (lv_at hl 1 rfl) ?_
    refine ek_getO hx hb hts in_Ro hown hK hob rfl 0 (by decide) q_136 dRoi22 ?_
    refine lv_iload_n hx hb dRoi25 rfl (lv_at hl 0 rfl) ?_
    refine ek_new hx hb hts 6 in_Ta ty_Ta ty_Ta_ok hown q_30 q_32 q_3 hK rfl (by decide +kernel) hsz (by show 1 + 6 * i + 1 ≤ 73; omega) (by show 12 + 51 * i + 15 ≤ 624; omega) dRoi26 (fun H1 z1 o1 k1 => ?_)
    refine lv_dup hx hb dRoi29 rfl ?_
    refine ek_ctor (lo := G.2.2 + x) ⟨hx, hb, hmlx, hown, hts⟩ hK hov (c_Ta (h.2.2.2.2 i (by omega))) z1 o1 q_33 q_34 q_3 q_35 rfl (by decide +kernel) ⟨rfl, rfl⟩ (by decide) hl.1 (by show 3 ≤ 4; decide) (by show 1 + 6 * i + 1 + 5 ≤ 73 ∧ 12 + 51 * i + 15 + 36 ≤ 624; omega) dRoi30 (by omega) hlo (fun H2 locs2 l2 z2 c2 k2 => ?_)
    have hT := c2 (x + 2 + 6 * i) (Nat.le_refl _) (by omega)
    rw [(h.2.2.2.2 i (by omega)).1] at hT
    have hr2 : ek_at G 60 (x + 1) (rwF x i) H2 := ek_at_kept hrow (by rw [k2 _ (by omega), k1 _ (by omega)])
    show W p l e rm_Ro s m _ below meth c H2 locs2 _ _ _ (F0 m 33 ls (.ref (G.2.2 + (x + 2 + 6 * i)) :: .int (nI i) :: .ref (G.2.2 + (x + 1)) :: []))
    refine ek_aastO hx hb hK hr2 hT (by omega) (by omega) (by omega) (lo := G.2.2 + x) (by omega) l2 dRoi33 (fun H3 locs3 l3 a3 z3 k3 => ?_)
    refine lv_iinc (k := 0) (v := nI (i + 1)) (lv' := [(1, .int (nI (i + 1))), (0, .ref (G.2.2 + x))]) hx hb dRoi34 hl rfl (nI_1 i) (by decide) rfl (fun ls' hl' => ?_)
    refine lv_goto (tgt := 15) hx hb dRoi37 (by decide) ?_
    have key := ih (i + 1) (by omega) ls' H3 locs3 hl' l3 (by omega) (((hob.kept (k1 _ (by omega))).kept (k2 _ (by omega))).kept (k3 _ (by omega))) ?_ ?_ (fun q hq => by rw [k3 q (by omega), k2 q (by omega), k1 q (by omega)]; exact hk q hq)
    · have e1 : 1 + 6 * i + 1 + 5 = 1 + 6 * (i + 1) := by omega
      have e2 : 12 + 51 * i + 15 + 36 = 12 + 51 * (i + 1) := by omega
      show W p l e rm_Ro s m _ below meth c H3 locs3 (1 + 6 * i + 1 + 5) (12 + 51 * i + 15 + 36) _ _
      rw [e1, e2]
      exact key
    · have ef : (fun j => if j = i then nI (x + 2 + 6 * i) else rwF x i j) = rwF x (i + 1) := by
        funext j
        unfold rwF
        by_cases a : j = i
        · rw [if_pos a, if_pos (by omega), a]
        · rw [if_neg a]
          by_cases b : j < i
          · rw [if_pos b, if_pos (by omega)]
          · rw [if_neg b, if_neg (by omega)]
      rw [← ef]
      exact a3
    · refine ek_C.app (mi := x + 2 + 6 * i) ?_ ?_
      · exact hC.kept (fun q g1 g2 => by rw [k3 q (by omega), k2 q (by omega), k1 q (by omega)])
      · exact c2.kept (fun q g1 g2 => k3 q (by omega))
set_option maxHeartbeats 4000000 in
theorem c_Ro {l : Launch} {G : ek_G} {kd : Nat → Nat} {I : ek_St} {x : Nat} (h : cRo kd I x) (hx1 : x < 1000) : ek_CM l G kd I y_Ro_i (.code y_Ro_i prog_5_method_1_code 2 none :: lw_g) rm_Ro 4 x 74 73 624 := by
  refine ek_cbody (by decide) rfl (by decide) (fun p e s m below meth c ls Y hCS hl => ?_)
  obtain ⟨⟨hx, hb, hmlx, hown, hts⟩, hr, hlk, hnm0, hK, hov⟩ := id Y
  obtain ⟨s1, s2, s3, s4⟩ := hCS
  refine ek_obj Y (lv_at hl 0 rfl) hl.1 q_29 dRoi0 dRoi1 (by decide) ?_
  refine lv_aload_n hx hb dRoi4 rfl (lv_at hl 0 rfl) ?_
  refine lv_bipush (v := 12) hx hb dRoi5 (by decide) ?_
  refine ek_newq hx hb hts hown q_30 hov hK rfl s1 (by decide) (by decide) dRoi7 (fun H1 z1 a1 k1 => ?_)
  refine ek_putF hx hb hts 4 in_Ro ty_Ro ty_Ro_ok nm_Ro hown hK (V := ek_D 4) (s2.kept (k1 _ (by omega))) rfl 0 (by decide) q_136 rfl hnm0 rfl rfl rfl dRoi10 (fun H2 locs2 l2 o2 z2 k2 => ?_)
  refine lv_iconst (v := 0) hx hb dRoi13 (by decide) ?_
  refine lv_istore_n (lv' := [(1, .int (nI 0)), (0, .ref (G.2.2 + x))]) hx hb dRoi14 rfl hl (by decide) rfl (fun ls' hl' => ?_)
  refine w_Ro h hx1 Y 12 0 rfl ls' H2 locs2 hl' (fun q hq => by rw [l2] at hq; rw [List.mem_singleton.mp hq]; exact Nat.le_refl _) (by omega) o2 (ek_at_kept ?_ (k2 _ (by omega))) (fun z g1 g2 => absurd g2 (by omega)) (fun q hq => by rw [k2 q (by omega), k1 q (by omega)])
  have ef : (fun _ => 0) = rwF x 0 := by
    funext j
    unfold rwF
    rw [if_neg (by omega)]
  rw [← ef]
  exact a1
