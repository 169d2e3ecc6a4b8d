theorem lw_gt {i L : Nat} (hi : i ≤ 4000) (hL : L ≤ 4000) : nI L - 6 < nI i ↔ L < i + 6 := by
  have h1 : (nI L - 6).toInt = (L : Int) - 6 := by
    rw [Int32.toInt_sub, nI_toInt (by omega)]
    show ((L : Int) - 6).bmod (2 ^ 32) = (L : Int) - 6
    rw [Int.bmod_def]
    omega
  rw [Int32.lt_iff_toInt_lt, h1, nI_toInt (by omega)]
  omega
section LWO
variable {p : Program} {l : Launch} {e : Env} {s : State} {m : MethodId} {below : List Frame} {meth : Method} {c : Code}
variable {b L n0 : Nat} {xs : Nat → Int32} {D : va_G} {cf : Nat → ClassId} {cL : ClassId}
set_option maxHeartbeats 2000000 in
theorem lw_loop (hl0 : l.stackTraces = false) (Y : lwC p s m meth c b L xs n0 D cf cL) : ∀ (k i : Nat) (H : Heap) (locs : List Loc) (Ix Im : ek_St) (v : Int64) (B : Nat) (ls : Array Slot) (cells slots : Nat), lwH n0 D cf cL Ix Im v s H locs → ST Ix Im B → B + 5000 * k ≤ 900000000 → lv_has ls 7 (lwL b n0 i) → L < i + 6 * k + 6 → i ≤ 3072 → cells + k ≤ 601865 → slots + 6 * k ≤ 7290508 →
    W p l e room_1 s m #[Value.ref b] below meth c H locs cells slots (lw_Z below #[Value.ref b] s) (F0 m 23 ls []) := by
  intro k
  obtain ⟨⟨hx, hb, hml, hown, hts⟩, hr, hlk, ⟨scr, s1, s2, s3, s4, s5⟩, hbn, hL, hsz, hK, hAr, hTP⟩ := id Y
  have fin : ∀ {H : Heap} {locs : List Loc} {ls : Array Slot} {cells slots : Nat}, (∀ q ∈ locs, n0 + 1 ≤ q.base) → cells ≤ 601865 → slots ≤ 7290508 → W p l e room_1 s m #[Value.ref b] below meth c H locs cells slots (lw_Z below #[Value.ref b] s) (F0 m 462 ls []) := by
    intro H locs ls cells slots h1 h2 h3
    refine lv_iconst (v := 1) hx hb dL462 (by decide) ?_
    refine va_forget (fun q hq => by rw [hsz]; exact h1 q hq) ?_
    exact W.widen h2 h3 (lw_ret hx hb hr hlk dL463)
  have head : ∀ {i : Nat} {H : Heap} {locs : List Loc} {ls : Array Slot} {cells slots : Nat}, (∀ q, q < n0 + 1 → H[q]? = s.heap[q]?) → (∀ q ∈ locs, n0 + 1 ≤ q.base) → cells ≤ 601865 → slots ≤ 7290508 → lv_has ls 7 (lwL b n0 i) → i ≤ 3072 → (i + 6 ≤ L → W p l e room_1 s m #[Value.ref b] below meth c H locs cells slots (lw_Z below #[Value.ref b] s) (F0 m 33 ls [])) → W p l e room_1 s m #[Value.ref b] below meth c H locs cells slots (lw_Z below #[Value.ref b] s) (F0 m 23 ls []) := by
    intro i H locs ls cells slots h4 h5 h6 h7 hl hi kk
    refine lv_iload hx hb dL23 (lv_at hl 0 rfl) ?_
    refine lv_aload_n hx hb dL25 rfl (lv_at hl 4 rfl) ?_
    refine W.alen (n := nI L) hx hb (by rw [h4 b hbn]; exact s1) s2 (by rw [s4]; rfl) rfl rfl dL26 ?_
    refine lv_bipush (v := 6) hx hb dL27 (by decide) ?_
    refine lv_isub hx hb dL29 ?_
    show W p l e room_1 s m #[Value.ref b] below meth c H locs cells slots _ (F0 m 30 ls [.int (nI L - 6), .int (nI i)])
    refine lv_icmp_gt (tgt := 462) hx hb dL30 (by decide) (fun _ => fin h5 h6 h7) (fun h => kk ?_)
    have := mt (lw_gt (by omega) (by omega)).mpr h
    omega
  induction k with
  | zero =>
    intro i H locs Ix Im v B ls cells slots hH hST hB hl hk hi hc hs
    exact head hH.2.2.2.1 hH.2.2.2.2 (by omega) (by omega) hl hi (fun h => absurd h (by omega))
  | succ k ih =>
    intro i H locs Ix Im v B ls cells slots hH hST hB hl hk hi hc hs
    refine head hH.2.2.2.1 hH.2.2.2.2 (by omega) (by omega) hl hi (fun h6 => ?_)
    have hcs : cells ≤ room_1.cells ∧ slots ≤ room_1.slots := ⟨show cells ≤ 601865 by omega, show slots ≤ 7290508 by omega⟩
    have hcs1 : cells + 1 ≤ room_1.cells ∧ slots + 6 ≤ room_1.slots := ⟨show cells + 1 ≤ 601865 by omega, show slots + 6 ≤ 7290508 by omega⟩
    have kk : lwK p l e s m below meth c cells slots (lw_Z below #[Value.ref b] s) b n0 D cf cL B i := by
      intro H1 locs1 Ix1 Im1 v1 ls1 cells1 slots1 hH1 hST1 hl1 hc1 hs1
      refine lv_iinc (k := 0) (x := nI i) (v := nI (i + 6)) (lv' := lwL b n0 (i + 6)) hx hb dL456 hl1 rfl (Int32.ofNat_add i 6).symm (by decide) rfl (fun ls2 hl2 => ?_)
      refine lv_goto (tgt := 23) hx hb dL459 (by decide) ?_
      exact ih (i + 6) H1 locs1 Ix1 Im1 v1 (B + 5000) ls2 cells1 slots1 hH1 hST1 (by omega) hl2 (by omega) (by omega) (by omega) (by omega)
    refine lv_aload_n hx hb dL33 rfl (lv_at hl 4 rfl) ?_
    refine lv_iload hx hb dL34 (lv_at hl 0 rfl) ?_
    refine W.iald (v := .int (xs i)) hx hb (by rw [hH.2.2.2.1 b hbn]; exact s1) s2 s3 (by rw [s4]; exact nI_in (by omega) (by omega)) (by rw [nI_clamp (by omega)]; exact s5 _ (by omega)) rfl rfl dL36 ?_
    refine lv_bipush (v := 15) hx hb dL37 (by decide) ?_
    refine lv_iand hx hb dL39 ?_
    generalize xs i &&& 15 = w
    show W p l e room_1 s m #[Value.ref b] below meth c H locs cells slots _ (F0 m 40 ls [.int w])
    have kk0 : W p l e room_1 s m #[Value.ref b] below meth c H locs cells slots (lw_Z below #[Value.ref b] s) (F0 m 456 ls []) := kk H locs Ix Im v ls cells slots hH (hST.mono (by omega)) hl (by omega) (by omega)
    by_cases hw : w.toInt < 0 ∨ 8 < w.toInt
    · exact lv_tableOut (tgt := 456) hx hb dL40 hw (by decide) kk0
    · have g1 : ¬ w.toInt < 0 := fun g => hw (Or.inl g)
      have g2 : ¬ 8 < w.toInt := fun g => hw (Or.inr g)
      have hc9 : w.toInt = 0 ∨ w.toInt = 1 ∨ w.toInt = 2 ∨ w.toInt = 3 ∨ w.toInt = 4 ∨ w.toInt = 5 ∨ w.toInt = 6 ∨ w.toInt = 7 ∨ w.toInt = 8 := by omega
      have hB1 : B ≤ 900000000 := by omega
      rcases hc9 with g | g | g | g | g | g | g | g | g
      · exact lv_tableIn (off := 52) (tgt := 92) hx hb dL40 g1 g2 (by rw [g]; rfl) (by decide) (lw_add Y hH hST hB1 h6 hl hcs kk)
      · exact lv_tableIn (off := 125) (tgt := 165) hx hb dL40 g1 g2 (by rw [g]; rfl) (by decide) (lw_leave Y hH hST hB1 h6 hl hcs kk)
      · exact lv_tableIn (off := 150) (tgt := 190) hx hb dL40 g1 g2 (by rw [g]; rfl) (by decide) (lw_load Y hH hST hB1 h6 hl hcs kk)
      · exact lv_tableIn (off := 175) (tgt := 215) hx hb dL40 g1 g2 (by rw [g]; rfl) (by decide) (lw_use Y hH hST hB1 h6 hl hcs kk)
      · exact lv_tableIn (off := 212) (tgt := 252) hx hb dL40 g1 g2 (by rw [g]; rfl) (by decide) (lw_tick hl0 Y hH hST hB1 h6 hl hcs1 kk)
      · exact lv_tableIn (off := 268) (tgt := 308) hx hb dL40 g1 g2 (by rw [g]; rfl) (by decide) (lw_task Y hH hST hB1 h6 hl hcs kk)
      · exact lv_tableIn (off := 305) (tgt := 345) hx hb dL40 g1 g2 (by rw [g]; rfl) (by decide) (lw_rate Y hH hST hB1 h6 hl hcs kk)
      · exact lv_tableIn (off := 354) (tgt := 394) hx hb dL40 g1 g2 (by rw [g]; rfl) (by decide) (lw_total Y hH hST hB1 h6 hl hcs kk)
      · exact lv_tableIn (off := 391) (tgt := 431) hx hb dL40 g1 g2 (by rw [g]; rfl) (by decide) (lw_state Y hH hST hB1 h6 hl hcs kk)
end LWO
