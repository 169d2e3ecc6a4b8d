/-- the ranks are laid, then as above -/
theorem t_solve2 {kd : Nat → Nat} {I : ek_St} {n th : Nat} {c s l f : Nat → Nat} {ph : Nat → Int32} {t : Rat} (hM : MK kd) (hD : MD I n c s l f ph) (hW : WV I) (ht : MV I 24 t) (hth : I 1 2 = nI th) (hth2 : th ≤ 1000)
    (hex : ∃ v p, LD n c s l f ph (mkRat th 1000) v p) :
    ∃ r, ek_lp (fun (k : (ek_St × Nat × Int32 × Int32 × Int32) → Option (ek_St)) (q : (ek_St × Nat × Int32 × Int32 × Int32)) => fMo_solve_121 kd k q.1 q.2.1 q.2.2.1 q.2.2.2.1 q.2.2.2.2) ek_N (I, 1, nI (nC ph n), (0 : Int32), (0 : Int32)) = some r ∧
      ∃ L v, 0 ≤ v ∧ (∀ k, k < n → cnt ph k → L k = lf c s l f v k) ∧ rs (fun k => if cnt ph k then lf c s l f v k else 0) n = mkRat th 1000 ∧ PS I r n c s l f ph L t := by
  have hn := hD.1.1
  generalize hrk : (fun k => if cnt ph k then rkN c s l f ph n k else 0) = rk
  have hrk12 : ∀ k, rk k ≤ 12 := by
    intro k
    rw [← hrk]
    show (if cnt ph k then rkN c s l f ph n k else 0) ≤ 12
    split
    · exact Nat.le_trans (cn_le _ n) hn
    · omega
  refine lp_for (fun i q => ∃ I', q = (I', 1, nI (nC ph n), (0 : Int32), nI i) ∧ (∀ m w, m < 36 → m ∉ [30, 31] → Hm I 1 m w → Hm I' 1 m w) ∧ (∀ z, z ≠ 17 → z ≠ 18 → I' z = I z) ∧ ∀ k, k < i → I' 18 k = nI (rk k)) _ n ⟨I, rfl, fun _ _ _ _ h => h, fun _ _ _ => rfl, fun k hk => absurd hk (by omega)⟩ ?_ ?_ (by omega)
  · rintro kk i q hi ⟨I2, rfl, q1, q2, q3⟩ hkk
    have hi12 : i < 12 := by omega
    have hD2 : MD I2 n c s l f ph := hD.keep (by rw [q2 1 (by decide) (by decide)]) (fun z _ _ => q2 z (by omega) (by omega))
    have di := hD2.2 i hi
    have hcount := t_counts (I := I2) hM hi12
    rw [show I2 7 i = ph i from di.1.2.2.2.2] at hcount
    have fin : ∀ I3, MF I2 I3 1 [30, 31] → ∃ r, fMo_solve_151 kd kk I3 1 (nI (nC ph n)) 0 (nI i) (1 + 17) (nI i) (nI (rk i)) = some r ∧ ∃ L v, 0 ≤ v ∧ (∀ k, k < n → cnt ph k → L k = lf c s l f v k) ∧ rs (fun k => if cnt ph k then lf c s l f v k else 0) n = mkRat th 1000 ∧ PS I r n c s l f ph L t := by
      intro I3 m3
      simp only [fMo_solve_151, ck_t hM.m1, ck_t hM.a1, ck_t hM.a2, ck_t hM.a3, ck_t hM.a4, ck_t hM.a5, ck_t hM.a6, ck_t hM.a7, ck_t hM.a8, ck_t hM.a9, ck_t hM.a10, ck_t hM.a11, ck_t hM.a12, ck_t hM.a13, ck_t hM.a14, ck_t hM.a15, ck_t hM.a16, ck_t hM.a17, ck_t (in12 hi12), cl12 hi12, let_e]
      refine hkk _ ⟨ek_up I3 18 i (nI (rk i)), by rw [nI_succ], fun m w hm hS h => ?_, fun z z1 z2 => ?_, fun k hk => ?_⟩
      · exact Hr.cell (m3.1 m w hm hS (q1 m w hm hS h)) (ek_up_ne (by decide))
      · rw [ek_up_ne z2, m3.2 z z1]
        exact q2 z z1 z2
      · by_cases e : k = i
        · subst e
          exact up_same
        · rw [up_ne (fun q => e q.2), m3.2 18 (by decide)]
          exact q3 k (by omega)
    simp only [fMo_solve_121, ck_t hM.m1, if_neg (hD2.ge hi), hcount, bi_s]
    by_cases hc : ph i = 2
    · rw [hc, if_pos (by decide)]
      have e0 : rk i = 0 := by rw [← hrk]; simp [cnt, hc]
      have := fin I2 (MF.refl _ _ _)
      rw [e0] at this
      exact this
    · have hbb : bI (decide (ph i ≠ 2)) = 1 := by simp [bI, hc]
      rw [hbb, if_neg (by decide)]
      obtain ⟨I3, e3, m3⟩ := t_rankOf hM hD2 hi
      have e0 : rkN c s l f ph n i = rk i := by rw [← hrk]; simp [cnt, hc]
      rw [e0] at e3
      rw [e3, bi_s]
      exact fin I3 m3
  · rintro kk q ⟨I2, rfl, q1, q2, q3⟩
    have hD2 : MD I2 n c s l f ph := hD.keep (by rw [q2 1 (by decide) (by decide)]) (fun z _ _ => q2 z (by omega) (by omega))
    simp only [fMo_solve_121, ck_t hM.m1, if_pos hD2.le]
    obtain ⟨N, D, a, b, rr⟩ := ht
    obtain ⟨r, e, L, v, h1, h2, h3, h4⟩ := t_solve3 (I := I2) (rk := rk) (t := t) hM hD2 (fun m hm => by obtain ⟨w, hw⟩ := hW m hm; exact ⟨w, q1 m w (by omega) (by simp; omega) hw⟩) (fun k hk => ⟨q3 k hk, hrk12 k⟩) (fun k hk hc => by rw [← hrk]; exact if_pos hc) ⟨N, D, q1 _ _ (by decide) (by decide) a, q1 _ _ (by decide) (by decide) b, rr⟩ (by rw [q2 1 (by decide) (by decide)]; exact hth) hth2 hex
    exact ⟨r, e, L, v, h1, h2, h3, h4.base q2⟩
/-- the whole of the reference's solve -/
theorem t_solve {kd : Nat → Nat} {I : ek_St} {n th : Nat} {c s l f : Nat → Nat} {ph : Nat → Int32} (hM : MK kd) (hD : MD I n c s l f ph) (hW : WV I) (hth : I 1 2 = nI th) (hth1 : 1 ≤ th) (hth2 : th ≤ 1000)
    (hex : mkRat th 1000 < rs (fun k => if cnt ph k then hi' c s k else 0) n → ∃ v p, LD n c s l f ph (mkRat th 1000) v p) :
    ∃ I' L t, fMo_solve kd I 1 = some I' ∧ SP n c s l f ph (mkRat th 1000) L t ∧ PS (ek_up I 1 4 (I 1 4 + 1)) I' n c s l f ph L t := by
  have hn := hD.1.1
  have hT : TT n c s l f := fun k hk => by have := hD.2 k hk; exact this.2
  generalize hI0 : ek_up I 1 4 (I 1 4 + 1) = I0
  have hD0 : MD I0 n c s l f ph := hD.keep (by rw [← hI0]; exact up_ne (by decide)) (fun z h1 _ => by rw [← hI0]; exact ek_up_ne (by omega))
  have hW0 : WV I0 := fun m hm => by
    obtain ⟨w, hw⟩ := hW m hm
    exact ⟨w, Hr.cell hw (by rw [← hI0]; exact ek_up_ne (by decide))⟩
  have hth0 : I0 1 2 = nI th := by rw [← hI0, up_ne (by decide)]; exact hth
  generalize hg : (fun k => if cnt ph k then hi' c s k else 0) = g at *
  obtain ⟨I1, e1, g1, f1⟩ := fs_none (I := I0) g hM
  have goal : ∃ r, fMo_solve kd I 1 = some r ∧ ∃ L t, SP n c s l f ph (mkRat th 1000) L t ∧ PS I0 r n c s l f ph L t := by
    simp only [fMo_solve, fMo_solve_0, ck_t hM.m1, let_e, hI0, e1, bv_s]
    refine lp_for (fun i q => ∃ I', q = (I', 1, nI (nC ph i), nI i) ∧ FS I' g i ∧ MF I0 I' 1 [26, 27, 30]) _ n ⟨I1, rfl, g1, f1.mono (by simp)⟩ ?_ ?_ (by omega)
    · rintro kk i q hi ⟨I2, rfl, q1, q2⟩ hkk
      have hi12 : i < 12 := by omega
      have hD2 := hD0.mf q2
      have di := hD2.2 i hi
      have hcount := t_counts (I := I2) hM hi12
      rw [show I2 7 i = ph i from di.1.2.2.2.2] at hcount
      simp only [fMo_solve_18, ck_t hM.m1, if_neg (hD2.ge hi), hcount, bi_s]
      have e0 : nC ph (i + 1) = nC ph i + (if decide (cnt ph i) = true then 1 else 0) := rfl
      by_cases hc : ph i = 2
      · rw [hc, if_pos (by decide)]
        simp only [fMo_solve_56, let_e]
        refine hkk _ ⟨I2, ?_, q1.skip (by rw [← hg]; simp [cnt, hc]), q2⟩
        rw [nI_succ, e0, decide_eq_false (fun q => q hc), if_neg (by decide), Nat.add_zero]
      · have hbb : bI (decide (ph i ≠ 2)) = 1 := by simp [bI, hc]
        rw [hbb, if_neg (by decide)]
        have ra : I2 (1 + 2) i = nI (c i) := di.1.1
        have rb : I2 (1 + 3) i = nI (s i) := di.1.2.1
        obtain ⟨I3, e3, g3, m3⟩ := fs_add (I := I2) (g := g) (c := c i) (p := s i) hM q1 (by rw [← hg]; simp [cnt, hc, hi']) hi12 (by omega) (by omega) (by omega)
        simp only [ck_t hM.m1, ck_t hM.a1, ck_t hM.a2, ck_t hM.a3, ck_t hM.a4, ck_t hM.a5, ck_t hM.a6, ck_t hM.a7, ck_t hM.a8, ck_t hM.a9, ck_t hM.a10, ck_t hM.a11, ck_t hM.a12, ck_t hM.a13, ck_t hM.a14, ck_t hM.a15, ck_t hM.a16, ck_t hM.a17, ck_t (in12 hi12), cl12 hi12, ra, rb, e3, bv_s, let_e, fMo_solve_56]
        refine hkk _ ⟨I3, ?_, g3, q2.trans m3⟩
        rw [nI_succ, e0, decide_eq_true (show cnt ph i from hc), if_pos rfl, nI_succ]
    · rintro kk q ⟨I2, rfl, q1, q2⟩
      have hD2 := hD0.mf q2
      obtain ⟨N, D, a1, a2, a3, a4, a5, a6⟩ := q1
      have b1 : D ≤ 20000 ^ 12 := Nat.le_trans a4 (pw12 hn)
      have b2 : N ≤ 12 * 20000 ^ 12 := Nat.le_trans a5 (Nat.mul_le_mul hn b1)
      obtain ⟨I3, e3, m3⟩ := t_isAbove (I := I2) hM a1 a2 hth2 (Nat.lt_of_le_of_lt (Nat.mul_le_mul_right _ b2) (by decide +kernel)) (Nat.lt_of_le_of_lt (Nat.mul_le_mul_right _ b1) (by decide +kernel))
      have rth : I2 1 2 = nI th := by rw [q2.2 1 (by decide)]; exact hth0
      have hlt := mk_lt_iff (a := th) (b := 1000) (c := N) (d := D) (by decide) a3
      rw [Nat.mul_comm th D, ← a6] at hlt
      have n3 := m3.1 _ _ (by decide) (by decide) a1
      have d3 := m3.1 _ _ (by decide) (by decide) a2
      obtain ⟨I4, e4, h4, f4⟩ := t_copy (I := I3) (k := 24) hM.mn (by decide) (by decide) (by decide) n3
      have d4 := Hr.fm d3 f4 (by decide)
      obtain ⟨I5, e5, h5, f5⟩ := t_copy (I := I4) (k := 25) hM.mn (by decide) (by decide) (by decide) d4
      have h45 := Hr.fm h4 f5 (by decide)
      have m5 : MF I0 I5 1 [24, 25, 26, 27, 30, 31] := (((q2.mono (by simp)).trans (m3.mono (by simp))).trans (f4.mf (by simp))).trans (f5.mf (by simp))
      simp only [fMo_solve_18, ck_t hM.m1, if_pos hD2.le, rth, e3, bi_s]
      by_cases hA : D * th < N * 1000
      · rw [decide_eq_true hA, if_neg (by decide)]
        have r5 : I5 1 2 = nI th := by rw [m5.2 1 (by decide)]; exact hth0
        obtain ⟨I6, e6, h6, f6⟩ := t_be (I := I5) (k := 24) (v := th) hM.mn (by decide) (by omega)
        obtain ⟨I7, e7, h7, f7⟩ := t_be (I := I6) (k := 25) (v := 1000) hM.mn (by decide) (by decide)
        have e7' : fMo_be kd I6 1 (nI 25) (1000 : Int64) = some I7 := e7
        have m7 : MF I0 I7 1 [24, 25, 26, 27, 30, 31] := (m5.trans (f6.mf (by simp))).trans (f7.mf (by simp))
        have hQ1 : 1000 ≤ QB := by decide +kernel
        obtain ⟨r, e, L, v, z1, z2, z3, z4⟩ := t_solve2 (I := I7) (t := mkRat th 1000) hM (hD0.mf m7) (hW0.mf m7 (by decide)) ⟨th, 1000, Hr.fm h6 f7 (by decide), h7, by decide, hQ1, Nat.le_trans hth2 hQ1, rfl⟩ (by rw [m7.2 1 (by decide)]; exact hth0) hth2 (hex (hlt.mpr hA))
        simp only [fMo_solve_78, ck_t hM.m1, l24, l25, l26, l27, e4, bv_s, e5, if_pos, r5, nI_j (show th < 2 ^ 31 by omega), e6, e7']
        refine ⟨r, e, L, mkRat th 1000, Or.inr ⟨by rw [hg]; exact hlt.mpr hA, rfl, v, z1, z2, z3⟩, z4.base (fun z h1 _ => m7.2 z h1)⟩
      · rw [decide_eq_false hA, if_pos (by decide)]
        have hQ1 : 20000 ^ 12 ≤ QB := by decide +kernel
        have hQ2 : 12 * 20000 ^ 12 ≤ QB := by decide +kernel
        obtain ⟨r, e, z⟩ := t_solve5 (I := I5) (L := fun k => hi' c s k) (t := rs g n) true hM (hD0.mf m5) (hW0.mf m5 (by decide)) (fun k hk _ => ⟨hT.lohi hk, Rat.le_refl⟩) ⟨N, D, h45, h5, a3, Nat.le_trans b1 hQ1, Nat.le_trans b2 hQ2, a6⟩ (fun _ _ _ _ => rfl) (fun h => absurd h (by decide))
        have e' : fMo_solve_224 kd I5 1 (1 : Int32) = some r := e
        simp only [fMo_solve_78, ck_t hM.m1, l24, l25, l26, l27, e4, bv_s, e5, if_neg (show ¬ (1 : Int32) = 0 by decide), e']
        exact ⟨r, rfl, _, _, Or.inl ⟨by rw [hg]; exact fun q => hA (hlt.mp q), fun _ _ _ => rfl, by rw [hg]⟩, z.base (fun z h1 _ => m5.2 z h1)⟩
  obtain ⟨r, e, L, t, h1, h2⟩ := goal
  exact ⟨r, L, t, e, h1, h2⟩
