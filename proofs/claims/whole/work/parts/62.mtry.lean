/-! THE REFERENCE: sums of fractions, a try with the m softest pressed flat -/
/-- N and D hold the sum of the first i terms -/
def FS (I : ek_St) (g : Nat → Rat) (i : Nat) : Prop := ∃ N D, Hm I 1 26 N ∧ Hm I 1 27 D ∧ 0 < D ∧ D ≤ 20000 ^ i ∧ N ≤ i * D ∧ rs g i = mkRat N D
theorem FS.mf {I I' : ek_St} {g : Nat → Rat} {i : Nat} {S : List Nat} (h : FS I g i) (m : MF I I' 1 S) (h1 : 26 ∉ S) (h2 : 27 ∉ S) : FS I' g i := by
  obtain ⟨N, D, a, b, r⟩ := h
  exact ⟨N, D, m.1 _ _ (by decide) h1 a, m.1 _ _ (by decide) h2 b, r⟩
theorem FS.skip {I : ek_St} {g : Nat → Rat} {i : Nat} (h : FS I g i) (e : g i = 0) : FS I g (i + 1) := by
  obtain ⟨N, D, a, b, c1, c2, c3, c4⟩ := h
  refine ⟨N, D, a, b, c1, Nat.le_trans c2 (Nat.pow_le_pow_right (by decide) (by omega)), ?_, by rw [rs, e, Rat.add_zero]; exact c4⟩
  rw [Nat.add_mul, Nat.one_mul]
  omega
theorem add_mk {N D c p : Nat} (hD : 0 < D) (hp : 0 < p) : mkRat N D + mkRat c p = mkRat (N * p + D * c : Nat) (D * p) := by
  rw [Rat.mkRat_add_mkRat _ _ (by omega) (by omega)]
  congr 1
  simp only [Int.natCast_add, Int.natCast_mul]
  grind
theorem pw12 {i : Nat} (h : i ≤ 12) : 20000 ^ i ≤ 20000 ^ 12 := Nat.pow_le_pow_right (by decide) h
theorem fs_none {kd : Nat → Nat} {I : ek_St} (g : Nat → Rat) (hM : MK kd) : ∃ I', fMo_none kd I 1 = some I' ∧ FS I' g 0 ∧ MF I I' 1 [26, 27] := by
  obtain ⟨I1, e1, h1, h2, f1⟩ := t_none (I := I) hM
  exact ⟨I1, e1, ⟨0, 1, h1, h2, by decide, by decide, by decide, by show (0 : Rat) = _; decide⟩, f1⟩
theorem fs_add {kd : Nat → Nat} {I : ek_St} {g : Nat → Rat} {i c p : Nat} (hM : MK kd) (h : FS I g i) (e : g i = mkRat c p) (hi : i < 12) (hp : 0 < p) (hp2 : p ≤ 20000) (hc : c ≤ p) : ∃ I', fMo_addFraction kd I 1 (nI c) (nI p) = some I' ∧ FS I' g (i + 1) ∧ MF I I' 1 [26, 27, 30] := by
  obtain ⟨N, D, a, b, c1, c2, c3, c4⟩ := h
  have d1 : D * p ≤ 20000 ^ (i + 1) := by rw [Nat.pow_succ]; exact Nat.mul_le_mul c2 hp2
  have d2 : N * p + D * c ≤ (i + 1) * (D * p) := by
    rw [Nat.add_mul, Nat.one_mul, ← Nat.mul_assoc]
    exact Nat.add_le_add (Nat.mul_le_mul_right _ c3) (Nat.mul_le_mul_left _ hc)
  have d3 : D * p ≤ 20000 ^ 12 := Nat.le_trans d1 (pw12 (by omega))
  have d4 : (i + 1) * (D * p) ≤ 12 * 20000 ^ 12 := Nat.mul_le_mul (by omega) d3
  obtain ⟨I1, e1, h1, h2, f1⟩ := t_addFraction (I := I) hM a b (c := c) (p := p) (by omega) (by omega) (Nat.lt_of_le_of_lt (Nat.le_trans d2 d4) (by decide +kernel)) (Nat.lt_of_le_of_lt d3 (by decide +kernel))
  exact ⟨I1, e1, ⟨_, _, h1, h2, Nat.mul_pos c1 hp, d1, d2, by rw [rs, e, c4, add_mk c1 hp]⟩, f1⟩
/-- M and K hold the softness of the first i -/
def SS (I : ek_St) (g : Nat → Rat) (i : Nat) : Prop := ∃ M K, Hm I 1 28 M ∧ Hm I 1 29 K ∧ 0 < K ∧ K ≤ 1000 ^ i ∧ M ≤ i * K ∧ rs g i = mkRat M K
theorem SS.mf {I I' : ek_St} {g : Nat → Rat} {i : Nat} {S : List Nat} (h : SS I g i) (m : MF I I' 1 S) (h1 : 28 ∉ S) (h2 : 29 ∉ S) : SS I' g i := by
  obtain ⟨N, D, a, b, r⟩ := h
  exact ⟨N, D, m.1 _ _ (by decide) h1 a, m.1 _ _ (by decide) h2 b, r⟩
theorem SS.skip {I : ek_St} {g : Nat → Rat} {i : Nat} (h : SS I g i) (e : g i = 0) : SS I g (i + 1) := by
  obtain ⟨N, D, a, b, c1, c2, c3, c4⟩ := h
  refine ⟨N, D, a, b, c1, Nat.le_trans c2 (Nat.pow_le_pow_right (by decide) (by omega)), ?_, by rw [rs, e, Rat.add_zero]; exact c4⟩
  rw [Nat.add_mul, Nat.one_mul]
  omega
abbrev Fit (n : Nat) (c s l f : Nat → Nat) (ph : Nat → Int32) (p : Nat → Bool) (v : Rat) : Prop := ∀ k, k < n → cnt ph k → (p k = true → rr' c s l f k ≤ v) ∧ (p k = false → v ≤ rr' c s l f k)
theorem t_fits {kd : Nat → Nat} {I : ek_St} {n m Nv Dv : Nat} {c s l f rk : Nat → Nat} {ph : Nat → Int32} (hM : MK kd) (hD : MD I n c s l f ph) (hm : m ≤ 12) (hr : ∀ k, k < n → I 18 k = nI (rk k) ∧ rk k ≤ 12) (hN : Hm I 1 26 Nv) (hDv : Hm I 1 27 Dv) (h0 : 0 < Dv) (hN2 : Nv ≤ PB) (hD2 : Dv ≤ PB) :
    ∃ I' r, fMo_fits kd I 1 (nI m) = some (I', bI r) ∧ MF I I' 1 [30, 31] ∧ (r = true ↔ Fit n c s l f ph (fun k => decide (rk k < m)) (mkRat Nv Dv)) := by
  have hn := hD.1.1
  have big : PB * 20000 * 20000 < 2 ^ (24 * 24) := by decide +kernel
  have bigb : PB * 1000 * 20000 * 20000 < 2 ^ (24 * 24) := by decide +kernel
  generalize hp : (fun k => decide (rk k < m)) = p
  have goal : ∃ q, fMo_fits kd I 1 (nI m) = some q ∧ ∃ r, q.2 = bI r ∧ MF I q.1 1 [30, 31] ∧ (r = true ↔ Fit n c s l f ph p (mkRat Nv Dv)) := by
    unfold fMo_fits fMo_fits_0
    refine lp_for (fun i q => ∃ I', q = (I', 1, nI m, nI i) ∧ MF I I' 1 [30, 31] ∧ Fit i c s l f ph p (mkRat Nv Dv)) (fun q : ek_St × Int32 => ∃ r, q.2 = bI r ∧ MF I q.1 1 [30, 31] ∧ (r = true ↔ Fit n c s l f ph p (mkRat Nv Dv))) n ⟨I, rfl, MF.refl _ _ _, fun k hk => absurd hk (by omega)⟩ ?_ ?_ (by omega)
    · rintro kk i q hi ⟨I2, rfl, q1, q2⟩ hkk
      have hDd := hD.mf q1
      have hi12 : i < 12 := by omega
      have di := hDd.2 i hi
      have hcount := t_counts (I := I2) hM hi12
      rw [show I2 7 i = ph i from di.1.2.2.2.2] at hcount
      have cont : ∀ I3, MF I I3 1 [30, 31] → (cnt ph i → (p i = true → rr' c s l f i ≤ mkRat Nv Dv) ∧ (p i = false → mkRat Nv Dv ≤ rr' c s l f i)) → ∃ r, fMo_fits_136 kd kk I3 1 (nI m) (nI i) = some r ∧ ∃ r1, r.2 = bI r1 ∧ MF I r.1 1 [30, 31] ∧ (r1 = true ↔ Fit n c s l f ph p (mkRat Nv Dv)) := by
        intro I3 m3 hfit
        simp only [fMo_fits_136, let_e]
        refine hkk _ ⟨I3, by rw [nI_succ], m3, fun k hk => ?_⟩
        by_cases e : k = i
        · rw [e]; exact hfit
        · exact q2 k (by omega)
      simp only [fMo_fits_2, ck_t hM.m1, if_neg (hDd.ge hi), hcount, bi_s]
      by_cases hc : ph i = 2
      · rw [hc, if_pos (by decide)]
        exact cont I2 q1 (fun q => absurd hc q)
      · have hb : bI (decide (ph i ≠ 2)) = 1 := by simp [bI, hc]
        rw [hb, if_neg (by decide)]
        have hN0 := q1.1 _ _ (by decide) (by decide) hN
        have hD0 := q1.1 _ _ (by decide) (by decide) hDv
        have bA : Nv * s i ≤ PB * 20000 := Nat.mul_le_mul hN2 (by omega)
        have bB : Nv * s i * l i ≤ PB * 20000 * 20000 := Nat.mul_le_mul bA (by omega)
        have bC : Dv * f i ≤ PB * 1000 := Nat.mul_le_mul hD2 (by omega)
        have bD : Dv * f i * c i ≤ PB * 1000 * 20000 := Nat.mul_le_mul bC (by omega)
        have bE : Dv * f i * c i * (l i - s i) ≤ PB * 1000 * 20000 * 20000 := Nat.mul_le_mul bD (by omega)
        obtain ⟨I3, e3, h3, f3⟩ := t_copy (I := I2) (k := 30) hM.mn (by decide) (by decide) (by decide) hN0
        obtain ⟨I4, e4, h4, f4⟩ := t_times (I := I3) (f := s i) hM.mn (by decide) h3 (by omega) (Nat.lt_of_le_of_lt bA (by decide +kernel))
        obtain ⟨I5, e5, h5, f5⟩ := t_times (I := I4) (f := l i) hM.mn (by decide) h4 (by omega) (Nat.lt_of_le_of_lt bB big)
        have hD5 := Hr.fm (Hr.fm (Hr.fm hD0 f3 (by decide)) f4 (by decide)) f5 (by decide)
        obtain ⟨I6, e6, h6, f6⟩ := t_copy (I := I5) (k := 31) hM.mn (by decide) (by decide) (by decide) hD5
        obtain ⟨I7, e7, h7, f7⟩ := t_times (I := I6) (f := f i) hM.mn (by decide) h6 (by omega) (Nat.lt_of_le_of_lt bC (by decide +kernel))
        obtain ⟨I8, e8, h8, f8⟩ := t_times (I := I7) (f := c i) hM.mn (by decide) h7 (by omega) (Nat.lt_of_le_of_lt bD (by decide +kernel))
        obtain ⟨I9, e9, h9, f9⟩ := t_times (I := I8) (f := l i - s i) hM.mn (by decide) h8 (by omega) (Nat.lt_of_le_of_lt bE bigb)
        have x9 := Hr.fm (Hr.fm (Hr.fm (Hr.fm h5 f6 (by decide)) f7 (by decide)) f8 (by decide)) f9 (by decide)
        have ec := t_compare (I := I9) hM.mn (by decide) (by decide) x9 h9
        have m3 : MF I2 I3 1 [30, 31] := f3.mf (by simp)
        have m4 : MF I2 I4 1 [30, 31] := m3.trans (f4.mf (by simp))
        have m5 : MF I2 I5 1 [30, 31] := m4.trans (f5.mf (by simp))
        have m6 : MF I2 I6 1 [30, 31] := m5.trans (f6.mf (by simp))
        have m7 : MF I2 I7 1 [30, 31] := m6.trans (f7.mf (by simp))
        have m8 : MF I2 I8 1 [30, 31] := m7.trans (f8.mf (by simp))
        have m9 : MF I2 I9 1 [30, 31] := m8.trans (f9.mf (by simp))
        have r3 : I3 (1 + 3) i = nI (s i) := by rw [m3.2 _ (by decide)]; exact di.1.2.1
        have r4 : I4 (1 + 4) i = nI (l i) := by rw [m4.2 _ (by decide)]; exact di.1.2.2.1
        have r6 : I6 (1 + 5) i = nI (f i) := by rw [m6.2 _ (by decide)]; exact di.1.2.2.2.1
        have r7 : I7 (1 + 2) i = nI (c i) := by rw [m7.2 _ (by decide)]; exact di.1.1
        have r8 : I8 (1 + 4) i - I8 (1 + 3) i = nI (l i - s i) := by
          rw [m8.2 _ (by decide), m8.2 _ (by decide), show I2 (1 + 4) i = nI (l i) from di.1.2.2.1, show I2 (1 + 3) i = nI (s i) from di.1.2.1]
          exact pk_sub (by omega)
        have r9 : I9 (1 + 17) i = nI (rk i) := by rw [m9.2 _ (by decide), q1.2 _ (by decide)]; exact (hr i hi).1
        have hrk := (hr i hi).2
        simp only [ck_t hM.m1, ck_t hM.a1, ck_t hM.a2, ck_t hM.a3, ck_t hM.a4, ck_t hM.a5, ck_t hM.a6, ck_t hM.a7, ck_t hM.a8, ck_t hM.a9, ck_t hM.a10, ck_t hM.a11, ck_t hM.a12, ck_t hM.a13, ck_t hM.a14, ck_t hM.a15, ck_t hM.a16, ck_t hM.a17, ck_t (in12 hi12), cl12 hi12, l30, l31, l26, l27, e3, bv_s, r3, e4, r4, e5, e6, r6, e7, r7, e8, r8, e9, ec, bi_s, r9, ck0]
        have hsl : 0 < s i * l i := Nat.mul_pos (by omega) (by omega)
        have le1 := mk_le_iff (a := Nv) (b := Dv) (c := c i * (l i - s i) * f i) (d := s i * l i) h0 hsl
        have le2 := mk_le_iff (a := c i * (l i - s i) * f i) (b := s i * l i) (c := Nv) (d := Dv) hsl h0
        have ex : Nv * (s i * l i) = Nv * s i * l i := (Nat.mul_assoc _ _ _).symm
        have ey : c i * (l i - s i) * f i * Dv = Dv * f i * c i * (l i - s i) := by grind
        rw [ex, ey] at le1 le2
        have hpi : p i = decide (rk i < m) := by rw [← hp]
        have m9' := q1.trans m9
        have bad : ¬ ((p i = true → rr' c s l f i ≤ mkRat Nv Dv) ∧ (p i = false → mkRat Nv Dv ≤ rr' c s l f i)) → ∃ r, some (I9, (0 : Int32)) = some r ∧ ∃ r1, r.2 = bI r1 ∧ MF I r.1 1 [30, 31] ∧ (r1 = true ↔ Fit n c s l f ph p (mkRat Nv Dv)) := by
          intro hbad
          refine ⟨_, rfl, false, rfl, m9', ?_⟩
          constructor
          · intro h
            exact absurd h (by decide)
          · intro h
            exact absurd (h i hi hc) hbad
        by_cases hlow : rk i < m
        · rw [if_neg (nI_ge hlow (by omega))]
          rw [decide_eq_true hlow] at hpi
          by_cases hge : Dv * f i * c i * (l i - s i) ≤ Nv * s i * l i
          · rw [if_pos (by rw [← Int32.not_lt, sg_neg]; omega)]
            exact cont I9 m9' (fun _ => ⟨fun _ => le2.mpr hge, fun h => by rw [hpi] at h; exact absurd h (by decide)⟩)
          · rw [if_neg (by rw [← Int32.not_lt, sg_neg]; omega)]
            exact bad (fun h => hge (le2.mp (h.1 hpi)))
        · rw [if_pos (nI_le (by omega) (by omega))]
          rw [decide_eq_false hlow] at hpi
          by_cases hge : Nv * s i * l i ≤ Dv * f i * c i * (l i - s i)
          · rw [if_pos (by rw [sg_le0]; omega)]
            exact cont I9 m9' (fun _ => ⟨fun h => by rw [hpi] at h; exact absurd h (by decide), fun _ => le1.mpr hge⟩)
          · rw [if_neg (by rw [sg_le0]; omega)]
            exact bad (fun h => hge (le1.mp (h.2 hpi)))
    · rintro kk q ⟨I2, rfl, q1, q2⟩
      simp only [fMo_fits_2, ck_t hM.m1, if_pos (hD.mf q1).le, ck1]
      exact ⟨_, rfl, true, rfl, q1, fun _ => q2, fun _ => rfl⟩
  obtain ⟨⟨I', r0⟩, e, r, h1, h2, h3⟩ := goal
  have h1' : r0 = bI r := h1
  exact ⟨I', r, by rw [e, h1'], h2, h3⟩
