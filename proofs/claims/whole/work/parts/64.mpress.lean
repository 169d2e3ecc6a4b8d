/-! THE REFERENCE: loads, periods, the instant, who is too much -/
abbrev QB : Nat := PB * 1000 * 20000
/-- two regions of words hold a fraction -/
def MV (I : ek_St) (j : Nat) (X : Rat) : Prop := ∃ N D, Hm I 1 j N ∧ Hm I 1 (j + 1) D ∧ 0 < D ∧ D ≤ QB ∧ N ≤ QB ∧ X = mkRat N D
theorem MV.mf {I I' : ek_St} {j : Nat} {X : Rat} {S : List Nat} (h : MV I j X) (m : MF I I' 1 S) (hj : j < 35) (h1 : j ∉ S) (h2 : j + 1 ∉ S) : MV I' j X := by
  obtain ⟨N, D, a, b, r⟩ := h
  exact ⟨N, D, m.1 _ _ (by omega) h1 a, m.1 _ _ (by omega) h2 b, r⟩
theorem MV.cell {I I' : ek_St} {j : Nat} {X : Rat} (h : MV I j X) (e : I' 17 = I 17) : MV I' j X := by
  obtain ⟨N, D, a, b, r⟩ := h
  exact ⟨N, D, Hr.cell a e, Hr.cell b e, r⟩
theorem m2k (k : Nat) : (2 : Int32) * nI k = nI (2 * k) := by rw [show (2 : Int32) = nI 2 from rfl, pk_mul]
theorem m2k1 (k : Nat) : nI (2 * k) + (1 : Int32) = nI (2 * k + 1) := (nI_succ _).symm
theorem press_val {D N c s f : Nat} (hD : 0 < D) (hs : 0 < s) (hf : 0 < f) (hle : N * s ≤ D * f * c) : mkRat (D * f * c - N * s : Nat) (D * f * s) = mkRat c s - mkRat N D * mkRat (1 : Nat) f := by
  have e1 : mkRat (N : Nat) D * mkRat ((1 : Nat) : Int) f = mkRat (N : Nat) (D * f) := by rw [mk_mul, Nat.mul_one]
  have e2 : mkRat (D * f * c - N * s : Nat) (D * f * s) + mkRat (N : Nat) (D * f) = mkRat c s := by
    rw [add_mk (Nat.mul_pos (Nat.mul_pos hD hf) hs) (Nat.mul_pos hD hf), mk_eq_iff (Nat.mul_pos (Nat.mul_pos (Nat.mul_pos hD hf) hs) (Nat.mul_pos hD hf)) hs]
    generalize hx : D * f * c - N * s = x
    have hx2 : x + N * s = D * f * c := by omega
    have hx3 : (x + N * s) * (D * f * s) = D * f * c * (D * f * s) := by rw [hx2]
    grind
  rw [e1, ← e2]
  grind
theorem t_press {kd : Nat → Nat} {I : ek_St} {n k low : Nat} {c s l f rk : Nat → Nat} {ph : Nat → Int32} {v : Rat} (hM : MK kd) (hD : MD I n c s l f ph) (hk : k < n) (hr : I 18 k = nI (rk k)) (hr2 : rk k ≤ 12) (hlow : low ≤ 12)
    (hv : ¬ rk k < low → (∃ Nv Dv, Hm I 1 26 Nv ∧ Hm I 1 27 Dv ∧ 0 < Dv ∧ Nv ≤ PB ∧ Dv ≤ PB ∧ v = mkRat Nv Dv) ∧ v ≤ rr' c s l f k) :
    ∃ I', fMo_press kd I 1 (nI k) (nI low) = some I' ∧ MV I' (2 * k) (if rk k < low then lo' c l k else hi' c s k - v * sf' f k) ∧ MF I I' 1 [2 * k, 2 * k + 1, 30, 31] := by
  have hn := hD.1.1
  have hk12 : k < 12 := by omega
  have dk := hD.2 k hk
  have ra : I (1 + 2) k = nI (c k) := dk.1.1
  have rb : I (1 + 3) k = nI (s k) := dk.1.2.1
  have rc : I (1 + 4) k = nI (l k) := dk.1.2.2.1
  have rd : I (1 + 5) k = nI (f k) := dk.1.2.2.2.1
  have rr : I (1 + 17) k = nI (rk k) := hr
  have hQ1 : 20000 ≤ QB := by decide +kernel
  by_cases hl : rk k < low
  · obtain ⟨I1, e1, h1, f1⟩ := t_be (I := I) (k := 2 * k) (v := c k) hM.mn (by omega) (by omega)
    obtain ⟨I2, e2, h2, f2⟩ := t_be (I := I1) (k := 2 * k + 1) (v := l k) hM.mn (by omega) (by omega)
    have rc1 : I1 (1 + 4) k = nI (l k) := by rw [f1.ne (by decide)]; exact rc
    refine ⟨I2, ?_, ?_, (f1.mf (by simp)).trans (f2.mf (by simp))⟩
    · simp only [fMo_press, fMo_press_0, ck_t hM.m1, ck_t hM.a1, ck_t hM.a2, ck_t hM.a3, ck_t hM.a4, ck_t hM.a5, ck_t hM.a6, ck_t hM.a7, ck_t hM.a8, ck_t hM.a9, ck_t hM.a10, ck_t hM.a11, ck_t hM.a12, ck_t hM.a13, ck_t hM.a14, ck_t hM.a15, ck_t hM.a16, ck_t hM.a17, ck_t (in12 hk12), cl12 hk12, rr, if_neg (nI_ge hl (by omega)), ra, nI_j (show c k < 2 ^ 31 by omega), m2k, e1, bv_s, rc1, nI_j (show l k < 2 ^ 31 by omega), m2k1, e2]
    · rw [if_pos hl]
      exact ⟨c k, l k, Hr.fm h1 f2 (by omega), h2, by omega, Nat.le_trans (by omega) hQ1, Nat.le_trans (by omega) hQ1, rfl⟩
  · obtain ⟨⟨Nv, Dv, hN, hDv, h0, hN2, hD2, rfl⟩, hle⟩ := hv hl
    have bA : Dv * f k ≤ PB * 1000 := Nat.mul_le_mul hD2 (by omega)
    have bB : Dv * f k * s k ≤ PB * 1000 * 20000 := Nat.mul_le_mul bA (by omega)
    have bC : Dv * f k * c k ≤ PB * 1000 * 20000 := Nat.mul_le_mul bA (by omega)
    have bD : Nv * s k ≤ PB * 20000 := Nat.mul_le_mul hN2 (by omega)
    have bQ : QB < 2 ^ (24 * 24) := by decide +kernel
    have hsl : 0 < s k * l k := Nat.mul_pos (by omega) (by omega)
    have hsub : Nv * s k ≤ Dv * f k * c k := by
      have h3 : mkRat (Nv : Nat) Dv ≤ mkRat (c k * (l k - s k) * f k : Nat) (s k * l k) := hle
      have h4 := (mk_le_iff h0 hsl).mp h3
      have h5 : c k * (l k - s k) * f k * Dv ≤ c k * l k * f k * Dv := Nat.mul_le_mul_right _ (Nat.mul_le_mul_right _ (Nat.mul_le_mul_left _ (by omega)))
      have h6 : Nv * s k * l k ≤ Dv * f k * c k * l k := by
        have e3 : Nv * s k * l k = Nv * (s k * l k) := Nat.mul_assoc _ _ _
        have e4 : Dv * f k * c k * l k = c k * l k * f k * Dv := by grind
        rw [e3, e4]
        exact Nat.le_trans h4 h5
      exact Nat.le_of_mul_le_mul_right h6 (by omega)
    obtain ⟨I1, e1, h1, f1⟩ := t_copy (I := I) (k := 30) hM.mn (by decide) (by decide) (by decide) hDv
    obtain ⟨I2, e2, h2, f2⟩ := t_times (I := I1) (f := f k) hM.mn (by decide) h1 (by omega) (Nat.lt_of_le_of_lt bA (by decide +kernel))
    obtain ⟨I3, e3, h3, f3⟩ := t_copy (I := I2) (k := 2 * k + 1) hM.mn (by omega) (by decide) (by omega) h2
    obtain ⟨I4, e4, h4, f4⟩ := t_times (I := I3) (f := s k) hM.mn (by omega) h3 (by omega) (Nat.lt_of_le_of_lt bB bQ)
    have x4 := Hr.fm (Hr.fm h2 f3 (by omega)) f4 (by omega)
    obtain ⟨I5, e5, h5, f5⟩ := t_times (I := I4) (f := c k) hM.mn (by decide) x4 (by omega) (Nat.lt_of_le_of_lt bC bQ)
    have n5 := Hr.fm (Hr.fm (Hr.fm (Hr.fm (Hr.fm hN f1 (by decide)) f2 (by decide)) f3 (by omega)) f4 (by omega)) f5 (by decide)
    obtain ⟨I6, e6, h6, f6⟩ := t_copy (I := I5) (k := 31) hM.mn (by decide) (by decide) (by decide) n5
    obtain ⟨I7, e7, h7, f7⟩ := t_times (I := I6) (f := s k) hM.mn (by decide) h6 (by omega) (Nat.lt_of_le_of_lt bD (by decide +kernel))
    have x7 := Hr.fm (Hr.fm h5 f6 (by decide)) f7 (by decide)
    obtain ⟨I8, e8, h8, f8⟩ := t_minus (I := I7) hM.mn (by decide) (by decide) x7 h7 hsub
    obtain ⟨I9, e9, h9, f9⟩ := t_copy (I := I8) (k := 2 * k) hM.mn (by omega) (by decide) (by omega) h8
    have m1 : MF I I1 1 [2 * k, 2 * k + 1, 30, 31] := f1.mf (by simp)
    have m2 : MF I I2 1 [2 * k, 2 * k + 1, 30, 31] := m1.trans (f2.mf (by simp))
    have m3 : MF I I3 1 [2 * k, 2 * k + 1, 30, 31] := m2.trans (f3.mf (by simp))
    have m4 : MF I I4 1 [2 * k, 2 * k + 1, 30, 31] := m3.trans (f4.mf (by simp))
    have m5 : MF I I5 1 [2 * k, 2 * k + 1, 30, 31] := m4.trans (f5.mf (by simp))
    have m6 : MF I I6 1 [2 * k, 2 * k + 1, 30, 31] := m5.trans (f6.mf (by simp))
    have m7 : MF I I7 1 [2 * k, 2 * k + 1, 30, 31] := m6.trans (f7.mf (by simp))
    have m8 : MF I I8 1 [2 * k, 2 * k + 1, 30, 31] := m7.trans (f8.mf (by simp))
    have m9 : MF I I9 1 [2 * k, 2 * k + 1, 30, 31] := m8.trans (f9.mf (by simp))
    have r1 : I1 (1 + 5) k = nI (f k) := by rw [m1.2 _ (by decide)]; exact rd
    have r3 : I3 (1 + 3) k = nI (s k) := by rw [m3.2 _ (by decide)]; exact rb
    have r4 : I4 (1 + 2) k = nI (c k) := by rw [m4.2 _ (by decide)]; exact ra
    have r6 : I6 (1 + 3) k = nI (s k) := by rw [m6.2 _ (by decide)]; exact rb
    refine ⟨I9, ?_, ?_, m9⟩
    · simp only [fMo_press, fMo_press_0, ck_t hM.m1, ck_t hM.a1, ck_t hM.a2, ck_t hM.a3, ck_t hM.a4, ck_t hM.a5, ck_t hM.a6, ck_t hM.a7, ck_t hM.a8, ck_t hM.a9, ck_t hM.a10, ck_t hM.a11, ck_t hM.a12, ck_t hM.a13, ck_t hM.a14, ck_t hM.a15, ck_t hM.a16, ck_t hM.a17, ck_t (in12 hk12), cl12 hk12, rr, if_pos (nI_le (show low ≤ rk k by omega) (by omega)), m2k, m2k1, l30, l31, l26, l27, e1, bv_s, r1, e2, e3, r3, e4, r4, e5, e6, r6, e7, e8, e9]
    · rw [if_neg hl]
      have d9 := Hr.fm (Hr.fm (Hr.fm (Hr.fm (Hr.fm h4 f5 (by omega)) f6 (by omega)) f7 (by omega)) f8 (by omega)) f9 (by omega)
      exact ⟨_, _, h9, d9, Nat.mul_pos (Nat.mul_pos h0 (by omega)) (by omega), bB, Nat.le_trans (Nat.sub_le _ _) bC, (press_val h0 (by omega) (by omega) hsub).symm⟩
/-- the period by the words -/
theorem perN_mk {N D c m : Nat} (hN : 0 < N) (hD : 0 < D) : perN c (mkRat N D) ≤ m ↔ c * D ≤ N * m := by
  have hpos : 0 < mkRat (N : Nat) D := mk_pos hN hD
  rw [perN_spec hpos]
  have hmk := mk_div (n := N) (d := D) (by omega)
  rw [hmk.1, hmk.2, Int.toNat_natCast]
  have hg : 0 < Nat.gcd N D := Nat.gcd_pos_of_pos_left _ hN
  have e1 : N / Nat.gcd N D * Nat.gcd N D = N := Nat.div_mul_cancel (Nat.gcd_dvd_left _ _)
  have e2 : D / Nat.gcd N D * Nat.gcd N D = D := Nat.div_mul_cancel (Nat.gcd_dvd_right _ _)
  generalize N / Nat.gcd N D = a at *
  generalize D / Nat.gcd N D = b at *
  generalize Nat.gcd N D = g at *
  have e3 : c * D = c * b * g := by rw [← e2, Nat.mul_assoc]
  have e4 : N * m = a * m * g := by rw [← e1]; grind
  rw [e3, e4]
  constructor
  · intro h
    exact Nat.mul_le_mul_right _ h
  · intro h
    exact Nat.le_of_mul_le_mul_right h hg
/-- nothing but scratch words and a task's period and flag is changed -/
def MG (I I' : ek_St) (k : Nat) (S : List Nat) : Prop := (∀ m v, m < 36 → m ∉ S → Hm I 1 m v → Hm I' 1 m v) ∧ (∀ z, z ≠ 17 → z ≠ 9 → z ≠ 16 → I' z = I z) ∧ ∀ j, j ≠ k → I' 9 j = I 9 j ∧ I' 16 j = I 16 j
theorem MF.g {I I' : ek_St} {S : List Nat} (h : MF I I' 1 S) (k : Nat) : MG I I' k S := ⟨h.1, fun z h1 _ _ => h.2 z h1, fun j _ => ⟨by rw [h.2 9 (by decide)], by rw [h.2 16 (by decide)]⟩⟩
theorem MG.trans {I I1 I2 : ek_St} {k : Nat} {S : List Nat} (h : MG I I1 k S) (h2 : MG I1 I2 k S) : MG I I2 k S := ⟨fun m v a b c => h2.1 m v a b (h.1 m v a b c), fun z a b c => (h2.2.1 z a b c).trans (h.2.1 z a b c), fun j hj => ⟨((h2.2.2 j hj).1).trans (h.2.2 j hj).1, ((h2.2.2 j hj).2).trans (h.2.2 j hj).2⟩⟩
theorem MG.up9 (I : ek_St) (k : Nat) (v : Int32) (S : List Nat) : MG I (ek_up I 9 k v) k S := ⟨fun m w _ _ h => Hr.cell h (ek_up_ne (by decide)), fun z _ h _ => ek_up_ne h, fun j hj => ⟨up_ne (fun q => hj q.2), by rw [ek_up_ne (by decide)]⟩⟩
theorem MG.up16 (I : ek_St) (k : Nat) (v : Int32) (S : List Nat) : MG I (ek_up I 16 k v) k S := ⟨fun m w _ _ h => Hr.cell h (ek_up_ne (by decide)), fun z _ _ h => ek_up_ne h, fun j hj => ⟨by rw [ek_up_ne (by decide)], up_ne (fun q => hj q.2)⟩⟩
theorem MD.mg {I I' : ek_St} {n k : Nat} {c s l f : Nat → Nat} {ph : Nat → Int32} {S : List Nat} (h : MD I n c s l f ph) (g : MG I I' k S) : MD I' n c s l f ph := h.keep (by rw [g.2.1 1 (by decide) (by decide) (by decide)]) (fun z _ _ => g.2.1 z (by omega) (by omega) (by omega))
theorem MV.mg {I I' : ek_St} {j k : Nat} {X : Rat} {S : List Nat} (h : MV I j X) (m : MG I I' k S) (hj : j < 35) (h1 : j ∉ S) (h2 : j + 1 ∉ S) : MV I' j X := by
  obtain ⟨N, D, a, b, r⟩ := h
  exact ⟨N, D, m.1 _ _ (by omega) h1 a, m.1 _ _ (by omega) h2 b, r⟩
theorem t_settle {kd : Nat → Nat} {I : ek_St} {n k : Nat} {c s l f : Nat → Nat} {ph : Nat → Int32} {L : Rat} (hM : MK kd) (hD : MD I n c s l f ph) (hk : k < n) (hq : MV I (2 * k) L) (h1 : lo' c l k ≤ L) (h2 : L ≤ hi' c s k) :
    ∃ I', fMo_settle kd I 1 (nI k) = some I' ∧ I' 9 k = nI (perN (c k) L) ∧ I' 16 k = bI (decide (s k ≠ l k ∧ L = lo' c l k)) ∧ MG I I' k [30, 31] := by
  have hn := hD.1.1
  have hk12 : k < 12 := by omega
  have dk := hD.2 k hk
  obtain ⟨N, D, a1, a2, a3, a4, a5, rfl⟩ := hq
  have bQ : QB * 20000 < 2 ^ (24 * 24) := by decide +kernel
  have bD : D * c k ≤ QB * 20000 := Nat.mul_le_mul a4 (by omega)
  have hlo := (mk_le_iff (show 0 < l k by omega) a3).mp h1
  have hhi := (mk_le_iff a3 (show 0 < s k by omega)).mp h2
  have hcD : 0 < c k * D := Nat.mul_pos (by omega) a3
  have hN : 0 < N := by
    rcases Nat.eq_zero_or_pos N with h | h
    · rw [h, Nat.zero_mul] at hlo
      omega
    · exact h
  have hper : ∀ m, perN (c k) (mkRat N D) ≤ m ↔ c k * D ≤ N * m := fun m => perN_mk hN a3
  have hpl : perN (c k) (mkRat N D) ≤ l k := (hper _).mpr hlo
  have hps : s k ≤ perN (c k) (mkRat N D) := by
    rcases Nat.lt_or_ge (perN (c k) (mkRat N D)) (s k) with h | h
    · exfalso
      have h3 := (hper (s k - 1)).mp (by omega)
      have h4 : N * (s k - 1) + N = N * s k := by
        rw [← Nat.mul_succ]
        congr 1
        omega
      omega
    · exact h
  generalize hpe : perN (c k) (mkRat N D) = per at *
  obtain ⟨I1, e1, g1, f1⟩ := t_copy (I := I) (k := 31) hM.mn (by decide) (by omega) (by omega) a2
  have r1 : I1 (1 + 2) k = nI (c k) := by rw [f1.ne (by decide)]; exact dk.1.1
  obtain ⟨I2, e2, g2, f2⟩ := t_times (I := I1) (f := c k) hM.mn (by decide) g1 (by omega) (Nat.lt_of_le_of_lt bD bQ)
  have m2 : MF I I2 1 [30, 31] := (f1.mf (by simp)).trans (f2.mf (by simp))
  have hD2 := hD.mf m2
  have r2 : I2 (1 + 3) k = nI (s k) := (hD2.2 k hk).1.2.1
  have r3 : I2 (1 + 4) k = nI (l k) := (hD2.2 k hk).1.2.2.1
  simp only [fMo_settle, fMo_settle_0, ck_t hM.m1, ck_t hM.a1, ck_t hM.a2, ck_t hM.a3, ck_t hM.a4, ck_t hM.a5, ck_t hM.a6, ck_t hM.a7, ck_t hM.a8, ck_t hM.a9, ck_t hM.a10, ck_t hM.a11, ck_t hM.a12, ck_t hM.a13, ck_t hM.a14, ck_t hM.a15, ck_t hM.a16, ck_t hM.a17, ck_t (in12 hk12), cl12 hk12, m2k, m2k1, l31, e1, bv_s, r1, e2, r2, r3, let_e]
  have fin : ∀ (kk : (ek_St × Nat × Int32 × Int32 × Int32) → Option (ek_St)) (I3 : ek_St), MF I I3 1 [30, 31] → Hm I3 1 31 (D * c k) → ∃ r, fMo_settle_37 kd kk I3 1 (nI k) (nI per) (nI per) = some r ∧ r 9 k = nI per ∧ r 16 k = bI (decide (s k ≠ l k ∧ mkRat N D = lo' c l k)) ∧ MG I r k [30, 31] := by
    intro kk I3 m3 y3
    have hD3 := hD.mf m3
    generalize hI4 : ek_up I3 9 k (nI per) = I4
    have g4 : MG I I4 k [30, 31] := (m3.g k).trans (by rw [← hI4]; exact MG.up9 _ _ _ _)
    have x4 := g4.1 _ _ (by omega) (by simp; omega) a1
    have y4 : Hm I4 1 31 (D * c k) := Hr.cell y3 (by rw [← hI4]; exact ek_up_ne (by decide))
    obtain ⟨I5, e5, h5, f5⟩ := t_copy (I := I4) (k := 30) hM.mn (by decide) (by omega) (by omega) x4
    have bl : N * l k ≤ QB * 20000 := Nat.mul_le_mul a5 (by omega)
    obtain ⟨I6, e6, h6, f6⟩ := t_times (I := I5) (f := l k) hM.mn (by decide) h5 (by omega) (Nat.lt_of_le_of_lt bl bQ)
    have y6 := Hr.fm (Hr.fm y4 f5 (by decide)) f6 (by decide)
    have ec := t_compare (I := I6) hM.mn (by decide) (by decide) h6 y6
    have g5 : MG I I5 k [30, 31] := g4.trans (MF.g (f5.mf (by simp)) k)
    have g6 : MG I I6 k [30, 31] := g5.trans (MF.g (f6.mf (by simp)) k)
    have hD5 := hD.mg g5
    have hD6 := hD.mg g6
    have r5 : I5 (1 + 4) k = nI (l k) := (hD5.2 k hk).1.2.2.1
    have r6 : I6 (1 + 4) k = nI (l k) := (hD6.2 k hk).1.2.2.1
    have r7 : I6 (1 + 3) k = nI (s k) := (hD6.2 k hk).1.2.1
    have hI4' : ek_up I3 (1 + 8) k (nI per) = I4 := hI4
    have h96 : I6 9 k = nI per := by
      rw [f6.ne (by decide), f5.ne (by decide), ← hI4]
      exact up_same
    simp only [fMo_settle_37, if_pos (nI_le (Nat.le_refl per) (show per < 2 ^ 31 by omega)), ck_t hM.m1, ck_t hM.a1, ck_t hM.a2, ck_t hM.a3, ck_t hM.a4, ck_t hM.a5, ck_t hM.a6, ck_t hM.a7, ck_t hM.a8, ck_t hM.a9, ck_t hM.a10, ck_t hM.a11, ck_t hM.a12, ck_t hM.a13, ck_t hM.a14, ck_t hM.a15, ck_t hM.a16, ck_t hM.a17, ck_t (in12 hk12), cl12 hk12, let_e, hI4', l30, l31, m2k, e5, bv_s, r5, e6, r6, r7, ec, bi_s, fMo_settle_154, fMo_settle_155, ck0, ck1]
    have last : ∀ b : Bool, b = decide (s k ≠ l k ∧ mkRat N D = lo' c l k) → (ek_up I6 (1 + 15) k (bI b)) 9 k = nI per ∧ (ek_up I6 (1 + 15) k (bI b)) 16 k = bI (decide (s k ≠ l k ∧ mkRat N D = lo' c l k)) ∧ MG I (ek_up I6 (1 + 15) k (bI b)) k [30, 31] := by
      intro b hb
      refine ⟨by rw [ek_up_ne (by decide)]; exact h96, by rw [hb]; exact up_same, g6.trans (MG.up16 _ _ _ _)⟩
    have heq := mk_eq_iff (a := N) (b := D) (c := c k) (d := l k) a3 (by omega)
    by_cases hsl : s k = l k
    · rw [if_pos (by rw [hsl])]
      exact ⟨_, rfl, last false (by rw [decide_eq_false (fun q => q.1 hsl)])⟩
    · rw [if_neg (fun q => hsl (nI_inj (by omega) (by omega) q))]
      by_cases hz : N * l k = D * c k
      · rw [if_pos ((sg_zero _).mpr (by omega))]
        exact ⟨_, rfl, last true (by rw [decide_eq_true ⟨hsl, heq.mpr (by rw [hz, Nat.mul_comm])⟩])⟩
      · rw [if_neg (fun q => hz (by have := (sg_zero _).mp q; omega))]
        exact ⟨_, rfl, last false (by rw [decide_eq_false (fun q => hz (by have := heq.mp q.2; rw [this, Nat.mul_comm]))])⟩
  refine lp_for (fun i q => ∃ I' lo hi, q = (I', 1, nI k, nI lo, nI hi) ∧ MF I I' 1 [30, 31] ∧ Hm I' 1 31 (D * c k) ∧ lo ≤ per ∧ per ≤ hi ∧ hi ≤ l k ∧ hi + i ≤ lo + 19999) (fun r => r 9 k = nI per ∧ r 16 k = bI (decide (s k ≠ l k ∧ mkRat N D = lo' c l k)) ∧ MG I r k [30, 31]) 19999 ⟨I2, s k, l k, rfl, m2, g2, hps, hpl, Nat.le_refl _, by omega⟩ ?_ ?_
  · rintro kk i q hi' ⟨I3, lo, hi, rfl, m3, y3, j1, j2, j3, j4⟩ hkk
    by_cases hlh : lo = hi
    · have : lo = per := by omega
      subst this
      subst hlh
      exact fin kk I3 m3 y3
    · have hmid : (lo + hi) / 2 < 2 ^ 31 := by omega
      have edv : (nI lo + nI hi) / (2 : Int32) = nI ((lo + hi) / 2) := by
        rw [nI_add, show (2 : Int32) = nI 2 from rfl, pk_div (by omega) (by decide) (by decide)]
      have x3 := m3.1 _ _ (by omega) (by simp; omega) a1
      obtain ⟨I4, e4, h4, f4⟩ := t_copy (I := I3) (k := 30) hM.mn (by decide) (by omega) (by omega) x3
      have bm : N * ((lo + hi) / 2) ≤ QB * 20000 := Nat.mul_le_mul a5 (by omega)
      obtain ⟨I5, e5, h5, f5⟩ := t_times (I := I4) (f := (lo + hi) / 2) hM.mn (by decide) h4 hmid (Nat.lt_of_le_of_lt bm bQ)
      have y5 := Hr.fm (Hr.fm y3 f4 (by decide)) f5 (by decide)
      have ec := t_compare (I := I5) hM.mn (by decide) (by decide) h5 y5
      have m5 : MF I I5 1 [30, 31] := (m3.trans (f4.mf (by simp))).trans (f5.mf (by simp))
      simp only [fMo_settle_37, if_neg (nI_ge (show lo < hi by omega) (show hi < 2 ^ 31 by omega)), ck_t (show ¬ (2 : Int32) = 0 by decide), let_e, edv, ck_t hM.m1, l30, l31, m2k, e4, bv_s, e5, ec, bi_s]
      have hpm := hper ((lo + hi) / 2)
      rw [Nat.mul_comm (c k) D] at hpm
      by_cases hge : D * c k ≤ N * ((lo + hi) / 2)
      · rw [if_pos (by rw [← Int32.not_lt, sg_neg]; omega)]
        have := hpm.mpr hge
        exact hkk _ ⟨I5, lo, (lo + hi) / 2, rfl, m5, y5, j1, this, by omega, by omega⟩
      · rw [if_neg (by rw [← Int32.not_lt, sg_neg]; omega)]
        have : ¬ per ≤ (lo + hi) / 2 := fun q => hge (hpm.mp q)
        exact hkk _ ⟨I5, (lo + hi) / 2 + 1, hi, by rw [nI_succ], m5, y5, by omega, j2, j3, by omega⟩
  · rintro kk q ⟨I3, lo, hi, rfl, m3, y3, j1, j2, j3, j4⟩
    have e1 : lo = per := by omega
    have e2 : hi = per := by omega
    subst e1
    subst e2
    exact fin kk I3 m3 y3
