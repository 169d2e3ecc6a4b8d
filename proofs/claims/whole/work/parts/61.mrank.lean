/-! THE REFERENCE: who is softer, ranks, who is too much -/
theorem l24 : (24 : Int32) = nI 24 := rfl
theorem l25 : (25 : Int32) = nI 25 := rfl
theorem l26 : (26 : Int32) = nI 26 := rfl
theorem l27 : (27 : Int32) = nI 27 := rfl
theorem l28 : (28 : Int32) = nI 28 := rfl
theorem l29 : (29 : Int32) = nI 29 := rfl
theorem l30 : (30 : Int32) = nI 30 := rfl
theorem l31 : (31 : Int32) = nI 31 := rfl
theorem l1000 : (1000 : Int32) = nI 1000 := rfl
theorem mk_lt_iff {a b c d : Nat} (hb : 0 < b) (hd : 0 < d) : mkRat a b < mkRat c d ↔ a * d < c * b := by
  have h := mk_le_iff (a := c) (b := d) (c := a) (d := b) hd hb
  have h2 : mkRat a b < mkRat c d ↔ ¬ mkRat c d ≤ mkRat a b := Rat.not_le.symm
  rw [h2, h]
  omega
theorem mk_eq_iff {a b c d : Nat} (hb : 0 < b) (hd : 0 < d) : mkRat a b = mkRat c d ↔ a * d = c * b := by
  rw [Rat.mkRat_eq_iff (by omega) (by omega)]
  constructor
  · intro h
    exact_mod_cast h
  · intro h
    exact_mod_cast h
/-- softer: less push presses it flat, or as much and it stands before -/
abbrev sof (c s l f : Nat → Nat) (j k : Nat) : Prop := rr' c s l f j < rr' c s l f k ∨ (rr' c s l f j = rr' c s l f k ∧ j < k)
theorem wt_le {c s l f : Nat} (h2 : c ≤ s) (h3 : s ≤ l) (h4 : l ≤ 20000) (h6 : f ≤ 1000) : c * (l - s) * f ≤ 100000000000 := Nat.mul_le_mul (room_le h2 h3 h4) h6
theorem t_isSofter {kd : Nat → Nat} {I : ek_St} {n j k : Nat} {c s l f : Nat → Nat} {ph : Nat → Int32} (hM : MK kd) (hD : MD I n c s l f ph) (hj : j < n) (hk : k < n) :
    ∃ I', fMo_isSofter kd I 1 (nI j) (nI k) = some (I', bI (decide (sof c s l f j k))) ∧ MF I I' 1 [30, 31] := by
  have hn := hD.1.1
  have dj := hD.2 j hj
  have dk := hD.2 k hk
  have wj : (nI (f j)).toInt64 * (nI (c j)).toInt64 * (nI (l j - s j)).toInt64 = jI ((c j * (l j - s j) * f j : Nat) : Int) := by
    rw [nI_j (by omega), nI_j (by omega), nI_j (by omega), jI_mul, jI_mul]
    congr 1
    simp only [Int.natCast_mul]
    grind
  have wk : (nI (f k)).toInt64 * (nI (c k)).toInt64 * (nI (l k - s k)).toInt64 = jI ((c k * (l k - s k) * f k : Nat) : Int) := by
    rw [nI_j (by omega), nI_j (by omega), nI_j (by omega), jI_mul, jI_mul]
    congr 1
    simp only [Int.natCast_mul]
    grind
  have aj := wt_le (c := c j) (s := s j) (l := l j) (f := f j) (by omega) (by omega) (by omega) (by omega)
  have ak := wt_le (c := c k) (s := s k) (l := l k) (f := f k) (by omega) (by omega) (by omega) (by omega)
  generalize hA : c j * (l j - s j) * f j = A at *
  generalize hB : c k * (l k - s k) * f k = B at *
  have big : 100000000000 * 20000 * 20000 < 2 ^ (24 * 24) := by decide +kernel
  have b1 : A * s k ≤ 100000000000 * 20000 := Nat.mul_le_mul aj (by omega)
  have b2 : A * s k * l k ≤ 100000000000 * 20000 * 20000 := Nat.mul_le_mul b1 (by omega)
  have b3 : B * s j ≤ 100000000000 * 20000 := Nat.mul_le_mul ak (by omega)
  have b4 : B * s j * l j ≤ 100000000000 * 20000 * 20000 := Nat.mul_le_mul b3 (by omega)
  have b1' : A * s k < 2 ^ (24 * 24) := Nat.lt_of_le_of_lt b1 (by decide +kernel)
  have b3' : B * s j < 2 ^ (24 * 24) := Nat.lt_of_le_of_lt b3 (by decide +kernel)
  obtain ⟨I1, e1, h1, f1⟩ := t_be (I := I) (k := 30) (v := A) hM.mn (by decide) (by omega)
  obtain ⟨I2, e2, h2, f2⟩ := t_times (I := I1) (f := s k) hM.mn (by decide) h1 (by omega) b1'
  obtain ⟨I3, e3, h3, f3⟩ := t_times (I := I2) (f := l k) hM.mn (by decide) h2 (by omega) (Nat.lt_of_le_of_lt b2 big)
  obtain ⟨I4, e4, h4, f4⟩ := t_be (I := I3) (k := 31) (v := B) hM.mn (by decide) (by omega)
  obtain ⟨I5, e5, h5, f5⟩ := t_times (I := I4) (f := s j) hM.mn (by decide) h4 (by omega) b3'
  obtain ⟨I6, e6, h6, f6⟩ := t_times (I := I5) (f := l j) hM.mn (by decide) h5 (by omega) (Nat.lt_of_le_of_lt b4 big)
  have x6 := Hr.fm (Hr.fm (Hr.fm h3 f4 (by decide)) f5 (by decide)) f6 (by decide)
  have e7 := t_compare (I := I6) hM.mn (by decide) (by decide) x6 h6
  have m1 : MF I I1 1 [30, 31] := f1.mf (by simp)
  have m2 : MF I I2 1 [30, 31] := m1.trans (f2.mf (by simp))
  have m3 : MF I I3 1 [30, 31] := m2.trans (f3.mf (by simp))
  have m4 : MF I I4 1 [30, 31] := m3.trans (f4.mf (by simp))
  have m5 : MF I I5 1 [30, 31] := m4.trans (f5.mf (by simp))
  have m6 : MF I I6 1 [30, 31] := m5.trans (f6.mf (by simp))
  refine ⟨I6, ?_, m6⟩
  have r1 : I1 (1 + 3) k = nI (s k) := by rw [m1.2 _ (by decide)]; exact dk.1.2.1
  have r2 : I2 (1 + 4) k = nI (l k) := by rw [m2.2 _ (by decide)]; exact dk.1.2.2.1
  have r4 : I4 (1 + 3) j = nI (s j) := by rw [m4.2 _ (by decide)]; exact dj.1.2.1
  have r5 : I5 (1 + 4) j = nI (l j) := by rw [m5.2 _ (by decide)]; exact dj.1.2.2.1
  have q1 : I (1 + 5) j = nI (f j) := dj.1.2.2.2.1
  have q2 : I (1 + 2) j = nI (c j) := dj.1.1
  have q3 : I (1 + 4) j = nI (l j) := dj.1.2.2.1
  have q4 : I (1 + 3) j = nI (s j) := dj.1.2.1
  have p1 : I (1 + 5) k = nI (f k) := dk.1.2.2.2.1
  have p2 : I (1 + 2) k = nI (c k) := dk.1.1
  have p3 : I (1 + 4) k = nI (l k) := dk.1.2.2.1
  have p4 : I (1 + 3) k = nI (s k) := dk.1.2.1
  have s1 : nI (l j) - nI (s j) = nI (l j - s j) := pk_sub (by omega)
  have s2 : nI (l k) - nI (s k) = nI (l k - s k) := pk_sub (by omega)
  unfold fMo_isSofter fMo_isSofter_0
  simp only [ck_t hM.m1, ck_t hM.a1, ck_t hM.a2, ck_t hM.a3, ck_t hM.a4, ck_t hM.a5, ck_t hM.a6, ck_t hM.a7, ck_t hM.a8, ck_t hM.a9, ck_t hM.a10, ck_t hM.a11, ck_t hM.a12, ck_t hM.a13, ck_t hM.a14, ck_t hM.a15, ck_t hM.a16, ck_t hM.a17, ck_t (in12 (show j < 12 by omega)), ck_t (in12 (show k < 12 by omega)), cl12 (show j < 12 by omega), cl12 (show k < 12 by omega), q1, q2, q3, q4, p1, p2, p3, p4, s1, s2, wj, wk, let_e, l30, l31, e1, bv_s, r1, e2, r2, e3, e4, r4, e5, r5, e6, e7, bi_s]
  have hsk : 0 < s k * l k := Nat.mul_pos (by omega) (by omega)
  have hsj : 0 < s j * l j := Nat.mul_pos (by omega) (by omega)
  have lt := mk_lt_iff (a := A) (b := s j * l j) (c := B) (d := s k * l k) hsj hsk
  have eq := mk_eq_iff (a := A) (b := s j * l j) (c := B) (d := s k * l k) hsj hsk
  have hrj : rr' c s l f j = mkRat (A : Nat) (s j * l j) := by rw [← hA]
  have hrk : rr' c s l f k = mkRat (B : Nat) (s k * l k) := by rw [← hB]
  rw [← Nat.mul_assoc, ← Nat.mul_assoc] at lt eq
  simp only [fMo_isSofter_151, fMo_isSofter_155, ck0, ck1]
  by_cases hlt : A * s k * l k < B * s j * l j
  · rw [if_pos ((sg_neg _).mpr (by omega)), decide_eq_true (Or.inl (by rw [hrj, hrk]; exact lt.mpr hlt))]
    rfl
  · rw [if_neg (fun q => hlt (by have := (sg_neg _).mp q; omega))]
    by_cases heq : A * s k * l k = B * s j * l j
    · rw [if_pos ((sg_zero _).mpr (by omega))]
      by_cases hjk : j < k
      · rw [if_neg (nI_ge hjk (by omega)), decide_eq_true (Or.inr ⟨by rw [hrj, hrk]; exact eq.mpr heq, hjk⟩)]
        rfl
      · rw [if_pos (nI_le (by omega) (by omega)), decide_eq_false]
        · rfl
        · rintro (q | q)
          · rw [hrj, hrk] at q
            exact hlt (lt.mp q)
          · exact hjk q.2
    · rw [if_neg (fun q => heq (by have := (sg_zero _).mp q; omega)), decide_eq_false]
      · rfl
      · rintro (q | q)
        · rw [hrj, hrk] at q
          exact hlt (lt.mp q)
        · rw [hrj, hrk] at q
          exact heq (eq.mp q.1)
/-- how many -/
def cn (P : Nat → Bool) : Nat → Nat
  | 0 => 0
  | n + 1 => cn P n + if P n then 1 else 0
theorem cn_le (P : Nat → Bool) : ∀ n, cn P n ≤ n
  | 0 => Nat.le_refl _
  | n + 1 => by
    have := cn_le P n
    unfold cn
    split <;> omega
abbrev rkN (c s l f : Nat → Nat) (ph : Nat → Int32) (n k : Nat) : Nat := cn (fun j => decide (j ≠ k ∧ cnt ph j ∧ sof c s l f j k)) n
theorem t_rankOf {kd : Nat → Nat} {I : ek_St} {n k : Nat} {c s l f : Nat → Nat} {ph : Nat → Int32} (hM : MK kd) (hD : MD I n c s l f ph) (hk : k < n) :
    ∃ I', fMo_rankOf kd I 1 (nI k) = some (I', nI (rkN c s l f ph n k)) ∧ MF I I' 1 [30, 31] := by
  have hn := hD.1.1
  generalize hP : (fun j => decide (j ≠ k ∧ cnt ph j ∧ sof c s l f j k)) = P
  have goal : ∃ q, fMo_rankOf kd I 1 (nI k) = some q ∧ (q.2 = nI (cn P n) ∧ MF I q.1 1 [30, 31]) := by
    unfold fMo_rankOf fMo_rankOf_0
    refine lp_for (fun i q => ∃ I', q = (I', 1, nI k, nI (cn P i), nI i) ∧ MF I I' 1 [30, 31]) (fun q : ek_St × Int32 => q.2 = nI (cn P n) ∧ MF I q.1 1 [30, 31]) n ⟨I, rfl, MF.refl _ _ _⟩ ?_ ?_ (by omega)
    · rintro kk i q hi ⟨I2, rfl, q1⟩ hkk
      have hD2 := hD.mf q1
      have hi12 : i < 12 := by omega
      have hph : I2 7 i = ph i := (hD2.2 i hi).1.2.2.2.2
      have hcount := t_counts (I := I2) hM hi12
      rw [hph] at hcount
      have fin : ∀ (I3 : ek_St) (b : Bool), P i = b → MF I I3 1 [30, 31] → ∃ r, fMo_rankOf_40 kd kk I3 1 (nI k) (nI i) (nI (cn P i)) (bI b) = some r ∧ r.2 = nI (cn P n) ∧ MF I r.1 1 [30, 31] := by
        intro I3 b hb m3
        simp only [fMo_rankOf_40, let_e]
        refine hkk _ ⟨I3, ?_, m3⟩
        have : nI (cn P i) + bI b = nI (cn P (i + 1)) := by
          show _ = nI (cn P i + if P i then 1 else 0)
          rw [hb]
          cases b
          · rw [if_neg (by decide), Nat.add_zero]
            show nI (cn P i) + 0 = _
            rw [Int32.add_zero]
          · rw [if_pos rfl, nI_succ]
            rfl
        rw [this, nI_succ]
      simp only [fMo_rankOf_4, ck_t hM.m1, if_neg (hD2.ge hi), fMo_rankOf_39]
      by_cases hik : i = k
      · subst hik
        rw [if_pos rfl]
        exact fin I2 false (by rw [← hP]; simp) q1
      · rw [if_neg (fun q => hik (nI_inj (by omega) (by omega) q)), hcount, bi_s]
        by_cases hc : ph i = 2
        · rw [hc, if_pos (by decide)]
          exact fin I2 false (by rw [← hP]; simp [cnt, hc]) q1
        · have hb : bI (decide (ph i ≠ 2)) = 1 := by simp [bI, hc]
          rw [hb, if_neg (by decide)]
          obtain ⟨I3, e3, m3⟩ := t_isSofter hM hD2 hi hk
          rw [e3, bi_s]
          have hPi : P i = decide (sof c s l f i k) := by
            rw [← hP]
            simp only [decide_eq_decide]
            exact ⟨fun q => q.2.2, fun q => ⟨hik, hc, q⟩⟩
          by_cases hs : sof c s l f i k
          · rw [decide_eq_true hs] at hPi ⊢
            rw [if_neg (by decide)]
            exact fin I3 true hPi (q1.trans m3)
          · rw [decide_eq_false hs] at hPi ⊢
            rw [if_pos (by decide)]
            exact fin I3 false hPi (q1.trans m3)
    · rintro kk q ⟨I2, rfl, q1⟩
      simp only [fMo_rankOf_4, ck_t hM.m1, if_pos (hD.mf q1).le]
      exact ⟨_, rfl, rfl, q1⟩
  obtain ⟨⟨I', r⟩, e, h1, h2⟩ := goal
  have h1' : r = nI (cn P n) := h1
  rw [← hP] at h1'
  exact ⟨I', by rw [e, h1'], h2⟩
