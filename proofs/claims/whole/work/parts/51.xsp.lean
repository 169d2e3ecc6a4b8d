/-! the springs: pins, softness, who is too much -/
/-- nothing but the tasks' pins is changed -/
def Fp (I I' : ek_St) : Prop := (∀ z, (∀ i, i < 12 → z ≠ tk i) → I' z = I z) ∧ ∀ i k, i < 12 → k ≠ 13 → I' (tk i) k = I (tk i) k
theorem Fp.refl (I : ek_St) : Fp I I := ⟨fun _ _ => rfl, fun _ _ _ _ => rfl⟩
theorem Fp.trans {I I1 I2 : ek_St} (h : Fp I I1) (h2 : Fp I1 I2) : Fp I I2 := ⟨fun z hz => (h2.1 z hz).trans (h.1 z hz), fun i k hi hk => (h2.2 i k hi hk).trans (h.2 i k hi hk)⟩
theorem Fp.up {I : ek_St} {i : Nat} {v : Int32} (hi : i < 12) : Fp I (ek_up I (tk i) 13 v) := ⟨fun z hz => ek_up_ne (hz i hi), fun j k hj hk => up_ne (fun q => hk q.2)⟩
theorem Fp.at {I I' : ek_St} (h : Fp I I') {z : Nat} (hz : z % 6 ≠ 4 ∨ 76 ≤ z) : I' z = I z := h.1 z (fun i hi e => by have : tk i = 4 + 6 * i := rfl; omega)
theorem XR.fp {I I' : ek_St} {π : Nat → Nat} {n : Nat} (h : XR I π n) (f : Fp I I') : XR I' π n := h.keep (f.at (by decide)) (f.at (by decide))
theorem XD.fp {I I' : ek_St} {π : Nat → Nat} {n : Nat} {c s l f : Nat → Nat} {ph : Nat → Int32} (hR : XR I π n) (h : XD I π n c s l f ph) (g : Fp I I') : XD I' π n c s l f ph := h.keep (fun k j hk _ hj => g.2 _ _ (hR.2.2.1 k (by have := hR.1; omega)).1 (by omega))
theorem XD.fx {I I' : ek_St} {π : Nat → Nat} {n : Nat} {c s l f : Nat → Nat} {ph : Nat → Int32} {L : List Nat} (hR : XR I π n) (h : XD I π n c s l f ph) (g : Fx L I I') (hL : L.all (fun z => decide (z % 6 ≠ 4 ∨ 76 ≤ z)) = true) : XD I' π n c s l f ph := h.keep (fun k j hk _ _ => by rw [g _ (tk_nin (hR.2.2.1 k (by have := hR.1; omega)).1 hL)])
theorem XR.fx {I I' : ek_St} {π : Nat → Nat} {n : Nat} {L : List Nat} (h : XR I π n) (g : Fx L I I') (h2 : 2 ∉ L) (h3 : 3 ∉ L) : XR I' π n := h.keep (g 2 h2) (g 3 h3)
theorem FrQ.keep {I I' : ek_St} {f : Nat} {X : Rat} (h : FrQ I f X) (e1 : I' (f + 1 + 1) = I (f + 1 + 1)) (e2 : I' (f + 3 + 1) = I (f + 3 + 1)) : FrQ I' f X := ⟨h.1, h.2.keep e1 e2⟩
theorem s_unpin {I : ek_St} {π : Nat → Nat} {n : Nat} (hR : XR I π n) : ∃ I', fSp_unpin kX I 76 2 = some I' ∧ (∀ k, k < n → I' (tk (π k)) 13 = 0) ∧ Fp I I' := by
  unfold fSp_unpin fSp_unpin_0
  have hn := hR.1
  refine lp_for (fun i q => ∃ I', q = (I', 2, nI i) ∧ (∀ k, k < i → I' (tk (π k)) 13 = 0) ∧ Fp I I') (fun I' => (∀ k, k < n → I' (tk (π k)) 13 = 0) ∧ Fp I I') n ⟨I, rfl, fun k hk => absurd hk (by omega), Fp.refl I⟩ ?_ ?_ (by omega)
  · rintro k i q hi ⟨I2, rfl, q1, q2⟩ hk
    have hi12 : i < 12 := by omega
    have hR2 := hR.fp q2
    have hπ := (hR.2.2.1 i hi12).1
    simp only [fSp_unpin_2, ck_t k2, if_neg (hR2.ge hi), ck_t k3, ck_t (in12 hi12), cl12 hi12]
    rw [hR2.row hi12, ck_t (kX_tk _ hπ).1]
    simp only [let_e]
    refine hk _ ⟨ek_up I2 (tk (π i)) 13 0, by rw [nI_succ], fun j hj => ?_, q2.trans (Fp.up hπ)⟩
    by_cases e : j = i
    · subst e
      exact up_same
    · rw [up_ne (fun h => e (hR.2.2.2 j i (by omega) hi12 (by have : tk (π j) = tk (π i) := h.1; have h1 : tk (π j) = 4 + 6 * π j := rfl; have h2 : tk (π i) = 4 + 6 * π i := rfl; omega)))]
      exact q1 j (by omega)
  · rintro k q ⟨I2, rfl, q1, q2⟩
    simp only [fSp_unpin_2, ck_t k2, if_pos (hR.fp q2).le]
    exact ⟨I2, rfl, q1, q2⟩
/-- one term of a sum with denominators of at most 1000 -/
theorem join_soft {kd : Nat → Nat} {I : ek_St} {f b k : Nat} {X : Rat} (hf : FrK kd f) (hX : FrQ I f X) (hM : X ≤ (k : Rat)) (hk : k < 12) (hD : X.den ≤ 1000 ^ k) (hb : 0 < b) (hb2 : b ≤ 1000) :
    ∃ I', fFr_join kd I f (1 : Int32) (1 : Int32) (nI b) = some I' ∧ FrQ I' f (X + mkRat (1 : Nat) b) ∧ Fr2 I I' f ∧ (X + mkRat (1 : Nat) b).den ≤ 1000 ^ (k + 1) := by
  have hp : 1000 ^ k ≤ 1000 ^ 11 := Nat.pow_le_pow_right (by decide) (by omega)
  have hbd : (k + 1) * 1000 ^ k * 20000 ≤ 12 * 1000 ^ 11 * 20000 := Nat.mul_le_mul_right _ (Nat.mul_le_mul (by omega) hp)
  have hbig : 12 * 1000 ^ 11 * 20000 < 2 ^ (24 * 16) := by decide +kernel
  obtain ⟨I', e, g1, g2, g3⟩ := s_joinB (σ := 1) (ia := (1 : Nat)) (M := k) (D := 1000 ^ k) hf hX rfl hb (by omega) (by decide) (by rw [one_r]; exact Rat.add_nonneg hX.1 (mk_nn 1 b)) hM hD (Nat.lt_of_le_of_lt hbd hbig)
  rw [one_r] at g1 g3
  refine ⟨I', e, g1, g2, ?_⟩
  rw [Nat.pow_succ]
  exact Nat.le_trans g3 (Nat.mul_le_mul_left _ hb2)
theorem s_addUpSoftness {I : ek_St} {π : Nat → Nat} {n : Nat} {c s l f : Nat → Nat} {ph : Nat → Int32} {p : Nat → Bool} (hR : XR I π n) (hD : XD I π n c s l f ph) (hp : ∀ k, k < n → I (tk (π k)) 13 = bI (p k)) :
    ∃ I', fSp_addUpSoftness kX I 76 2 = some I' ∧ FrQ I' 87 (rs (fun k => if cnt ph k ∧ p k = false then mkRat (1 : Nat) (f k) else 0) n) ∧ Fx [89, 91] I I' ∧ (rs (fun k => if cnt ph k ∧ p k = false then mkRat (1 : Nat) (f k) else 0) n).den ≤ 1000 ^ n := by
  obtain ⟨I1, e1, g1, f1⟩ := s_frset (I := I) (a := 0) (b := 1) fr87 (by decide) (by decide) (by decide)
  have e1' : fFr_set kX I (76 + 11) (0 : Int32) (1 : Int32) = some I1 := e1
  have f1x : Fx [89, 91] I I1 := f1.x (by simp) (by simp)
  simp only [fSp_addUpSoftness, fSp_addUpSoftness_0, ck_t k76, ck_t fr87.1, e1', bv_s]
  generalize hg : (fun k => if cnt ph k ∧ p k = false then mkRat ((1 : Nat) : Int) (f k) else 0) = g
  have g1' : ∀ k, k < n → g k ≤ 1 := by
    intro k hk
    have := hD k hk
    rw [← hg]
    show (if cnt ph k ∧ p k = false then _ else _) ≤ (1 : Rat)
    split
    · exact mk_le1 (by omega) (by omega)
    · decide
  have hn := hR.1
  refine lp_for (fun i q => ∃ I', q = (I', 76, 2, nI i) ∧ FrQ I' 87 (rs g i) ∧ Fx [89, 91] I I' ∧ (rs g i).den ≤ 1000 ^ i) (fun I' => FrQ I' 87 (rs g n) ∧ Fx [89, 91] I I' ∧ (rs g n).den ≤ 1000 ^ n) n ⟨I1, rfl, ?_, f1x, Nat.le_refl 1⟩ ?_ ?_ (by omega)
  · have : mkRat ((0 : Nat) : Int) 1 = 0 := by decide
    rw [this] at g1
    exact g1
  · rintro k i q hi ⟨I2, rfl, q1, q2, q3⟩ hk
    have hi12 : i < 12 := by omega
    have hπ := (hR.2.2.1 i hi12).1
    have hR2 : XR I2 π n := hR.fx q2 (by simp) (by simp)
    have ht : ∀ j, I2 (tk (π i)) j = I (tk (π i)) j := fun j => by rw [q2 _ (tk_nin hπ (by decide))]
    have hd := hD i hi
    have hsol := s_isSolved (I := I2) (t := tk (π i)) (p := ph i) (kX_tk _ hπ).1 (by rw [ht]; exact hd.1.2.2.2.2)
    have skip : g i = 0 → ∃ r, fSp_addUpSoftness_53 kX k I2 76 2 (nI i) = some r ∧ FrQ r 87 (rs g n) ∧ Fx [89, 91] I r ∧ (rs g n).den ≤ 1000 ^ n := by
      intro eg
      simp only [fSp_addUpSoftness_53, let_e]
      refine hk _ ⟨I2, by rw [nI_succ], ?_, q2, ?_⟩
      · rw [rs, eg, Rat.add_zero]
        exact q1
      · rw [rs, eg, Rat.add_zero]
        exact Nat.le_trans q3 (Nat.pow_le_pow_right (by decide) (by omega))
    simp only [fSp_addUpSoftness_11, ck_t k2, if_neg (hR2.ge hi), ck_t k3, ck_t (in12 hi12), cl12 hi12, let_e]
    rw [hR2.row hi12]
    simp only [ck_t (kX_tk _ hπ).1, hsol, bi_s, ck_t k76, ck_t fr87.1]
    by_cases hc : ph i = 2
    · rw [hc, if_pos (by decide)]
      exact skip (by rw [← hg]; simp [cnt, hc])
    · have hb : bI (decide (ph i ≠ 2)) = 1 := by simp [bI, hc]
      rw [hb, if_neg (by decide), ht 13, hp i hi]
      cases hpi : p i
      · rw [if_pos (by decide), ht 4, hd.1.2.2.2.1]
        have hle := rs_le_n i (fun k hk' => g1' k (by omega))
        obtain ⟨I3, e3, r1, r2, r3⟩ := join_soft (I := I2) (f := 87) (b := f i) fr87 q1 hle hi12 q3 (by omega) (by omega)
        have e3' : fFr_join kX I2 (76 + 11) (1 : Int32) (1 : Int32) (nI (f i)) = some I3 := e3
        have heg : g i = mkRat ((1 : Nat) : Int) (f i) := by rw [← hg]; simp [cnt, hc, hpi]
        rw [e3', bv_s]
        simp only [fSp_addUpSoftness_53, let_e]
        refine hk _ ⟨I3, by rw [nI_succ], ?_, q2.trans (r2.x (by simp) (by simp)), ?_⟩
        · rw [rs, heg]
          exact r1
        · rw [rs, heg]
          exact r3
      · rw [if_neg (by decide)]
        exact skip (by rw [← hg]; simp [hpi])
  · rintro k q ⟨I2, rfl, q1, q2, q3⟩
    have hR2 : XR I2 π n := hR.fx q2 (by simp) (by simp)
    simp only [fSp_addUpSoftness_11, ck_t k2, if_pos hR2.le]
    exact ⟨I2, rfl, q1, q2, q3⟩
/-- the first whose least load makes it too much -/
def TooM (n : Nat) (ids : Nat → Int32) (g : Nat → Rat) (A : Rat) (r : Int32) : Prop := (∃ k, k < n ∧ A < rs g (k + 1) ∧ (∀ j, j < k → ¬ A < rs g (j + 1)) ∧ r = ids k) ∨ ((∀ j, j < n → ¬ A < rs g (j + 1)) ∧ r = 0)
theorem TooM.uniq {n : Nat} {ids : Nat → Int32} {g : Nat → Rat} {A : Rat} {r r' : Int32} (h : TooM n ids g A r) (h' : TooM n ids g A r') : r = r' := by
  rcases h with ⟨k, h1, h2, h3, h4⟩ | ⟨h1, h2⟩ <;> rcases h' with ⟨k', h1', h2', h3', h4'⟩ | ⟨h1', h2'⟩
  · have : k = k' := by
      rcases Nat.lt_trichotomy k k' with q | q | q
      · exact absurd h2 (h3' k q)
      · exact q
      · exact absurd h2' (h3 k' q)
    rw [h4, h4', this]
  · exact absurd h2 (h1' k h1)
  · exact absurd h2' (h1 k' h1')
  · rw [h2, h2']
theorem sg_le0 (z : Int) : sg z ≤ (0 : Int32) ↔ ¬ 0 < z := by
  rw [← sg_pos]
  exact Int32.not_lt.symm
theorem s_firstTooMuch {I : ek_St} {π : Nat → Nat} {n th : Nat} {c s l f : Nat → Nat} {ph : Nat → Int32} {ids : Nat → Int32} (hR : XR I π n) (hD : XD I π n c s l f ph) (hid : ∀ k, k < n → I (tk (π k)) 0 = ids k) (hth : th ≤ 1000) :
    ∃ I' r, fSp_firstTooMuch kX I 76 2 (nI th) = some (I', r) ∧ TooM n ids (fun k => mkRat (c k) (l k)) (mkRat th 1000) r ∧ Fx [84, 86] I I' := by
  obtain ⟨I1, e1, g1, f1⟩ := s_frset (I := I) (a := 0) (b := 1) fr82 (by decide) (by decide) (by decide)
  have e1' : fFr_set kX I (76 + 6) (0 : Int32) (1 : Int32) = some I1 := e1
  have f1x : Fx [84, 86] I I1 := f1.x (by simp) (by simp)
  have goal : ∃ q, fSp_firstTooMuch kX I 76 2 (nI th) = some q ∧ TooM n ids (fun k => mkRat (c k) (l k)) (mkRat th 1000) q.2 ∧ Fx [84, 86] I q.1 := by
    simp only [fSp_firstTooMuch, fSp_firstTooMuch_0, ck_t k76, ck_t fr82.1, e1', bv_s]
    generalize hg : (fun k => mkRat ((c k : Nat) : Int) (l k)) = g
    have g1' : ∀ k, k < n → g k ≤ 1 := by
      intro k hk
      have := hD k hk
      rw [← hg]
      exact mk_le1 (by omega) (by omega)
    have hn := hR.1
    refine lp_for (fun i q => ∃ I', q = (I', 76, 2, nI th, nI i) ∧ FrQ I' 82 (rs g i) ∧ Fx [84, 86] I I' ∧ (rs g i).den ≤ 20000 ^ i ∧ ∀ j, j < i → ¬ mkRat th 1000 < rs g (j + 1)) (fun q : ek_St × Int32 => TooM n ids g (mkRat th 1000) q.2 ∧ Fx [84, 86] I q.1) n ⟨I1, rfl, ?_, f1x, Nat.le_refl 1, fun j hj => absurd hj (by omega)⟩ ?_ ?_ (by omega)
    · have : mkRat ((0 : Nat) : Int) 1 = 0 := by decide
      rw [this] at g1
      exact g1
    · rintro k i q hi ⟨I2, rfl, q1, q2, q3, q4⟩ hk
      have hi12 : i < 12 := by omega
      have hπ := (hR.2.2.1 i hi12).1
      have hR2 : XR I2 π n := hR.fx q2 (by simp) (by simp)
      have ht : ∀ j, I2 (tk (π i)) j = I (tk (π i)) j := fun j => by rw [q2 _ (tk_nin hπ (by decide))]
      have hd := hD i hi
      have hle := rs_le_n i (fun k hk' => g1' k (by omega))
      obtain ⟨I3, e3, r1, r2, r3⟩ := join_term (I := I2) (f := 82) (a := c i) (b := l i) fr82 q1 hle hi12 q3 (by omega) (by omega) (by omega)
      have e3' : fFr_join kX I2 (76 + 6) (1 : Int32) (nI (c i)) (nI (l i)) = some I3 := e3
      have heg : rs g i + mkRat ((c i : Nat) : Int) (l i) = rs g (i + 1) := by rw [rs, ← hg]
      rw [heg] at r1 r3
      have hcmp := s_frcompare (I := I3) (f := 82) (la := (th : Int)) (lb := 1000) fr82 r1.2 (by simp; omega)
      have hcmp' : fFr_compare kX I3 (76 + 6) (jI th) (1000 : Int64) = some (I3, sg (((rs g (i + 1)).num.toNat : Int) * 1000 - (rs g (i + 1)).den * th)) := hcmp
      have fx3 : Fx [84, 86] I I3 := q2.trans (r2.x (by simp) (by simp))
      have ht3 : I3 (tk (π i)) 0 = ids i := by rw [fx3 _ (tk_nin hπ (by decide))]; exact hid i hi
      simp only [fSp_firstTooMuch_11, ck_t k2, if_neg (hR2.ge hi), ck_t k3, ck_t (in12 hi12), cl12 hi12, let_e]
      rw [hR2.row hi12]
      simp only [ck_t (kX_tk _ hπ).1, ck_t k76, ck_t fr82.1, ht 1, ht 3, hd.1.1, hd.1.2.2.1, e3', bv_s, nI_j (show th < 2 ^ 31 by omega), hcmp', bi_s]
      have hgt : 0 < ((rs g (i + 1)).num.toNat : Int) * 1000 - (rs g (i + 1)).den * th ↔ mkRat th 1000 < rs g (i + 1) := cmp_gt (X := rs g (i + 1)) (th := th) (d := 1000) r1.1 (by decide)
      by_cases hA : mkRat th 1000 < rs g (i + 1)
      · rw [if_neg (fun h => (sg_le0 _).mp h (hgt.mpr hA)), ht3]
        exact ⟨_, rfl, Or.inl ⟨i, hi, hA, q4, rfl⟩, fx3⟩
      · rw [if_pos ((sg_le0 _).mpr (fun h => hA (hgt.mp h)))]
        refine hk _ ⟨I3, by rw [nI_succ], r1, fx3, r3, fun j hj => ?_⟩
        by_cases e : j = i
        · rw [e]; exact hA
        · exact q4 j (by omega)
    · rintro k q ⟨I2, rfl, q1, q2, q3, q4⟩
      have hR2 : XR I2 π n := hR.fx q2 (by simp) (by simp)
      simp only [fSp_firstTooMuch_11, ck_t k2, if_pos hR2.le]
      exact ⟨_, rfl, Or.inr ⟨q4, rfl⟩, q2⟩
  obtain ⟨⟨I', r⟩, e, h1, h2⟩ := goal
  exact ⟨I', r, e, h1, h2⟩
