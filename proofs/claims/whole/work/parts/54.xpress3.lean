/-! the springs: the whole of pressing; loads -/
abbrev WL : List Nat := [79, 81, 84, 86, 89, 91, 94, 96, 99, 101, 103, 105]
/-- nothing but the springs' numbers and the tasks' pins is changed -/
def Fq (I I' : ek_St) : Prop := (∀ z, z ∉ WL → (∀ i, i < 12 → z ≠ tk i) → I' z = I z) ∧ ∀ i k, i < 12 → k ≠ 13 → I' (tk i) k = I (tk i) k
theorem Fq.refl (I : ek_St) : Fq I I := ⟨fun _ _ _ => rfl, fun _ _ _ _ => rfl⟩
theorem Fq.trans {I I1 I2 : ek_St} (h : Fq I I1) (h2 : Fq I1 I2) : Fq I I2 := ⟨fun z a b => (h2.1 z a b).trans (h.1 z a b), fun i k hi hk => (h2.2 i k hi hk).trans (h.2 i k hi hk)⟩
theorem Fp.q {I I' : ek_St} (h : Fp I I') : Fq I I' := ⟨fun z _ hz => h.1 z hz, h.2⟩
theorem Fx.q {L : List Nat} {I I' : ek_St} (h : Fx L I I') (hL : ∀ z, z ∈ L → z ∈ WL) : Fq I I' := ⟨fun z hz _ => h z (fun q => hz (hL z q)), fun i k hi _ => by rw [h _ (fun q => tk_nin (L := WL) hi (by decide) (hL _ q))]⟩
theorem Fq.at {I I' : ek_St} (h : Fq I I') {z : Nat} (h1 : z ∉ WL) (hz : z % 6 ≠ 4 ∨ 76 ≤ z) : I' z = I z := h.1 z h1 (fun i hi e => by have : tk i = 4 + 6 * i := rfl; omega)
theorem XR.fq {I I' : ek_St} {π : Nat → Nat} {n : Nat} (h : XR I π n) (f : Fq I I') : XR I' π n := h.keep (f.at (by decide) (by decide)) (f.at (by decide) (by decide))
theorem XD.fq {I I' : ek_St} {π : Nat → Nat} {n : Nat} {c s l f : Nat → Nat} {ph : Nat → Int32} (hR : XR I π n) (h : XD I π n c s l f ph) (g : Fq I I') : XD I' π n c s l f ph := h.keep (fun k j hk _ hj => g.2 _ _ (hR.2.2.1 k (by have := hR.1; omega)).1 (by omega))
abbrev PB : Nat := 12 * 20000 ^ 12 * 1000 ^ 13
theorem neg_i (n : Nat) : -nI n = Int32.ofInt (-(n : Int)) := by
  rw [← iIN, iI_neg]
  rfl
theorem ratio_eq {X W : Rat} (hX : 0 ≤ X) (hW : 0 < W) : mkRat (X.num.toNat * W.den : Nat) (X.den * W.num.toNat) * W = X ∧ 0 < X.den * W.num.toNat := by
  have hWn : 0 < W.num := by
    have h1 : 0 ≤ W.num := Rat.num_nonneg.mpr (Rat.le_of_lt hW)
    have h2 : W.num ≠ 0 := fun h => Rat.ne_of_gt hW (Rat.num_eq_zero.mp h)
    omega
  have hWn2 : 0 < W.num.toNat := by omega
  have e1 := rat_nd hX
  have e2 := rat_nd (Rat.le_of_lt hW)
  have h1 := rat_den_pos X
  have h2 := rat_den_pos W
  refine ⟨?_, Nat.mul_pos h1 hWn2⟩
  conv => lhs; rhs; rw [e2]
  conv => rhs; rw [e1]
  rw [mk_mul, Rat.mkRat_eq_iff (by have := Nat.mul_pos (Nat.mul_pos h1 hWn2) h2; omega) (by omega)]
  simp only [Int.natCast_mul]
  grind
theorem unp_W {ph : Nat → Int32} {p : Nat → Bool} (f : Nat → Nat) : ∀ n, unp ph p n = 0 → rs (fun k => if cnt ph k ∧ p k = false then sf' f k else 0) n = 0
  | 0, _ => rfl
  | n + 1, h => by
    unfold unp at h
    have h1 := unp_W (ph := ph) (p := p) f n (by omega)
    have h2 : ¬ (cnt ph n ∧ p n = false) := by
      intro q
      rw [if_pos q] at h
      omega
    rw [rs, h1, if_neg h2, Rat.add_zero]
theorem s_press {I : ek_St} {π : Nat → Nat} {n th : Nat} {c s l f : Nat → Nat} {ph : Nat → Int32} (hR : XR I π n) (hD : XD I π n c s l f ph) (hth1 : 1 ≤ th) (hth2 : th ≤ 1000) (hp0 : ∀ k, k < n → I (tk (π k)) 13 = 0)
    (hfull : mkRat th 1000 < rs (fun k => if cnt ph k then hi' c s k else 0) n) (hlo : rs (fun k => if cnt ph k then lo' c l k else 0) n ≤ mkRat th 1000) :
    ∃ (I' : ek_St) (p : Nat → Bool) (v : Rat), fSp_press kX I 76 2 (nI th) = some I' ∧ Fq I I' ∧ FrQ I' 77 (mkRat th 1000) ∧ FrQ I' 92 v ∧ v.den ≤ PB ∧ (∀ k, k < n → I' (tk (π k)) 13 = bI (p k)) ∧ LD n c s l f ph (mkRat th 1000) v p := by
  have hn := hR.1
  have hT : ∀ k, k < n → 1 ≤ c k ∧ c k ≤ s k ∧ s k ≤ l k ∧ 1 ≤ f k := fun k hk => by have := hD k hk; exact ⟨this.2.1, this.2.2.1, this.2.2.2.1, this.2.2.2.2.2.1⟩
  obtain ⟨I1, e1, g1, f1⟩ := s_frset (I := I) (a := th) (b := 1000) fr77 (by omega) (by decide) (by decide)
  have e1' : fFr_set kX I (76 + 1) (nI th) (1000 : Int32) = some I1 := e1
  have hk77 : kX (76 + 1) = 2 := fr77.1
  have hk82 : kX (76 + 6) = 2 := fr82.1
  have hk92 : kX (76 + 16) = 2 := fr92.1
  have hk97 : kX (76 + 21) = 1 := dv97.1
  have fq1 : Fq I I1 := (f1.x (L := [79, 81]) (by simp) (by simp)).q (by simp)
  have hlt : ∀ m, m ≤ 12 → (12 + 1) * 20000 ^ m * 20000 < 2 ^ (24 * 16) := by
    intro m hm
    have h1 : 20000 ^ m ≤ 20000 ^ 12 := Nat.pow_le_pow_right (by decide) hm
    have h2 : (12 + 1) * 20000 ^ m * 20000 ≤ (12 + 1) * 20000 ^ 12 * 20000 := Nat.mul_le_mul_right _ (Nat.mul_le_mul_left _ h1)
    exact Nat.lt_of_le_of_lt h2 (by decide +kernel)
  simp only [fSp_press, fSp_press_0, ck_t k76, ck_t hk77, e1', bv_s]
  -- the end: the push is brought to its lowest terms
  have fin : ∀ (I2 : ek_St) (p : Nat → Bool) (a b : Nat), Fq I I2 → FrQ I2 77 (mkRat th 1000) → FrH I2 92 a b → 0 < b → b ≤ PB → (∀ k, k < n → I2 (tk (π k)) 13 = bI (p k)) → LD n c s l f ph (mkRat th 1000) (mkRat a b) p → ∃ r, fSp_press_85 kX I2 76 = some r ∧ ∃ (p : Nat → Bool) (v : Rat), Fq I r ∧ FrQ r 77 (mkRat th 1000) ∧ FrQ r 92 v ∧ v.den ≤ PB ∧ (∀ k, k < n → r (tk (π k)) 13 = bI (p k)) ∧ LD n c s l f ph (mkRat th 1000) v p := by
    intro I2 p a b j1 j2 j3 j4 j5 j6 j7
    obtain ⟨I3, e3, h3, f3⟩ := s_reduce (I := I2) dv97 fr92 (by decide) j3 j4
    have e3' : fDv_reduce kX I2 (76 + 21) (76 + 16) = some I3 := e3
    simp only [fSp_press_85, ck_t k76, ck_t hk97, e3', bv_s]
    have hmk := mk_div (n := a) (d := b) (by omega)
    refine ⟨I3, rfl, p, mkRat a b, j1.trans (f3.q (by decide)), j2.keep (f3 _ (by decide)) (f3 _ (by decide)), ⟨mk_nn a b, ?_⟩, ?_, fun k hk => ?_, j7⟩
    · rw [hmk.1, hmk.2, Int.toNat_natCast]
      exact h3
    · exact Nat.le_trans (den_mk j4) j5
    · rw [f3 _ (tk_nin (hR.2.2.1 k (by omega)).1 (by decide))]
      exact j6 k hk
  have goal := lp_for (F := fun (k : (ek_St × Nat × Nat × Int32 × Int32 × Int32) → Option (ek_St)) (q : (ek_St × Nat × Nat × Int32 × Int32 × Int32)) => fSp_press_16 kX k q.1 q.2.1 q.2.2.1 q.2.2.2.1 q.2.2.2.2.1 q.2.2.2.2.2) (a := (I1, 76, 2, nI th, (0 : Int32), (0 : Int32)))
    (fun t q => ∃ (I2 : ek_St) (p : Nat → Bool) (flag : Bool), q = (I2, 76, 2, nI th, bI flag, nI t) ∧ Fq I I2 ∧ FrQ I2 77 (mkRat th 1000) ∧ (∀ k, k < n → I2 (tk (π k)) 13 = bI (p k)) ∧
      ((flag = false ∧ unp ph p n + t ≤ 12 ∧ ∃ u : Rat, 0 ≤ u ∧ (∀ k, k < n → cnt ph k → (p k = true ↔ rr' c s l f k < u)) ∧ mkRat th 1000 < rs (fun k => if cnt ph k then mkRat (c k) (if p k then l k else s k) else 0) n - u * rs (fun k => if cnt ph k ∧ p k = false then sf' f k else 0) n) ∨
       (flag = true ∧ ∃ a b, FrH I2 92 a b ∧ 0 < b ∧ b ≤ PB ∧ LD n c s l f ph (mkRat th 1000) (mkRat a b) p)))
    (fun r => ∃ (p : Nat → Bool) (v : Rat), Fq I r ∧ FrQ r 77 (mkRat th 1000) ∧ FrQ r 92 v ∧ v.den ≤ PB ∧ (∀ k, k < n → r (tk (π k)) 13 = bI (p k)) ∧ LD n c s l f ph (mkRat th 1000) v p) 12
    ⟨I1, fun _ => false, false, rfl, fq1, g1, fun k hk => ?_, Or.inl ⟨rfl, by have := unp_le ph (fun _ => false) n; omega, 0, Rat.le_refl, fun k hk _ => ?_, ?_⟩⟩ ?_ ?_
  · obtain ⟨r, e, p, v, h1, h2, h3, h4, h5, h6⟩ := goal
    exact ⟨r, p, v, e, h1, h2, h3, h4, h5, h6⟩
  · rw [(f1.x (L := [79, 81]) (by simp) (by simp)) _ (tk_nin (hR.2.2.1 k (by omega)).1 (by decide)), hp0 k hk]
    rfl
  · constructor
    · intro h
      exact absurd h (by simp)
    · intro h
      have : (0 : Rat) ≤ rr' c s l f k := mk_nn _ _
      exact absurd h (Rat.not_lt.mpr this)
  · have e : rs (fun k => if cnt ph k then mkRat ((c k : Nat) : Int) (if (fun _ => false) k = true then l k else s k) else 0) n = rs (fun k => if cnt ph k then hi' c s k else 0) n := rs_congr n (fun k hk => by simp)
    rw [Rat.zero_mul, e]
    grind
  · rintro k16 t q ht ⟨I2, p, flag, rfl, j1, j2, j3, j4⟩ hk16
    have c12 : ¬ (12 : Int32) ≤ nI t := nI_ge (b := 12) ht (by decide)
    simp only [fSp_press_16, if_neg c12]
    rcases j4 with ⟨rfl, hu12, u, hu0, hup, huA⟩ | ⟨rfl, a, b, i1, i2, i3, i4⟩
    · rw [if_pos (show bI false = (0 : Int32) from rfl)]
      obtain ⟨hW0, hS0, hround⟩ := press_round hT hu0 hup huA hlo
      have hR2 := hR.fq j1
      have hD2 := XD.fq hR hD j1
      obtain ⟨I3, e3, s1, s2, s3⟩ := s_addUp hR2 hD2 j3
      have hSle : rs (fun k => if cnt ph k then mkRat ((c k : Nat) : Int) (if p k then l k else s k) else 0) n ≤ ((12 : Nat) : Rat) := by
        refine Rat.le_trans (rs_le_n n (fun k hk => ?_)) (by exact_mod_cast hn)
        have := hD k hk
        show (if cnt ph k then _ else _) ≤ (1 : Rat)
        split
        · cases p k
          · exact mk_le1 (by simp; omega) (by simp; omega)
          · exact mk_le1 (by simp; omega) (by simp; omega)
        · decide
      have hWle : rs (fun k => if cnt ph k ∧ p k = false then sf' f k else 0) n ≤ ((12 : Nat) : Rat) := by
        refine Rat.le_trans (rs_le_n n (fun k hk => ?_)) (by exact_mod_cast hn)
        have := hD k hk
        show (if cnt ph k ∧ p k = false then _ else _) ≤ (1 : Rat)
        split
        · exact mk_le1 (by omega) (by omega)
        · decide
      generalize hS : rs (fun k => if cnt ph k then mkRat ((c k : Nat) : Int) (if p k then l k else s k) else 0) n = S at *
      have hmkneg : mkRat (-(th : Int)) 1000 = -mkRat th 1000 := (Rat.neg_mkRat _ _).symm
      obtain ⟨I4, e4, t1, t2, t3⟩ := s_joinB (I := I3) (f := 82) (σ := 1) (ia := -(th : Int)) (ib := 1000) (M := 12) (D := 20000 ^ n) fr82 s1 rfl (by decide) (by decide) (by omega) (by rw [one_r, hmkneg]; grind) hSle s3 (hlt n hn)
      rw [one_r, hmkneg] at t1 t3
      have e4' : fFr_join kX I3 (76 + 6) (1 : Int32) (-nI th) (1000 : Int32) = some I4 := by rw [neg_i]; exact e4
      have fx4 : Fx [84, 86] I2 I4 := s2.trans (t2.x (by simp) (by simp))
      have hR4 := hR2.fx fx4 (by simp) (by simp)
      have hD4 := XD.fx hR2 hD2 fx4 (by decide)
      have hp4 : ∀ k, k < n → I4 (tk (π k)) 13 = bI (p k) := fun k hk => by rw [fx4 _ (tk_nin (hR.2.2.1 k (by omega)).1 (by decide))]; exact j3 k hk
      obtain ⟨I5, e5, w1, w2, w3⟩ := s_addUpSoftness hR4 hD4 hp4
      generalize hWe : rs (fun k => if cnt ph k ∧ p k = false then sf' f k else 0) n = Wt at *
      have t15 : FrQ I5 82 (S + -mkRat th 1000) := t1.keep (w2 _ (by decide)) (w2 _ (by decide))
      have hX0 : 0 ≤ S + -mkRat (th : Int) 1000 := t1.1
      have hXle : S + -mkRat (th : Int) 1000 ≤ ((12 : Nat) : Rat) := by
        have : (0 : Rat) ≤ mkRat th 1000 := mk_nn _ _
        grind
      have hnum := num_le hX0 hXle
      have hwnum := num_le w1.1 hWle
      have p20 : 20000 ^ n ≤ 20000 ^ 12 := Nat.pow_le_pow_right (by decide) hn
      have p10 : 1000 ^ n ≤ 1000 ^ 12 := Nat.pow_le_pow_right (by decide) hn
      have hXd : (S + -mkRat (th : Int) 1000).den ≤ 20000 ^ 12 * 1000 := Nat.le_trans t3 (Nat.mul_le_mul_right _ p20)
      have hWd : Wt.den ≤ 1000 ^ 12 := Nat.le_trans w3 p10
      have hPB : 20000 ^ 12 * 1000 * (12 * 1000 ^ 12) = PB := by decide +kernel
      have hPB2 : 12 * (20000 ^ 12 * 1000) * 1000 ^ 12 = PB := by decide +kernel
      have hPBlt : PB < 2 ^ (24 * 16) := by decide +kernel
      have hb1 : (S + -mkRat (th : Int) 1000).num.toNat * Wt.den ≤ PB := by
        rw [← hPB2]
        exact Nat.mul_le_mul (Nat.le_trans hnum (Nat.mul_le_mul_left _ hXd)) hWd
      have hb2 : (S + -mkRat (th : Int) 1000).den * Wt.num.toNat ≤ PB := by
        rw [← hPB]
        exact Nat.mul_le_mul hXd (Nat.le_trans hwnum (Nat.mul_le_mul_left _ hWd))
      obtain ⟨I6, e6, v1, v2⟩ := s_setRatio (I := I5) (f := 92) (g := 82) (h := 87) fr92 fr82 fr87 (by decide) (by decide) t15.2 w1.2 (by omega) (by omega)
      have e6' : fFr_setRatio kX I5 (76 + 16) (76 + 6) (76 + 11) = some I6 := e6
      obtain ⟨hr1, hr2⟩ := ratio_eq (X := S + -mkRat (th : Int) 1000) (W := Wt) hX0 hW0
      generalize hae : (S + -mkRat (th : Int) 1000).num.toNat * Wt.den = a at *
      generalize hbe : (S + -mkRat (th : Int) 1000).den * Wt.num.toNat = b at *
      have fx6 : Fx [84, 86, 89, 91, 94, 96] I2 I6 := ((fx4.mono (by simp)).trans (w2.mono (by simp))).trans (v2.x (by simp) (by simp))
      have hR6 := hR2.fx fx6 (by simp) (by simp)
      have hD6 := XD.fx hR2 hD2 fx6 (by decide)
      have hp6 : ∀ k, k < n → I6 (tk (π k)) 13 = bI (p k) := fun k hk => by rw [fx6 _ (tk_nin (hR.2.2.1 k (by omega)).1 (by decide))]; exact j3 k hk
      obtain ⟨I7, r, p', e7, x1, x2, x3, x4⟩ := s_pinPressed hR6 hD6 hp6 v1 hr2
      have fq7 : Fq I I7 := (j1.trans (fx6.q (by decide))).trans x1.q
      have j27 : FrQ I7 77 (mkRat th 1000) := (j2.keep (fx6 _ (by decide)) (fx6 _ (by decide))).keep (x1.at (by decide)) (x1.at (by decide))
      have v17 : FrH I7 92 a b := v1.keep (x1.at (by decide)) (x1.at (by decide))
      obtain ⟨y1, y2, y3⟩ := hround (mkRat a b) (by rw [hr1]; grind)
      have e3' : fSp_addUp kX I2 76 2 = some I3 := e3
      simp only [ck_t k76, e3', bv_s, ck_t hk82, e4', e5, ck_t hk92, e6', e7, bi_s]
      cases r with
      | false =>
        rw [if_pos (show bI false = (0 : Int32) from rfl)]
        simp only [fSp_press_78, let_e]
        have hnone : ∀ k, k < n → p' k = p k ∨ ¬ cnt ph k := by
          intro k hk
          by_cases hc : cnt ph k
          · left
            cases hpk : p k with
            | true => exact (x3 k hk).mpr (Or.inl hpk)
            | false =>
              cases hpk' : p' k with
              | false => rfl
              | true => exact absurd (x4.mpr ⟨k, hk, hc, hpk, hpk'⟩) (by decide)
          · exact Or.inr hc
        refine hk16 _ ⟨I7, p', true, by rw [nI_succ]; rfl, fq7, j27, x2, Or.inr ⟨rfl, a, b, v17, hr2, hb2, ?_⟩⟩
        have hLD := y2 (fun k hk hc hpk => by
          intro q
          have h1 := (x3 k hk).mpr (Or.inr ⟨hc, q⟩)
          rcases hnone k hk with h | h
          · rw [h, hpk] at h1
            exact absurd h1 (by decide)
          · exact h hc)
        refine ⟨hLD.1, fun k hk hc h => hLD.2.1 k hk hc (by rcases hnone k hk with q | q; rw [← q]; exact h; exact absurd hc q), fun k hk hc h => hLD.2.2.1 k hk hc (by rcases hnone k hk with q | q; rw [← q]; exact h; exact absurd hc q), ?_⟩
        rw [← hLD.2.2.2]
        refine rs_congr n (fun k hk => ?_)
        by_cases hc : cnt ph k
        · rw [if_pos hc, if_pos hc]
          rcases hnone k hk with q | q
          · rw [q]
          · exact absurd hc q
        · rw [if_neg hc, if_neg hc]
      | true =>
        rw [if_neg (show ¬ bI true = (0 : Int32) by decide)]
        simp only [fSp_press_78, let_e]
        obtain ⟨z1, z2⟩ := y3 p' x3 (x4.mp rfl)
        have hul := unp_lt (ph := ph) (p := p) (p' := p') n (fun k hk h => (x3 k hk).mpr (Or.inl h)) (x4.mp rfl)
        exact hk16 _ ⟨I7, p', false, by rw [nI_succ]; rfl, fq7, j27, x2, Or.inl ⟨rfl, by omega, mkRat a b, mk_nn a b, z1, z2⟩⟩
    · rw [if_neg (show ¬ bI true = (0 : Int32) by decide)]
      exact fin I2 p a b j1 j2 i1 i2 i3 j3 i4
  · rintro k16 q ⟨I2, p, flag, rfl, j1, j2, j3, j4⟩
    have c12 : (12 : Int32) ≤ nI 12 := nI_le (Nat.le_refl _) (by decide)
    simp only [fSp_press_16, if_pos c12]
    rcases j4 with ⟨rfl, hu12, u, hu0, hup, huA⟩ | ⟨rfl, a, b, i1, i2, i3, i4⟩
    · exfalso
      obtain ⟨hW0, -, -⟩ := press_round hT hu0 hup huA hlo
      have h0 : unp ph p n = 0 := by omega
      have hz : rs (fun k => if cnt ph k ∧ p k = false then sf' f k else 0) n = 0 := unp_W f n h0
      rw [hz] at hW0
      exact Rat.lt_irrefl hW0
    · exact fin I2 p a b j1 j2 i1 i2 i3 j3 i4
