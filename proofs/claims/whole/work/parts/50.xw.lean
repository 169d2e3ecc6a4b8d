/-! THE CLASS'S WORLD: the kinds of its 105 cells; sums of rationals; the springs -/
def kX (x : Nat) : Nat :=
  if x = 0 then 0 else if x = 1 then 7 else if x = 2 then 4 else if x = 3 then 60 else
  if x < 76 then (if x % 6 = 4 then 6 else if x % 6 = 5 then 2 else if x % 6 = 0 then 3 else if x % 6 = 1 then 116 else if x % 6 = 2 then 3 else 116)
  else if x = 76 then 5
  else if x < 97 then (if x % 5 = 2 then 2 else if x % 5 = 3 then 3 else if x % 5 = 4 then 116 else if x % 5 = 0 then 3 else 116)
  else if x = 97 then 1
  else if x < 106 then (if x % 2 = 0 then 3 else 116) else 0
/-- the cell of the i-th Task object -/
abbrev tk (i : Nat) : Nat := 4 + 6 * i
theorem kX_tk : ∀ i, i < 12 → kX (tk i) = 6 ∧ kX (tk i + 1) = 2 ∧ kX (tk i + 1 + 1) = 3 ∧ kX (tk i + 1 + 1 + 1) = 116 ∧ kX (tk i + 1 + 3) = 3 ∧ kX (tk i + 1 + 3 + 1) = 116 := by decide
theorem frT {i : Nat} (h : i < 12) : FrK kX (tk i + 1) := ⟨(kX_tk i h).2.1, ⟨(kX_tk i h).2.2.1, (kX_tk i h).2.2.2.1⟩, ⟨(kX_tk i h).2.2.2.2.1, (kX_tk i h).2.2.2.2.2⟩⟩
theorem fr77 : FrK kX 77 := by unfold FrK NatK; decide
theorem fr82 : FrK kX 82 := by unfold FrK NatK; decide
theorem fr87 : FrK kX 87 := by unfold FrK NatK; decide
theorem fr92 : FrK kX 92 := by unfold FrK NatK; decide
theorem dv97 : DvK kX 97 := by unfold DvK NatK; decide
theorem k2 : kX 2 = 4 := by decide
theorem k3 : kX (2 + 1) = 60 := by decide
theorem k76 : kX 76 = 5 := by decide
/-- the roster: n tasks in the row, the i-th of them in the cell tk (π i) -/
def XR (I : ek_St) (π : Nat → Nat) (n : Nat) : Prop := n ≤ 12 ∧ I 2 1 = nI n ∧ (∀ j, j < 12 → π j < 12 ∧ I 3 j = nI (tk (π j))) ∧ ∀ i j, i < 12 → j < 12 → π i = π j → i = j
theorem XR.keep {I I' : ek_St} {π : Nat → Nat} {n : Nat} (h : XR I π n) (e2 : I' 2 = I 2) (e3 : I' 3 = I 3) : XR I' π n := ⟨h.1, by rw [e2]; exact h.2.1, fun j hj => ⟨(h.2.2.1 j hj).1, by rw [e3]; exact (h.2.2.1 j hj).2⟩, h.2.2.2⟩
theorem XR.row {I : ek_St} {π : Nat → Nat} {n : Nat} (h : XR I π n) {j : Nat} (hj : j < 12) : (I 3 j).toNatClampNeg = tk (π j) := by
  have := h.2.2.1 j hj
  rw [this.2, nI_clamp (by show 4 + 6 * π j < 2 ^ 31; omega)]
theorem XR.ge {I : ek_St} {π : Nat → Nat} {n : Nat} (h : XR I π n) {i : Nat} (hi : i < n) : ¬ I 2 1 ≤ nI i := by rw [h.2.1]; exact nI_ge hi (by have := h.1; omega)
theorem XR.le {I : ek_St} {π : Nat → Nat} {n : Nat} (h : XR I π n) : I 2 1 ≤ nI n := by rw [h.2.1]; exact nI_le (Nat.le_refl _) (by have := h.1; omega)
theorem in12 {i : Nat} (h : i < 12) : ek_in (nI i) 12 := ein h (by decide)
theorem cl12 {i : Nat} (h : i < 12) : (nI i).toNatClampNeg = i := nI_clamp (by omega)
/-- what a solve reads of the tasks: costs, shortest and longest periods, stiffness, phases -/
def XD (I : ek_St) (π : Nat → Nat) (n : Nat) (c s l f : Nat → Nat) (ph : Nat → Int32) : Prop := ∀ k, k < n → (I (tk (π k)) 1 = nI (c k) ∧ I (tk (π k)) 2 = nI (s k) ∧ I (tk (π k)) 3 = nI (l k) ∧ I (tk (π k)) 4 = nI (f k) ∧ I (tk (π k)) 5 = ph k) ∧ 1 ≤ c k ∧ c k ≤ s k ∧ s k ≤ l k ∧ l k ≤ 20000 ∧ 1 ≤ f k ∧ f k ≤ 1000
theorem XD.keep {I I' : ek_St} {π : Nat → Nat} {n : Nat} {c s l f : Nat → Nat} {ph : Nat → Int32} (h : XD I π n c s l f ph) (e : ∀ k j, k < n → 1 ≤ j → j ≤ 5 → I' (tk (π k)) j = I (tk (π k)) j) : XD I' π n c s l f ph := by
  intro k hk
  have := h k hk
  rw [e k 1 hk (by decide) (by decide), e k 2 hk (by decide) (by decide), e k 3 hk (by decide) (by decide), e k 4 hk (by decide) (by decide), e k 5 hk (by decide) (by decide)]
  exact this
theorem tk_nin {i : Nat} (hi : i < 12) {L : List Nat} (h : L.all (fun z => decide (z % 6 ≠ 4 ∨ 76 ≤ z)) = true) : tk i ∉ L := by
  intro q
  have := List.all_eq_true.mp h _ q
  simp only [decide_eq_true_eq] at this
  have e : tk i = 4 + 6 * i := rfl
  omega
/-! rationals -/
def rs (g : Nat → Rat) : Nat → Rat
  | 0 => 0
  | n + 1 => rs g n + g n
theorem rs_congr {g h : Nat → Rat} : ∀ n, (∀ k, k < n → g k = h k) → rs g n = rs h n
  | 0, _ => rfl
  | n + 1, e => by rw [rs, rs, rs_congr n (fun k hk => e k (by omega)), e n (by omega)]
theorem rs_le {g h : Nat → Rat} : ∀ n, (∀ k, k < n → g k ≤ h k) → rs g n ≤ rs h n
  | 0, _ => Rat.le_refl
  | n + 1, e => by
    have h1 := rs_le n (fun k hk => e k (by omega))
    have h2 := e n (by omega)
    rw [rs, rs]
    grind
theorem rs_nn {g : Nat → Rat} : ∀ n, (∀ k, k < n → 0 ≤ g k) → 0 ≤ rs g n
  | 0, _ => Rat.le_refl
  | n + 1, e => Rat.add_nonneg (rs_nn n (fun k hk => e k (by omega))) (e n (by omega))
theorem den_mk {n : Int} {d : Nat} (h : 0 < d) : (mkRat n d).den ≤ d := by
  rw [Rat.den_mkRat, if_neg (by omega)]
  exact Nat.div_le_self _ _
theorem den_add (X Y : Rat) : (X + Y).den ≤ X.den * Y.den := by
  rw [Rat.add_def']
  exact den_mk (Nat.mul_pos (rat_den_pos X) (rat_den_pos Y))
theorem den_sg (σ : Int) (X : Rat) (h : σ.natAbs = 1) : ((σ : Rat) * X).den = X.den := by
  rcases Int.natAbs_eq σ with e | e
  · rw [e, h]
    show ((1 : Rat) * X).den = _
    rw [Rat.one_mul]
  · rw [e, h]
    show ((-1 : Rat) * X).den = _
    rw [Rat.neg_mul, Rat.one_mul]
    rfl
theorem num_le {X : Rat} {M : Nat} (h0 : 0 ≤ X) (h : X ≤ M) : X.num.toNat ≤ M * X.den := by
  have h1 : 0 ≤ X.num := Rat.num_nonneg.mpr h0
  have h2 := (Rat.le_iff X (M : Rat)).mp h
  rw [Rat.num_natCast, Rat.den_natCast] at h2
  have h3 : ((X.num.toNat : Nat) : Int) ≤ ((M * X.den : Nat) : Int) := by
    rw [Int.toNat_of_nonneg h1, Int.natCast_mul]
    simpa using h2
  exact_mod_cast h3
/-- join, with bounds on the denominator and on the value -/
theorem s_joinB {kd : Nat → Nat} {I : ek_St} {f ib M D : Nat} {X : Rat} {σ ia : Int} (hk : FrK kd f) (hX : FrQ I f X) (hσ : σ.natAbs = 1) (hib : 0 < ib) (hib2 : ib ≤ 20000) (hia : ia.natAbs ≤ 20000) (hpos : 0 ≤ σ * X + mkRat ia ib) (hM : X ≤ M) (hD : X.den ≤ D) (hb : (M + 1) * D * 20000 < 2 ^ (24 * 16)) :
    ∃ I', fFr_join kd I f (Int32.ofInt σ) (Int32.ofInt ia) (nI ib) = some I' ∧ FrQ I' f (σ * X + mkRat ia ib) ∧ Fr2 I I' f ∧ (σ * X + mkRat ia ib).den ≤ D * ib := by
  have hn := num_le hX.1 hM
  have h1 : X.num.toNat * ib ≤ M * D * 20000 := Nat.mul_le_mul (Nat.le_trans hn (Nat.mul_le_mul_left _ hD)) hib2
  have h2 : ia.natAbs * X.den ≤ 20000 * D := Nat.mul_le_mul hia hD
  have h3 : X.den * ib ≤ D * 20000 := Nat.mul_le_mul hD hib2
  have h4 : (M + 1) * D * 20000 = M * D * 20000 + D * 20000 := by rw [Nat.add_mul, Nat.add_mul, Nat.one_mul]
  have h5 : 20000 * D = D * 20000 := Nat.mul_comm _ _
  obtain ⟨I', e, g1, g2⟩ := s_join hk hX hσ hib hib2 hia hpos (by omega) (by omega)
  refine ⟨I', e, g1, g2, ?_⟩
  refine Nat.le_trans (den_add _ _) ?_
  rw [den_sg σ X hσ]
  exact Nat.mul_le_mul hD (den_mk hib)
/-- a fraction against thousandths -/
theorem cmp_gt {X : Rat} {th d : Nat} (h0 : 0 ≤ X) (hd : 0 < d) : (0 < (X.num.toNat : Int) * d - X.den * th) ↔ mkRat th d < X := by
  have h1 : 0 ≤ X.num := Rat.num_nonneg.mpr h0
  rw [Int.toNat_of_nonneg h1]
  have hX : X = mkRat X.num X.den := (Rat.mkRat_self X).symm
  have hp := rat_den_pos X
  conv => rhs; rhs; rw [hX]
  rw [Rat.mkRat_eq_div, Rat.mkRat_eq_div, Rat.div_lt_iff (by exact_mod_cast hd)]
  have e1 : (X.num : Rat) / (X.den : Rat) * (d : Rat) = (X.num : Rat) * (d : Rat) / (X.den : Rat) := by rw [Rat.div_def, Rat.div_def, Rat.mul_assoc, Rat.mul_comm _ (d : Rat), ← Rat.mul_assoc]
  rw [e1, Rat.lt_div_iff (by exact_mod_cast hp)]
  have e : ((th : Int) : Rat) * (X.den : Rat) < (X.num : Rat) * (d : Rat) ↔ (th : Int) * X.den < X.num * d := by
    rw [← Rat.intCast_lt_intCast, Rat.intCast_mul, Rat.intCast_mul]
    rfl
  rw [e]
  have := Int.mul_comm (th : Int) X.den
  omega
theorem cmp_eq {X : Rat} {th d : Nat} (h0 : 0 ≤ X) (hd : 0 < d) : ((X.num.toNat : Int) * d - X.den * th = 0) ↔ X = mkRat th d := by
  have h1 : 0 ≤ X.num := Rat.num_nonneg.mpr h0
  rw [Int.toNat_of_nonneg h1]
  have hp := rat_den_pos X
  conv => rhs; rw [← Rat.mkRat_self X]
  rw [Rat.mkRat_eq_iff (by omega) (by omega)]
  have := Int.mul_comm (th : Int) X.den
  omega
/-! the springs' sums -/
abbrev cnt (ph : Nat → Int32) (k : Nat) : Prop := ph k ≠ 2
theorem s_isSolved {I : ek_St} {t : Nat} {p : Int32} (hk : kX t = 6) (h : I t 5 = p) : fTa_isSolved kX I t = some (I, bI (decide (p ≠ 2))) := by
  simp only [fTa_isSolved, fTa_isSolved_0, ck_t hk, h]
  by_cases e : p = 2
  · rw [if_pos e]
    simp [e, bI, ck_t]
  · rw [if_neg e]
    simp [e, bI, ck_t]
theorem mk_le1 {a b : Nat} (h : a ≤ b) (hb : 0 < b) : mkRat a b ≤ 1 := by
  rw [Rat.mkRat_eq_div]
  have hb' : (0 : Rat) < (b : Rat) := by exact_mod_cast hb
  have : ¬ (1 : Rat) < ((a : Int) : Rat) / (b : Rat) := by
    rw [Rat.lt_div_iff hb', Rat.one_mul]
    intro q
    have : b < a := by exact_mod_cast q
    omega
  exact Rat.not_lt.mp this
theorem rs_le_n {g : Nat → Rat} : ∀ n : Nat, (∀ k, k < n → g k ≤ 1) → rs g n ≤ (n : Rat)
  | 0, _ => Rat.le_refl
  | n + 1, e => by
    have h1 := rs_le_n n (fun k hk => e k (by omega))
    have h2 := e n (by omega)
    have h3 : ((n + 1 : Nat) : Rat) = (n : Rat) + 1 := by rw [Rat.natCast_add]; rfl
    rw [rs, h3]
    grind
theorem one_r (X : Rat) : ((1 : Int) : Rat) * X = X := by
  show (1 : Rat) * X = X
  rw [Rat.one_mul]
/-- one term of a sum is joined -/
theorem join_term {kd : Nat → Nat} {I : ek_St} {f a b k : Nat} {X : Rat} (hf : FrK kd f) (hX : FrQ I f X) (hM : X ≤ (k : Rat)) (hk : k < 12) (hD : X.den ≤ 20000 ^ k) (hb : 0 < b) (hb2 : b ≤ 20000) (ha : a ≤ 20000) :
    ∃ I', fFr_join kd I f (1 : Int32) (nI a) (nI b) = some I' ∧ FrQ I' f (X + mkRat a b) ∧ Fr2 I I' f ∧ (X + mkRat a b).den ≤ 20000 ^ (k + 1) := by
  have hp : 20000 ^ k ≤ 20000 ^ 11 := Nat.pow_le_pow_right (by decide) (by omega)
  have hbd : (k + 1) * 20000 ^ k * 20000 ≤ 12 * 20000 ^ 11 * 20000 := Nat.mul_le_mul_right _ (Nat.mul_le_mul (by omega) hp)
  have hbig : 12 * 20000 ^ 11 * 20000 < 2 ^ (24 * 16) := by decide +kernel
  obtain ⟨I', e, g1, g2, g3⟩ := s_joinB (σ := 1) (ia := a) (M := k) (D := 20000 ^ k) hf hX rfl hb hb2 (by simpa using ha) (by rw [one_r]; exact Rat.add_nonneg hX.1 (mk_nn a b)) hM hD (Nat.lt_of_le_of_lt hbd hbig)
  rw [one_r] at g1 g3
  refine ⟨I', ?_, g1, g2, ?_⟩
  · have e1 : Int32.ofInt (a : Int) = nI a := Int32.ofInt_eq_ofNat
    rw [e1] at e
    exact e
  · rw [Nat.pow_succ]
    exact Nat.le_trans g3 (Nat.mul_le_mul_left _ hb2)
theorem s_addUp {I : ek_St} {π : Nat → Nat} {n : Nat} {c s l f : Nat → Nat} {ph : Nat → Int32} {p : Nat → Bool} (hR : XR I π n) (hD : XD I π n c s l f ph) (hp : ∀ k, k < n → I (tk (π k)) 13 = bI (p k)) :
    ∃ I', fSp_addUp kX I 76 2 = some I' ∧ FrQ I' 82 (rs (fun k => if cnt ph k then mkRat (c k) (if p k then l k else s k) else 0) n) ∧ Fx [84, 86] I I' ∧ (rs (fun k => if cnt ph k then mkRat (c k) (if p k then l k else s k) else 0) n).den ≤ 20000 ^ n := by
  obtain ⟨I1, e1, g1, f1⟩ := s_frset (I := I) (a := 0) (b := 1) fr82 (by decide) (by decide) (by decide)
  have e1' : fFr_set kX I (76 + 6) (0 : Int32) (1 : Int32) = some I1 := e1
  have f1x : Fx [84, 86] I I1 := f1.x (by simp) (by simp)
  simp only [fSp_addUp, fSp_addUp_0, ck_t k76, ck_t fr82.1, e1', bv_s]
  generalize hg : (fun k => if cnt ph k then mkRat (c k) (if p k then l k else s k) else 0) = g
  have g0 : ∀ k, k < n → 0 ≤ g k := by
    intro k hk
    rw [← hg]
    show 0 ≤ (if cnt ph k then _ else _)
    split
    · exact mk_nn _ _
    · exact Rat.le_refl
  have g1' : ∀ k, k < n → g k ≤ 1 := by
    intro k hk
    have := hD k hk
    rw [← hg]
    show (if cnt ph k then _ else _) ≤ (1 : Rat)
    split
    · cases p k
      · exact mk_le1 (by simp; omega) (by simp; omega)
      · exact mk_le1 (by simp; omega) (by simp; omega)
    · decide
  have hn := hR.1
  refine lp_for (fun i q => ∃ I', q = (I', 76, 2, nI i) ∧ FrQ I' 82 (rs g i) ∧ Fx [84, 86] I I' ∧ (rs g i).den ≤ 20000 ^ i) (fun I' => FrQ I' 82 (rs g n) ∧ Fx [84, 86] I I' ∧ (rs g n).den ≤ 20000 ^ n) n ⟨I1, rfl, ?_, f1x, Nat.le_refl 1⟩ ?_ ?_ (by omega)
  · have : mkRat ((0 : Nat) : Int) 1 = 0 := by decide
    rw [this] at g1
    exact g1
  · rintro k i q hi ⟨I2, rfl, q1, q2, q3⟩ hk
    have hi12 : i < 12 := by omega
    have hπ := (hR.2.2.1 i hi12).1
    have hR2 : XR I2 π n := hR.keep (q2 2 (by simp)) (q2 3 (by simp))
    have ht : ∀ j, I2 (tk (π i)) j = I (tk (π i)) j := fun j => by rw [q2 _ (tk_nin hπ (by decide))]
    have hd := hD i hi
    have hsol := s_isSolved (I := I2) (t := tk (π i)) (p := ph i) (kX_tk _ hπ).1 (by rw [ht]; exact hd.1.2.2.2.2)
    simp only [fSp_addUp_11, ck_t k2, if_neg (hR2.ge hi), ck_t k3, ck_t (in12 hi12), cl12 hi12, let_e]
    rw [hR2.row hi12]
    simp only [ck_t (kX_tk _ hπ).1, hsol, bi_s, ck_t k76]
    by_cases hc : ph i = 2
    · rw [hc, if_pos (by decide)]
      simp only [fSp_addUp_63, let_e]
      have eg : g i = 0 := by rw [← hg]; simp [cnt, hc]
      refine hk _ ⟨I2, by rw [nI_succ], ?_, q2, ?_⟩
      · rw [rs, eg, Rat.add_zero]
        exact q1
      · rw [rs, eg, Rat.add_zero]
        exact Nat.le_trans q3 (Nat.pow_le_pow_right (by decide) (by omega))
    · have hb : bI (decide (ph i ≠ 2)) = 1 := by simp [bI, hc]
      rw [hb, if_neg (by decide)]
      have hle := rs_le_n i (fun k hk' => g1' k (by omega))
      have fin : ∀ b, 0 < b → b ≤ 20000 → g i = mkRat (c i) b → ∃ r, fSp_addUp_60 kX k I2 76 2 (nI i) (76 + 6) (1 : Int32) (nI (c i)) (nI b) = some r ∧ FrQ r 82 (rs g n) ∧ Fx [84, 86] I r ∧ (rs g n).den ≤ 20000 ^ n := by
        intro b hb0 hb1 heg
        obtain ⟨I3, e3, r1, r2, r3⟩ := join_term (I := I2) (f := 82) (a := c i) (b := b) fr82 q1 hle hi12 q3 hb0 hb1 (by omega)
        simp only [fSp_addUp_60, ck_t fr82.1]
        have e3' : fFr_join kX I2 (76 + 6) (1 : Int32) (nI (c i)) (nI b) = some I3 := e3
        rw [e3', bv_s]
        simp only [fSp_addUp_63, let_e]
        refine hk _ ⟨I3, by rw [nI_succ], ?_, q2.trans (r2.x (by simp) (by simp)), ?_⟩
        · rw [rs, heg]
          exact r1
        · rw [rs, heg]
          exact r3
      rw [ht 13, hp i hi, ht 1, ht 2, ht 3, hd.1.1, hd.1.2.1, hd.1.2.2.1]
      cases hpi : p i
      · rw [if_pos (by decide)]
        exact fin (s i) (by omega) (by omega) (by rw [← hg]; simp [cnt, hc, hpi])
      · rw [if_neg (by decide)]
        exact fin (l i) (by omega) (by omega) (by rw [← hg]; simp [cnt, hc, hpi])
  · rintro k q ⟨I2, rfl, q1, q2, q3⟩
    have hR2 : XR I2 π n := hR.keep (q2 2 (by simp)) (q2 3 (by simp))
    simp only [fSp_addUp_11, ck_t k2, if_pos hR2.le]
    exact ⟨I2, rfl, q1, q2, q3⟩
