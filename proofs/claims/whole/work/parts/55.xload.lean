/-! the springs: room, loads, periods -/
theorem s_haveRoom {I : ek_St} {π : Nat → Nat} {n th : Nat} {c s l f : Nat → Nat} {ph : Nat → Int32} (hR : XR I π n) (hD : XD I π n c s l f ph) (hth : th ≤ 1000) :
    ∃ I', fSp_haveRoom kX I 76 2 (nI th) = some (I', bI (decide (¬ mkRat th 1000 < rs (fun k => if cnt ph k then hi' c s k else 0) n))) ∧ Fq I I' ∧ FrQ I' 82 (rs (fun k => if cnt ph k then hi' c s k else 0) n) ∧ ∀ k, k < n → I' (tk (π k)) 13 = 0 := by
  have hn := hR.1
  obtain ⟨I1, e1, g1, f1⟩ := s_unpin hR
  have hR1 := hR.fp f1
  have hD1 := XD.fp hR hD f1
  obtain ⟨I2, e2, g2, f2, d2⟩ := s_addUp (p := fun _ => false) hR1 hD1 g1
  have e : rs (fun k => if cnt ph k then mkRat ((c k : Nat) : Int) (if (fun _ => false) k = true then l k else s k) else 0) n = rs (fun k => if cnt ph k then hi' c s k else 0) n := rs_congr n (fun k hk => by simp)
  rw [e] at g2
  have hcmp := s_frcompare (I := I2) (f := 82) (la := (th : Int)) (lb := 1000) fr82 g2.2 (by simp; omega)
  generalize hS : rs (fun k => if cnt ph k then hi' c s k else 0) n = S at *
  have hcmp' : fFr_compare kX I2 (76 + 6) (jI th) (1000 : Int64) = some (I2, sg ((S.num.toNat : Int) * 1000 - S.den * th)) := hcmp
  have hgt : 0 < (S.num.toNat : Int) * 1000 - S.den * th ↔ mkRat th 1000 < S := cmp_gt (X := S) (th := th) (d := 1000) g2.1 (by decide)
  have hk82 : kX (76 + 6) = 2 := fr82.1
  refine ⟨I2, ?_, f1.q.trans (f2.q (by decide)), g2, fun k hk => ?_⟩
  · simp only [fSp_haveRoom, fSp_haveRoom_0, ck_t k76, e1, bv_s, e2, ck_t hk82, nI_j (show th < 2 ^ 31 by omega), hcmp', bi_s, ck0, ck1]
    by_cases h : mkRat th 1000 < S
    · rw [if_pos ((sg_pos _).mpr (hgt.mpr h)), decide_eq_false (by simpa using h)]
      rfl
    · rw [if_neg (fun q => h (hgt.mp ((sg_pos _).mp q))), decide_eq_true h]
      rfl
  · rw [f2 _ (tk_nin (hR.2.2.1 k (by omega)).1 (by decide))]
    exact g1 k hk
theorem s_relax {I : ek_St} {X : Rat} (h : FrQ I 82 X) : ∃ I', fSp_relax kX I 76 = some I' ∧ Fq I I' ∧ FrQ I' 77 X ∧ FrQ I' 92 0 ∧ Fx [79, 81, 94, 96] I I' := by
  obtain ⟨I1, e1, g1, f1⟩ := s_frcopy (I := I) (f := 77) (g := 82) fr77 fr82 (by decide) h.2
  obtain ⟨I2, e2, g2, f2⟩ := s_frset (I := I1) (f := 92) (a := 0) (b := 1) fr92 (by decide) (by decide) (by decide)
  have e1' : fFr_copy kX I (76 + 1) (76 + 6) = some I1 := e1
  have e2' : fFr_set kX I1 (76 + 16) (0 : Int32) (1 : Int32) = some I2 := e2
  have hk77 : kX (76 + 1) = 2 := fr77.1
  have hk92 : kX (76 + 16) = 2 := fr92.1
  have fx : Fx [79, 81, 94, 96] I I2 := (f1.x (by simp) (by simp)).trans (f2.x (by simp) (by simp))
  have z : mkRat ((0 : Nat) : Int) 1 = 0 := by decide
  rw [z] at g2
  refine ⟨I2, ?_, fx.q (by decide), ⟨h.1, g1.keep (f2 _ (by decide) (by decide)) (f2 _ (by decide) (by decide))⟩, g2, fx⟩
  simp only [fSp_relax, fSp_relax_0, ck_t k76, ck_t hk77, ck_t hk92, e1', bv_s, e2']
/-- the shortest whole period at which a load is not passed: cost by load, rounded up -/
def perN (c : Nat) (L : Rat) : Nat := (L.den * c) / L.num.toNat + if (L.den * c) % L.num.toNat = 0 then 0 else 1
theorem num_pos {L : Rat} (h : 0 < L) : 0 < L.num.toNat := by
  have h1 : 0 ≤ L.num := Rat.num_nonneg.mpr (Rat.le_of_lt h)
  have h2 : L.num ≠ 0 := fun q => Rat.ne_of_gt h (Rat.num_eq_zero.mp q)
  omega
theorem mk_le_iff {a b c d : Nat} (hb : 0 < b) (hd : 0 < d) : mkRat a b ≤ mkRat c d ↔ a * d ≤ c * b := by
  have h1 := cmp_raw (a := a) (b := b) (x := c) (d := d) hb hd
  have h2 : mkRat a b ≤ mkRat c d ↔ ¬ mkRat c d < mkRat a b := Rat.not_lt.symm
  rw [h2, ← h1]
  have e1 : (a : Int) * d = ((a * d : Nat) : Int) := by simp
  have e2 : (b : Int) * c = ((c * b : Nat) : Int) := by simp [Int.mul_comm]
  rw [e1, e2]
  omega
theorem perN_spec {c m : Nat} {L : Rat} (h : 0 < L) : perN c L ≤ m ↔ c * L.den ≤ L.num.toNat * m := by
  have hp := num_pos h
  unfold perN
  rw [Nat.mul_comm c]
  generalize L.den * c = x
  generalize L.num.toNat = y at *
  have h1 := Nat.div_add_mod x y
  have h2 := Nat.mod_lt x hp
  constructor
  · intro hm
    have h3 : y * (x / y + if x % y = 0 then 0 else 1) ≤ y * m := Nat.mul_le_mul_left _ hm
    rw [Nat.mul_add] at h3
    split at h3 <;> omega
  · intro hm
    split
    · rw [Nat.add_zero]
      exact Nat.div_le_of_le_mul hm
    · rename_i h3
      have h4 : x / y < m := by
        apply Nat.lt_of_mul_lt_mul_left (a := y)
        omega
      omega
theorem s_setLoad {I : ek_St} {t c s l f : Nat} {v : Rat} {p : Bool} (ht : t < 12) (e1 : I (tk t) 1 = nI c) (e2 : I (tk t) 2 = nI s) (e3 : I (tk t) 3 = nI l) (e4 : I (tk t) 4 = nI f) (e13 : I (tk t) 13 = bI p) (h1 : 1 ≤ c) (h2 : c ≤ s) (h3 : s ≤ l) (h4 : l ≤ 20000) (h5 : 1 ≤ f) (h6 : f ≤ 1000) (hv : FrQ I 92 v) (hvd : v.den ≤ PB)
    (hp : p = false → mkRat c l ≤ mkRat c s - v * mkRat (1 : Nat) f) :
    ∃ I', fSp_setLoad kX I 76 (tk t) = some I' ∧ FrQ I' (tk t + 1) (if p then mkRat c l else mkRat c s - v * mkRat (1 : Nat) f) ∧ I' (tk t) 7 = nI (perN c (if p then mkRat c l else mkRat c s - v * mkRat (1 : Nat) f)) ∧ (∀ k, k ≠ 7 → I' (tk t) k = I (tk t) k) ∧ ∀ z, z ≠ tk t → z ≠ tk t + 1 + 1 + 1 → z ≠ tk t + 1 + 3 + 1 → z ∉ [99, 101, 103] → I' z = I z := by
  have hk := kX_tk t ht
  have hF := frT ht
  have e0 : tk t = 4 + 6 * t := rfl
  generalize hL : (if p then mkRat ((c : Nat) : Int) l else mkRat c s - v * mkRat (1 : Nat) f) = L
  have hLlo : mkRat ((c : Nat) : Int) l ≤ L := by
    rw [← hL]
    cases p with
    | true => exact Rat.le_refl
    | false => exact hp rfl
  have hlo0 : 0 < mkRat ((c : Nat) : Int) l := mk_pos (by omega) (by omega)
  have hL0 : 0 < L := by grind
  have hhi : L ≤ mkRat c s := by
    rw [← hL]
    cases p with
    | true =>
      show mkRat c l ≤ mkRat c s
      rw [mk_le_iff (by omega) (by omega)]
      exact Nat.mul_le_mul_left _ h3
    | false =>
      show mkRat c s - v * mkRat (1 : Nat) f ≤ mkRat c s
      have : 0 ≤ v * mkRat ((1 : Nat) : Int) f := Rat.mul_nonneg hv.1 (mk_nn _ _)
      grind
  have hL1 : L ≤ 1 := Rat.le_trans hhi (mk_le1 (by omega) (by omega))
  have hPBbig : PB * 1000 * 20000 * 20000 * 20000 < 2 ^ (24 * 16) := by decide +kernel
  -- the period, once the load stands
  have fin : ∀ I2, FrQ I2 (tk t + 1) L → L.den ≤ PB * 1000 * 20000 → (∀ z, z ≠ tk t + 1 + 1 + 1 → z ≠ tk t + 1 + 3 + 1 → I2 z = I z) → ∃ I', fSp_setLoad_56 kX I2 76 (tk t) (tk t + 1) = some I' ∧ FrQ I' (tk t + 1) L ∧ I' (tk t) 7 = nI (perN c L) ∧ (∀ k, k ≠ 7 → I' (tk t) k = I (tk t) k) ∧ ∀ z, z ≠ tk t → z ≠ tk t + 1 + 1 + 1 → z ≠ tk t + 1 + 3 + 1 → z ∉ [99, 101, 103] → I' z = I z := by
    intro I2 g1 g2 g3
    have hnp := num_pos hL0
    have hdc : L.den * c < 2 ^ (24 * 16) := by
      have : L.den * c ≤ PB * 1000 * 20000 * 20000 := Nat.mul_le_mul g2 (by omega)
      omega
    have hper : perN c L ≤ l := by
      rw [perN_spec hL0]
      have h7 : mkRat ((c : Nat) : Int) l ≤ mkRat (L.num.toNat : Nat) L.den := by rw [← rat_nd (Rat.le_of_lt hL0)]; exact hLlo
      exact (mk_le_iff (by omega) (rat_den_pos L)).mp h7
    have hq : L.den * c / L.num.toNat < 16777216 := by
      have : L.den * c / L.num.toNat ≤ perN c L := Nat.le_add_right _ _
      omega
    have hr := s_ratioUp (I := I2) (v := 97) (x := tk t + 1 + 3) (y := tk t + 1 + 1) (f := c) dv97 hF.2.2 hF.2.1 (by omega) (by omega) (by omega) g1.2.2 g1.2.1 hnp (by omega) hdc hq
    obtain ⟨I3, e3', f3⟩ := hr
    have e3'' : fDv_ratioUp kX I2 (76 + 21) (tk t + 1 + 3) (nI c) (tk t + 1 + 1) = some (I3, nI (perN c L)) := e3'
    have ec : I2 (tk t) 1 = nI c := by rw [g3 (tk t) (by omega) (by omega)]; exact e1
    have hk97 : kX (76 + 21) = 1 := dv97.1
    simp only [fSp_setLoad_56, ck_t k76, ck_t hk.2.1, ck_t hk.1, ck_t hk97, ec, e3'', bi_s, let_e]
    refine ⟨_, rfl, ?_, up_same, fun k hk7 => ?_, fun z z1 z2 z3 z4 => ?_⟩
    · refine g1.keep ?_ ?_
      · rw [ek_up_ne (by omega)]
        exact f3 _ (by simp; omega)
      · rw [ek_up_ne (by omega)]
        exact f3 _ (by simp; omega)
    · rw [up_ne (fun q => hk7 q.2), f3 _ (by simp; omega), g3 _ (by omega) (by omega)]
    · rw [ek_up_ne z1, f3 z (by simpa using z4), g3 z z2 z3]
  simp only [fSp_setLoad, fSp_setLoad_0, ck_t hk.1, let_e, e13]
  have hk92 : kX (76 + 16) = 2 := fr92.1
  cases p with
  | true =>
    rw [if_neg (show ¬ bI true = (0 : Int32) by decide), e1, e3]
    obtain ⟨I2, e2', g2, f2⟩ := s_frset (I := I) (f := tk t + 1) (a := c) (b := l) hF (by omega) (by omega) (by omega)
    have hLe : mkRat ((c : Nat) : Int) l = L := by rw [← hL]; rfl
    rw [hLe] at g2
    simp only [ck_t hk.2.1, e2', bv_s]
    refine fin I2 g2 ?_ f2
    rw [← hLe]
    refine Nat.le_trans (den_mk (by omega)) ?_
    have h7 : 1 ≤ PB * 1000 := by decide +kernel
    have := Nat.mul_le_mul h7 h4
    omega
  | false =>
    rw [if_pos (show bI false = (0 : Int32) from rfl)]
    obtain ⟨I2, e2', g2, f2⟩ := s_frcopy (I := I) (f := tk t + 1) (g := 92) hF fr92 (by omega) hv.2
    have e2'' : fFr_copy kX I (tk t + 1) (76 + 16) = some I2 := e2'
    have hd1000 : v.den * f ≤ PB * 1000 := Nat.mul_le_mul hvd h6
    have e42 : I2 (tk t) 4 = nI f := by rw [f2 _ (by omega) (by omega)]; exact e4
    obtain ⟨I3, e3', g3, f3⟩ := s_divideBy (I := I2) (f := tk t + 1) (d := f) hF ⟨hv.1, g2⟩ (by omega) (by omega) (by omega)
    have evf : v / (f : Rat) = v * mkRat ((1 : Nat) : Int) f := by
      rw [Rat.mkRat_eq_div, Rat.div_def, Rat.div_def]
      show v * _ = v * (1 * _)
      rw [Rat.one_mul]
    rw [evf] at g3
    have hXle : v * mkRat ((1 : Nat) : Int) f ≤ ((1 : Nat) : Rat) := by
      have h7 := hp rfl
      have h8 : mkRat ((c : Nat) : Int) s ≤ 1 := mk_le1 (by omega) (by omega)
      show _ ≤ (1 : Rat)
      grind
    have hXd : (v * mkRat ((1 : Nat) : Int) f).den ≤ PB * 1000 := by
      have h7 : (v * mkRat ((1 : Nat) : Int) f).den ≤ v.den * (mkRat ((1 : Nat) : Int) f).den := by
        rw [Rat.mul_def']
        exact den_mk (Nat.mul_pos (rat_den_pos _) (rat_den_pos _))
      exact Nat.le_trans h7 (Nat.mul_le_mul hvd (Nat.le_trans (den_mk (by omega)) h6))
    have hm1 : ((-1 : Int) : Rat) * (v * mkRat ((1 : Nat) : Int) f) + mkRat ((c : Nat) : Int) s = L := by
      rw [← hL]
      show (-1 : Rat) * _ + _ = mkRat c s - v * mkRat (1 : Nat) f
      grind
    have e12 : I3 (tk t) 1 = nI c := by rw [f3 _ (by omega) (by omega), f2 _ (by omega) (by omega)]; exact e1
    have e22 : I3 (tk t) 2 = nI s := by rw [f3 _ (by omega) (by omega), f2 _ (by omega) (by omega)]; exact e2
    obtain ⟨I4, e4', g4, f4, d4⟩ := s_joinB (I := I3) (f := tk t + 1) (σ := -1) (ia := (c : Int)) (ib := s) (M := 1) (D := PB * 1000) hF g3 rfl (by omega) (by omega) (by simp; omega) (by rw [hm1]; exact Rat.le_of_lt hL0) hXle hXd (by omega)
    rw [hm1] at g4 d4
    have e4'' : fFr_join kX I3 (tk t + 1) (-1 : Int32) (nI c) (nI s) = some I4 := by
      have ec : Int32.ofInt (c : Int) = nI c := Int32.ofInt_eq_ofNat
      rw [ec] at e4'
      exact e4'
    simp only [ck_t k76, ck_t hk.2.1, e2'', bv_s, e42, e3', e12, e22, e4'']
    exact fin I4 g4 (Nat.le_trans d4 (Nat.mul_le_mul_left _ (by omega))) (fun z z1 z2 => by rw [f4 z z1 z2, f3 z z1 z2, f2 z z1 z2])
theorem s_inUse {I : ek_St} {X : Rat} (h : FrQ I 77 X) (hX : X ≤ 1) (hd : X.den ≤ 20000 ^ 12) : ∃ I', fSp_thousandthsInUse kX I 76 = some (I', nI (X.num.toNat * 1000 / X.den + if X.num.toNat * 1000 % X.den = 0 then 0 else 1)) ∧ Fx [99, 101, 103] I I' := by
  have hn := num_le (M := 1) h.1 hX
  have hp := rat_den_pos X
  have hbig : 20000 ^ 12 * 1000 < 2 ^ (24 * 16) := by decide +kernel
  have hq : X.num.toNat * 1000 / X.den < 16777216 := by
    have h1 : X.num.toNat * 1000 ≤ X.den * 1000 := Nat.mul_le_mul_right _ (by omega)
    have h2 : X.num.toNat * 1000 / X.den ≤ 1000 := Nat.div_le_of_le_mul h1
    omega
  have hr := s_ratioUp (I := I) (v := 97) (x := 77 + 1) (y := 77 + 3) (f := 1000) dv97 fr77.2.1 fr77.2.2 (by decide) (by decide) (by decide) h.2.1 h.2.2 hp (by decide) (by
    have h0 : X.num.toNat ≤ 20000 ^ 12 := Nat.le_trans (by simpa using hn) hd
    have h1 : X.num.toNat * 1000 ≤ 20000 ^ 12 * 1000 := Nat.mul_le_mul_right _ h0
    exact Nat.lt_of_le_of_lt h1 hbig) hq
  obtain ⟨I', e, f⟩ := hr
  have e' : fDv_ratioUp kX I (76 + 21) (76 + 1 + 1) (1000 : Int32) (76 + 1 + 3) = some (I', nI (X.num.toNat * 1000 / X.den + if X.num.toNat * 1000 % X.den = 0 then 0 else 1)) := e
  have hk77 : kX (76 + 1) = 2 := fr77.1
  have hk97 : kX (76 + 21) = 1 := dv97.1
  refine ⟨I', ?_, f⟩
  simp only [fSp_thousandthsInUse, fSp_thousandthsInUse_0, ck_t k76, ck_t hk77, ck_t hk97, e', bi_s]
