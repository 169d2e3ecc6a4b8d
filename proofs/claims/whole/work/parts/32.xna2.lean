/-! Natural: comparing, remainder, exact division -/
def sg (z : Int) : Int32 := if z < 0 then -1 else if z = 0 then 0 else 1
theorem jIN (n : Nat) : jI n = lN n := Int64.ofInt_eq_ofNat
theorem jI_or {a b : Nat} (ha : a < 16777216) (hb : b < 16777216) : jI a ||| jI b = jI ((a ||| b : Nat) : Int) := by
  have hab : a ||| b < 2 ^ 24 := Nat.or_lt_two_pow ha hb
  apply Int64.toBitVec_inj.mp
  apply BitVec.eq_of_toNat_eq
  rw [Int64.toBitVec_or, BitVec.toNat_or]
  have e : ∀ n : Nat, n < 2 ^ 24 → (jI n).toBitVec.toNat = n := by
    intro n hn
    show (BitVec.ofInt 64 n).toNat = n
    rw [BitVec.toNat_ofInt]
    omega
  rw [e a ha, e b hb, e _ hab]
theorem nor_0 {a b : Nat} : a ||| b = 0 ↔ a = 0 ∧ b = 0 := by
  constructor
  · intro h
    have h1 : a ≤ a ||| b := Nat.left_le_or
    have h2 : b ≤ a ||| b := Nat.right_le_or
    omega
  · rintro ⟨rfl, rfl⟩
    rfl
theorem cA_mod0 (a b : Nat) (w v : Int) : ∀ n, (∀ i, i < n → cA a b w v (i + 1) / ((2 ^ (24 * i) : Nat) : Int) % 16777216 = 0) → cA a b w v n % ((2 ^ (24 * n) : Nat) : Int) = 0 := by
  intro n
  induction n with
  | zero => intro _; rw [cA_0]; rfl
  | succ n ih =>
    intro h
    have h1 := ih (fun i hi => h i (by omega))
    have h2 := h n (by omega)
    have h3 : cA a b w v (n + 1) % ((2 ^ (24 * n) : Nat) : Int) = 0 := by
      rw [cA_succ, Int.add_mul_emod_self_left]
      exact h1
    have h4 := Int.mul_ediv_add_emod (cA a b w v (n + 1)) ((2 ^ (24 * n) : Nat) : Int)
    rw [p24, Int.natCast_mul]
    generalize cA a b w v (n + 1) / ((2 ^ (24 * n) : Nat) : Int) = S at *
    rw [← h4, h3, Int.add_zero]
    have h5 : S = 16777216 * (S / 16777216) := by omega
    rw [h5, ← Int.mul_assoc]
    exact Int.mul_emod_right _ _
theorem cA_top {a b n : Nat} {w v : Int} (ha : a < 2 ^ (24 * n)) (hb : b < 2 ^ (24 * n)) : cA a b w v n = a * w + b * v := by
  unfold cA
  rw [Nat.mod_eq_of_lt ha, Nat.mod_eq_of_lt hb]
theorem lg_ge0 {c : Int} (h1 : -9223372036854775808 ≤ c) (h2 : c < 9223372036854775808) : (0 : Int32) ≤ lg_cmp (jI c) (0 : Int64) ↔ 0 ≤ c := by
  rw [lg_cmp_ge, Int64.le_iff_toInt_le, jI_toInt h1 h2]
  exact Iff.rfl
theorem lg_eq0 {c : Int} (h1 : -9223372036854775808 ≤ c) (h2 : c < 9223372036854775808) : lg_cmp (jI c) (0 : Int64) = (0 : Int32) ↔ c = 0 := by
  have e : jI c = 0 ↔ c = 0 := by
    rw [← Int64.toInt_inj, jI_toInt h1 h2]
    exact Iff.rfl
  unfold lg_cmp
  constructor
  · intro h
    split at h
    · exact absurd h (by decide)
    · split at h
      · rename_i h3; exact e.mp h3
      · exact absurd h (by decide)
  · rintro rfl
    rfl
theorem s_compareProducts {kd : Nat → Nat} {I : ek_St} {x y a b : Nat} {w v : Int} (hx : NatK kd x) (hy : NatK kd y) (ha : Hr I (x + 1) 0 16 a) (hb : Hr I (y + 1) 0 16 b) (hm : (w.natAbs : Int) + v.natAbs ≤ 274877906944) :
    fNa_compareProducts kd I x (jI w) y (jI v) = some (I, sg (a * w - b * v)) := by
  have hm2 : (w.natAbs : Int) + (-v).natAbs ≤ 274877906944 := by rw [Int.natAbs_neg]; exact hm
  have goal : ∃ q, fNa_compareProducts kd I x (jI w) y (jI v) = some q ∧ q = (I, sg (a * w - b * v)) := by
    unfold fNa_compareProducts fNa_compareProducts_0
    refine lp_for (fun i q => ∃ ρ : Nat, q = (I, x, jI w, y, jI v, jI (cA a b w (-v) i / ((2 ^ (24 * i) : Nat) : Int)), jI ρ, nI i) ∧ ρ < 16777216 ∧ (ρ = 0 ↔ ∀ j, j < i → cA a b w (-v) (j + 1) / ((2 ^ (24 * j) : Nat) : Int) % 16777216 = 0)) (fun q => q = (I, sg (a * w - b * v))) 16 ⟨0, by rw [cA_0]; rfl, by decide, fun _ j hj => absurd hj (by omega), fun _ => rfl⟩ ?_ ?_
    · rintro k i q hi ⟨ρ, rfl, hρ, hz⟩ hk
      have hc : (nI i).toNatClampNeg = i := nI_clamp (by omega)
      have hin : ek_in (nI i) 16 := ein hi (by decide)
      have es : (dg a i : Int) * w - dg b i * v + cA a b w (-v) i / ((2 ^ (24 * i) : Nat) : Int) = cA a b w (-v) (i + 1) / ((2 ^ (24 * i) : Nat) : Int) := by
        rw [cA_div, Int.mul_neg]
        generalize (dg a i : Int) * w = p1
        generalize (dg b i : Int) * v = p2
        omega
      obtain ⟨b1, b2⟩ := cA_le a b w (-v) (i + 1) hm2
      rw [← cA_next] at b1 b2
      have hnx := cA_next a b w (-v) i
      generalize hS : cA a b w (-v) (i + 1) / ((2 ^ (24 * i) : Nat) : Int) = S at *
      obtain ⟨d, hd⟩ : ∃ d : Nat, S % 16777216 = (d : Int) := ⟨(S % 16777216).toNat, by omega⟩
      have hd2 : d < 16777216 := by omega
      simp only [fNa_compareProducts_9, if_neg (h16 hi), ck_t hx.1, ck_t hx.2, ck_t hy.1, ck_t hy.2, ck_t hin, let_e, hc, ha.at0 hi, hb.at0 hi, dgj, jI_mul, jI_sub, jI_add, es, jI_and, hd, jI_or hρ hd2, jI_shr (show (-9223372036854775808 : Int) ≤ S by omega) (show S < 9223372036854775808 by omega), hnx]
      refine hk _ ⟨ρ ||| d, ?_, Nat.or_lt_two_pow (n := 24) hρ hd2, ?_⟩
      · rw [nI_succ]
      · rw [nor_0, hz]
        constructor
        · rintro ⟨h1, h2⟩ j hj
          by_cases e : j = i
          · subst e
            rw [hS, hd, h2]
            rfl
          · exact h1 j (by omega)
        · intro h
          refine ⟨fun j hj => h j (by omega), ?_⟩
          have := h i (by omega)
          rw [hS, hd] at this
          omega
    · rintro k q ⟨ρ, rfl, hρ, hz⟩
      have htop := cA_top (w := w) (v := -v) ha.1 hb.1
      rw [Int.mul_neg] at htop
      have htop : cA a b w (-v) 16 = a * w - b * v := htop
      obtain ⟨b1, b2⟩ := cA_le a b w (-v) 16 hm2
      have g1 := lg_ge0 (c := cA a b w (-v) 16 / ((2 ^ (24 * 16) : Nat) : Int)) (by omega) (by omega)
      have g2 := lg_eq0 (c := cA a b w (-v) 16 / ((2 ^ (24 * 16) : Nat) : Int)) (by omega) (by omega)
      have g3 := lg_eq0 (c := (ρ : Int)) (by omega) (by omega)
      have hmod := cA_mod0 a b w (-v) 16
      have hw0 : a * w - b * v = 0 → ∀ j, j < 16 → cA a b w (-v) (j + 1) / ((2 ^ (24 * j) : Nat) : Int) % 16777216 = 0 := by
        intro h0 j _
        have := cA_word (r := 0) (a := a) (b := b) (w := w) (v := -v) (by rw [Int.mul_neg]; omega) j
        rw [this, dg_0]
        rfl
      rw [htop] at g1 g2 b1 b2 hmod
      generalize hZ : (a : Int) * w - b * v = Z at *
      have hM : (0 : Int) < ((2 ^ (24 * 16) : Nat) : Int) := by decide
      simp only [fNa_compareProducts_9, if_pos (show (16 : Int32) ≤ nI 16 from nI_le (Nat.le_refl _) (by decide)), htop]
      generalize hMM : ((2 ^ (24 * 16) : Nat) : Int) = M at *
      have hdm := Int.mul_ediv_add_emod Z M
      have hml := Int.emod_lt_of_pos Z hM
      have hmn := Int.emod_nonneg Z (by omega : M ≠ 0)
      refine ⟨_, ?_, rfl⟩
      by_cases hneg : Z < 0
      · have : ¬ 0 ≤ Z / M := by
          intro h
          have := Int.mul_nonneg (Int.le_of_lt hM) h
          omega
        rw [if_neg (fun h => this (g1.mp h))]
        simp [sg, hneg]
      · have h0 : 0 ≤ Z / M := Int.ediv_nonneg (by omega) (Int.le_of_lt hM)
        rw [if_pos (g1.mpr h0)]
        by_cases hz0 : Z = 0
        · have hq0 : Z / M = 0 := by rw [hz0]; exact Int.zero_ediv M
          have hr0 : ρ = 0 := hz.mpr (hw0 hz0)
          rw [if_pos (g2.mpr hq0), if_pos (g3.mpr (by omega))]
          simp [sg, hz0]
        · have hsg : sg Z = 1 := by unfold sg; rw [if_neg hneg, if_neg hz0]
          by_cases hq0 : Z / M = 0
          · have hr0 : ¬ ρ = 0 := by
              intro h
              have := hmod (hz.mp h)
              rw [hq0] at hdm
              omega
            rw [if_pos (g2.mpr hq0), if_neg (fun h => hr0 (by have := g3.mp h; omega)), hsg]
            rfl
          · rw [if_neg (fun h => hq0 (g2.mp h)), hsg]
            rfl
  obtain ⟨q, e, rfl⟩ := goal
  exact e
/-! counting down -/
theorem dn_at {t : Nat} (ht : t < 16) : nI (16 - t) + (-1) = nI (15 - t) := by
  rw [show 16 - t = (15 - t) + 1 by omega, pk_m1]
theorem jI_shl (z : Int) : jI z <<< (Int32.toInt64 (24 : Int32) &&& 63) = jI (z * 16777216) := by
  apply Int64.toBitVec_inj.mp
  apply BitVec.eq_of_toNat_eq
  show ((BitVec.ofInt 64 z) <<< ((Int32.toInt64 (24 : Int32) &&& 63).toBitVec.smod 64).toNat).toNat = (BitVec.ofInt 64 (z * 16777216)).toNat
  rw [show ((Int32.toInt64 (24 : Int32) &&& 63).toBitVec.smod 64).toNat = 24 by decide, BitVec.toNat_shiftLeft, Nat.shiftLeft_eq, BitVec.toNat_ofInt, BitVec.toNat_ofInt]
  omega
theorem dg_top (a i : Nat) : a / 2 ^ (24 * i) = a / 2 ^ (24 * (i + 1)) * 16777216 + dg a i := by
  unfold dg
  rw [p24, ← Nat.div_div_eq_div_mul]
  omega
theorem s_remainder {kd : Nat → Nat} {I : ek_St} {x a d : Nat} (hx : NatK kd x) (ha : Hr I (x + 1) 0 16 a) (h0 : 0 < d) (hd : d < 2 ^ 31) : fNa_remainder kd I x (nI d) = some (I, nI (a % d)) := by
  by_cases h2 : d < 2
  · have e : d = 1 := by omega
    subst e
    have c : ¬ (2 : Int32) ≤ nI 1 := nI_ge (a := 1) (b := 2) (by decide) (by decide)
    simp only [fNa_remainder, fNa_remainder_0, if_neg c, Nat.mod_one]
    rfl
  · have c : (2 : Int32) ≤ nI d := nI_le (a := 2) (by omega) hd
    have goal : ∃ q, fNa_remainder kd I x (nI d) = some q ∧ q = (I, nI (a % d)) := by
      simp only [fNa_remainder, fNa_remainder_0, if_pos c]
      refine lp_for (fun t q => q = (I, x, nI d, jI ((a / 2 ^ (24 * (16 - t)) % d : Nat) : Int), nI (16 - t) + (-1))) (fun q => q = (I, nI (a % d))) 16 ?_ ?_ ?_
      · show _ = _
        rw [Nat.div_eq_of_lt ha.1, Nat.zero_mod]
        rfl
      · rintro k t q ht rfl hk
        have hc : (nI (15 - t)).toNatClampNeg = 15 - t := nI_clamp (by omega)
        have hin : ek_in (nI (15 - t)) 16 := ein (by omega) (by decide)
        have hneg : ¬ nI (15 - t) < (0 : Int32) := nI_pos (by omega)
        have hd0 : ¬ lN d = (0 : Int64) := by
          intro h
          have := (pk_lEQ (a := d) (b := 0) (by omega) (by decide)).mp h
          omega
        have hlt : a / 2 ^ (24 * (16 - t)) % d < d := Nat.mod_lt _ h0
        have hdl : (nI d).toInt64 = lN d := by rw [nI_j hd, jIN]
        have e1 : 16 - t = (15 - t) + 1 := by omega
        have e2 : (a / 2 ^ (24 * (16 - t)) % d) * 16777216 + dg a (15 - t) < 2 ^ 63 := by have := dg_lt a (15 - t); omega
        have e3 : ((a / 2 ^ (24 * (16 - t)) % d : Nat) : Int) * 16777216 + (dg a (15 - t) : Int) = (((a / 2 ^ (24 * (16 - t)) % d) * 16777216 + dg a (15 - t) : Nat) : Int) := by omega
        have e4 : ((a / 2 ^ (24 * (16 - t)) % d) * 16777216 + dg a (15 - t)) % d = a / 2 ^ (24 * (16 - (t + 1))) % d := by
          rw [show 16 - (t + 1) = 15 - t by omega, dg_top a (15 - t), ← e1]
          generalize a / 2 ^ (24 * (16 - t)) = A
          rw [Nat.add_mod, Nat.mul_mod, Nat.mod_mod, ← Nat.mul_mod, ← Nat.add_mod]
        simp only [fNa_remainder_13, dn_at ht, if_neg hneg, ck_t hx.1, ck_t hx.2, ck_t hin, let_e, hc, ha.at0 (show 15 - t < 16 by omega), hdl, ck_t hd0, dgj, jI_shl, jI_add, e3]
        simp only [jIN, pk_lRem e2 h0 (by omega : d < 2 ^ 63), e4]
        refine hk _ ?_
        show _ = _
        rw [jIN, show 16 - (t + 1) = 15 - t by omega]
      · rintro k q rfl
        have hneg : nI (16 - 16) + (-1) < (0 : Int32) := by decide
        simp only [fNa_remainder_13, if_pos hneg]
        refine ⟨_, rfl, ?_⟩
        rw [show 24 * (16 - 16) = 0 by decide, Nat.pow_zero, Nat.div_one, jI_iN]
    obtain ⟨q, e, rfl⟩ := goal
    exact e
theorem jI_N {n : Nat} {z : Int} (h : z = n) : jI z = lN n := by rw [h, jIN]
/-- a region being written from its highest word on: words at m and above are done -/
def PartD (I I' : ek_St) (c o n m r : Nat) : Prop := Fr1 I I' c o n ∧ (∀ j, m ≤ j → j < n → I' c (o + j) = nI (dg r j)) ∧ ∀ j, j < m → I' c (o + j) = I c (o + j)
theorem PartD.start (I : ek_St) (c o n r : Nat) : PartD I I c o n n r := ⟨Fr1.refl _ _ _ _, fun j h1 h2 => absurd h1 (by omega), fun _ _ => rfl⟩
theorem PartD.step {I I' : ek_St} {c o n m r : Nat} (h : PartD I I' c o n (m + 1) r) (hm : m < n) : PartD I (ek_up I' c (o + m) (nI (dg r m))) c o n m r := by
  refine ⟨fun z k hz => ?_, fun j hj hn => ?_, fun j hj => ?_⟩
  · rw [up_ne (by omega)]
    exact h.1 z k hz
  · by_cases e : j = m
    · subst e
      exact up_same
    · rw [up_ne (by omega)]
      exact h.2.1 j (by omega) hn
  · rw [up_ne (by omega)]
    exact h.2.2 j (by omega)
theorem PartD.done {I I' : ek_St} {c o n r : Nat} (h : PartD I I' c o n 0 r) (hr : r < 2 ^ (24 * n)) : Hr I' c o n r ∧ Fr1 I I' c o n := ⟨⟨hr, fun j hj => h.2.1 j (Nat.zero_le _) hj⟩, h.1⟩
theorem div_dg {a d i : Nat} (h0 : 0 < d) : (a / 2 ^ (24 * (i + 1)) % d * 16777216 + dg a i) / d = dg (a / d) i := by
  have h1 : dg (a / d) i = a / 2 ^ (24 * i) / d % 16777216 := by
    unfold dg
    rw [Nat.div_div_eq_div_mul, Nat.mul_comm, ← Nat.div_div_eq_div_mul]
  have h2 := dg_top a i
  have h3 := dg_lt a i
  rw [h1, h2]
  generalize a / 2 ^ (24 * (i + 1)) = A
  generalize dg a i = e at *
  have h4 := Nat.div_add_mod A d
  have h5 := Nat.mod_lt A h0
  generalize A / d = Q at *
  generalize A % d = ρ at *
  rw [← h4]
  have h6 : (d * Q + ρ) * 16777216 + e = ρ * 16777216 + e + d * (Q * 16777216) := by
    rw [Nat.add_mul, Nat.mul_assoc]
    omega
  rw [h6, Nat.add_mul_div_left _ _ h0, Nat.add_mul_mod_self_right]
  refine (Nat.mod_eq_of_lt ?_).symm
  apply Nat.div_lt_of_lt_mul
  have : (ρ + 1) * 16777216 ≤ d * 16777216 := Nat.mul_le_mul_right _ h5
  omega
theorem s_divideExactly {kd : Nat → Nat} {I : ek_St} {x a d : Nat} (hx : NatK kd x) (ha : Hr I (x + 1) 0 16 a) (h0 : 0 < d) (hd : d < 2 ^ 31) :
    ∃ I', fNa_divideExactly kd I x (nI d) = some I' ∧ Hr I' (x + 1) 0 16 (a / d) ∧ Fr1 I I' (x + 1) 0 16 := by
  by_cases h2 : d < 2
  · have e : d = 1 := by omega
    subst e
    have c : ¬ (2 : Int32) ≤ nI 1 := nI_ge (a := 1) (b := 2) (by decide) (by decide)
    simp only [fNa_divideExactly, fNa_divideExactly_0, if_neg c, Nat.div_one]
    exact ⟨I, rfl, ha, Fr1.refl _ _ _ _⟩
  · have c : (2 : Int32) ≤ nI d := nI_le (a := 2) (by omega) hd
    simp only [fNa_divideExactly, fNa_divideExactly_0, if_pos c]
    refine lp_for (fun t q => ∃ I', q = (I', x, nI d, jI ((a / 2 ^ (24 * (16 - t)) % d : Nat) : Int), nI (16 - t) + (-1)) ∧ PartD I I' (x + 1) 0 16 (16 - t) (a / d)) (fun I' => Hr I' (x + 1) 0 16 (a / d) ∧ Fr1 I I' (x + 1) 0 16) 16 ⟨I, ?_, PartD.start _ _ _ _ _⟩ ?_ ?_
    · rw [Nat.div_eq_of_lt ha.1, Nat.zero_mod]
      rfl
    · rintro k t q ht ⟨I', rfl, hp⟩ hk
      have hc : (nI (15 - t)).toNatClampNeg = 15 - t := nI_clamp (by omega)
      have hin : ek_in (nI (15 - t)) 16 := ein (by omega) (by decide)
      have hneg : ¬ nI (15 - t) < (0 : Int32) := nI_pos (by omega)
      have hd0 : ¬ lN d = (0 : Int64) := by
        intro h
        have := (pk_lEQ (a := d) (b := 0) (by omega) (by decide)).mp h
        omega
      have hlt : a / 2 ^ (24 * (16 - t)) % d < d := Nat.mod_lt _ h0
      have hdl : (nI d).toInt64 = lN d := by rw [nI_j hd, jIN]
      have e1 : 16 - t = (15 - t) + 1 := by omega
      have e2 : (a / 2 ^ (24 * (16 - t)) % d) * 16777216 + dg a (15 - t) < 2 ^ 63 := by have := dg_lt a (15 - t); omega
      have e3 : ((a / 2 ^ (24 * (16 - t)) % d : Nat) : Int) * 16777216 + (dg a (15 - t) : Int) = (((a / 2 ^ (24 * (16 - t)) % d) * 16777216 + dg a (15 - t) : Nat) : Int) := by omega
      have e4 : ((a / 2 ^ (24 * (16 - t)) % d) * 16777216 + dg a (15 - t)) % d = a / 2 ^ (24 * (16 - (t + 1))) % d := by
        rw [show 16 - (t + 1) = 15 - t by omega, dg_top a (15 - t), ← e1]
        generalize a / 2 ^ (24 * (16 - t)) = A
        rw [Nat.add_mod, Nat.mul_mod, Nat.mod_mod, ← Nat.mul_mod, ← Nat.add_mod]
      have e5 : ((a / 2 ^ (24 * (16 - t)) % d) * 16777216 + dg a (15 - t)) / d = dg (a / d) (15 - t) := by rw [e1]; exact div_dg h0
      have e6 : I' (x + 1) (15 - t) = nI (dg a (15 - t)) := by
        have := hp.2.2 (15 - t) (by omega)
        rw [Nat.zero_add] at this
        rw [this, ha.at0 (by omega)]
      simp only [fNa_divideExactly_12, dn_at ht, if_neg hneg, ck_t hx.1, ck_t hx.2, ck_t hin, let_e, hc, e6, hdl, ck_t hd0, dgj, jI_shl, jI_add, e3]
      have e7 := pk_lRem e2 h0 (by omega : d < 2 ^ 63)
      rw [pk_lDiv e2 h0 (by omega : d < 2 ^ 63), e4, e5] at e7
      simp only [jIN, pk_lDiv e2 h0 (by omega : d < 2 ^ 63), e5, e7, lN_i]
      rw [e1] at hp
      have hp := hp.step (by omega)
      rw [Nat.zero_add] at hp
      refine hk _ ⟨ek_up I' (x + 1) (15 - t) (nI (dg (a / d) (15 - t))), ?_, ?_⟩
      · rw [jIN, show 16 - (t + 1) = 15 - t by omega]
      · rw [show 16 - (t + 1) = 15 - t by omega]
        exact hp
    · rintro k q ⟨I', rfl, hp⟩
      have hneg : nI (16 - 16) + (-1) < (0 : Int32) := by decide
      simp only [fNa_divideExactly_12, if_pos hneg]
      exact ⟨_, rfl, hp.done (Nat.lt_of_le_of_lt (Nat.div_le_self _ _) ha.1)⟩
