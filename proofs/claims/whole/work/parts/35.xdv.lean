/-! THE CLASS'S Divider -/
def Fx (L : List Nat) (I I' : ek_St) : Prop := ∀ z, z ∉ L → I' z = I z
theorem Fx.refl (L : List Nat) (I : ek_St) : Fx L I I := fun _ _ => rfl
theorem Fx.trans {L : List Nat} {I I1 I2 : ek_St} (h : Fx L I I1) (h2 : Fx L I1 I2) : Fx L I I2 := fun z hz => (h2 z hz).trans (h z hz)
theorem Fx.mono {L L' : List Nat} {I I' : ek_St} (h : Fx L I I') (hs : ∀ z, z ∈ L → z ∈ L') : Fx L' I I' := fun z hz => h z (fun q => hz (hs z q))
theorem Fr1.x {L : List Nat} {I I' : ek_St} {c o n : Nat} (h : Fr1 I I' c o n) (hc : c ∈ L) : Fx L I I' := fun z hz => h.ne (fun e => hz (by rw [e]; exact hc))
theorem Fr2.x {L : List Nat} {I I' : ek_St} {f : Nat} (h : Fr2 I I' f) (h1 : f + 1 + 1 ∈ L) (h2 : f + 3 + 1 ∈ L) : Fx L I I' := fun z hz => h z (fun e => hz (by rw [e]; exact h1)) (fun e => hz (by rw [e]; exact h2))
theorem Hr.x {L : List Nat} {I I' : ek_St} {w o n v : Nat} (h : Hr I w o n v) (f : Fx L I I') (hw : w ∉ L) : Hr I' w o n v := h.cell (f w hw)
theorem sg_neg (z : Int) : sg z < (0 : Int32) ↔ z < 0 := by
  unfold sg
  by_cases h : z < 0
  · simp [h]
  · by_cases h2 : z = 0
    · simp [h2]
    · rw [if_neg h, if_neg h2]
      simp [h]
theorem sg_pos (z : Int) : (0 : Int32) < sg z ↔ 0 < z := by
  unfold sg
  by_cases h : z < 0
  · rw [if_pos h]
    constructor
    · intro q; exact absurd q (by decide)
    · intro q; omega
  · by_cases h2 : z = 0
    · simp [h2]
    · rw [if_neg h, if_neg h2]
      simp
      omega
theorem sg_zero (z : Int) : sg z = (0 : Int32) ↔ z = 0 := by
  unfold sg
  by_cases h : z < 0
  · rw [if_pos h]
    constructor
    · intro q; exact absurd q (by decide)
    · intro q; omega
  · by_cases h2 : z = 0
    · simp [h2]
    · rw [if_neg h, if_neg h2]
      simp [h2]
theorem bl_pow {v : Nat} : v < 2 ^ bl v := by
  unfold bl
  split
  · omega
  · exact Nat.lt_log2_self
theorem bl_le {v : Nat} (h : 0 < v) : 2 ^ (bl v - 1) ≤ v := by
  unfold bl
  rw [if_neg (by omega), Nat.add_sub_cancel]
  exact Nat.log2_self_le (by omega)
def DvK (kd : Nat → Nat) (v : Nat) : Prop := kd v = 1 ∧ NatK kd (v + 1) ∧ NatK kd (v + 3) ∧ NatK kd (v + 5) ∧ NatK kd (v + 7)
theorem s_divide {kd : Nat → Nat} {I : ek_St} {v x y a b : Nat} (hv : DvK kd v) (hx : NatK kd x) (hy : NatK kd y) (hxy : x ≠ y) (hx1 : x ≠ v + 1) (hx3 : x ≠ v + 3) (hy1 : y ≠ v + 1) (hy3 : y ≠ v + 3) (ha : Hr I (x + 1) 0 16 a) (hb : Hr I (y + 1) 0 16 b) (h0 : 0 < b) :
    ∃ I', fDv_divide kd I v x y = some I' ∧ Hr I' (v + 1 + 1) 0 16 (a / b) ∧ Hr I' (x + 1) 0 16 (a % b) ∧ Fx [v + 1 + 1, v + 3 + 1, x + 1] I I' := by
  obtain ⟨I1, e1, g1, f1⟩ := s_set (I := I) (f := 0) hv.2.1 (by decide)
  have fx1 : Fx [v + 1 + 1, v + 3 + 1, x + 1] I I1 := f1.x (by simp)
  have ha1 : Hr I1 (x + 1) 0 16 a := ha.fr f1 (Or.inl (by omega))
  have hb1 : Hr I1 (y + 1) 0 16 b := hb.fr f1 (Or.inl (by omega))
  have hbl := bl_lt ha.1
  have hblb := bl_lt hb.1
  have hb0 : bl b ≠ 0 := mt bl_0.mp (by omega)
  have c0 : ¬ nI (bl b) = (0 : Int32) := nI_ne0 (by omega) (by omega)
  simp only [fDv_divide, fDv_divide_0, ck_t hv.1, ck_t hv.2.1.1, ck_t hx.1, ck_t hy.1]
  have e1' : fNa_set kd I (v + 1) (0 : Int32) = some I1 := e1
  rw [e1', bv_s]
  simp only [s_bitLength hy hb1, bi_s, s_bitLength hx ha1, let_e]
  rw [if_neg c0]
  by_cases hlt : bl a < bl b
  · -- no turn at all
    have hab : a < b := by
      have h1 := bl_pow (v := a)
      have h2 := bl_le h0
      have h3 : 2 ^ bl a ≤ 2 ^ (bl b - 1) := Nat.pow_le_pow_right (by decide) (by omega)
      omega
    have cneg : nI (bl a) - nI (bl b) < (0 : Int32) := pk_sneg (by omega) hlt
    refine ⟨I1, ?_, ?_, ?_, fx1⟩
    · show fDv_divide_26 kd _ I1 v x y (nI (bl a) - nI (bl b)) = some I1
      unfold fDv_divide_26
      rw [if_pos cneg]
    · rw [Nat.div_eq_of_lt hab]
      exact g1
    · rw [Nat.mod_eq_of_lt hab]
      exact ha1
  · have hsub : nI (bl a) - nI (bl b) = nI (bl a + 1 - bl b) + (-1) := by
      rw [pk_sub (by omega), show bl a + 1 - bl b = (bl a - bl b) + 1 by omega, pk_m1]
    rw [hsub]
    refine lp_for (fun t q => ∃ I' A Q, q = (I', v, x, y, nI (bl a + 1 - bl b - t) + (-1)) ∧ Hr I' (v + 1 + 1) 0 16 (Q * 2 ^ (bl a + 1 - bl b - t)) ∧ Hr I' (x + 1) 0 16 A ∧ Hr I' (y + 1) 0 16 b ∧ Q * 2 ^ (bl a + 1 - bl b - t) * b + A = a ∧ A < b * 2 ^ (bl a + 1 - bl b - t) ∧ Fx [v + 1 + 1, v + 3 + 1, x + 1] I I') (fun I' => Hr I' (v + 1 + 1) 0 16 (a / b) ∧ Hr I' (x + 1) 0 16 (a % b) ∧ Fx [v + 1 + 1, v + 3 + 1, x + 1] I I') (bl a + 1 - bl b) ⟨I1, a, 0, rfl, by rw [Nat.zero_mul]; exact g1, ha1, hb1, by simp, ?_, fx1⟩ ?_ ?_ (by omega)
    · rw [Nat.sub_zero]
      have h1 := bl_pow (v := a)
      have h2 := bl_le h0
      have h3 : 2 ^ bl a = 2 ^ (bl b - 1) * 2 ^ (bl a + 1 - bl b) := by
        rw [← Nat.pow_add]
        congr 1
        omega
      have h4 : 2 ^ (bl b - 1) * 2 ^ (bl a + 1 - bl b) ≤ b * 2 ^ (bl a + 1 - bl b) := Nat.mul_le_mul_right _ h2
      omega
    · rintro k t q ht ⟨I2, A, Q, rfl, k1, k2, k3, k4, k5, k6⟩ hk
      obtain ⟨n, hn⟩ : ∃ n, bl a + 1 - bl b - t = n + 1 := ⟨bl a - bl b - t, by omega⟩
      have hn2 : bl a + 1 - bl b - (t + 1) = n := by omega
      rw [hn] at k1 k4 k5 ⊢
      rw [hn2] at hk
      have cpos : ¬ nI n < (0 : Int32) := nI_pos (by omega)
      have hSlt : b * 2 ^ n < 2 ^ (24 * 16) := by
        have h1 := bl_pow (v := b)
        have h2 : b * 2 ^ n < 2 ^ bl b * 2 ^ n := Nat.mul_lt_mul_of_pos_right h1 (Nat.two_pow_pos _)
        rw [← Nat.pow_add] at h2
        have h3 : 2 ^ (bl b + n) ≤ 2 ^ (24 * 16) := Nat.pow_le_pow_right (by decide) (by omega)
        omega
      obtain ⟨I3, e3, g3, f3⟩ := s_setShifted (I := I2) hv.2.2.1 hy (by omega) k3 (show n < 384 by omega) hSlt
      have k1' := k1.fr f3 (Or.inl (by omega))
      have k2' := k2.fr f3 (Or.inl (by omega))
      have k3' := k3.fr f3 (Or.inl (by omega))
      have fx3 : Fx [v + 1 + 1, v + 3 + 1, x + 1] I I3 := k6.trans (f3.x (by simp))
      have hcmp := s_compareProducts (w := 1) (v := 1) hx hv.2.2.1 k2' g3 (by decide)
      have hpow : Q * 2 ^ (n + 1) = Q * 2 * 2 ^ n := by rw [Nat.pow_succ, Nat.mul_assoc, Nat.mul_comm 2 (2 ^ n)]
      simp only [fDv_divide_26, pk_m1, if_neg cpos, ck_t hv.1, ck_t hv.2.1.1, ck_t hv.2.2.1.1, ck_t hx.1, e3, bv_s]
      rw [show (1 : Int64) = jI 1 from rfl, hcmp, bi_s]
      by_cases hge : A < b * 2 ^ n
      · rw [if_pos ((sg_neg _).mpr (by have : (A : Int) < (b * 2 ^ n : Nat) := by exact_mod_cast hge
                                       omega))]
        simp only [fDv_divide_75, let_e]
        exact hk _ ⟨I3, A, Q * 2, rfl, by rw [← hpow]; exact k1', k2', k3', by rw [← hpow]; exact k4, hge, fx3⟩
      · have hge' : b * 2 ^ n ≤ A := by omega
        rw [if_neg (mt (sg_neg _).mp (by have : ((b * 2 ^ n : Nat) : Int) ≤ A := by exact_mod_cast hge'
                                         omega))]
        obtain ⟨I4, e4, g4, f4⟩ := s_weigh (I := I3) (w := 1) (v := -1) (r := A - b * 2 ^ n) hx hv.2.2.1 k2' g3 (by omega) (Nat.lt_of_le_of_lt (Nat.sub_le _ _) k2.1) (by decide)
        have k1'' := k1'.fr f4 (Or.inl (by omega))
        have k3'' := k3'.fr f4 (Or.inl (by omega))
        obtain ⟨I5, e5, g5, f5⟩ := s_setBit (I := I4) hv.2.1 k1'' (show n < 384 by omega)
        have hor : Q * 2 ^ (n + 1) ||| 2 ^ n = (Q * 2 + 1) * 2 ^ n := by
          rw [Nat.mul_comm Q, ← Nat.two_pow_add_eq_or_of_lt (Nat.pow_lt_pow_right (by decide) (Nat.lt_succ_self n)), Nat.mul_comm _ Q, hpow, Nat.add_mul, Nat.one_mul]
        rw [show -jI 1 = jI (-1) from rfl, e4, bv_s, e5, bv_s]
        simp only [fDv_divide_75, let_e]
        refine hk _ ⟨I5, A - b * 2 ^ n, Q * 2 + 1, rfl, by rw [← hor]; exact g5, g4.fr f5 (Or.inl (by omega)), k3''.fr f5 (Or.inl (by omega)), ?_, ?_, (fx3.trans (f4.x (by simp))).trans (f5.x (by simp))⟩
        · rw [Nat.add_mul, Nat.one_mul, ← hpow, Nat.add_mul, Nat.mul_comm (2 ^ n) b]
          omega
        · rw [Nat.pow_succ, ← Nat.mul_assoc] at k5
          omega
    · rintro k q ⟨I2, A, Q, rfl, k1, k2, k3, k4, k5, k6⟩
      rw [Nat.sub_self, Nat.pow_zero, Nat.mul_one] at k1 k4 k5
      have cneg : nI (bl a + 1 - bl b - (bl a + 1 - bl b)) + (-1) < (0 : Int32) := by
        rw [Nat.sub_self]
        decide
      simp only [fDv_divide_26, if_pos cneg]
      have hdiv : a / b = Q := by
        rw [← k4, Nat.mul_comm Q b, Nat.mul_add_div h0, Nat.div_eq_of_lt k5, Nat.add_zero]
      have hmod : a % b = A := by
        rw [← k4, Nat.mul_comm Q b, Nat.mul_add_mod, Nat.mod_eq_of_lt k5]
      exact ⟨I2, rfl, by rw [hdiv]; exact k1, by rw [hmod]; exact k2, k6⟩
theorem s_ratioUp {kd : Nat → Nat} {I : ek_St} {v x y a b f : Nat} (hv : DvK kd v) (hx : NatK kd x) (hy : NatK kd y) (hy1 : y ≠ v + 1) (hy3 : y ≠ v + 3) (hy5 : y ≠ v + 5) (ha : Hr I (x + 1) 0 16 a) (hb : Hr I (y + 1) 0 16 b) (h0 : 0 < b) (hf : f < 2 ^ 31) (hr : a * f < 2 ^ (24 * 16)) (hq : a * f / b < 16777216) :
    ∃ I', fDv_ratioUp kd I v x (nI f) y = some (I', nI (a * f / b + if a * f % b = 0 then 0 else 1)) ∧ Fx [v + 1 + 1, v + 3 + 1, v + 5 + 1] I I' := by
  obtain ⟨I1, e1, g1, f1⟩ := s_copy (I := I) hv.2.2.2.1 hx ha
  obtain ⟨I2, e2, g2, f2⟩ := s_multiply (I := I1) hv.2.2.2.1 g1 hf hr
  obtain ⟨I3, e3, g3, g4, f3⟩ := s_divide (I := I2) hv hv.2.2.2.1 hy (by omega) (by omega) (by omega) hy1 hy3 g2 ((hb.fr f1 (Or.inl (by omega))).fr f2 (Or.inl (by omega))) h0
  have w := s_word hv.2.1 g3 0 (by decide) (by decide)
  have w' : fNa_word kd I3 (v + 1) (0 : Int32) = some (I3, nI (dg (a * f / b) 0)) := w
  have d0 : dg (a * f / b) 0 = a * f / b := by
    unfold dg
    rw [Nat.mul_zero, Nat.pow_zero, Nat.div_one, Nat.mod_eq_of_lt hq]
  rw [d0] at w'
  refine ⟨I3, ?_, ((f1.x (by simp)).trans (f2.x (by simp))).trans f3⟩
  simp only [fDv_ratioUp, fDv_ratioUp_0, ck_t hv.1, ck_t hv.2.1.1, ck_t hv.2.2.2.1.1, e1, bv_s, e2, e3, w', bi_s, s_isZero hv.2.2.2.1 g4]
  by_cases h : a * f % b = 0
  · rw [if_pos h, h]
    rw [if_neg (show ¬ bI (0 == 0) = (0 : Int32) by decide)]
    simp only [fDv_ratioUp_48]
    rw [show (0 : Int32) = nI 0 from rfl, nI_add]
  · rw [if_neg h]
    have : (a * f % b == 0) = false := by simpa using h
    rw [this, if_pos (show bI false = (0 : Int32) by decide)]
    simp only [fDv_ratioUp_48]
    rw [show (1 : Int32) = nI 1 from rfl, nI_add]
theorem pw768 : 2 ^ (24 * 16) * 2 ^ (24 * 16) = 2 ^ 768 := by rw [← Nat.pow_add]
theorem s_reduce {kd : Nat → Nat} {I : ek_St} {v f a b : Nat} (hv : DvK kd v) (hf : FrK kd f) (hd : f + 4 < v ∨ v + 8 < f) (hX : FrH I f a b) (h0 : 0 < b) :
    ∃ I', fDv_reduce kd I v f = some I' ∧ FrH I' f (a / Nat.gcd a b) (b / Nat.gcd a b) ∧ Fx [f + 1 + 1, f + 3 + 1, v + 1 + 1, v + 3 + 1, v + 5 + 1, v + 7 + 1] I I' := by
  have hg : 0 < Nat.gcd a b := Nat.gcd_pos_of_pos_right _ h0
  -- the end
  have fin : ∀ (I1 : ek_St) (x g : Nat), (x = v + 5 ∨ x = v + 7) → g = Nat.gcd a b → Hr I1 (x + 1) 0 16 g → FrH I1 f a b → Fx [f + 1 + 1, f + 3 + 1, v + 1 + 1, v + 3 + 1, v + 5 + 1, v + 7 + 1] I I1 → ∃ I', fDv_reduce_70 kd I1 v f x = some I' ∧ FrH I' f (a / Nat.gcd a b) (b / Nat.gcd a b) ∧ Fx [f + 1 + 1, f + 3 + 1, v + 1 + 1, v + 3 + 1, v + 5 + 1, v + 7 + 1] I I' := by
    intro I1 x g hx hgE hg1 hF hFx
    subst hgE
    have hxk : NatK kd x := by rcases hx with rfl | rfl; exact hv.2.2.2.1; exact hv.2.2.2.2
    obtain ⟨I2, e2, g2, g2', f2⟩ := s_divide (I := I1) hv hf.2.1 hxk (by omega) (by omega) (by omega) (by omega) (by omega) hF.1 hg1 hg
    have hF2 : Hr I2 (f + 3 + 1) 0 16 b := hF.2.x f2 (by simp; omega)
    have hg2 : Hr I2 (x + 1) 0 16 (Nat.gcd a b) := hg1.x f2 (by simp; omega)
    obtain ⟨I3, e3, g3, f3⟩ := s_copy (I := I2) hf.2.1 hv.2.1 g2
    have hF3 := hF2.fr f3 (Or.inl (by omega))
    have hg3 := hg2.fr f3 (Or.inl (by omega))
    obtain ⟨I4, e4, g4, g4', f4⟩ := s_divide (I := I3) hv hf.2.2 hxk (by omega) (by omega) (by omega) (by omega) (by omega) hF3 hg3 hg
    have hA4 : Hr I4 (f + 1 + 1) 0 16 (a / Nat.gcd a b) := g3.x f4 (by simp; omega)
    obtain ⟨I5, e5, g5, f5⟩ := s_copy (I := I4) hf.2.2 hv.2.1 g4
    refine ⟨I5, ?_, ⟨hA4.fr f5 (Or.inl (by omega)), g5⟩, ?_⟩
    · simp only [fDv_reduce_70, ck_t hf.1, ck_t hv.1, ck_t hf.2.1.1, ck_t hf.2.2.1, e2, bv_s, e3, e4, e5]
    · refine (((hFx.trans (f2.mono ?_)).trans (f3.x (by simp))).trans (f4.mono ?_)).trans (f5.x (by simp)) <;> (intro z hz; simp at hz ⊢; omega)
  obtain ⟨I1, e1, g1, f1⟩ := s_copy (I := I) hv.2.2.2.1 hf.2.1 hX.1
  obtain ⟨I2, e2, g2, f2⟩ := s_copy (I := I1) hv.2.2.2.2 hf.2.2 (hX.2.fr f1 (Or.inl (by omega)))
  have hF2 : FrH I2 f a b := ⟨(hX.1.fr f1 (Or.inl (by omega))).fr f2 (Or.inl (by omega)), (hX.2.fr f1 (Or.inl (by omega))).fr f2 (Or.inl (by omega))⟩
  have fx2 : Fx [f + 1 + 1, f + 3 + 1, v + 1 + 1, v + 3 + 1, v + 5 + 1, v + 7 + 1] I I2 := (f1.x (by simp)).trans (f2.x (by simp))
  simp only [fDv_reduce, fDv_reduce_0, ck_t hv.1, ck_t hf.1, ck_t hv.2.2.2.1.1, ck_t hv.2.2.2.2.1, e1, bv_s, e2, let_e]
  have hstep : ∀ (k : (ek_St × Nat × Nat × Nat × Nat × Int32) → Option ek_St) (t : Nat) (I' : ek_St) (x y g s : Nat), t < 768 → ((x = v + 5 ∧ y = v + 7) ∨ (x = v + 7 ∧ y = v + 5)) → Hr I' (x + 1) 0 16 g → Hr I' (y + 1) 0 16 s → FrH I' f a b → Fx [f + 1 + 1, f + 3 + 1, v + 1 + 1, v + 3 + 1, v + 5 + 1, v + 7 + 1] I I' → Nat.gcd g s = Nat.gcd a b →
      (s ≠ 0 → ∀ I2, Hr I2 (x + 1) 0 16 (g % s) → Hr I2 (y + 1) 0 16 s → FrH I2 f a b → Fx [f + 1 + 1, f + 3 + 1, v + 1 + 1, v + 3 + 1, v + 5 + 1, v + 7 + 1] I I2 → ∃ r, k (I2, v, f, y, x, nI (t + 1)) = some r ∧ FrH r f (a / Nat.gcd a b) (b / Nat.gcd a b) ∧ Fx [f + 1 + 1, f + 3 + 1, v + 1 + 1, v + 3 + 1, v + 5 + 1, v + 7 + 1] I r) →
      ∃ r, fDv_reduce_35 kd k I' v f x y (nI t) = some r ∧ FrH r f (a / Nat.gcd a b) (b / Nat.gcd a b) ∧ Fx [f + 1 + 1, f + 3 + 1, v + 1 + 1, v + 3 + 1, v + 5 + 1, v + 7 + 1] I r := by
    intro k t I' x y g s ht hxy hgx hsy hF hFx hgcd hk
    have hxk : NatK kd x := by rcases hxy with ⟨rfl, rfl⟩ | ⟨rfl, rfl⟩; exact hv.2.2.2.1; exact hv.2.2.2.2
    have hyk : NatK kd y := by rcases hxy with ⟨rfl, rfl⟩ | ⟨rfl, rfl⟩; exact hv.2.2.2.2; exact hv.2.2.2.1
    have c : ¬ (768 : Int32) ≤ nI t := nI_ge (b := 768) ht (by decide)
    simp only [fDv_reduce_35, if_neg c, ck_t hyk.1, s_isZero hyk hsy, bi_s, ck_t hv.1]
    by_cases hs : s = 0
    · subst hs
      rw [if_neg (show ¬ bI (0 == 0) = (0 : Int32) by decide)]
      rw [Nat.gcd_zero_right] at hgcd
      exact fin I' x g (by omega) hgcd hgx hF hFx
    · have hb : (s == 0) = false := by simpa using hs
      rw [hb, if_pos (show bI false = (0 : Int32) by decide)]
      obtain ⟨I3, e3, g3, g3', f3⟩ := s_divide (I := I') hv hxk hyk (by omega) (by omega) (by omega) (by omega) (by omega) hgx hsy (by omega)
      rw [e3, bv_s]
      simp only [let_e]
      have := hk hs I3 g3' (hsy.x f3 (by simp; omega)) ⟨hF.1.x f3 (by simp; omega), hF.2.x f3 (by simp; omega)⟩ (hFx.trans (f3.mono (by intro z hz; simp at hz ⊢; omega)))
      rwa [nI_succ] at this
  refine lp_for (fun t q => ∃ I' x y g s, q = (I', v, f, x, y, nI t) ∧ ((x = v + 5 ∧ y = v + 7) ∨ (x = v + 7 ∧ y = v + 5)) ∧ Hr I' (x + 1) 0 16 g ∧ Hr I' (y + 1) 0 16 s ∧ FrH I' f a b ∧ Fx [f + 1 + 1, f + 3 + 1, v + 1 + 1, v + 3 + 1, v + 5 + 1, v + 7 + 1] I I' ∧ Nat.gcd g s = Nat.gcd a b ∧ (1 ≤ t → s < g) ∧ g * s * 2 ^ t < 2 ^ 769) (fun r => FrH r f (a / Nat.gcd a b) (b / Nat.gcd a b) ∧ Fx [f + 1 + 1, f + 3 + 1, v + 1 + 1, v + 3 + 1, v + 5 + 1, v + 7 + 1] I r) 768 ⟨I2, v + 5, v + 7, a, b, rfl, Or.inl ⟨rfl, rfl⟩, g1.fr f2 (Or.inl (by omega)), g2, hF2, fx2, rfl, fun h => by omega, ?_⟩ ?_ ?_
  · rw [Nat.pow_zero, Nat.mul_one]
    exact Nat.lt_of_le_of_lt (Nat.le_trans (Nat.mul_le_mul (Nat.le_of_lt hX.1.1) (Nat.le_of_lt hX.2.1)) (Nat.le_of_eq pw768)) (Nat.pow_lt_pow_right (by decide) (by decide))
  · rintro k t q ht ⟨I', x, y, g, s, rfl, hxy, h1, h2, h3, h4, h5, h6, h7⟩ hk
    refine hstep k t I' x y g s ht hxy h1 h2 h3 h4 h5 (fun hs I3 j1 j2 j3 j4 => hk _ ⟨I3, y, x, s, g % s, rfl, by omega, j2, j1, j3, j4, ?_, fun _ => Nat.mod_lt _ (by omega), ?_⟩)
    · rw [← h5, Nat.gcd_comm g s, Nat.gcd_rec s g, Nat.gcd_comm]
    · have hm := Nat.mod_lt g (show 0 < s by omega)
      rcases Nat.eq_zero_or_pos t with h0' | h0'
      · subst h0'
        have hlt : s * (g % s) < 2 ^ 768 := by
          rw [← pw768]
          exact Nat.lt_of_le_of_lt (Nat.mul_le_mul_left _ (Nat.le_of_lt (Nat.lt_trans hm h2.1))) (Nat.mul_lt_mul_of_pos_right h2.1 (Nat.two_pow_pos _))
        have e : (2 : Nat) ^ 769 = 2 ^ 768 * 2 ^ (0 + 1) := by rw [← Nat.pow_add]
        rw [e]
        exact Nat.mul_lt_mul_of_pos_right hlt (Nat.two_pow_pos _)
      · have h1' := h6 h0'
        have h2' : 2 * (g % s) ≤ g := by
          have := Nat.div_add_mod g s
          have h3' : 1 ≤ g / s := Nat.div_pos (by omega) (by omega)
          have h4' : s * 1 ≤ s * (g / s) := Nat.mul_le_mul_left _ h3'
          omega
        have h5' : s * (g % s) * 2 ^ (t + 1) ≤ g * s * 2 ^ t := by
          rw [Nat.pow_succ, ← Nat.mul_assoc, Nat.mul_right_comm]
          refine Nat.mul_le_mul_right _ ?_
          calc s * (g % s) * 2 = s * (2 * (g % s)) := by rw [Nat.mul_assoc, Nat.mul_comm (g % s)]
            _ ≤ s * g := Nat.mul_le_mul_left _ h2'
            _ = g * s := Nat.mul_comm _ _
        exact Nat.lt_of_le_of_lt h5' h7
  · rintro k q ⟨I', x, y, g, s, rfl, hxy, h1, h2, h3, h4, h5, h6, h7⟩
    have h8 := h6 (by decide)
    have h9 : g * s < 2 := by
      have e : (2 : Nat) ^ 769 = 2 * 2 ^ 768 := by rw [← Nat.pow_succ']
      rw [e] at h7
      exact Nat.lt_of_mul_lt_mul_right h7
    have hs0 : s = 0 := by
      rcases Nat.eq_zero_or_pos s with h | h
      · exact h
      · have : 2 * 1 ≤ g * s := Nat.mul_le_mul (by omega) h
        omega
    subst hs0
    rw [Nat.gcd_zero_right] at h5
    have c : (768 : Int32) ≤ nI 768 := nI_le (Nat.le_refl _) (by decide)
    simp only [fDv_reduce_35, if_pos c]
    exact fin I' x g (by omega) h5 h1 h3 h4
