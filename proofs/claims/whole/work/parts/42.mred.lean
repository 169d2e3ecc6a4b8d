/-! the reference's reduce: the binary greatest common factor -/
def MF (I I' : ek_St) (x : Nat) (S : List Nat) : Prop := (∀ m v, m < 36 → m ∉ S → Hm I x m v → Hm I' x m v) ∧ ∀ z, z ≠ x + 16 → I' z = I z
theorem MF.refl (I : ek_St) (x : Nat) (S : List Nat) : MF I I x S := ⟨fun _ _ _ _ h => h, fun _ _ => rfl⟩
theorem MF.trans {I I1 I2 : ek_St} {x : Nat} {S : List Nat} (h : MF I I1 x S) (h2 : MF I1 I2 x S) : MF I I2 x S := ⟨fun m v hm hs h3 => h2.1 m v hm hs (h.1 m v hm hs h3), fun z hz => (h2.2 z hz).trans (h.2 z hz)⟩
theorem Fr1.mf {I I' : ek_St} {x k : Nat} {S : List Nat} (h : Fm I I' x k) (hk : k ∈ S) : MF I I' x S := ⟨fun m v _ hs h3 => Hr.fm h3 h (fun e => hs (by rw [e]; exact hk)), fun z hz => h.ne hz⟩
theorem MF.mono {I I' : ek_St} {x : Nat} {S S' : List Nat} (h : MF I I' x S) (hs : ∀ m, m ∈ S → m ∈ S') : MF I I' x S' := ⟨fun m v hm hn h3 => h.1 m v hm (fun q => hn (hs m q)) h3, h.2⟩
theorem gcd_half {A B : Nat} (hodd : Nat.gcd A B % 2 = 1) (hA : A % 2 = 0) : Nat.gcd (A / 2) B = Nat.gcd A B := by
  have e : A = 2 * (A / 2) := by omega
  apply Nat.dvd_antisymm
  · exact Nat.dvd_gcd (Nat.dvd_trans (Nat.gcd_dvd_left _ _) ⟨2, by omega⟩) (Nat.gcd_dvd_right _ _)
  · refine Nat.dvd_gcd ?_ (Nat.gcd_dvd_right _ _)
    have h1 : Nat.gcd A B ∣ 2 * (A / 2) := by rw [← e]; exact Nat.gcd_dvd_left _ _
    have h2 : Nat.Coprime (Nat.gcd A B) 2 := by
      generalize Nat.gcd A B = g at *
      have h3 : Nat.gcd g 2 ∣ 2 := Nat.gcd_dvd_right _ _
      have h4 : Nat.gcd g 2 ∣ g := Nat.gcd_dvd_left _ _
      have h5 : Nat.gcd g 2 ≤ 2 := Nat.gcd_le_right _ (by decide)
      have h6 : 0 < Nat.gcd g 2 := Nat.gcd_pos_of_pos_right _ (by decide)
      show Nat.gcd g 2 = 1
      rcases (show Nat.gcd g 2 = 1 ∨ Nat.gcd g 2 = 2 by omega) with h | h
      · exact h
      · rw [h] at h4
        omega
    exact h2.dvd_of_dvd_mul_left h1
theorem gcd_sub {A B : Nat} (h : B ≤ A) : Nat.gcd (A - B) B = Nat.gcd A B := by
  have e : A = (A - B) + B := by omega
  conv => rhs; rw [e]
  exact (Nat.gcd_add_self_left _ _).symm
theorem beq_f {n : Nat} (h : n ≠ 0) : (n == 0) = false := by simpa using h
/-- halving as long as it is even -/
theorem gcd_odd_of {A B : Nat} (h : Nat.gcd A B % 2 = 1) : A % 2 = 1 ∨ B % 2 = 1 := by
  rcases Nat.mod_two_eq_zero_or_one A with h1 | h1
  · rcases Nat.mod_two_eq_zero_or_one B with h2 | h2
    · have h3 : 2 ∣ Nat.gcd A B := Nat.dvd_gcd (Nat.dvd_of_mod_eq_zero h1) (Nat.dvd_of_mod_eq_zero h2)
      omega
    · exact Or.inr h2
  · exact Or.inl h1
theorem t_reduce {kd : Nat → Nat} {I : ek_St} {x k l a b : Nat} (hx : MnK kd x) (hk : k < 32) (hl : l < 32) (hkl : k ≠ l) (ha : Hm I x k a) (hb : Hm I x l b) (h0 : 0 < b) (ha2 : a < 2 ^ 575) (hb2 : b < 2 ^ 575) :
    ∃ I', fMo_reduce kd I x (nI k) (nI l) = some I' ∧ Hm I' x k (a / Nat.gcd a b) ∧ Hm I' x l (b / Nat.gcd a b) ∧ MF I I' x [k, l, 32, 33, 34, 35] := by
  simp only [fMo_reduce, fMo_reduce_0, ck_t hx.1, t_isZero hx (show k < 36 by omega) ha, bi_s]
  by_cases hz : a = 0
  · subst hz
    rw [if_neg (show ¬ bI (0 == 0) = (0 : Int32) by decide)]
    obtain ⟨I1, e1, h1, f1⟩ := t_be (I := I) (k := l) (v := 1) hx (by omega) (by decide)
    have e1' : fMo_be kd I x (nI l) (1 : Int64) = some I1 := e1
    rw [e1', bv_s]
    refine ⟨I1, rfl, ?_, ?_, f1.mf (by simp)⟩
    · rw [Nat.zero_div]
      exact Hr.fm ha f1 hkl
    · rw [Nat.gcd_zero_left, Nat.div_self h0]
      exact h1
  · rw [beq_f hz, if_pos (show bI false = (0 : Int32) by decide)]
    have pw : (2 : Nat) ^ (24 * 24) = 2 * 2 ^ 575 := by rw [← Nat.pow_succ']
    -- the end of all: A is 0, B is the factor G of a1 and b1
    have key : ∀ (I0 : ek_St) (a1 b1 s : Nat), Hm I0 x k a1 → Hm I0 x l b1 → 0 < a1 → 0 < b1 → a = a1 * 2 ^ s → b = b1 * 2 ^ s → (a1 % 2 = 1 ∨ b1 % 2 = 1) → MF I I0 x [k, l, 32, 33, 34, 35] → ∃ I', fMo_reduce_44 kd I0 x (nI k) (nI l) = some I' ∧ Hm I' x k (a / Nat.gcd a b) ∧ Hm I' x l (b / Nat.gcd a b) ∧ MF I I' x [k, l, 32, 33, 34, 35] := by
      intro I0 a1 b1 s ha1 hb1 pa pb ea eb hodd hmf
      have hG : Nat.gcd a b = Nat.gcd a1 b1 * 2 ^ s := by rw [ea, eb, Nat.gcd_mul_right]
      have hGodd : Nat.gcd a1 b1 % 2 = 1 := by
        rcases Nat.mod_two_eq_zero_or_one (Nat.gcd a1 b1) with h | h
        · exfalso
          have h1 : 2 ∣ a1 := Nat.dvd_trans (Nat.dvd_of_mod_eq_zero h) (Nat.gcd_dvd_left _ _)
          have h2 : 2 ∣ b1 := Nat.dvd_trans (Nat.dvd_of_mod_eq_zero h) (Nat.gcd_dvd_right _ _)
          omega
        · exact h
      have hda : a / Nat.gcd a b = a1 / Nat.gcd a1 b1 := by rw [hG, ea]; exact Nat.mul_div_mul_right _ _ (Nat.two_pow_pos s)
      have hdb : b / Nat.gcd a b = b1 / Nat.gcd a1 b1 := by rw [hG, eb]; exact Nat.mul_div_mul_right _ _ (Nat.two_pow_pos s)
      rw [hda, hdb]
      have la1 : a1 ≤ a := by rw [ea]; exact Nat.le_mul_of_pos_right _ (Nat.two_pow_pos s)
      have lb1 : b1 ≤ b := by rw [eb]; exact Nat.le_mul_of_pos_right _ (Nat.two_pow_pos s)
      obtain ⟨I1, e1, h1, f1⟩ := t_copy (I := I0) (k := 34) (m := k) hx (by decide) (by omega) (by omega) ha1
      obtain ⟨I2, e2, h2, f2⟩ := t_copy (I := I1) (k := 35) (m := l) hx (by decide) (by omega) (by omega) (Hr.fm hb1 f1 (by omega))
      have e1' : fMo_copy kd I0 x (34 : Int32) (nI k) = some I1 := e1
      have e2' : fMo_copy kd I1 x (35 : Int32) (nI l) = some I2 := e2
      simp only [fMo_reduce_44, ck_t hx.1, e1', bv_s, e2']
      generalize hPost : (fun I' : ek_St => Hm I' x k (a1 / Nat.gcd a1 b1) ∧ Hm I' x l (b1 / Nat.gcd a1 b1) ∧ MF I I' x [k, l, 32, 33, 34, 35]) = PQ
      have hPQ : ∀ I', PQ I' ↔ (Hm I' x k (a1 / Nat.gcd a1 b1) ∧ Hm I' x l (b1 / Nat.gcd a1 b1) ∧ MF I I' x [k, l, 32, 33, 34, 35]) := fun I' => by rw [← hPost]
      -- one turn of the loop, from any A > 0, B > 0
      have turn : ∀ (k58 : (ek_St × Nat × Int32 × Int32) → Option ek_St) (I3 : ek_St) (A B : Nat), Hm I3 x k a1 → Hm I3 x l b1 → Hm I3 x 34 A → Hm I3 x 35 B → MF I I3 x [k, l, 32, 33, 34, 35] → 0 < A → 0 < B → A < 2 ^ 575 → B < 2 ^ 575 → Nat.gcd A B = Nat.gcd a1 b1 →
          (∀ I4 A' B', Hm I4 x k a1 → Hm I4 x l b1 → Hm I4 x 34 A' → Hm I4 x 35 B' → MF I I4 x [k, l, 32, 33, 34, 35] → 0 < B' → A' < 2 ^ 575 → B' < 2 ^ 575 → Nat.gcd A' B' = Nat.gcd a1 b1 → A' % 2 = 0 → (A' * B' ≤ A * B) → (A % 2 = 0 → 2 * (A' * B') ≤ A * B) → ∃ r, k58 (I4, x, nI k, nI l) = some r ∧ PQ r) →
          ∃ r, ek_lp (fun (k : (ek_St × Nat × Int32 × Int32) → Option (ek_St)) (q : (ek_St × Nat × Int32 × Int32)) => fMo_reduce_67 kd k58 k q.1 q.2.1 q.2.2.1 q.2.2.2) ek_N (I3, x, nI k, nI l) = some r ∧ PQ r := by
        intro k58 I3 A B j1 j2 j3 j4 j5 pA pB lA lB hgcd hk58
        -- halving A: at most 575 turns
        refine lp_for (fun t q => ∃ I4 A4, q = (I4, x, nI k, nI l) ∧ Hm I4 x k a1 ∧ Hm I4 x l b1 ∧ Hm I4 x 34 A4 ∧ Hm I4 x 35 B ∧ MF I I4 x [k, l, 32, 33, 34, 35] ∧ 0 < A4 ∧ A4 * 2 ^ t ≤ A ∧ A4 ≤ A ∧ Nat.gcd A4 B = Nat.gcd a1 b1 ∧ (A % 2 = 0 → A4 = A ∨ 2 * A4 ≤ A)) PQ 575 ⟨I3, A, rfl, j1, j2, j3, j4, j5, pA, by simp, Nat.le_refl _, hgcd, fun _ => Or.inl rfl⟩ ?_ ?_
        · rintro k67 t q ht ⟨I4, A4, rfl, i1, i2, i3, i4, i5, i6, i7, i8, i9, i10⟩ hk67
          have ev := t_isEven (k := 34) hx (by decide) i3
          have ev' : fMo_isEven kd I4 x (34 : Int32) = some (I4, bI (A4 % 2 == 0)) := ev
          simp only [fMo_reduce_67, ck_t hx.1, ev', bi_s]
          by_cases hE : A4 % 2 = 0
          · rw [hE, if_neg (show ¬ bI (0 == 0) = (0 : Int32) by decide)]
            obtain ⟨I5, e5, h5, f5⟩ := t_halve (I := I4) (k := 34) hx (by decide) i3
            have e5' : fMo_halve kd I4 x (34 : Int32) = some I5 := e5
            rw [e5', bv_s]
            refine hk67 _ ⟨I5, A4 / 2, rfl, Hr.fm i1 f5 (by omega), Hr.fm i2 f5 (by omega), h5, Hr.fm i4 f5 (by decide), i5.trans (f5.mf (by simp)), by omega, ?_, by omega, ?_, fun _ => Or.inr (by omega)⟩
            · have : A4 / 2 * 2 ^ (t + 1) = (A4 / 2 * 2) * 2 ^ t := by rw [Nat.pow_succ', Nat.mul_assoc]
              rw [this, show A4 / 2 * 2 = A4 by omega]
              exact i7
            · rw [gcd_half (by rw [i9]; exact hGodd) hE]
              exact i9
          · have hE1 : A4 % 2 = 1 := by omega
            rw [hE1, if_pos (show bI (1 == 0) = (0 : Int32) by decide)]
            -- halving B
            refine lp_for (fun t q => ∃ I5 B5, q = (I5, x, nI k, nI l) ∧ Hm I5 x k a1 ∧ Hm I5 x l b1 ∧ Hm I5 x 34 A4 ∧ Hm I5 x 35 B5 ∧ MF I I5 x [k, l, 32, 33, 34, 35] ∧ 0 < B5 ∧ B5 * 2 ^ t ≤ B ∧ B5 ≤ B ∧ Nat.gcd A4 B5 = Nat.gcd a1 b1) PQ 575 ⟨I4, B, rfl, i1, i2, i3, i4, i5, pB, by simp, Nat.le_refl _, i9⟩ ?_ ?_
            · rintro k85 t2 q ht2 ⟨I5, B5, rfl, p1, p2, p3, p4, p5, p6, p7, p8, p9⟩ hk85
              have ev2 := t_isEven (k := 35) hx (by decide) p4
              have ev2' : fMo_isEven kd I5 x (35 : Int32) = some (I5, bI (B5 % 2 == 0)) := ev2
              simp only [fMo_reduce_85, ck_t hx.1, ev2', bi_s]
              by_cases hE2 : B5 % 2 = 0
              · rw [hE2, if_neg (show ¬ bI (0 == 0) = (0 : Int32) by decide)]
                obtain ⟨I6, e6, h6, f6⟩ := t_halve (I := I5) (k := 35) hx (by decide) p4
                have e6' : fMo_halve kd I5 x (35 : Int32) = some I6 := e6
                rw [e6', bv_s]
                refine hk85 _ ⟨I6, B5 / 2, rfl, Hr.fm p1 f6 (by omega), Hr.fm p2 f6 (by omega), Hr.fm p3 f6 (by decide), h6, p5.trans (f6.mf (by simp)), by omega, ?_, by omega, ?_⟩
                · have : B5 / 2 * 2 ^ (t2 + 1) = (B5 / 2 * 2) * 2 ^ t2 := by rw [Nat.pow_succ', Nat.mul_assoc]
                  rw [this, show B5 / 2 * 2 = B5 by omega]
                  exact p7
                · rw [Nat.gcd_comm, gcd_half (by rw [Nat.gcd_comm, p9]; exact hGodd) hE2, Nat.gcd_comm]
                  exact p9
              · have hB1 : B5 % 2 = 1 := by omega
                rw [hB1, if_pos (show bI (1 == 0) = (0 : Int32) by decide)]
                have hc := t_compare (k := 34) (m := 35) hx (by decide) (by decide) p3 p4
                have hc' : fMo_compare kd I5 x (34 : Int32) (35 : Int32) = some (I5, sg ((A4 : Int) - B5)) := hc
                rw [hc', bi_s]
                have hprod : A4 * B5 ≤ A * B := Nat.mul_le_mul i8 p8
                have hprod2 : A % 2 = 0 → 2 * (A4 * B5) ≤ A * B := by
                  intro hA0
                  rcases i10 hA0 with h | h
                  · rw [h] at hE1
                    omega
                  · rw [← Nat.mul_assoc]
                    exact Nat.mul_le_mul h p8
                by_cases hge : B5 ≤ A4
                · rw [if_pos (Int32.not_lt.mp (mt (sg_neg _).mp (by omega)))]
                  obtain ⟨I7, e7, h7, f7⟩ := t_minus (I := I5) (k := 34) (m := 35) hx (by decide) (by decide) p3 p4 hge
                  have e7' : fMo_add3 kd I5 x (34 : Int32) (35 : Int32) (1 : Int32) = some I7 := e7
                  simp only [fMo_reduce_138, ck_t hx.1, e7', bv_s]
                  have hm : (A4 - B5) * B5 ≤ A4 * B5 := Nat.mul_le_mul_right _ (Nat.sub_le _ _)
                  refine hk58 I7 (A4 - B5) B5 (Hr.fm p1 f7 (by omega)) (Hr.fm p2 f7 (by omega)) h7 (Hr.fm p4 f7 (by decide)) (p5.trans (f7.mf (by simp))) p6 (by omega) (by omega) (by rw [gcd_sub hge]; exact p9) (by omega) (by omega) (fun h => by have := hprod2 h; omega)
                · rw [if_neg (fun h => absurd ((sg_neg _).mpr (show ((A4 : Int) - B5) < 0 by omega)) (Int32.not_lt.mpr h))]
                  obtain ⟨I6, e6, h6, f6⟩ := t_copy (I := I5) (k := 32) (m := 34) hx (by decide) (by decide) (by decide) p3
                  obtain ⟨I7, e7, h7, f7⟩ := t_copy (I := I6) (k := 34) (m := 35) hx (by decide) (by decide) (by decide) (Hr.fm p4 f6 (by decide))
                  obtain ⟨I8, e8, h8, f8⟩ := t_copy (I := I7) (k := 35) (m := 32) hx (by decide) (by decide) (by decide) (Hr.fm h6 f7 (by decide))
                  have e6' : fMo_copy kd I5 x (32 : Int32) (34 : Int32) = some I6 := e6
                  have e7' : fMo_copy kd I6 x (34 : Int32) (35 : Int32) = some I7 := e7
                  have e8' : fMo_copy kd I7 x (35 : Int32) (32 : Int32) = some I8 := e8
                  have hA8 : Hm I8 x 34 B5 := Hr.fm h7 f8 (by decide)
                  obtain ⟨I9, e9, h9, f9⟩ := t_minus (I := I8) (k := 34) (m := 35) hx (by decide) (by decide) hA8 h8 (by omega)
                  have e9' : fMo_add3 kd I8 x (34 : Int32) (35 : Int32) (1 : Int32) = some I9 := e9
                  simp only [e6', bv_s, e7', e8', fMo_reduce_138, ck_t hx.1, e9']
                  have hm : (B5 - A4) * A4 ≤ B5 * A4 := Nat.mul_le_mul_right _ (Nat.sub_le _ _)
                  rw [Nat.mul_comm B5 A4] at hm
                  refine hk58 I9 (B5 - A4) A4 (Hr.fm (Hr.fm (Hr.fm (Hr.fm p1 f6 (by omega)) f7 (by omega)) f8 (by omega)) f9 (by omega)) (Hr.fm (Hr.fm (Hr.fm (Hr.fm p2 f6 (by omega)) f7 (by omega)) f8 (by omega)) f9 (by omega)) h9 (Hr.fm h8 f9 (by decide)) ((((p5.trans (f6.mf (by simp))).trans (f7.mf (by simp))).trans (f8.mf (by simp))).trans (f9.mf (by simp))) i6 (by omega) (by omega) (by rw [gcd_sub (by omega), Nat.gcd_comm]; exact p9) (by omega) (by omega) (fun h => by have := hprod2 h; omega)
            · rintro k85 q ⟨I5, B5, rfl, p1, p2, p3, p4, p5, p6, p7, p8, p9⟩
              exfalso
              have : 1 * 2 ^ 575 ≤ B5 * 2 ^ 575 := Nat.mul_le_mul_right _ p6
              omega
        · rintro k67 q ⟨I4, A4, rfl, i1, i2, i3, i4, i5, i6, i7, i8, i9, i10⟩
          exfalso
          have : 1 * 2 ^ 575 ≤ A4 * 2 ^ 575 := Nat.mul_le_mul_right _ i6
          omega
      have fin : ∀ (k58 : (ek_St × Nat × Int32 × Int32) → Option ek_St) (I3 : ek_St) (B : Nat), Hm I3 x k a1 → Hm I3 x l b1 → Hm I3 x 34 0 → Hm I3 x 35 B → MF I I3 x [k, l, 32, 33, 34, 35] → Nat.gcd 0 B = Nat.gcd a1 b1 → B < 2 ^ 575 → ∃ r, fMo_reduce_58 kd k58 I3 x (nI k) (nI l) = some r ∧ PQ r := by
        intro k58 I3 B j1 j2 j3 j4 j5 hgcd lB
        have hz0 := t_isZero (k := 34) hx (by decide) j3
        have hz0' : fMo_isZero kd I3 x (34 : Int32) = some (I3, bI (0 == 0)) := hz0
        rw [Nat.gcd_zero_left] at hgcd
        subst hgcd
        have hgp : 0 < Nat.gcd a1 b1 := Nat.gcd_pos_of_pos_left _ pa
        obtain ⟨I4, e4, h4, fr4, z4⟩ := t_quotient (I := I3) hx hk j1 j4 hgp lB
        obtain ⟨I5, e5, h5, fr5, z5⟩ := t_quotient (I := I4) hx hl (fr4 l b1 (by omega) (by omega) (by omega) (by omega) j2) (fr4 35 _ (by decide) (by omega) (by decide) (by decide) j4) hgp lB
        simp only [fMo_reduce_58, ck_t hx.1, hz0', bi_s]
        rw [if_neg (show ¬ bI (0 == 0) = (0 : Int32) by decide), e4, bv_s, e5, bv_s]
        refine ⟨I5, rfl, (hPQ I5).mpr ⟨fr5 k _ (by omega) (by omega) (by omega) (by omega) h4, h5, j5.trans ⟨?_, ?_⟩⟩⟩
        · intro m v hm hs h
          simp at hs
          exact fr5 m v hm (by omega) (by omega) (by omega) (fr4 m v hm (by omega) (by omega) (by omega) h)
        · exact fun z hz' => (z5 z hz').trans (z4 z hz')
      have goal := lp_for (F := fun (k : (ek_St × Nat × Int32 × Int32) → Option (ek_St)) (q : (ek_St × Nat × Int32 × Int32)) => fMo_reduce_58 kd k q.1 q.2.1 q.2.2.1 q.2.2.2) (a := (I2, x, nI k, nI l)) (fun t q => ∃ I3 A B, q = (I3, x, nI k, nI l) ∧ Hm I3 x k a1 ∧ Hm I3 x l b1 ∧ Hm I3 x 34 A ∧ Hm I3 x 35 B ∧ MF I I3 x [k, l, 32, 33, 34, 35] ∧ 0 < B ∧ A < 2 ^ 575 ∧ B < 2 ^ 575 ∧ Nat.gcd A B = Nat.gcd a1 b1 ∧ (1 ≤ t → A % 2 = 0) ∧ A * B * 2 ^ t ≤ 2 ^ 1151 ∧ (t = 0 → A * B ≤ 2 ^ 1150)) PQ 1152 ⟨I2, a1, b1, rfl, Hr.fm (Hr.fm ha1 f1 (by omega)) f2 (by omega), Hr.fm (Hr.fm hb1 f1 (by omega)) f2 (by omega), Hr.fm h1 f2 (by decide), h2, (hmf.trans (f1.mf (by simp))).trans (f2.mf (by simp)), pb, by omega, by omega, rfl, fun h => by omega, ?_, fun _ => ?_⟩ ?_ ?_
      · obtain ⟨r, e, hr⟩ := goal
        exact ⟨r, e, (hPQ r).mp hr⟩
      · rw [Nat.pow_zero, Nat.mul_one]
        exact Nat.le_trans (Nat.mul_le_mul (Nat.le_of_lt (Nat.lt_of_le_of_lt la1 ha2)) (Nat.le_of_lt (Nat.lt_of_le_of_lt lb1 hb2))) (by rw [← Nat.pow_add]; exact Nat.pow_le_pow_right (by decide) (by decide))
      · exact Nat.le_trans (Nat.mul_le_mul (Nat.le_of_lt (Nat.lt_of_le_of_lt la1 ha2)) (Nat.le_of_lt (Nat.lt_of_le_of_lt lb1 hb2))) (by rw [← Nat.pow_add]; exact Nat.pow_le_pow_right (by decide) (by decide))
      · rintro k58 t q ht ⟨I3, A, B, rfl, j1, j2, j3, j4, j5, pB, lA, lB, hgcd, hev, hP, hP0⟩ hk58
        rcases Nat.eq_zero_or_pos A with hA0 | pA
        · subst hA0
          exact fin k58 I3 B j1 j2 j3 j4 j5 hgcd lB
        · have hz0 := t_isZero (k := 34) hx (by decide) j3
          have hz0' : fMo_isZero kd I3 x (34 : Int32) = some (I3, bI (A == 0)) := hz0
          simp only [fMo_reduce_58, ck_t hx.1, hz0', bi_s]
          rw [beq_f (by omega), if_pos (show bI false = (0 : Int32) by decide)]
          refine turn k58 I3 A B j1 j2 j3 j4 j5 pA pB lA lB hgcd (fun I4 A' B' q1 q2 q3 q4 q5 q6 q7 q8 q9 q10 q11 q12 => hk58 _ ⟨I4, A', B', rfl, q1, q2, q3, q4, q5, q6, q7, q8, q9, fun _ => q10, ?_, fun h => by omega⟩)
          rcases Nat.eq_zero_or_pos t with h | h
          · subst h
            have h1 := hP0 rfl
            have h2 : A' * B' * 2 ^ (0 + 1) ≤ 2 ^ 1150 * 2 ^ (0 + 1) := Nat.mul_le_mul_right _ (Nat.le_trans q11 h1)
            rw [← Nat.pow_add] at h2
            exact h2
          · have := q12 (hev h)
            rw [Nat.pow_succ', ← Nat.mul_assoc, Nat.mul_comm (A' * B') 2]
            exact Nat.le_trans (Nat.mul_le_mul_right _ this) hP
      · rintro k58 q ⟨I3, A, B, rfl, j1, j2, j3, j4, j5, pB, lA, lB, hgcd, hev, hP, hP0⟩
        have hA0 : A = 0 := by
          rcases Nat.eq_zero_or_pos A with h | h
          · exact h
          · exfalso
            have h1 : 1 * 2 ^ 1152 ≤ A * B * 2 ^ 1152 := Nat.mul_le_mul_right _ (Nat.mul_pos h pB)
            have h2 : (2 : Nat) ^ 1151 < 2 ^ 1152 := Nat.pow_lt_pow_right (by decide) (by decide)
            omega
        subst hA0
        exact fin k58 I3 B j1 j2 j3 j4 j5 hgcd lB
    have goal2 := lp_for (F := fun (k : (ek_St × Nat × Int32 × Int32) → Option (ek_St)) (q : (ek_St × Nat × Int32 × Int32)) => fMo_reduce_15 kd k q.1 q.2.1 q.2.2.1 q.2.2.2) (a := (I, x, nI k, nI l)) (fun t q => ∃ I0 a1 b1, q = (I0, x, nI k, nI l) ∧ Hm I0 x k a1 ∧ Hm I0 x l b1 ∧ 0 < a1 ∧ 0 < b1 ∧ a = a1 * 2 ^ t ∧ b = b1 * 2 ^ t ∧ MF I I0 x [k, l, 32, 33, 34, 35]) (fun I' => Hm I' x k (a / Nat.gcd a b) ∧ Hm I' x l (b / Nat.gcd a b) ∧ MF I I' x [k, l, 32, 33, 34, 35]) 575 ⟨I, a, b, rfl, ha, hb, by omega, h0, by simp, by simp, MF.refl _ _ _⟩ ?_ ?_
    · exact goal2
    · rintro k15 t q ht ⟨I0, a1, b1, rfl, i1, i2, i3, i4, i5, i6, i7⟩ hk15
      simp only [fMo_reduce_15, ck_t hx.1, t_isEven hx (show k < 36 by omega) i1, t_isEven hx (show l < 36 by omega) i2, bi_s]
      by_cases hE : a1 % 2 = 0
      · rw [hE, if_neg (show ¬ bI (0 == 0) = (0 : Int32) by decide)]
        by_cases hE2 : b1 % 2 = 0
        · rw [hE2, if_neg (show ¬ bI (0 == 0) = (0 : Int32) by decide)]
          obtain ⟨I5, e5, h5, f5⟩ := t_halve (I := I0) hx (show k < 36 by omega) i1
          obtain ⟨I6, e6, h6, f6⟩ := t_halve (I := I5) hx (show l < 36 by omega) (Hr.fm i2 f5 (Ne.symm hkl))
          rw [e5, bv_s, e6, bv_s]
          refine hk15 _ ⟨I6, a1 / 2, b1 / 2, rfl, Hr.fm h5 f6 hkl, h6, by omega, by omega, ?_, ?_, (i7.trans (f5.mf (by simp))).trans (f6.mf (by simp))⟩
          · rw [Nat.pow_succ', ← Nat.mul_assoc, show a1 / 2 * 2 = a1 by omega]
            exact i5
          · rw [Nat.pow_succ', ← Nat.mul_assoc, show b1 / 2 * 2 = b1 by omega]
            exact i6
        · have h1 : b1 % 2 = 1 := by omega
          rw [h1, if_pos (show bI (1 == 0) = (0 : Int32) by decide)]
          exact key I0 a1 b1 t i1 i2 i3 i4 i5 i6 (Or.inr h1) i7
      · have h1 : a1 % 2 = 1 := by omega
        rw [h1, if_pos (show bI (1 == 0) = (0 : Int32) by decide)]
        exact key I0 a1 b1 t i1 i2 i3 i4 i5 i6 (Or.inl h1) i7
    · rintro k15 q ⟨I0, a1, b1, rfl, i1, i2, i3, i4, i5, i6, i7⟩
      exfalso
      have : 1 * 2 ^ 575 ≤ a1 * 2 ^ 575 := Nat.mul_le_mul_right _ i3
      omega
