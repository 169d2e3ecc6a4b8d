theorem ck01 {β : Type} {k : Option β} (b : Bool) : ek_ck (bI b = (0 : Int32) ∨ bI b = (1 : Int32)) k = k := ck_t (bI_or b)
abbrev gS (c s l : Nat → Nat) (ph : Nat → Int32) (p : Nat → Bool) (k : Nat) : Rat := if cnt ph k then mkRat (c k) (if p k then l k else s k) else 0
abbrev gW (f : Nat → Nat) (ph : Nat → Int32) (p : Nat → Bool) (k : Nat) : Rat := if cnt ph k ∧ p k = false then sf' f k else 0
theorem t_tryLeast {kd : Nat → Nat} {I : ek_St} {n m th : Nat} {c s l f rk : Nat → Nat} {ph : Nat → Int32} (hM : MK kd) (hD : MD I n c s l f ph) (hm : m ≤ 12) (hr : ∀ k, k < n → I 18 k = nI (rk k) ∧ rk k ≤ 12) (hth : I 1 2 = nI th) (hth2 : th ≤ 1000) (p : Nat → Bool) (hp : ∀ k, p k = decide (rk k < m)) :
    ∃ I' r, fMo_tryLeast kd I 1 (nI m) = some (I', bI r) ∧ MF I I' 1 [26, 27, 28, 29, 30, 31] ∧ ((¬ ∃ k, k < n ∧ cnt ph k ∧ p k = false) → r = true) ∧
      ((∃ k, k < n ∧ cnt ph k ∧ p k = false) → (r = true ↔ (¬ rs (gS c s l ph p) n < mkRat th 1000 ∧ ∀ v, v * rs (gW f ph p) n = rs (gS c s l ph p) n - mkRat th 1000 → Fit n c s l f ph p v)) ∧
        (r = true → ∃ Nv Dv, Hm I' 1 26 Nv ∧ Hm I' 1 27 Dv ∧ 0 < Dv ∧ Nv ≤ PB ∧ Dv ≤ PB ∧ mkRat Nv Dv * rs (gW f ph p) n = rs (gS c s l ph p) n - mkRat th 1000)) := by
  have hn := hD.1.1
  have hpe : p = fun k => decide (rk k < m) := funext hp
  generalize hg : gS c s l ph p = g
  generalize hw : gW f ph p = w
  obtain ⟨I1, e1, g1, f1⟩ := fs_none (I := I) g hM
  obtain ⟨I2, e2, h2, f2⟩ := t_be (I := I1) (k := 28) (v := 0) hM.mn (by decide) (by decide)
  obtain ⟨I3, e3, h3, f3⟩ := t_be (I := I2) (k := 29) (v := 1) hM.mn (by decide) (by decide)
  have e2' : fMo_be kd I1 1 (28 : Int32) (0 : Int64) = some I2 := e2
  have e3' : fMo_be kd I2 1 (29 : Int32) (1 : Int64) = some I3 := e3
  have m3 : MF I I3 1 [26, 27, 28, 29, 30, 31] := ((f1.mono (by simp)).trans (f2.mf (by simp))).trans (f3.mf (by simp))
  have mm2 : MF I1 I2 1 [28, 29] := f2.mf (by simp)
  have mm3 : MF I2 I3 1 [28, 29] := f3.mf (by simp)
  have goal : ∃ q, fMo_tryLeast kd I 1 (nI m) = some q ∧ ∃ r, q.2 = bI r ∧ MF I q.1 1 [26, 27, 28, 29, 30, 31] ∧ ((¬ ∃ k, k < n ∧ cnt ph k ∧ p k = false) → r = true) ∧
      ((∃ k, k < n ∧ cnt ph k ∧ p k = false) → (r = true ↔ (¬ rs g n < mkRat th 1000 ∧ ∀ v, v * rs w n = rs g n - mkRat th 1000 → Fit n c s l f ph p v)) ∧
        (r = true → ∃ Nv Dv, Hm q.1 1 26 Nv ∧ Hm q.1 1 27 Dv ∧ 0 < Dv ∧ Nv ≤ PB ∧ Dv ≤ PB ∧ mkRat Nv Dv * rs w n = rs g n - mkRat th 1000)) := by
    simp only [fMo_tryLeast, fMo_tryLeast_0, ck_t hM.m1, e1, e2', e3', bv_s]
    refine lp_for (fun i q => ∃ I' b, q = (I', 1, nI m, bI b, nI i) ∧ MF I I' 1 [26, 27, 28, 29, 30, 31] ∧ FS I' g i ∧ SS I' w i ∧ (b = true ↔ ∃ k, k < i ∧ cnt ph k ∧ p k = false)) _ n ⟨I3, false, rfl, m3, (g1.mf mm2 (by decide) (by decide)).mf mm3 (by decide) (by decide), ⟨0, 1, Hr.fm h2 f3 (by decide), h3, by decide, by decide, by decide, by show (0 : Rat) = _; decide⟩, ?_⟩ ?_ ?_ (by omega)
    · constructor
      · intro h
        exact absurd h (by decide)
      · rintro ⟨k, hk, -⟩
        exact absurd hk (by omega)
    · rintro kk i q hi ⟨I4, b, rfl, q1, q2, q3, q4⟩ hkk
      have hDd := hD.mf q1
      have hi12 : i < 12 := by omega
      have di := hDd.2 i hi
      have hcount := t_counts (I := I4) hM hi12
      rw [show I4 7 i = ph i from di.1.2.2.2.2] at hcount
      simp only [fMo_tryLeast_22, ck_t hM.m1, if_neg (hDd.ge hi), hcount, bi_s]
      by_cases hc : ph i = 2
      · rw [hc, if_pos (by decide)]
        simp only [fMo_tryLeast_131, let_e]
        refine hkk _ ⟨I4, b, by rw [nI_succ], q1, q2.skip (by rw [← hg]; simp [cnt, hc]), q3.skip (by rw [← hw]; simp [cnt, hc]), q4.trans ?_⟩
        constructor
        · rintro ⟨k, h1, h2⟩
          exact ⟨k, by omega, h2⟩
        · rintro ⟨k, h1, h2⟩
          by_cases e : k = i
          · subst e
            exact absurd hc h2.1
          · exact ⟨k, by omega, h2⟩
      · have hb : bI (decide (ph i ≠ 2)) = 1 := by simp [bI, hc]
        rw [hb, if_neg (by decide)]
        have r9 : I4 (1 + 17) i = nI (rk i) := by rw [q1.2 _ (by decide)]; exact (hr i hi).1
        have hrk := (hr i hi).2
        have ra : I4 (1 + 2) i = nI (c i) := di.1.1
        have rb : I4 (1 + 3) i = nI (s i) := di.1.2.1
        have rc : I4 (1 + 4) i = nI (l i) := di.1.2.2.1
        simp only [ck_t hM.m1, ck_t hM.a1, ck_t hM.a2, ck_t hM.a3, ck_t hM.a4, ck_t hM.a5, ck_t hM.a6, ck_t hM.a7, ck_t hM.a8, ck_t hM.a9, ck_t hM.a10, ck_t hM.a11, ck_t hM.a12, ck_t hM.a13, ck_t hM.a14, ck_t hM.a15, ck_t hM.a16, ck_t hM.a17, ck_t (in12 hi12), cl12 hi12, r9]
        by_cases hlow : rk i < m
        · have hpi : p i = true := by rw [hp, decide_eq_true hlow]
          rw [if_neg (nI_ge hlow (by omega))]
          obtain ⟨I5, e5, g5, m5⟩ := fs_add (I := I4) (g := g) (c := c i) (p := l i) hM q2 (by rw [← hg]; simp [cnt, hc, hpi]) hi12 (by omega) (by omega) (by omega)
          simp only [fMo_tryLeast_56, ck_t hM.m1, ck_t hM.a1, ck_t hM.a2, ck_t hM.a3, ck_t hM.a4, ck_t hM.a5, ck_t hM.a6, ck_t hM.a7, ck_t hM.a8, ck_t hM.a9, ck_t hM.a10, ck_t hM.a11, ck_t hM.a12, ck_t hM.a13, ck_t hM.a14, ck_t hM.a15, ck_t hM.a16, ck_t hM.a17, ck_t (in12 hi12), cl12 hi12, ra, rb, rc, if_neg (show ¬ (1 : Int32) = 0 by decide), fMo_tryLeast_85, e5, bv_s, fMo_tryLeast_131, let_e]
          refine hkk _ ⟨I5, b, by rw [nI_succ], q1.trans (m5.mono (by simp)), g5, (q3.mf m5 (by decide) (by decide)).skip (by rw [← hw]; simp [hpi]), q4.trans ?_⟩
          constructor
          · rintro ⟨k, h1, h2⟩
            exact ⟨k, by omega, h2⟩
          · rintro ⟨k, h1, h2⟩
            by_cases e : k = i
            · subst e
              rw [hpi] at h2
              exact absurd h2.2 (by decide)
            · exact ⟨k, by omega, h2⟩
        · have hpi : p i = false := by rw [hp, decide_eq_false hlow]
          rw [if_pos (nI_le (by omega) (by omega))]
          obtain ⟨I5, e5, g5, m5⟩ := fs_add (I := I4) (g := g) (c := c i) (p := s i) hM q2 (by rw [← hg]; simp [cnt, hc, hpi]) hi12 (by omega) (by omega) (by omega)
          obtain ⟨Mv, Kv, y1, y2, y3, y4, y5, y6⟩ := q3.mf m5 (by decide) (by decide)
          have b1 : Kv * f i ≤ 1000 ^ (i + 1) := by rw [Nat.pow_succ]; exact Nat.mul_le_mul y4 (by omega)
          have b2 : Kv ≤ Kv * f i := Nat.le_mul_of_pos_right _ (by omega)
          have b3 : Mv * f i + Kv ≤ (i + 1) * (Kv * f i) := by
            rw [Nat.add_mul, Nat.one_mul, ← Nat.mul_assoc]
            exact Nat.add_le_add (Nat.mul_le_mul_right _ y5) b2
          have b4 : (1000 : Nat) ^ (i + 1) ≤ 1000 ^ 12 := Nat.pow_le_pow_right (by decide) (by omega)
          have b5 : (i + 1) * (Kv * f i) ≤ 12 * 1000 ^ 12 := Nat.mul_le_mul (by omega) (Nat.le_trans b1 b4)
          have b6 : Mv * f i + Kv < 2 ^ (24 * 24) := Nat.lt_of_le_of_lt (Nat.le_trans b3 b5) (by decide +kernel)
          obtain ⟨I6, e6, h6, f6⟩ := t_times (I := I5) (f := f i) hM.mn (by decide) y1 (by omega) (Nat.lt_of_le_of_lt (Nat.le_add_right _ _) b6)
          have k6 := Hr.fm y2 f6 (by decide)
          obtain ⟨I7, e7, h7, f7⟩ := t_plus (I := I6) hM.mn (by decide) (by decide) h6 k6 b6
          have k7 := Hr.fm k6 f7 (by decide)
          obtain ⟨I8, e8, h8, f8⟩ := t_times (I := I7) (f := f i) hM.mn (by decide) k7 (by omega) (Nat.lt_of_le_of_lt (Nat.le_trans b1 b4) (by decide +kernel))
          have m6 : MF I5 I6 1 [28, 29] := f6.mf (by simp)
          have m7 : MF I5 I7 1 [28, 29] := m6.trans (f7.mf (by simp))
          have m8 : MF I5 I8 1 [28, 29] := m7.trans (f8.mf (by simp))
          have r5 : I5 (1 + 5) i = nI (f i) := by rw [m5.2 _ (by decide)]; exact di.1.2.2.2.1
          have r7 : I7 (1 + 5) i = nI (f i) := by rw [m7.2 _ (by decide)]; exact r5
          simp only [fMo_tryLeast_56, ck_t hM.m1, ck_t hM.a1, ck_t hM.a2, ck_t hM.a3, ck_t hM.a4, ck_t hM.a5, ck_t hM.a6, ck_t hM.a7, ck_t hM.a8, ck_t hM.a9, ck_t hM.a10, ck_t hM.a11, ck_t hM.a12, ck_t hM.a13, ck_t hM.a14, ck_t hM.a15, ck_t hM.a16, ck_t hM.a17, ck_t (in12 hi12), cl12 hi12, ra, rb, rc, if_pos (show (0 : Int32) = 0 from rfl), fMo_tryLeast_85, e5, bv_s, l28, l29, r5, e6, e7, r7, e8, fMo_tryLeast_131, let_e]
          refine hkk _ ⟨I8, true, by rw [nI_succ]; rfl, (q1.trans (m5.mono (by simp))).trans (m8.mono (by simp)), g5.mf m8 (by decide) (by decide), ⟨_, _, Hr.fm h7 f8 (by decide), h8, Nat.mul_pos y3 (by omega), b1, b3, ?_⟩, ?_⟩
          · have hwi : w i = mkRat ((1 : Nat) : Int) (f i) := by rw [← hw]; simp [gW, cnt, hc, hpi, sf']
            rw [rs, hwi, y6, add_mk y3 (by omega), Nat.mul_one]
          · exact ⟨fun _ => ⟨i, by omega, hc, hpi⟩, fun _ => rfl⟩
    · rintro kk q ⟨I4, b, rfl, q1, q2, q3, q4⟩
      have hDd := hD.mf q1
      simp only [fMo_tryLeast_22, ck_t hM.m1, if_pos hDd.le]
      cases b with
      | false =>
        rw [if_pos (show bI false = (0 : Int32) from rfl), ck1]
        refine ⟨_, rfl, true, rfl, q1, fun _ => rfl, fun h => absurd (q4.mpr h) (by decide)⟩
      | true =>
        rw [if_neg (show ¬ bI true = (0 : Int32) by decide)]
        have hex := q4.mp rfl
        obtain ⟨N, D, a1, a2, a3, a4, a5, a6⟩ := q2
        obtain ⟨Mv, Kv, y1, y2, y3, y4, y5, y6⟩ := q3
        have p20 : D ≤ 20000 ^ 12 := Nat.le_trans a4 (pw12 hn)
        have p10 : Kv ≤ 1000 ^ 12 := Nat.le_trans y4 (Nat.pow_le_pow_right (by decide) hn)
        have hN12 : N ≤ 12 * 20000 ^ 12 := Nat.le_trans a5 (Nat.mul_le_mul hn p20)
        have hM12 : Mv ≤ 12 * 1000 ^ 12 := Nat.le_trans y5 (Nat.mul_le_mul hn p10)
        have hM0 : 0 < Mv := by
          rcases Nat.eq_zero_or_pos Mv with h | h
          · exfalso
            obtain ⟨k, hk, hc, hpk⟩ := hex
            have hz : rs w n ≤ 0 := by rw [y6, h]; show mkRat 0 Kv ≤ 0; rw [Rat.zero_mkRat]; exact Rat.le_refl
            have hnn : ∀ j, j < n → 0 ≤ w j := by
              intro j hj
              rw [← hw]
              show 0 ≤ (if cnt ph j ∧ p j = false then sf' f j else 0)
              split
              · exact mk_nn _ _
              · exact Rat.le_refl
            have h0 := rs_zero n hnn hz k hk
            have hwk : w k = mkRat ((1 : Nat) : Int) (f k) := by rw [← hw]; simp [gW, hc, hpk, sf']
            have hpos : 0 < mkRat ((1 : Nat) : Int) (f k) := mk_pos (by decide) (by have := hD.2 k hk; omega)
            rw [← hwk, h0] at hpos
            exact Rat.lt_irrefl hpos
          · exact h
        have c1 : N * 1000 ≤ 12 * 20000 ^ 12 * 1000 := Nat.mul_le_mul_right _ hN12
        have c2 : D * th ≤ 20000 ^ 12 * 1000 := Nat.mul_le_mul p20 hth2
        have c3 : D * 1000 ≤ 20000 ^ 12 * 1000 := Nat.mul_le_mul_right _ p20
        obtain ⟨I5, e5, h5, f5⟩ := t_times (I := I4) (f := 1000) hM.mn (by decide) a1 (by decide) (Nat.lt_of_le_of_lt c1 (by decide +kernel))
        have d5 := Hr.fm a2 f5 (by decide)
        obtain ⟨I6, e6, h6, f6⟩ := t_copy (I := I5) (k := 30) hM.mn (by decide) (by decide) (by decide) d5
        have m5 : MF I4 I5 1 [26, 27, 28, 29, 30, 31] := f5.mf (by simp)
        have m6 : MF I4 I6 1 [26, 27, 28, 29, 30, 31] := m5.trans (f6.mf (by simp))
        have r6 : I6 1 2 = nI th := by rw [m6.2 _ (by decide), q1.2 _ (by decide)]; exact hth
        obtain ⟨I7, e7, h7, f7⟩ := t_times (I := I6) (f := th) hM.mn (by decide) h6 (by omega) (Nat.lt_of_le_of_lt c2 (by decide +kernel))
        have m7 : MF I4 I7 1 [26, 27, 28, 29, 30, 31] := m6.trans (f7.mf (by simp))
        have n7 := Hr.fm (Hr.fm h5 f6 (by decide)) f7 (by decide)
        have d7 := Hr.fm (Hr.fm d5 f6 (by decide)) f7 (by decide)
        have y17 := Hr.fm (Hr.fm (Hr.fm y1 f5 (by decide)) f6 (by decide)) f7 (by decide)
        have y27 := Hr.fm (Hr.fm (Hr.fm y2 f5 (by decide)) f6 (by decide)) f7 (by decide)
        have ec := t_compare (I := I7) hM.mn (by decide) (by decide) n7 h7
        simp only [l26, l27, l28, l29, l30, l1000, e5, bv_s, e6, r6, e7, ec, bi_s]
        have hltA := mk_lt_iff (a := N) (b := D) (c := th) (d := 1000) a3 (by decide)
        rw [Nat.mul_comm th D] at hltA
        by_cases hlt : N * 1000 < D * th
        · rw [if_neg (by rw [← Int32.not_lt, sg_neg]; omega), ck0]
          refine ⟨_, rfl, false, rfl, q1.trans m7, fun h => absurd hex h, fun _ => ⟨⟨fun h => absurd h (by decide), fun h => absurd (by rw [a6]; exact hltA.mpr hlt) h.1⟩, fun h => absurd h (by decide)⟩⟩
        · rw [if_pos (by rw [← Int32.not_lt, sg_neg]; omega)]
          obtain ⟨I8, e8, h8, f8⟩ := t_minus (I := I7) hM.mn (by decide) (by decide) n7 h7 (Nat.le_of_not_lt hlt)
          have d8 := Hr.fm d7 f8 (by decide)
          obtain ⟨I9, e9, h9, f9⟩ := t_times (I := I8) (f := 1000) hM.mn (by decide) d8 (by decide) (Nat.lt_of_le_of_lt c3 (by decide +kernel))
          have n9 := Hr.fm h8 f9 (by decide)
          generalize hx : N * 1000 - D * th = x at *
          have hx1 : x ≤ 12 * 20000 ^ 12 * 1000 := by rw [← hx]; exact Nat.le_trans (Nat.sub_le _ _) c1
          have q5 : x * Kv ≤ PB := by
            have : 12 * 20000 ^ 12 * 1000 * 1000 ^ 12 = PB := by decide +kernel
            rw [← this]
            exact Nat.mul_le_mul hx1 p10
          have q6 : D * 1000 * Mv ≤ PB := by
            have : 20000 ^ 12 * 1000 * (12 * 1000 ^ 12) = PB := by decide +kernel
            rw [← this]
            exact Nat.mul_le_mul c3 hM12
          have hPB : PB < 2 ^ (24 * 24) := by decide +kernel
          obtain ⟨I10, e10, h10, f10⟩ := t_copy (I := I9) (k := 30) hM.mn (by decide) (by decide) (by decide) n9
          have y29 := Hr.fm (Hr.fm (Hr.fm y27 f8 (by decide)) f9 (by decide)) f10 (by decide)
          obtain ⟨I11, e11, h11, f11⟩ := t_product (I := I10) (k := 26) hM.mn (by decide) (by decide) (by decide) (by decide) (by decide) h10 y29 (Nat.lt_of_le_of_lt q5 hPB)
          have d11 := Hr.fm (Hr.fm h9 f10 (by decide)) f11 (by decide)
          obtain ⟨I12, e12, h12, f12⟩ := t_copy (I := I11) (k := 30) hM.mn (by decide) (by decide) (by decide) d11
          have y12 := Hr.fm (Hr.fm (Hr.fm (Hr.fm (Hr.fm y17 f8 (by decide)) f9 (by decide)) f10 (by decide)) f11 (by decide)) f12 (by decide)
          obtain ⟨I13, e13, h13, f13⟩ := t_product (I := I12) (k := 27) hM.mn (by decide) (by decide) (by decide) (by decide) (by decide) h12 y12 (Nat.lt_of_le_of_lt q6 hPB)
          have n13 := Hr.fm (Hr.fm h11 f12 (by decide)) f13 (by decide)
          have m13 : MF I4 I13 1 [26, 27, 28, 29, 30, 31] := (((((m7.trans (f8.mf (by simp))).trans (f9.mf (by simp))).trans (f10.mf (by simp))).trans (f11.mf (by simp))).trans (f12.mf (by simp))).trans (f13.mf (by simp))
          have m13' := q1.trans m13
          have hDv0 : 0 < D * 1000 * Mv := Nat.mul_pos (Nat.mul_pos a3 (by decide)) hM0
          obtain ⟨I14, r, e14, m14, hfit⟩ := t_fits (I := I13) (m := m) (rk := rk) hM (hD.mf m13') hm (fun k hk => by rw [m13'.2 _ (by decide)]; exact hr k hk) n13 h13 hDv0 q5 q6
          rw [← hpe] at hfit
          simp only [e8, bv_s, e9, e10, e11, e12, e13, e14, bi_s, ck01]
          have hval : mkRat (x * Kv : Nat) (D * 1000 * Mv) * rs w n = rs g n - mkRat th 1000 := by
            have t1 : mkRat (x * Kv : Nat) (D * 1000 * Mv) * mkRat (Mv : Nat) Kv = mkRat (x : Nat) (D * 1000) := by
              rw [mk_mul, mk_eq_iff (Nat.mul_pos hDv0 y3) (Nat.mul_pos a3 (by decide))]
              grind
            have t2 : mkRat (th : Nat) 1000 + mkRat (x : Nat) (D * 1000) = mkRat (N : Nat) D := by
              rw [add_mk (by decide) (Nat.mul_pos a3 (by decide)), mk_eq_iff (Nat.mul_pos (by decide) (Nat.mul_pos a3 (by decide))) a3]
              have t3 : D * th + x = N * 1000 := by omega
              have t4 : (D * th + x) * (1000 * D) = N * 1000 * (1000 * D) := by rw [t3]
              grind
            rw [y6, a6, t1, ← t2]
            grind
          refine ⟨(I14, bI r), rfl, r, rfl, m13'.trans (m14.mono (by simp)), fun h => absurd hex h, fun _ => ⟨?_, fun _ => ⟨_, _, m14.1 _ _ (by decide) (by decide) n13, m14.1 _ _ (by decide) (by decide) h13, hDv0, q5, q6, hval⟩⟩⟩
          rw [hfit]
          have hWpos : 0 < rs w n := by rw [y6]; exact mk_pos hM0 y3
          constructor
          · intro h
            refine ⟨by rw [a6]; exact fun q => hlt (hltA.mp q), fun v hv => ?_⟩
            have hveq : v = mkRat (x * Kv : Nat) (D * 1000 * Mv) := by
              have h5 : v * rs w n = mkRat (x * Kv : Nat) (D * 1000 * Mv) * rs w n := by rw [hv, hval]
              have h6 : rs w n ≠ 0 := Rat.ne_of_gt hWpos
              have h7 : v * rs w n * (rs w n)⁻¹ = mkRat (x * Kv : Nat) (D * 1000 * Mv) * rs w n * (rs w n)⁻¹ := by rw [h5]
              rwa [Rat.mul_assoc, Rat.mul_assoc, Rat.mul_inv_cancel _ h6, Rat.mul_one, Rat.mul_one] at h7
            rw [hveq]
            exact h
          · intro h
            exact h.2 _ hval
  obtain ⟨⟨I', r0⟩, e, r, h1, h2, h3⟩ := goal
  have h1' : r0 = bI r := h1
  exact ⟨I', r, by rw [e, h1'], h2, h3⟩
