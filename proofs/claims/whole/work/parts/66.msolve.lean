/-! THE REFERENCE: too much, the instant, the last loop of a solve -/
theorem t_tooMuch {kd : Nat → Nat} {I : ek_St} {n th : Nat} {c s l f : Nat → Nat} {ph ids : Nat → Int32} (hM : MK kd) (hD : MD I n c s l f ph) (hid : ∀ k, k < n → I 2 k = ids k) (hth : th ≤ 1000) :
    ∃ I' r, fMo_tooMuch kd I 1 (nI th) = some (I', r) ∧ TooM n ids (fun k => mkRat (c k) (l k)) (mkRat th 1000) r ∧ MF I I' 1 [26, 27, 30, 31] := by
  have hn := hD.1.1
  generalize hg : (fun k => mkRat ((c k : Nat) : Int) (l k)) = g
  obtain ⟨I1, e1, g1, f1⟩ := fs_none (I := I) g hM
  have goal : ∃ q, fMo_tooMuch kd I 1 (nI th) = some q ∧ TooM n ids g (mkRat th 1000) q.2 ∧ MF I q.1 1 [26, 27, 30, 31] := by
    simp only [fMo_tooMuch, fMo_tooMuch_0, ck_t hM.m1, e1, bv_s]
    refine lp_for (fun i q => ∃ I', q = (I', 1, nI th, nI i) ∧ FS I' g i ∧ MF I I' 1 [26, 27, 30, 31] ∧ ∀ j, j < i → ¬ mkRat th 1000 < rs g (j + 1)) (fun q : ek_St × Int32 => TooM n ids g (mkRat th 1000) q.2 ∧ MF I q.1 1 [26, 27, 30, 31]) n ⟨I1, rfl, g1, f1.mono (by simp), fun j hj => absurd hj (by omega)⟩ ?_ ?_ (by omega)
    · rintro kk i q hi ⟨I2, rfl, q1, q2, q3⟩ hkk
      have hD2 := hD.mf q2
      have hi12 : i < 12 := by omega
      have di := hD2.2 i hi
      have ra : I2 (1 + 2) i = nI (c i) := di.1.1
      have rc : I2 (1 + 4) i = nI (l i) := di.1.2.2.1
      obtain ⟨I3, e3, g3, m3⟩ := fs_add (I := I2) (g := g) (c := c i) (p := l i) hM q1 (by rw [← hg]) hi12 (by omega) (by omega) (by omega)
      have g3' := g3
      obtain ⟨N, D, a1, a2, a3, a4, a5, a6⟩ := g3'
      have b1 : D ≤ 20000 ^ 12 := Nat.le_trans a4 (pw12 (by omega))
      have b2 : N ≤ 12 * 20000 ^ 12 := Nat.le_trans a5 (Nat.mul_le_mul (by omega) b1)
      obtain ⟨I4, e4, m4⟩ := t_isAbove (I := I3) hM a1 a2 hth (Nat.lt_of_le_of_lt (Nat.mul_le_mul_right _ b2) (by decide +kernel)) (Nat.lt_of_le_of_lt (Nat.mul_le_mul_right _ b1) (by decide +kernel))
      have m4' : MF I I4 1 [26, 27, 30, 31] := (q2.trans (m3.mono (by simp))).trans (m4.mono (by simp))
      have hlt := mk_lt_iff (a := th) (b := 1000) (c := N) (d := D) (by decide) a3
      rw [Nat.mul_comm th D, ← a6] at hlt
      have rid : I4 (1 + 1) i = ids i := by rw [m4'.2 _ (by decide)]; exact hid i hi
      simp only [fMo_tooMuch_6, if_neg (hD2.ge hi), ck_t hM.m1, ck_t hM.a1, ck_t hM.a2, ck_t hM.a3, ck_t hM.a4, ck_t hM.a5, ck_t hM.a6, ck_t hM.a7, ck_t hM.a8, ck_t hM.a9, ck_t hM.a10, ck_t hM.a11, ck_t hM.a12, ck_t hM.a13, ck_t hM.a14, ck_t hM.a15, ck_t hM.a16, ck_t hM.a17, ck_t (in12 hi12), cl12 hi12, ra, rc, e3, bv_s, e4, bi_s, let_e, rid]
      by_cases hA : D * th < N * 1000
      · rw [decide_eq_true hA, if_neg (by decide)]
        exact ⟨_, rfl, Or.inl ⟨i, hi, hlt.mpr hA, q3, rfl⟩, m4'⟩
      · rw [decide_eq_false hA, if_pos (by decide)]
        refine hkk _ ⟨I4, by rw [nI_succ], g3.mf m4 (by decide) (by decide), m4', fun j hj => ?_⟩
        by_cases e : j = i
        · rw [e]; exact fun q => hA (hlt.mp q)
        · exact q3 j (by omega)
    · rintro kk q ⟨I2, rfl, q1, q2, q3⟩
      simp only [fMo_tooMuch_6, if_pos (hD.mf q2).le, ck_t hM.m1]
      exact ⟨_, rfl, Or.inr ⟨q3, rfl⟩, q2⟩
  obtain ⟨⟨I', r⟩, e, h1, h2⟩ := goal
  exact ⟨I', r, e, h1, h2⟩
/-- the greater -/
def mx (a b : Int32) : Int32 := if a < b then b else a
theorem mx_le {a b : Int32} (h : b ≤ a) : mx a b = a := if_neg (Int32.not_lt.mpr h)
theorem mx_nle {a b : Int32} (h : ¬ b ≤ a) : mx a b = b := if_pos (Int32.not_le.mp h)
def inst (ph per sol en : Nat → Int32) (x : Int32) : Nat → Int32
  | 0 => x
  | k + 1 => if ph k = 2 ∨ (ph k = 1 ∧ per k < sol k) then mx (inst ph per sol en x k) (en k) else inst ph per sol en x k
theorem inst_congr {ph per sol en ph' per' sol' en' : Nat → Int32} {x : Int32} : ∀ n, (∀ k, k < n → ph k = ph' k ∧ per k = per' k ∧ en k = en' k ∧ (ph k = 1 → sol k = sol' k)) → inst ph per sol en x n = inst ph' per' sol' en' x n
  | 0, _ => rfl
  | n + 1, h => by
    obtain ⟨h1, h2, h3, h4⟩ := h n (by omega)
    have ih := inst_congr (x := x) n (fun k hk => h k (by omega))
    show (if ph n = 2 ∨ (ph n = 1 ∧ per n < sol n) then _ else _) = (if ph' n = 2 ∨ (ph' n = 1 ∧ per' n < sol' n) then _ else _)
    have e : (ph n = 2 ∨ (ph n = 1 ∧ per n < sol n)) ↔ (ph' n = 2 ∨ (ph' n = 1 ∧ per' n < sol' n)) := by
      rw [← h1, ← h2]
      constructor
      · rintro (q | q)
        · exact Or.inl q
        · exact Or.inr ⟨q.1, by rw [← h4 q.1]; exact q.2⟩
      · rintro (q | q)
        · exact Or.inl q
        · exact Or.inr ⟨q.1, by rw [h4 q.1]; exact q.2⟩
    rw [ih, h3]
    by_cases q : ph n = 2 ∨ (ph n = 1 ∧ per n < sol n)
    · rw [if_pos q, if_pos (e.mp q)]
    · rw [if_neg q, if_neg (fun z => q (e.mpr z))]
theorem up_up {I : ek_St} {x j : Nat} {a b : Int32} : ek_up (ek_up I x j a) x j b = ek_up I x j b := by
  funext y k
  unfold ek_up
  split <;> rfl
theorem t_findInstant {kd : Nat → Nat} {I : ek_St} {n : Nat} (hM : MK kd) (hn : n ≤ 12) (h7 : I 1 7 = nI n) :
    fMo_findInstant kd I 1 = some (ek_up I 1 5 (inst (I 7) (I 8) (I 9) (I 10) (mx (I 1 5) (I 1 1)) n)) := by
  generalize hx : mx (I 1 5) (I 1 1) = x
  have loop : ∃ r, ek_lp (fun (k : (ek_St × Nat × Int32) → Option (ek_St)) (q : (ek_St × Nat × Int32)) => fMo_findInstant_28 kd k q.1 q.2.1 q.2.2) ek_N (ek_up I 1 5 x, 1, (0 : Int32)) = some r ∧ r = ek_up I 1 5 (inst (I 7) (I 8) (I 9) (I 10) x n) := by
    refine lp_for (fun i q => q = (ek_up I 1 5 (inst (I 7) (I 8) (I 9) (I 10) x i), 1, nI i)) _ n rfl ?_ ?_ (by omega)
    · rintro kk i q hi rfl hkk
      have hi12 : i < 12 := by omega
      generalize hy : inst (I 7) (I 8) (I 9) (I 10) x i = y
      have r1 : ek_up I 1 5 y 1 7 = nI n := by rw [up_ne (by decide)]; exact h7
      have r2 : ek_up I 1 5 y 1 5 = y := up_same
      have ra : ek_up I 1 5 y (1 + 6) = I 7 := ek_up_ne (by decide)
      have rb : ek_up I 1 5 y (1 + 7) = I 8 := ek_up_ne (by decide)
      have rc : ek_up I 1 5 y (1 + 8) = I 9 := ek_up_ne (by decide)
      have rd : ek_up I 1 5 y (1 + 9) = I 10 := ek_up_ne (by decide)
      have hge : ¬ nI n ≤ nI i := nI_ge hi (by omega)
      have e0 : inst (I 7) (I 8) (I 9) (I 10) x (i + 1) = if I 7 i = 2 ∨ (I 7 i = 1 ∧ I 8 i < I 9 i) then mx y (I 10 i) else y := by rw [← hy]; rfl
      have no : ¬ (I 7 i = 2 ∨ (I 7 i = 1 ∧ I 8 i < I 9 i)) → ∃ r, fMo_findInstant_75 kd kk (ek_up I 1 5 y) 1 (nI i) = some r ∧ r = ek_up I 1 5 (inst (I 7) (I 8) (I 9) (I 10) x n) := by
        intro h
        simp only [fMo_findInstant_75, fMo_findInstant_76, if_pos, fMo_findInstant_104, let_e]
        refine hkk _ ?_
        rw [e0, if_neg h, nI_succ]
      have yes : (I 7 i = 2 ∨ (I 7 i = 1 ∧ I 8 i < I 9 i)) → ∃ r, fMo_findInstant_71 kd kk (ek_up I 1 5 y) 1 (nI i) = some r ∧ r = ek_up I 1 5 (inst (I 7) (I 8) (I 9) (I 10) x n) := by
        intro h
        simp only [fMo_findInstant_71, fMo_findInstant_76, if_neg (show ¬ (1 : Int32) = 0 by decide), fMo_findInstant_104, let_e, ck_t hM.m1, ck_t hM.a1, ck_t hM.a2, ck_t hM.a3, ck_t hM.a4, ck_t hM.a5, ck_t hM.a6, ck_t hM.a7, ck_t hM.a8, ck_t hM.a9, ck_t hM.a10, ck_t hM.a11, ck_t hM.a12, ck_t hM.a13, ck_t hM.a14, ck_t hM.a15, ck_t hM.a16, ck_t hM.a17, ck_t (in12 hi12), cl12 hi12, rd, r2]
        by_cases hle : I 10 i ≤ y
        · rw [if_pos hle]
          refine hkk _ ?_
          rw [e0, if_pos h, nI_succ, mx_le hle]
        · rw [if_neg hle]
          refine hkk _ ?_
          rw [e0, if_pos h, nI_succ, mx_nle hle, up_up]
      simp only [fMo_findInstant_28, ck_t hM.m1, ck_t hM.a1, ck_t hM.a2, ck_t hM.a3, ck_t hM.a4, ck_t hM.a5, ck_t hM.a6, ck_t hM.a7, ck_t hM.a8, ck_t hM.a9, ck_t hM.a10, ck_t hM.a11, ck_t hM.a12, ck_t hM.a13, ck_t hM.a14, ck_t hM.a15, ck_t hM.a16, ck_t hM.a17, r1, if_neg hge, ck_t (in12 hi12), cl12 hi12, ra, rb, rc]
      by_cases h2 : I 7 i = 2
      · rw [if_pos h2]
        exact yes (Or.inl h2)
      · rw [if_neg h2]
        by_cases h1 : I 7 i = 1
        · rw [if_pos h1]
          by_cases hle : I 9 i ≤ I 8 i
          · rw [if_pos hle]
            exact no (fun q => q.elim h2 (fun z => Int32.not_lt.mpr hle z.2))
          · rw [if_neg hle]
            exact yes (Or.inr ⟨h1, Int32.not_le.mp hle⟩)
        · rw [if_neg h1]
          exact no (fun q => q.elim h2 (fun z => h1 z.1))
    · rintro kk q rfl
      have r1 : ∀ y, ek_up I 1 5 y 1 7 = nI n := fun y => by rw [up_ne (by decide)]; exact h7
      simp only [fMo_findInstant_28, ck_t hM.m1, r1, if_pos (nI_le (Nat.le_refl n) (show n < 2 ^ 31 by omega))]
      exact ⟨_, rfl, rfl⟩
  obtain ⟨r, e, rfl⟩ := loop
  simp only [fMo_findInstant, fMo_findInstant_0, ck_t hM.m1, fMo_findInstant_23, let_e]
  by_cases hle : I 1 5 ≤ I 1 1
  · have hx1 : I 1 1 = x := by
      rw [← hx]
      unfold mx
      split
      · rfl
      · rename_i q
        exact Int32.le_antisymm (Int32.not_lt.mp q) hle
    rw [if_pos hle, hx1]
    exact e
  · have hx1 : I 1 5 = x := by
      rw [← hx, mx_le (Int32.le_of_lt (Int32.not_le.mp hle))]
    rw [if_neg hle, hx1]
    exact e
/-- all regions of loads are words -/
def WV (I : ek_St) : Prop := ∀ m, m < 24 → ∃ v, Hm I 1 m v
/-- what a solve leaves -/
def PS (I I' : ek_St) (n : Nat) (c s l f : Nat → Nat) (ph : Nat → Int32) (L : Nat → Rat) (t : Rat) : Prop :=
  WV I' ∧ (∀ z, z ≠ 1 → z ≠ 9 → z ≠ 16 → z ≠ 17 → z ≠ 18 → I' z = I z) ∧
  (∀ k, k < n → cnt ph k → MV I' (2 * k) (L k) ∧ I' 9 k = nI (perN (c k) (L k)) ∧ I' 16 k = bI (decide (s k ≠ l k ∧ L k = lo' c l k))) ∧
  (∀ k, ¬ (k < n ∧ cnt ph k) → I' 9 k = I 9 k ∧ I' 16 k = I 16 k) ∧ MV I' 24 t ∧
  (∀ j, j ≠ 5 → I' 1 j = I 1 j) ∧ I' 1 5 = inst (I 7) (I 8) (I' 9) (I 10) (mx (I 1 5) (I 1 1)) n
theorem PS.base {I I1 I' : ek_St} {n : Nat} {c s l f : Nat → Nat} {ph : Nat → Int32} {L : Nat → Rat} {t : Rat} (h : PS I1 I' n c s l f ph L t) (e : ∀ z, z ≠ 17 → z ≠ 18 → I1 z = I z) : PS I I' n c s l f ph L t := by
  obtain ⟨h1, h2, h3, h4, h5, h6, h7⟩ := h
  rw [e 1 (by decide) (by decide), e 7 (by decide) (by decide), e 8 (by decide) (by decide), e 10 (by decide) (by decide)] at h7
  refine ⟨h1, fun z a b c d g => (h2 z a b c d g).trans (e z d g), h3, fun k hk => ?_, h5, fun j hj => ?_, h7⟩
  · have := h4 k hk
    rw [e 9 (by decide) (by decide), e 16 (by decide) (by decide)] at this
    exact this
  · rw [h6 j hj, e 1 (by decide) (by decide)]
theorem t_solve5 {kd : Nat → Nat} {I : ek_St} {n : Nat} {c s l f : Nat → Nat} {ph : Nat → Int32} {L : Nat → Rat} {t : Rat} (b : Bool) (hM : MK kd) (hD : MD I n c s l f ph) (hW : WV I) (hL : ∀ k, k < n → cnt ph k → lo' c l k ≤ L k ∧ L k ≤ hi' c s k) (ht : MV I 24 t)
    (hb1 : b = true → ∀ k, k < n → cnt ph k → L k = hi' c s k) (hb2 : b = false → ∀ k, k < n → cnt ph k → MV I (2 * k) (L k)) :
    ∃ I', fMo_solve_224 kd I 1 (bI b) = some I' ∧ PS I I' n c s l f ph L t := by
  have hn := hD.1.1
  unfold fMo_solve_224
  refine lp_for (fun i q => ∃ I', q = (I', 1, bI b, nI i) ∧ WV I' ∧ (∀ z, z ≠ 9 → z ≠ 16 → z ≠ 17 → I' z = I z) ∧ (∀ k, k < i → cnt ph k → MV I' (2 * k) (L k) ∧ I' 9 k = nI (perN (c k) (L k)) ∧ I' 16 k = bI (decide (s k ≠ l k ∧ L k = lo' c l k))) ∧
    (∀ k, ¬ (k < i ∧ cnt ph k) → I' 9 k = I 9 k ∧ I' 16 k = I 16 k) ∧ MV I' 24 t ∧ (b = false → ∀ k, i ≤ k → k < n → cnt ph k → MV I' (2 * k) (L k))) _ n ⟨I, rfl, hW, fun _ _ _ _ => rfl, fun k hk => absurd hk (by omega), fun _ _ => ⟨rfl, rfl⟩, ht, fun hb k _ hk hc => hb2 hb k hk hc⟩ ?_ ?_ (by omega)
  · rintro kk i q hi ⟨I2, rfl, w1, w2, w3, w4, w5, w6⟩ hkk
    have hi12 : i < 12 := by omega
    have hD2 : MD I2 n c s l f ph := hD.keep (by rw [w2 1 (by decide) (by decide) (by decide)]) (fun z _ _ => w2 z (by omega) (by omega) (by omega))
    have di := hD2.2 i hi
    have hcount := t_counts (I := I2) hM hi12
    rw [show I2 7 i = ph i from di.1.2.2.2.2] at hcount
    simp only [fMo_solve_226, ck_t hM.m1, if_neg (hD2.ge hi), hcount, bi_s]
    by_cases hc : ph i = 2
    · rw [hc, if_pos (by decide)]
      simp only [fMo_solve_284, let_e]
      refine hkk _ ⟨I2, by rw [nI_succ], w1, w2, fun k hk hck => ?_, fun k hk => ?_, w5, fun hb k h1 h2 h3 => w6 hb k (by omega) h2 h3⟩
      · by_cases e : k = i
        · subst e
          exact absurd hc hck
        · exact w3 k (by omega) hck
      · exact w4 k (fun q => hk ⟨by omega, q.2⟩)
    · have hbb : bI (decide (ph i ≠ 2)) = 1 := by simp [bI, hc]
      rw [hbb, if_neg (by decide)]
      have settle : ∀ I3, MF I2 I3 1 [2 * i, 2 * i + 1] → WV I3 → MV I3 (2 * i) (L i) → ∃ r, fMo_solve_279 kd kk I3 1 (bI b) (nI i) = some r ∧ PS I r n c s l f ph L t := by
        intro I3 m3 wv3 q3
        obtain ⟨I4, e4, h4, h4', g4⟩ := t_settle hM (hD2.mf m3) hi q3 (hL i hi hc).1 (hL i hi hc).2
        simp only [fMo_solve_279, ck_t hM.m1, e4, bv_s, fMo_solve_284, let_e]
        refine hkk _ ⟨I4, by rw [nI_succ], fun m hm => ?_, fun z z1 z2 z3 => ?_, fun k hk hck => ?_, fun k hk => ?_, ?_, fun hb k h1 h2 h3 => ?_⟩
        · obtain ⟨v, hv⟩ := wv3 m hm
          exact ⟨v, g4.1 m v (by omega) (by simp; omega) hv⟩
        · rw [g4.2.1 z z3 z1 z2, m3.2 z z3]
          exact w2 z z1 z2 z3
        · by_cases e : k = i
          · subst e
            exact ⟨q3.mg g4 (by omega) (by simp; omega) (by simp; omega), h4, h4'⟩
          · obtain ⟨x1, x2, x3⟩ := w3 k (by omega) hck
            refine ⟨(x1.mf m3 (by omega) (by simp; omega) (by simp; omega)).mg g4 (by omega) (by simp; omega) (by simp; omega), ?_, ?_⟩
            · rw [(g4.2.2 k e).1, m3.2 9 (by decide)]
              exact x2
            · rw [(g4.2.2 k e).2, m3.2 16 (by decide)]
              exact x3
        · have e : k ≠ i := fun e => hk ⟨by omega, by rw [e]; exact hc⟩
          have hk' : ¬ (k < i ∧ cnt ph k) := fun q => hk ⟨by omega, q.2⟩
          rw [(g4.2.2 k e).1, (g4.2.2 k e).2, m3.2 9 (by decide), m3.2 16 (by decide)]
          exact w4 k hk'
        · exact (w5.mf m3 (by decide) (by simp; omega) (by simp; omega)).mg g4 (by decide) (by simp) (by simp)
        · exact ((w6 hb k (by omega) h2 h3).mf m3 (by omega) (by simp; omega) (by simp; omega)).mg g4 (by omega) (by simp; omega) (by simp; omega)
      cases b with
      | false =>
        rw [if_pos (show bI false = (0 : Int32) from rfl)]
        exact settle I2 (MF.refl _ _ _) w1 (w6 rfl i (Nat.le_refl _) hi hc)
      | true =>
        rw [if_neg (show ¬ bI true = (0 : Int32) by decide)]
        obtain ⟨I3, e3, h3, f3⟩ := t_be (I := I2) (k := 2 * i) (v := c i) hM.mn (by omega) (by omega)
        obtain ⟨I4, e4, h4, f4⟩ := t_be (I := I3) (k := 2 * i + 1) (v := s i) hM.mn (by omega) (by omega)
        have ra : I2 (1 + 2) i = nI (c i) := di.1.1
        have rb : I3 (1 + 3) i = nI (s i) := by rw [f3.ne (by decide)]; exact di.1.2.1
        have m4 : MF I2 I4 1 [2 * i, 2 * i + 1] := (f3.mf (by simp)).trans (f4.mf (by simp))
        simp only [ck_t hM.m1, ck_t hM.a1, ck_t hM.a2, ck_t hM.a3, ck_t hM.a4, ck_t hM.a5, ck_t hM.a6, ck_t hM.a7, ck_t hM.a8, ck_t hM.a9, ck_t hM.a10, ck_t hM.a11, ck_t hM.a12, ck_t hM.a13, ck_t hM.a14, ck_t hM.a15, ck_t hM.a16, ck_t hM.a17, ck_t (in12 hi12), cl12 hi12, ra, nI_j (show c i < 2 ^ 31 by omega), m2k, m2k1, e3, bv_s, rb, nI_j (show s i < 2 ^ 31 by omega), e4]
        have hQ1 : 20000 ≤ QB := by decide +kernel
        refine settle I4 m4 (fun m hm => ?_) ⟨c i, s i, Hr.fm h3 f4 (by omega), h4, by omega, Nat.le_trans (by omega) hQ1, Nat.le_trans (by omega) hQ1, hb1 rfl i hi hc⟩
        by_cases em : m = 2 * i
        · subst em
          exact ⟨_, Hr.fm h3 f4 (by omega)⟩
        · by_cases em2 : m = 2 * i + 1
          · subst em2
            exact ⟨_, h4⟩
          · obtain ⟨v, hv⟩ := w1 m hm
            exact ⟨v, m4.1 m v (by omega) (by simp; omega) hv⟩
  · rintro kk q ⟨I2, rfl, w1, w2, w3, w4, w5, w6⟩
    have hD2 : MD I2 n c s l f ph := hD.keep (by rw [w2 1 (by decide) (by decide) (by decide)]) (fun z _ _ => w2 z (by omega) (by omega) (by omega))
    simp only [fMo_solve_226, ck_t hM.m1, if_pos hD2.le, t_findInstant (I := I2) hM hn hD2.1.2, bv_s]
    have e9 : ∀ y, (ek_up I2 1 5 y) 9 = I2 9 := fun y => ek_up_ne (by decide)
    have e16 : ∀ y, (ek_up I2 1 5 y) 16 = I2 16 := fun y => ek_up_ne (by decide)
    have e17 : ∀ y, (ek_up I2 1 5 y) 17 = I2 17 := fun y => ek_up_ne (by decide)
    refine ⟨_, rfl, fun m hm => ?_, fun z z1 z2 z3 z4 z5 => ?_, fun k hk hc => ?_, fun k hk => ?_, w5.cell (e17 _), fun j hj => ?_, ?_⟩
    · obtain ⟨v, hv⟩ := w1 m hm
      exact ⟨v, Hr.cell hv (e17 _)⟩
    · rw [ek_up_ne z1]
      exact w2 z z2 z3 z4
    · rw [e9, e16]
      obtain ⟨x1, x2⟩ := w3 k hk hc
      exact ⟨x1.cell (e17 _), x2⟩
    · rw [e9, e16]
      exact w4 k hk
    · rw [up_ne (fun q => hj q.2), w2 1 (by decide) (by decide) (by decide)]
    · rw [up_same, e9, w2 1 (by decide) (by decide) (by decide), w2 7 (by decide) (by decide) (by decide), w2 8 (by decide) (by decide) (by decide), w2 10 (by decide) (by decide) (by decide)]
