/-! TICK: the class's parts -/
theorem relR_congr {x y : Nat → Int32} {cl it : Int32} (h : ∀ j, j < 13 → x j = y j) {j : Nat} (hj : j < 13) : relR x cl it j = relR y cl it j := by
  unfold relR perR ndR
  rw [h 1 (by decide), h 6 (by decide), h 7 (by decide), h 10 (by decide), h 11 (by decide), h 12 (by decide), h j hj]
theorem wkR_congr {x y : Nat → Int32} {m cl : Int32} (h : ∀ j, j < 13 → j ≠ 7 → x j = y j) {j : Nat} (hj : j < 13) (h7 : j ≠ 7) : wkR x m cl j = wkR y m cl j := by
  unfold wkR
  rw [h 9 (by decide) (by decide), h 11 (by decide) (by decide), h 12 (by decide) (by decide), h j hj h7]
theorem del_false (p : Nat) : del p (fun _ : Nat => False) = fun _ => False := by
  funext k
  unfold del
  split <;> rfl
theorem RX.rowOf {I : ek_St} {π : Nat → Nat} {q : AS} {t : Rat} (h : RXA I π q t) {i : Nat} (hi : i < q.1) : kX (tk (π i)) = 6 ∧ (∀ j, j < 13 → j ≠ 7 → I (tk (π i)) j = q.2.1 i j) ∧ (I (1 + 1 + 1) i).toNatClampNeg = tk (π i) ∧ i < 12 := by
  have hn := h.1.1
  have hi12 : i < 12 := by omega
  exact ⟨(kX_tk _ (h.1.2.2.1 i hi12).1).1, fun j hj h7 => h.2.1 i j hi hj h7, h.1.row hi12, hi12⟩
theorem s_dismiss {I : ek_St} {π : Nat → Nat} {q : AS} {t : Rat} (h : RXA I π q t) : ∃ I' π', fKe_dismissLeavers kX I 1 = some I' ∧ RXA I' π' (dm q.1 q) t := by
  have hn : q.1 ≤ 12 := h.1.1
  have e21 : I (1 + 1) 1 = nI q.1 := h.1.2.1
  have goal : ∃ r, fKe_dismissLeavers kX I 1 = some r ∧ ∃ π', RXA r π' (dm q.1 q) t := by
    simp only [fKe_dismissLeavers, fKe_dismissLeavers_0, ck_t k1, ck_t k11, e21, let_e]
    refine lp_for (fun u Q => ∃ I' π' q', Q = (I', 1, nI (q.1 - u) - 1) ∧ RXA I' π' q' t ∧ q.1 - u ≤ q'.1 ∧ dm (q.1 - u) q' = dm q.1 q) _ q.1 ⟨I, π, q, rfl, h, by omega, rfl⟩ ?_ ?_ (by omega)
    · rintro kk u Q hu ⟨I2, π2, q2, rfl, r2, l2, d2⟩ hkk
      obtain ⟨i, hi⟩ : ∃ i, q.1 - u = i + 1 := ⟨q.1 - u - 1, by omega⟩
      have hi2 : q.1 - (u + 1) = i := by omega
      rw [hi] at l2 d2 ⊢
      rw [hi2] at hkk
      obtain ⟨hk6, fld, row, hi12⟩ := r2.rowOf (show i < q2.1 by omega)
      have ep : nI (i + 1) - (1 : Int32) = nI i := nI_pred i
      have em : nI i + (-1 : Int32) = nI i - 1 := by rw [Int32.sub_eq_add_neg]
      have e2 : I2 1 2 = q2.2.2.2 0 := r2.2.2.2.2 0 (by decide)
      simp only [fKe_dismissLeavers_10, ep, if_neg (nI_pos (show i < 2 ^ 31 by omega)), ck_t k1, ck_t k11, ck_t k111, ck_t (in12 hi12), cl12 hi12, row, let_e, ck_t hk6, fld 5 (by decide) (by decide), fld 8 (by decide) (by decide), e2, fKe_dismissLeavers_56, em]
      have ed : dm (i + 1) q2 = dm i (dm1 i q2) := rfl
      rw [ed] at d2
      unfold dm1 at d2
      by_cases c5 : q2.2.1 i 5 = 2
      · rw [if_pos c5]
        by_cases c8 : q2.2.1 i 8 = q2.2.2.2 0
        · rw [if_pos c8]
          rw [if_pos ⟨c5, c8⟩] at d2
          obtain ⟨I3, e3, r3⟩ := s_late r2 (show i < q2.1 by omega)
          obtain ⟨I4, e4, d4, z4⟩ := s_drop r3.1 (show i < q2.1 by omega)
          have r4 := r3.drop (show i < q2.1 by omega) d4 z4
          rw [del_false] at r4
          have e4' : fRo_drop kX I3 (1 + 1) (tk (π2 i)) = some I4 := e4
          simp only [e3, bv_s, e4']
          exact hkk _ ⟨I4, _, _, rfl, r4, by show i ≤ q2.1 - 1; omega, d2⟩
        · rw [if_neg c8]
          rw [if_neg (fun z => c8 z.2)] at d2
          exact hkk _ ⟨I2, π2, q2, rfl, r2, by omega, d2⟩
      · rw [if_neg c5]
        rw [if_neg (fun z => c5 z.1)] at d2
        exact hkk _ ⟨I2, π2, q2, rfl, r2, by omega, d2⟩
    · rintro kk Q ⟨I2, π2, q2, rfl, r2, l2, d2⟩
      rw [Nat.sub_self] at d2 ⊢
      have hneg : nI 0 - (1 : Int32) < 0 := by decide
      simp only [fKe_dismissLeavers_10, if_pos hneg]
      have d2 : q2 = dm q.1 q := d2
      rw [← d2]
      exact ⟨I2, rfl, π2, r2⟩
  obtain ⟨r, e, π', h'⟩ := goal
  exact ⟨r, π', e, h'⟩
theorem lateG_ne {G : Nat → Int32} {x : Int32} {j : Nat} (h : j ≠ 2) : lateG G x j = G j := gset_ne h
theorem s_begin {I : ek_St} {π : Nat → Nat} {q : AS} {t : Rat} (h : RXA I π q t) : ∃ I' π', fKe_beginTick kX I 1 = some I' ∧ RXA I' π' (bg q) t := by
  obtain ⟨I1, π1, e1, h1⟩ := s_dismiss h
  unfold bg
  generalize dm q.1 q = q1 at *
  have hn : q1.1 ≤ 12 := h1.1.1
  have ecl : I1 1 2 = q1.2.2.2 0 := h1.2.2.2.2 0 (by decide)
  have eit : I1 1 6 = q1.2.2.2 4 := h1.2.2.2.2 4 (by decide)
  have goal : ∃ r, fKe_beginTick_20 kX I1 1 (if q1.2.2.2 0 < q1.2.2.2 4 then 0 else 1) = some r ∧ RXA r π1 (rl q1.1 0 q1) t := by
    unfold fKe_beginTick_20
    generalize hcl : q1.2.2.2 0 = cl at *
    generalize hit : q1.2.2.2 4 = it at *
    refine lp_for (fun i Q => ∃ I' q', Q = (I', 1, (if cl < it then (0 : Int32) else 1), nI i) ∧ RXA I' π1 q' t ∧ q'.1 = q1.1 ∧ q'.2.2.2 0 = cl ∧ q'.2.2.2 4 = it ∧ rl (q1.1 - i) i q' = rl q1.1 0 q1) _ q1.1 ⟨I1, q1, rfl, h1, rfl, hcl, hit, rfl⟩ ?_ ?_ (by omega)
    · rintro kk i Q hi ⟨I2, q2, rfl, r2, n2, c2, i2, d2⟩ hkk
      obtain ⟨hk6, fld, row, hi12⟩ := r2.rowOf (show i < q2.1 by omega)
      have e2 : I2 1 2 = cl := (r2.2.2.2.2 0 (by decide)).trans c2
      have hge : ¬ I2 (1 + 1) 1 ≤ nI i := r2.1.ge (by omega)
      obtain ⟨m, hm⟩ : ∃ m, q1.1 - i = m + 1 := ⟨q1.1 - i - 1, by omega⟩
      have hm2 : q1.1 - (i + 1) = m := by omega
      rw [hm] at d2
      rw [hm2] at hkk
      have ed : rl (m + 1) i q2 = rl m (i + 1) (rl1 i q2) := rfl
      rw [ed] at d2
      unfold rl1 at d2
      rw [c2, i2] at d2
      -- the two ends of a turn
      have no : ¬ ((q2.2.1 i 5 = 0 ∧ ¬ cl < it) ∨ (q2.2.1 i 5 = 1 ∧ q2.2.1 i 8 = cl)) → ∃ r, fKe_beginTick_100 kX kk I2 1 (if cl < it then (0 : Int32) else 1) (nI i) = some r ∧ RXA r π1 (rl q1.1 0 q1) t := by
        intro hc
        rw [if_neg hc] at d2
        simp only [fKe_beginTick_100, let_e]
        exact hkk _ ⟨I2, q2, by rw [nI_succ], r2, n2, c2, i2, d2⟩
      have yes : ((q2.2.1 i 5 = 0 ∧ ¬ cl < it) ∨ (q2.2.1 i 5 = 1 ∧ q2.2.1 i 8 = cl)) → ∃ r, fKe_beginTick_86 kX kk I2 1 (if cl < it then (0 : Int32) else 1) (nI i) (tk (π1 i)) = some r ∧ RXA r π1 (rl q1.1 0 q1) t := by
        intro hc
        rw [if_pos hc] at d2
        have hne2 : q2.2.1 i 5 ≠ 2 := by
          rcases hc with z | z
          · rw [z.1]; decide
          · rw [z.1]; decide
        obtain ⟨I3, e3, r3⟩ := s_late r2 (show i < q2.1 by omega)
        have e32 : I3 1 2 = cl := by
          have := r3.2.2.2.2 0 (by decide)
          rw [lateG_ne (by decide)] at this
          exact this.trans c2
        obtain ⟨I4, e4, f4, z4⟩ := s_release (I := I3) (t := tk (π1 i)) (cl := cl) (it := it) hk6
        have fl3 : ∀ j, j < 13 → I3 (tk (π1 i)) j = q2.2.1 i j := by
          intro j hj
          by_cases q7 : j = 7
          · rw [q7]
            exact (r3.2.2.1 i (show i < q2.1 by omega) (fun z => z) hne2).1
          · exact r3.2.1 i j (show i < q2.1 by omega) hj q7
        have r4 := r3.row (I' := I4) (show i < q2.1 by omega) (relR (q2.2.1 i) cl it) (fun j hj _ => by rw [f4 j]; exact relR_congr fl3 hj) (by rw [f4 7]; rfl) rfl (Or.inr hne2) z4
        simp only [fKe_beginTick_86, ck_t k1, e3, bv_s, e32, ck_t hk6, e4, fKe_beginTick_100, let_e]
        have c2' : lateG q2.2.2.2 (q2.2.1 i 9) 0 = cl := by rw [lateG_ne (by decide)]; exact c2
        have i2' : lateG q2.2.2.2 (q2.2.1 i 9) 4 = it := by rw [lateG_ne (by decide)]; exact i2
        exact hkk _ ⟨I4, (q2.1, rset q2.2.1 i (relR (q2.2.1 i) cl it), q2.2.2.1, lateG q2.2.2.2 (q2.2.1 i 9)), by rw [nI_succ], r4, n2, c2', i2', d2⟩
      simp only [fKe_beginTick_23, ck_t k1, ck_t k11, if_neg hge, ck_t k111, ck_t (in12 hi12), cl12 hi12, row, let_e, ck_t hk6, fld 5 (by decide) (by decide), fKe_beginTick_59, fKe_beginTick_60, fld 8 (by decide) (by decide), e2, if_pos, if_neg (show ¬ (1 : Int32) = 0 by decide)]
      by_cases c0 : q2.2.1 i 5 = 0
      · rw [if_pos c0]
        have n1 : ¬ q2.2.1 i 5 = 1 := by rw [c0]; decide
        by_cases ci : cl < it
        · simp only [if_pos ci, if_pos]
          rw [if_neg n1]
          have := no (fun z => z.elim (fun z => z.2 ci) (fun z => n1 z.1))
          rw [if_pos ci] at this
          exact this
        · simp only [if_neg ci, if_neg (show ¬ (1 : Int32) = 0 by decide)]
          have := yes (Or.inl ⟨c0, ci⟩)
          rw [if_neg ci] at this
          exact this
      · rw [if_neg c0]
        by_cases c1 : q2.2.1 i 5 = 1
        · rw [if_pos c1]
          by_cases c8 : q2.2.1 i 8 = cl
          · rw [if_pos c8]
            exact yes (Or.inr ⟨c1, c8⟩)
          · rw [if_neg c8]
            exact no (fun z => z.elim (fun z => c0 z.1) (fun z => c8 z.2))
        · rw [if_neg c1]
          exact no (fun z => z.elim (fun z => c0 z.1) (fun z => c1 z.1))
    · rintro kk Q ⟨I2, q2, rfl, r2, n2, c2, i2, d2⟩
      rw [Nat.sub_self] at d2
      have d2 : q2 = rl q1.1 0 q1 := d2
      have hle : I2 (1 + 1) 1 ≤ nI q1.1 := by
        have := r2.1.le
        rw [n2] at this
        exact this
      simp only [fKe_beginTick_23, ck_t k1, ck_t k11, if_pos hle]
      rw [← d2]
      exact ⟨I2, rfl, r2⟩
  obtain ⟨r, e, hr⟩ := goal
  refine ⟨r, π1, ?_, hr⟩
  simp only [fKe_beginTick, fKe_beginTick_0, ck_t k1, e1, bv_s, ecl, eit]
  by_cases c : q1.2.2.2 0 < q1.2.2.2 4
  · rw [if_pos c] at e ⊢
    exact e
  · rw [if_neg c] at e ⊢
    exact e
/-- the place of an object, 0 for nobody -/
def cellOf (π : Nat → Nat) : Option Nat → Nat
  | none => 0
  | some b => tk (π b)
theorem s_urgent {I : ek_St} {π : Nat → Nat} {q : AS} {t : Rat} (h : RXA I π q t) : fKe_mostUrgent kX I 1 = some (I, cellOf π (bst q.2.1 q.1)) := by
  have hn : q.1 ≤ 12 := h.1.1
  have goal : ∃ r, fKe_mostUrgent kX I 1 = some r ∧ r = (I, cellOf π (bst q.2.1 q.1)) := by
    simp only [fKe_mostUrgent, fKe_mostUrgent_0, let_e]
    refine lp_for (fun i Q => Q = (I, 1, cellOf π (bst q.2.1 i), nI i) ∧ i ≤ q.1) _ q.1 ⟨rfl, Nat.zero_le _⟩ ?_ ?_ (by omega)
    · rintro kk i Q hi ⟨rfl, -⟩ hkk
      obtain ⟨hk6, fld, row, hi12⟩ := h.rowOf hi
      have hge : ¬ I (1 + 1) 1 ≤ nI i := h.1.ge hi
      simp only [fKe_mostUrgent_4, ck_t k1, ck_t k11, if_neg hge, ck_t k111, ck_t (in12 hi12), cl12 hi12, row, let_e, ck_t hk6, fld 9 (by decide) (by decide), fKe_mostUrgent_49, fKe_mostUrgent_47]
      have eb : bst q.2.1 (i + 1) = if q.2.1 i 9 ≤ 0 then bst q.2.1 i else match bst q.2.1 i with
        | none => some i
        | some b => if q.2.1 b 8 ≤ q.2.1 i 8 then some b else some i := rfl
      by_cases c : q.2.1 i 9 ≤ 0
      · rw [if_pos c]
        rw [if_pos c] at eb
        exact hkk _ ⟨by rw [nI_succ, eb], by omega⟩
      · rw [if_neg c]
        rw [if_neg c] at eb
        cases hb : bst q.2.1 i with
        | none =>
          rw [hb] at eb
          have e0 : cellOf π none = 0 := rfl
          rw [if_pos e0]
          exact hkk _ ⟨by rw [nI_succ, eb]; rfl, by omega⟩
        | some b =>
          rw [hb] at eb
          simp only at eb
          have hb2 := bst_lt i b hb
          obtain ⟨hk6b, fldb, -, -⟩ := h.rowOf (show b < q.1 by omega)
          have e0 : ¬ cellOf π (some b) = 0 := tkne
          have e1 : kX (cellOf π (some b)) = 6 := hk6b
          have e8 : I (cellOf π (some b)) 8 = q.2.1 b 8 := fldb 8 (by decide) (by decide)
          rw [if_neg e0]
          simp only [ck_t e1, e8, fld 8 (by decide) (by decide)]
          by_cases c2 : q.2.1 b 8 ≤ q.2.1 i 8
          · rw [if_pos c2]
            rw [if_pos c2] at eb
            exact hkk _ ⟨by rw [nI_succ, eb], by omega⟩
          · rw [if_neg c2]
            rw [if_neg c2] at eb
            exact hkk _ ⟨by rw [nI_succ, eb]; rfl, by omega⟩
    · rintro kk Q ⟨rfl, -⟩
      have hle : I (1 + 1) 1 ≤ nI q.1 := h.1.le
      simp only [fKe_mostUrgent_4, ck_t k1, ck_t k11, if_pos hle]
      exact ⟨_, rfl, rfl⟩
  obtain ⟨r, e, rfl⟩ := goal
  exact e
/-- till when nothing turns -/
def turn (q : AS) (k : Nat) : Int32 := if q.2.1 k 5 = 0 then q.2.2.2 4 else q.2.1 k 8
theorem s_alike {I : ek_St} {π : Nat → Nat} {q : AS} {t : Rat} (h : RXA I π q t) : ∃ w, fKe_ticksAlike kX I 1 (cellOf π (bst q.2.1 q.1)) = some (I, w) ∧ (∀ b, bst q.2.1 q.1 = some b → w ≤ q.2.1 b 9) ∧ ∀ k, k < q.1 → w ≤ turn q k - q.2.2.2 0 := by
  have hn : q.1 ≤ 12 := h.1.1
  have e2 : I 1 2 = q.2.2.2 0 := h.2.2.2.2 0 (by decide)
  have e6 : I 1 6 = q.2.2.2 4 := h.2.2.2.2 4 (by decide)
  have loop : ∀ st : Int32, ∃ r, fKe_ticksAlike_14 kX I 1 st = some r ∧ ∃ w, r = (I, w) ∧ w ≤ st ∧ ∀ k, k < q.1 → w ≤ turn q k - q.2.2.2 0 := by
    intro st
    unfold fKe_ticksAlike_14
    refine lp_for (fun i Q => ∃ w, Q = (I, 1, w, nI i) ∧ w ≤ st ∧ ∀ k, k < i → w ≤ turn q k - q.2.2.2 0) _ q.1 ⟨st, rfl, Int32.le_refl _, fun k hk => absurd hk (by omega)⟩ ?_ ?_ (by omega)
    · rintro kk i Q hi ⟨w, rfl, w1, w2⟩ hkk
      obtain ⟨hk6, fld, row, hi12⟩ := h.rowOf hi
      have hge : ¬ I (1 + 1) 1 ≤ nI i := h.1.ge hi
      have fin : ∃ r, fKe_ticksAlike_59 kX kk I 1 w (nI i) (turn q i) = some r ∧ ∃ w, r = (I, w) ∧ w ≤ st ∧ ∀ k, k < q.1 → w ≤ turn q k - q.2.2.2 0 := by
        simp only [fKe_ticksAlike_59, ck_t k1, e2, let_e]
        by_cases c : turn q i - q.2.2.2 0 < w
        · rw [if_pos c]
          refine hkk _ ⟨_, by rw [nI_succ], Int32.le_trans (Int32.le_of_lt c) w1, fun k hk => ?_⟩
          by_cases z : k = i
          · rw [z]; exact Int32.le_refl _
          · exact Int32.le_trans (Int32.le_of_lt c) (w2 k (by omega))
        · rw [if_neg c]
          refine hkk _ ⟨_, by rw [nI_succ], w1, fun k hk => ?_⟩
          by_cases z : k = i
          · rw [z]; exact Int32.not_lt.mp c
          · exact w2 k (by omega)
      simp only [fKe_ticksAlike_17, ck_t k1, ck_t k11, if_neg hge, ck_t k111, ck_t (in12 hi12), cl12 hi12, row, let_e, ck_t hk6, fld 5 (by decide) (by decide), fld 8 (by decide) (by decide), e6]
      unfold turn at fin
      by_cases c : q.2.1 i 5 = 0
      · rw [if_pos c] at fin ⊢
        exact fin
      · rw [if_neg c] at fin ⊢
        exact fin
    · rintro kk Q ⟨w, rfl, w1, w2⟩
      have hle : I (1 + 1) 1 ≤ nI q.1 := h.1.le
      simp only [fKe_ticksAlike_17, ck_t k1, ck_t k11, if_pos hle]
      exact ⟨_, rfl, w, rfl, w1, w2⟩
  cases hb : bst q.2.1 q.1 with
  | none =>
    obtain ⟨r, e, w, rfl, w1, w2⟩ := loop 5000
    refine ⟨w, ?_, (fun b hb' => nomatch hb'), w2⟩
    have e0 : cellOf π none = 0 := rfl
    simp only [fKe_ticksAlike, fKe_ticksAlike_0]
    rw [if_pos e0]
    exact e
  | some b =>
    have hb2 := bst_lt _ b hb
    obtain ⟨hk6b, fldb, -, -⟩ := h.rowOf hb2.1
    obtain ⟨r, e, w, rfl, w1, w2⟩ := loop (q.2.1 b 9)
    refine ⟨w, ?_, fun b' hb' => by cases hb'; exact w1, w2⟩
    have e0 : ¬ cellOf π (some b) = 0 := tkne
    have e1 : kX (cellOf π (some b)) = 6 := hk6b
    have e9 : I (cellOf π (some b)) 9 = q.2.1 b 9 := fldb 9 (by decide) (by decide)
    simp only [fKe_ticksAlike, fKe_ticksAlike_0]
    rw [if_neg e0]
    simp only [ck_t e1, e9]
    exact e
