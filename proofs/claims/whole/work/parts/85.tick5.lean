/-! TICK: of both -/
theorem s_work {I : ek_St} {t : Nat} {m now : Int32} (hk : kX t = 6) : ∃ I', fTa_work kX I t m now = some I' ∧ (∀ j, I' t j = wkR (I t) m now j) ∧ ∀ z, z ≠ t → I' z = I z := by
  generalize hI1 : ek_up I t 9 (I t 9 - m) = I1
  have i1 : ∀ j, I1 t j = if j = 9 then I t 9 - m else I t j := fun j => by
    rw [← hI1]
    by_cases q : j = 9
    · rw [if_pos q, q]; exact up_same
    · rw [if_neg q, up_ne (fun z => q z.2)]
  have z1 : ∀ z, z ≠ t → I1 z = I z := fun z hz => by rw [← hI1]; exact ek_up_ne hz
  have e9 : I1 t 9 = I t 9 - m := by rw [i1, if_pos rfl]
  have e11 : I1 t 11 = I t 11 := by rw [i1, if_neg (by decide)]
  simp only [fTa_work, fTa_work_0, ck_t hk, let_e, hI1, e9, s_finish hk, bv_s, e11]
  by_cases c : I t 9 - m = 0
  · rw [if_pos c]
    refine ⟨_, rfl, fun j => ?_, fun z hz => by rw [ek_up_ne hz, ek_up_ne hz]; exact z1 z hz⟩
    unfold wkR
    by_cases q12 : j = 12
    · subst q12
      rw [up_same]
      simp [c]
    · rw [up_ne (fun z => q12 z.2)]
      by_cases q11 : j = 11
      · subst q11
        rw [up_same]
        simp [c]
      · rw [up_ne (fun z => q11 z.2), i1, if_neg q11, if_neg q12]
  · rw [if_neg c]
    refine ⟨_, rfl, fun j => ?_, z1⟩
    rw [i1]
    unfold wkR
    rw [if_neg c, if_neg c]
    by_cases q9 : j = 9
    · rw [if_pos q9, if_pos q9]
    · rw [if_neg q9, if_neg q9]
      by_cases q11 : j = 11
      · subst q11; rfl
      · by_cases q12 : j = 12
        · subst q12; rfl
        · rw [if_neg q11, if_neg q12]
/-- the class's turn: a span of m ticks -/
theorem s_turn {I : ek_St} {π : Nat → Nat} {q : AS} {t : Rat} {L N m : Nat} {kk : (ek_St × Nat × Int32 × Int32) → Option (ek_St × Int32)} {last : Int32} {Post : ek_St × Int32 → Prop} (h : RXA I π q t) (hL : 1 ≤ L) (hL2 : L ≤ 5000)
    (hk : ∀ I' π' m, 1 ≤ m → m ≤ L → (m = 1 ∨ ((∀ b, bst (bg q).2.1 (bg q).1 = some b → nI m ≤ (bg q).2.1 b 9) ∧ ∀ k, k < (bg q).1 → nI m ≤ turn (bg q) k - (bg q).2.2.2 0)) → RXA I' π' (run (nI m) (bg q)) t → ∃ r, kk (I', 1, ansR (bg q), nI (L - m)) = some r ∧ Post r) :
    ∃ r, fKe_tick_24 kX kk I 1 last (nI L) = some r ∧ Post r := by
  obtain ⟨I2, π2, e2, h2⟩ := s_begin h
  have e3 := s_urgent h2
  obtain ⟨w, e4, w1, w2⟩ := s_alike h2
  generalize bg q = q1 at *
  have ecl : I2 1 2 = q1.2.2.2 0 := h2.2.2.2.2 0 (by decide)
  simp only [fKe_tick_24, if_neg (nI_nle (show 0 < L by omega) (show L < 2 ^ 31 by omega)), ck_t k1, e2, bv_s, e3, bi_s, e4, let_e, ecl]
  -- the span
  have hspan : ∃ m, 1 ≤ m ∧ m ≤ L ∧ (if (1 : Int32) < (if w < nI L then w else nI L) then (if w < nI L then w else nI L) else 1) = nI m ∧ (m = 1 ∨ nI m ≤ w) := by
    have hvL : (if w < nI L then w else nI L) ≤ nI L := by
      by_cases z : w < nI L
      · rw [if_pos z]; exact Int32.le_of_lt z
      · rw [if_neg z]; exact Int32.le_refl _
    have hvw : (if w < nI L then w else nI L) ≤ w := by
      by_cases z : w < nI L
      · rw [if_pos z]; exact Int32.le_refl _
      · rw [if_neg z]; exact Int32.not_lt.mp z
    generalize (if w < nI L then w else nI L) = v at *
    by_cases z : 1 < v
    · rw [if_pos z]
      obtain ⟨m, rfl, m1, m2⟩ := nI_mk (M := L) (by omega) (Int32.le_of_lt z) hvL
      exact ⟨m, m1, m2, rfl, Or.inr hvw⟩
    · rw [if_neg z]
      exact ⟨1, Nat.le_refl _, hL, rfl, Or.inl rfl⟩
  obtain ⟨m, m1, m2, em, mc⟩ := hspan
  rw [em]
  have hcond : m = 1 ∨ ((∀ b, bst q1.2.1 q1.1 = some b → nI m ≤ q1.2.1 b 9) ∧ ∀ k, k < q1.1 → nI m ≤ turn q1 k - q1.2.2.2 0) := by
    rcases mc with z | z
    · exact Or.inl z
    · exact Or.inr ⟨fun b hb => Int32.le_trans z (w1 b hb), fun k hk => Int32.le_trans z (w2 k hk)⟩
  have el : nI L - nI m = nI (L - m) := pk_sub m2
  rw [el]
  have h3 : RX (ek_up I2 1 2 (q1.2.2.2 0 + nI m)) π2 q1.1 q1.2.1 q1.2.2.1 t (gset q1.2.2.2 0 (q1.2.2.2 0 + nI m)) (fun _ => False) := h2.g 0 _
  generalize hI3 : ek_up I2 1 2 (q1.2.2.2 0 + nI m) = I3 at *
  have e32 : I3 1 2 = q1.2.2.2 0 + nI m := by rw [← hI3]; exact up_same
  have hr := run_eq (nI m) q1
  have ha : ansR q1 = match bst q1.2.1 q1.1 with
    | none => 0
    | some b => q1.2.1 b 0 := rfl
  cases hb : bst q1.2.1 q1.1 with
  | none =>
    rw [hb] at hr ha
    simp only at hr ha
    have e0 : cellOf π2 none = 0 := rfl
    simp only [fKe_tick_84]
    rw [if_pos e0, if_pos e0]
    have := hk I3 π2 m m1 m2 hcond (by rw [hr]; exact h3)
    rw [ha] at this
    exact this
  | some b =>
    rw [hb] at hr ha
    simp only at hr ha
    have hb2 := bst_lt _ b hb
    have hn : q1.1 ≤ 12 := h2.1.1
    have hk6 : kX (tk (π2 b)) = 6 := (kX_tk _ (h2.1.2.2.1 b (by omega)).1).1
    have e0 : ¬ cellOf π2 (some b) = 0 := tkne
    have e1 : kX (cellOf π2 (some b)) = 6 := hk6
    have eid : I3 (cellOf π2 (some b)) 0 = q1.2.1 b 0 := h3.2.1 b 0 hb2.1 (by decide) (by decide)
    obtain ⟨I4, e4', f4, z4⟩ := s_work (I := I3) (t := tk (π2 b)) (m := nI m) (now := q1.2.2.2 0 + nI m) hk6
    have e4'' : fTa_work kX I3 (cellOf π2 (some b)) (nI m) (q1.2.2.2 0 + nI m) = some I4 := e4'
    simp only [fKe_tick_84]
    rw [if_neg e0, if_neg e0]
    simp only [ck_t e1, eid, ck_t k1, e32, e4'', bv_s]
    have r4 := h3.row (I' := I4) hb2.1 (wkR (q1.2.1 b) (nI m) (q1.2.2.2 0 + nI m)) (fun j hj hj7 => by rw [f4 j]; exact wkR_congr (fun i hi hi7 => h3.2.1 b i hb2.1 hi hi7) hj hj7) (by rw [f4 7]; rfl) rfl (by
      by_cases z : q1.2.1 b 5 = 2
      · left; exact z
      · right; exact z) z4
    have := hk I4 π2 m m1 m2 hcond (by rw [hr]; exact r4)
    rw [ha] at this
    exact this
theorem DY.mono {x : Nat → Int32} {B B' : Nat} (h : DY x B) (hB : B ≤ B') : DY x B' := ⟨h.1, by obtain ⟨e, a, b⟩ := h.2.1; exact ⟨e, a, by omega⟩, h.2.2⟩
theorem WT.mono {n B B' : Nat} {F : Nat → Nat → Int32} (h : WT n F B) (hB : B ≤ B') : WT n F B' := ⟨h.1, h.2.1, h.2.2.1, fun k hk => (h.2.2.2 k hk).mono hB⟩
theorem ST.mono {Ix Im : ek_St} {B B' : Nat} (h : ST Ix Im B) (hB : B ≤ B') : ST Ix Im B' := by
  obtain ⟨π, n, F, L, t, G, hX, hm, hT, a, b, ⟨cl, c1, c2⟩, ⟨i, d1, d2⟩⟩ := h
  exact ⟨π, n, F, L, t, G, hX, hm, hT.mono hB, a, b, ⟨cl, c1, by omega⟩, ⟨i, d1, by omega⟩⟩
theorem j_tick_no {kd : Nat → Nat} {Ix Im : ek_St} {B : Nat} (hM : MK kd) (h : ST Ix Im B) (a : Int32) (ha : ¬ (1 ≤ a ∧ a ≤ 5000)) : ∃ Im', fMo_tick kd Im 1 a = some (Im', 0) ∧ Im' 1 0 = 1 ∧ ST Ix Im' B := by
  obtain ⟨π, n, F, L, t, G, hX, hm, hT, hG⟩ := h
  have hs : ST Ix (ek_up Im 1 0 1) B := ⟨π, n, F, L, t, G, hX, hm.code 1, hT, hG⟩
  refine ⟨ek_up Im 1 0 1, ?_, up_same, hs⟩
  have e0 : ek_up Im 1 0 1 1 0 = 1 := up_same
  have e18 : fMo_tick_18 kd Im 1 a 1 1 = some (ek_up Im 1 0 1, 0) := by
    simp only [fMo_tick_18, ck_t hM.m1, let_e, e0, if_neg (show ¬ (1 : Int32) = 0 by decide)]
  simp only [fMo_tick, fMo_tick_0, fMo_tick_13, e18]
  by_cases h1 : a < 1
  · rw [if_pos h1]
  · rw [if_neg h1, if_neg (fun z => ha ⟨Int32.not_lt.mp h1, z⟩)]
theorem j_tick {kd : Nat → Nat} {Ix Im : ek_St} {B : Nat} (hM : MK kd) (hB : B ≤ 900000000) (h : ST Ix Im B) (a : Int32) (ha : 1 ≤ a ∧ a ≤ 5000) : ∃ Ix' Im' r, fKe_tick kX Ix 1 a = some (Ix', r) ∧ fMo_tick kd Im 1 a = some (Im', r) ∧ Im' 1 0 = 0 ∧ ST Ix' Im' (B + 5000) := by
  obtain ⟨π, n, F, L, t, G, hX, hm, hT, hth, hts, ⟨cl, c1, c2⟩, ⟨itv, d1, d2⟩⟩ := h
  obtain ⟨N, rfl, hN1, hN2⟩ := nI_mk (M := 5000) (by decide) ha.1 ha.2
  generalize hq : ((n, F, L, G) : AS) = q
  have hWA : WA q t (B + 5000) cl := by rw [← hq]; exact ⟨hT.mono (by omega), hth, hts, c1, itv, d1, by omega⟩
  have hX0 : RXA Ix π q t := by rw [← hq]; exact hX
  have hm0 : RMA (ek_up Im 1 0 0) q t := by rw [← hq]; exact hm.code 0
  -- the reference
  have ref : ∃ r, fMo_tick kd Im 1 (nI N) = some r ∧ r.2 = an N q ∧ RMA r.1 (it N q) t ∧ r.1 1 0 = 0 := by
    have e0 : ek_up Im 1 0 0 1 0 = 0 := up_same
    have h1 : ¬ nI N < 1 := Int32.not_lt.mpr ha.1
    simp only [fMo_tick, fMo_tick_0, if_neg h1, if_pos ha.2, fMo_tick_18, ck_t hM.m1, let_e, e0, if_pos]
    refine lp_for (fun i Q => ∃ I', Q = (I', 1, nI N, an i q, nI i) ∧ RMA I' (it i q) t ∧ I' 1 0 = 0) (fun r : ek_St × Int32 => r.2 = an N q ∧ RMA r.1 (it N q) t ∧ r.1 1 0 = 0) N ⟨ek_up Im 1 0 0, rfl, hm0, e0⟩ ?_ ?_ (by omega)
    · rintro kk i Q hi ⟨I2, rfl, r2, w2⟩ hkk
      obtain ⟨I3, e3, r3, w3⟩ := t_step hM r2 (bg_nn (it_wa hWA i (by omega)))
      simp only [fMo_tick_34, if_neg (nI_ge hi (show N < 2 ^ 31 by omega)), ck_t hM.m1, e3, bi_s, let_e]
      exact hkk _ ⟨I3, by rw [nI_succ]; rfl, r3, w3.trans w2⟩
    · rintro kk Q ⟨I2, rfl, r2, w2⟩
      simp only [fMo_tick_34, if_pos (nI_le (Nat.le_refl N) (show N < 2 ^ 31 by omega))]
      exact ⟨_, rfl, rfl, r2, w2⟩
  -- the class
  have cls : ∃ r, fKe_tick kX Ix 1 (nI N) = some r ∧ r.2 = an N q ∧ ∃ π', RXA r.1 π' (it N q) t := by
    simp only [fKe_tick, fKe_tick_0, s_within, bi_s]
    rw [decide_eq_true (show (1 : Int32) ≤ nI N ∧ nI N ≤ 5000 from ha), if_neg (by decide)]
    have exit : ∀ (kk : (ek_St × Nat × Int32 × Int32) → Option (ek_St × Int32)) (I' : ek_St) (π' : Nat → Nat) (x : Int32), x = an N q → RXA I' π' (it N q) t → ∃ r, fKe_tick_24 kX kk I' 1 x (nI 0) = some r ∧ r.2 = an N q ∧ ∃ π', RXA r.1 π' (it N q) t := by
      intro kk I' π' x hx hr
      simp only [fKe_tick_24, if_pos (show nI 0 ≤ (0 : Int32) by decide)]
      exact ⟨_, rfl, hx, π', hr⟩
    refine lp_for (fun i Q => ∃ I' π' d, Q = (I', 1, an d q, nI (N - d)) ∧ i ≤ d ∧ d ≤ N ∧ RXA I' π' (it d q) t) (fun r : ek_St × Int32 => r.2 = an N q ∧ ∃ π', RXA r.1 π' (it N q) t) N ⟨Ix, π, 0, rfl, Nat.le_refl _, Nat.zero_le _, hX0⟩ ?_ ?_ (by omega)
    · rintro kk i Q hi ⟨I2, π2, d, rfl, hd1, hd2, r2⟩ hkk
      by_cases hdN : d = N
      · subst hdN
        rw [Nat.sub_self]
        exact exit kk I2 π2 _ rfl r2
      · refine s_turn (N := N) (m := 0) r2 (show 1 ≤ N - d by omega) (by omega) (fun I' π' m m1 m2 hc hr => ?_)
        obtain ⟨s1, s2⟩ := span_eq (B := B + 5000) (by omega) (it_wa hWA d (by omega)) m1 (by omega) hc
        rw [← s1, ← it_add] at hr
        rw [← s2, ← an_add q d m (by omega)]
        exact hkk _ ⟨I', π', d + m, by rw [show N - d - m = N - (d + m) by omega], by omega, by omega, hr⟩
    · rintro kk Q ⟨I2, π2, d, rfl, hd1, hd2, r2⟩
      have : d = N := by omega
      subst this
      rw [Nat.sub_self]
      exact exit kk I2 π2 _ rfl r2
  obtain ⟨⟨Im', r⟩, e1, a1, a2, a3⟩ := ref
  obtain ⟨⟨Ix', r'⟩, e2, b1, π', b2⟩ := cls
  have a1 : r = an N q := a1
  have b1 : r' = an N q := b1
  refine ⟨Ix', Im', an N q, by rw [e2, b1], by rw [e1, a1], a3, ?_⟩
  obtain ⟨w1, w2, w3, w4, i, w5, w6⟩ := it_wa hWA N (by omega)
  exact ⟨π', _, _, _, t, _, b2, a2, w1, w2, w3, ⟨cl + N, w4, by omega⟩, ⟨i, w5, w6⟩⟩
