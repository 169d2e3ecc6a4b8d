/-! load, use, leave, add: of both -/
theorem s_within {I : ek_St} {a b : Int32} : fKe_isWithin kX I a b = some (I, bI (decide (1 ≤ a ∧ a ≤ b))) := by
  simp only [fKe_isWithin, fKe_isWithin_0, fKe_isWithin_14, ck0, ck1]
  by_cases h1 : a < 1
  · rw [if_pos h1, decide_eq_false (fun q => Int32.not_lt.mpr q.1 h1)]
    rfl
  · rw [if_neg h1]
    by_cases h2 : b < a
    · rw [if_pos h2, decide_eq_false (fun q => Int32.not_lt.mpr q.2 h2)]
      rfl
    · rw [if_neg h2, decide_eq_true ⟨Int32.not_lt.mp h1, Int32.not_lt.mp h2⟩]
      rfl
theorem nI_mk {a : Int32} {M : Nat} (hM : M < 2 ^ 31) (h1 : 1 ≤ a) (h2 : a ≤ nI M) : ∃ m, a = nI m ∧ 1 ≤ m ∧ m ≤ M := by
  have h0 : ¬ a < 0 := fun q => by
    have : (1 : Int32) < 0 := Int32.lt_of_le_of_lt h1 q
    exact absurd this (by decide)
  obtain ⟨m, hm, rfl⟩ := nI_of h0
  refine ⟨m, rfl, ?_, ?_⟩
  · rcases Nat.eq_zero_or_pos m with q | q
    · subst q
      exact absurd h1 (by decide)
    · exact q
  · rcases Nat.lt_or_ge M m with q | q
    · exact absurd h2 (nI_ge q hm)
    · exact q
/-- who is too much: refused with its id, or nobody -/
theorem j_refuse {kd : Nat → Nat} {Ix Im : ek_St} {π : Nat → Nat} {n B th : Nat} {F : Nat → Nat → Int32} {L : Nat → Rat} {t : Rat} {G : Nat → Int32} {E : Nat → Prop} (hM : MK kd) (hX : RX Ix π n F L t G E) (hm : RM Im n F L t G E) (hT : WT n F B) (hth : th ≤ 1000) :
    (rs (lo' (cF F) (lF F)) n ≤ mkRat th 1000 ∧ ∃ Ix' Im', fKe_isRefused kX Ix 1 (nI th) = some (Ix', 0) ∧ fMo_tooMuch kd Im 1 (nI th) = some (Im', 0) ∧ RX Ix' π n F L t G E ∧ RM Im' n F L t G E ∧ Im' 1 0 = Im 1 0) ∨
    (∃ Ix' Im' r, 0 < r ∧ fKe_isRefused kX Ix 1 (nI th) = some (Ix', 1) ∧ fMo_tooMuch kd Im 1 (nI th) = some (Im', r) ∧ RX Ix' π n F L t (gset G 5 r) E ∧ RM Im' n F L t G E ∧ Im' 1 0 = Im 1 0) := by
  obtain ⟨Ix1, r, e1, h1, f1⟩ := s_firstTooMuch (th := th) (ids := fun k => F k 0) hX.1 (hX.xd hT.1) (fun k hk => hX.2.1 k 0 hk (by decide) (by decide)) hth
  obtain ⟨Im1, r', e2, h2, m2⟩ := t_tooMuch (th := th) (ids := fun k => F k 0) hM (hm.md hT.1) (fun k hk => hm.2.1 k 0 hk (by decide) (by decide)) hth
  have er := h1.uniq h2
  subst er
  have hX1 : RX Ix1 π n F L t G E := hX.far (fun z hz => f1 z (by simp; omega)) (f1 _ (by decide)) (f1 _ (by decide))
  have hm1 : RM Im1 n F L t G E := hm.mf m2 (by decide)
  have ec : Im1 1 0 = Im 1 0 := by rw [m2.2 1 (by decide)]
  have e1' : fSp_firstTooMuch kX Ix (1 + 75) (1 + 1) (nI th) = some (Ix1, r) := e1
  rcases h1 with ⟨k, hk, hA, hb, hr⟩ | ⟨hno, hr⟩
  · right
    have hr0 : 0 < r := by rw [hr]; exact hT.2.1 k hk
    refine ⟨ek_up Ix1 1 7 r, Im1, r, hr0, ?_, e2, hX1.g 5 r, hm1, ec⟩
    simp only [fKe_isRefused, fKe_isRefused_0, ck_t k1, ck_t k75, e1', bi_s, if_neg (fun q : r = 0 => by rw [q] at hr0; exact absurd hr0 (by decide)), let_e, ck1]
  · left
    subst hr
    refine ⟨?_, Ix1, Im1, ?_, e2, hX1, hm1, ec⟩
    · cases n with
      | zero => exact mk_nn _ _
      | succ n => exact Rat.not_lt.mp (hno n (by omega))
    · simp only [fKe_isRefused, fKe_isRefused_0, ck_t k1, ck_t k75, e1', bi_s, if_pos, ck0]
theorem gset_ne {G : Nat → Int32} {j i : Nat} {v : Int32} (h : i ≠ j) : gset G j v i = G i := if_neg h
theorem WG.g {n B : Nat} {F : Nat → Nat → Int32} {t : Rat} {G : Nat → Int32} (h : WG n F t G B) (j : Nat) (v : Int32) (hj : j ≠ 0) (hj1 : j ≠ 1) (hj4 : j ≠ 4) : WG n F t (gset G j v) B := by
  unfold WG
  rw [gset_ne (Ne.symm hj), gset_ne (Ne.symm hj1), gset_ne (Ne.symm hj4)]
  exact h
theorem j_load {kd : Nat → Nat} {Ix Im : ek_St} {B : Nat} (hM : MK kd) (hB : B ≤ 2000000000) (h : ST Ix Im B) (a : Int32) : OK kd (fKe_load kX Ix 1 a) (fMo_load kd Im 1 a) B := by
  obtain ⟨π, n, F, L, t, G, hX, hm, hT, hG⟩ := h
  have hm0 := hm.code 0
  simp only [fKe_load, fKe_load_0, s_within, bi_s, fMo_load, fMo_load_0, ck_t hM.m1, let_e, ck0, ck1]
  by_cases h1 : a < 1
  · rw [decide_eq_false (fun q => Int32.not_lt.mpr q.1 h1), if_pos (by decide), if_pos h1]
    exact ⟨_, _, _, rfl, rfl, π, n, F, L, t, G, hX, hm0, hT, hG⟩
  · rw [if_neg h1]
    by_cases h2 : a ≤ 1000
    · rw [decide_eq_true ⟨Int32.not_lt.mp h1, h2⟩, if_neg (by decide), if_pos h2]
      obtain ⟨th, rfl, ht1, ht2⟩ := nI_mk (M := 1000) (by decide) (Int32.not_lt.mp h1) h2
      rcases j_refuse (th := th) hM hX hm0 hT ht2 with ⟨hlo, Ix1, Im1, e1, e2, r1, r2, -⟩ | ⟨Ix1, Im1, r, hr, e1, e2, r1, r2, -⟩
      · have r1' := r1.g 1 (nI th)
        have r2' := r2.g 1 (nI th) (by decide)
        obtain ⟨Ix2, Im2, e3, e4, hs, -⟩ := j_solve (th := th) hM hB r1' r2' hT hG.2.2.1 hG.2.2.2 (if_pos rfl) ht1 ht2 hlo
        have e3' : fKe_solve kX (ek_up Ix1 1 3 (nI th)) 1 = some Ix2 := e3
        have e4' : fMo_solve kd (ek_up Im1 1 2 (nI th)) 1 = some Im2 := e4
        simp only [ck_t k1, e1, bi_s, if_pos, let_e, e3', bv_s, e2, if_pos (show (0 : Int32) ≤ 0 by decide), e4']
        exact ⟨_, _, _, rfl, rfl, hs⟩
      · simp only [ck_t k1, e1, bi_s, if_neg (show ¬ (1 : Int32) = 0 by decide), e2, if_neg (Int32.not_le.mpr hr), let_e]
        exact ⟨_, _, _, rfl, rfl, π, n, F, L, t, _, r1, r2.g 5 r (by decide), hT, hG.g 5 r (by decide) (by decide) (by decide)⟩
    · rw [decide_eq_false (fun q => h2 q.2), if_pos (by decide), if_neg h2]
      exact ⟨_, _, _, rfl, rfl, π, n, F, L, t, G, hX, hm0, hT, hG⟩
/-! a field is set -/
def fset (F : Nat → Nat → Int32) (p j : Nat) (v : Int32) (k i : Nat) : Int32 := if k = p ∧ i = j then v else F k i
theorem fset_eq {F : Nat → Nat → Int32} {p j : Nat} {v : Int32} : fset F p j v p j = v := if_pos ⟨rfl, rfl⟩
theorem fset_ne {F : Nat → Nat → Int32} {p j k i : Nat} {v : Int32} (h : ¬ (k = p ∧ i = j)) : fset F p j v k i = F k i := if_neg h
theorem RX.put {I : ek_St} {π : Nat → Nat} {n p j : Nat} {F : Nat → Nat → Int32} {L : Nat → Rat} {t : Rat} {G : Nat → Int32} {E : Nat → Prop} {v : Int32} (h : RX I π n F L t G E) (hp : p < n) (hj : j < 13) (h5 : j = 5 → v = 2 ∨ F p 5 ≠ 2) : RX (ek_up I (tk (π p)) j v) π n (fset F p j v) L t G E := by
  have hn := h.1.1
  have etk : ∀ i, tk i = 4 + 6 * i := fun _ => rfl
  have hπ : ∀ k, k < n → π k < 12 := fun k hk => (h.1.2.2.1 k (by omega)).1
  have ez : ∀ z, z ≠ tk (π p) → ek_up I (tk (π p)) j v z = I z := fun z hz => ek_up_ne hz
  have fld : ∀ k i, k < n → ek_up I (tk (π p)) j v (tk (π k)) i = if k = p ∧ i = j then v else I (tk (π k)) i := by
    intro k i hk
    by_cases q : k = p ∧ i = j
    · rw [if_pos q, q.1, q.2]
      exact up_same
    · rw [if_neg q]
      refine up_ne (fun z => q ⟨?_, z.2⟩)
      exact h.1.2.2.2 k p (by omega) (by omega) (tk_inj z.1)
  refine ⟨h.1.keep (ez 2 (by have := etk (π p); omega)) (ez 3 (by have := etk (π p); omega)), fun k i hk hi h7 => ?_, fun k hk hE hc => ?_, h.2.2.2.1.keep (ez _ (by have := etk (π p); have := hπ p hp; omega)) (ez _ (by have := etk (π p); have := hπ p hp; omega)), fun i hi => ?_⟩
  · rw [fld k i hk]
    unfold fset
    by_cases q : k = p ∧ i = j
    · rw [if_pos q, if_pos q]
    · rw [if_neg q, if_neg q]
      exact h.2.1 k i hk hi h7
  · have hc' : F k 5 ≠ 2 := by
      unfold fset at hc
      by_cases q : k = p ∧ 5 = j
      · rw [if_pos q] at hc
        rw [q.1]
        rcases h5 q.2.symm with z | z
        · exact absurd z hc
        · exact z
      · rw [if_neg q] at hc
        exact hc
    obtain ⟨a, b⟩ := h.2.2.1 k hk hE hc'
    refine ⟨?_, b.keep (ez _ (by have := etk (π p); have := etk (π k); omega)) (ez _ (by have := etk (π p); have := etk (π k); omega))⟩
    rw [fld k 7 hk]
    unfold fset
    by_cases q : k = p ∧ 7 = j
    · rw [if_pos q, if_pos q]
    · rw [if_neg q, if_neg q]
      exact a
  · rw [ez 1 (by have := etk (π p); omega)]
    exact h.2.2.2.2 i hi
theorem RM.put {I : ek_St} {n p j : Nat} {F : Nat → Nat → Int32} {L : Nat → Rat} {t : Rat} {G : Nat → Int32} {E : Nat → Prop} {v : Int32} (h : RM I n F L t G E) (hp : p < n) (hj : j < 13) (hj5 : 5 ≤ j) (hj7 : j ≠ 7) (hj8 : j ≠ 8) (h5 : j = 5 → v = 2 ∨ F p 5 ≠ 2) : RM (ek_up I (2 + j) p v) n (fset F p j v) L t G E := by
  obtain ⟨h1, h2, h3, h4, h5', h6, h7, h8⟩ := h
  have ez : ∀ z, z ≠ 2 + j → ek_up I (2 + j) p v z = I z := fun z hz => ek_up_ne hz
  have st : ∀ k i, i < 5 → fset F p j v k i = F k i := fun k i hi => fset_ne (by omega)
  refine ⟨⟨h1.1, by rw [ez 1 (by omega)]; exact h1.2⟩, fun k i hk hi hi7 => ?_, fun k hk => ?_, fun k hk hE hc => ?_, h5'.cell (ez 17 (by omega)), fun m hm => ?_, fun k hk => by rw [ez 16 (by omega)]; exact h7 k hk, fun i hi => by rw [ez 1 (by omega)]; exact h8 i hi⟩
  · unfold fset
    by_cases q : k = p ∧ i = j
    · rw [if_pos q, q.1, q.2]
      exact up_same
    · rw [if_neg q]
      rw [up_ne (by omega)]
      exact h2 k i hk hi hi7
  · rw [ez 15 (by omega), fset_ne (by omega)]
    exact h3 k hk
  · have hc' : F k 5 ≠ 2 := by
      unfold fset at hc
      by_cases q : k = p ∧ 5 = j
      · rw [if_pos q] at hc
        rw [q.1]
        rcases h5 q.2.symm with z | z
        · exact absurd z hc
        · exact z
      · rw [if_neg q] at hc
        exact hc
    obtain ⟨a, b, c⟩ := h4 k hk hE hc'
    rw [ez 9 (by omega), ez 16 (by omega), fset_ne (by omega)]
    refine ⟨a, ?_, c.cell (ez 17 (by omega))⟩
    show I 16 k = bI (decide (tn (fset F p j v k 2) ≠ tn (fset F p j v k 3) ∧ L k = mkRat (tn (fset F p j v k 1)) (tn (fset F p j v k 3))))
    rw [st k 1 (by decide), st k 2 (by decide), st k 3 (by decide)]
    exact b
  · obtain ⟨w, hw⟩ := h6 m hm
    exact ⟨w, Hr.cell hw (ez 17 (by omega))⟩
/-- the static fields stay -/
theorem WT.put {n p j B : Nat} {F : Nat → Nat → Int32} {v : Int32} (h : WT n F B) (hp : p < n) (hj : 5 ≤ j) (hd : DY (fset F p j v p) B) : WT n (fset F p j v) B := by
  have st : ∀ k i, i < 5 → fset F p j v k i = F k i := fun k i hi => fset_ne (by omega)
  refine ⟨fun k hk => ?_, fun k hk => by rw [st k 0 (by decide)]; exact h.2.1 k hk, fun a b hab hb => by rw [st a 0 (by decide), st b 0 (by decide)]; exact h.2.2.1 a b hab hb, fun k hk => ?_⟩
  · have := h.1 k hk
    unfold TV at this ⊢
    rw [st k 1 (by decide), st k 2 (by decide), st k 3 (by decide), st k 4 (by decide)]
    exact this
  · by_cases q : k = p
    · rw [q]; exact hd
    · have e : fset F p j v k = F k := by funext i; exact fset_ne (fun z => q z.1)
      rw [e]
      exact h.2.2.2 k hk
theorem WG.put {n p j B : Nat} {F : Nat → Nat → Int32} {v : Int32} {t : Rat} {G : Nat → Int32} (h : WG n F t G B) (hj : 5 ≤ j) : WG n (fset F p j v) t G B := by
  have cs : cF (fset F p j v) = cF F := by funext k; show tn (fset F p j v k 1) = _; rw [fset_ne (by omega)]
  have ls : lF (fset F p j v) = lF F := by funext k; show tn (fset F p j v k 3) = _; rw [fset_ne (by omega)]
  unfold WG
  rw [cs, ls]
  exact h
theorem tkne {i : Nat} : ¬ tk i = 0 := by
  have : tk i = 4 + 6 * i := rfl
  omega
theorem j_use {kd : Nat → Nat} {Ix Im : ek_St} {B : Nat} (hM : MK kd) (h : ST Ix Im B) (a b : Int32) : OK kd (fKe_use kX Ix 1 a b) (fMo_use kd Im 1 a b) B := by
  obtain ⟨π, n, F, L, t, G, hX, hm, hT, hG⟩ := h
  have hn := hX.1.1
  have hm0 := hm.code 0
  obtain ⟨r, hr, e1⟩ := s_find (ids := fun k => F k 0) hX.1 (fun k hk => hX.2.1 k 0 hk (by decide) (by decide)) a
  obtain ⟨r', hr', e2⟩ := t_find (ids := fun k => F k 0) hM hm0.1.1 hm0.1.2 (fun k hk => hm0.2.1 k 0 hk (by decide) (by decide)) a
  have er := hr.uniq hr'
  subst er
  have e1' : fRo_find kX Ix (1 + 1) a = some (Ix, if r < n then tk (π r) else 0) := e1
  simp only [fKe_use, fKe_use_0, ck_t k1, ck_t k11, e1', bi_s, fMo_use, fMo_use_0, ck_t hM.m1, let_e, e2, ck0, ck1]
  by_cases hrn : r < n
  · have hr12 : r < 12 := by omega
    rw [if_pos hrn, if_pos hrn, if_neg tkne, if_neg (show ¬ nI r = -1 from fun q => by have : ¬ nI r < 0 := nI_pos (by omega); rw [q] at this; exact this (by decide))]
    by_cases hb : b < 0
    · rw [if_pos hb, if_pos hb]
      exact ⟨_, _, _, rfl, rfl, π, n, F, L, t, G, hX, hm0, hT, hG⟩
    · rw [if_neg hb, if_neg hb]
      have hk6 := (kX_tk _ (hX.1.2.2.1 r hr12).1).1
      have c1 : Ix (tk (π r)) 1 = F r 1 := hX.2.1 r 1 hrn (by decide) (by decide)
      have c2 : ek_up Im 1 0 0 (1 + 2) r = F r 1 := hm0.2.1 r 1 hrn (by decide) (by decide)
      simp only [ck_t hk6, c1, ck_t hM.m1, ck_t hM.a1, ck_t hM.a2, ck_t hM.a3, ck_t hM.a4, ck_t hM.a5, ck_t hM.a6, ck_t hM.a7, ck_t hM.a8, ck_t hM.a9, ck_t hM.a10, ck_t hM.a11, ck_t hM.a12, ck_t hM.a13, ck_t hM.a14, ck_t hM.a15, ck_t hM.a16, ck_t hM.a17, ck_t (in12 hr12), cl12 hr12, c2]
      by_cases hle : b ≤ F r 1
      · rw [if_pos hle, if_pos hle]
        have hb2 : ∃ m, b = nI m ∧ m ≤ 20000 := by
          obtain ⟨m, hm', rfl⟩ := nI_of hb
          refine ⟨m, rfl, ?_⟩
          have hc := hT.1 r hrn
          rw [hc.1.1] at hle
          rcases Nat.lt_or_ge (tn (F r 1)) m with q | q
          · exact absurd hle (nI_ge q hm')
          · have := hc.2; omega
        have hd := hT.2.2.2 r hrn
        have hX' := hX.put (v := b) hrn (j := 10) (by decide) (fun q => absurd q (by decide))
        have hm' := hm0.put (v := b) hrn (j := 10) (by decide) (by decide) (by decide) (by decide) (fun q => absurd q (by decide))
        refine ⟨_, _, _, rfl, rfl, π, n, fset F r 10 b, L, t, G, hX', hm', hT.put hrn (by decide) ?_, hG.put (by decide)⟩
        unfold DY at hd ⊢
        rw [fset_eq, fset_ne (by omega), fset_ne (by omega), fset_ne (by omega), fset_ne (by omega), fset_ne (by omega)]
        exact ⟨hd.1, hd.2.1, hd.2.2.1, hd.2.2.2.1, Or.inr hb2, hd.2.2.2.2.2.1, hd.2.2.2.2.2.2⟩
      · rw [if_neg hle, if_neg hle]
        exact ⟨_, _, _, rfl, rfl, π, n, F, L, t, G, hX, hm0, hT, hG⟩
  · rw [if_neg hrn, if_neg hrn, if_pos rfl, if_pos rfl]
    exact ⟨_, _, _, rfl, rfl, π, n, F, L, t, G, hX, hm0, hT, hG⟩
