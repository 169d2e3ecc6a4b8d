/-! THE REFERENCE'S WORLD: kinds of its cells; sums, ranks -/
def kM (x : Nat) : Nat := if x = 1 then 8 else if 2 ≤ x ∧ x ≤ 15 then 112 else if x = 16 then 50 else if x = 17 then 964 else if x = 18 then 112 else 0
/-- all that is used of the kinds -/
def MK (kd : Nat → Nat) : Prop := kd 1 = 8 ∧ (∀ j, 2 ≤ j → j ≤ 15 → kd j = 112) ∧ kd 16 = 50 ∧ kd 17 = 964 ∧ kd 18 = 112
theorem kM_k : MK kM := ⟨by decide, fun j h1 h2 => by unfold kM; rw [if_neg (by omega), if_pos ⟨h1, h2⟩], by decide, by decide, by decide⟩
theorem MK.m1 {kd : Nat → Nat} (h : MK kd) : kd 1 = 8 := h.1
theorem MK.a1 {kd : Nat → Nat} (h : MK kd) : kd (1 + 1) = 112 := h.2.1 _ (by decide) (by decide)
theorem MK.a2 {kd : Nat → Nat} (h : MK kd) : kd (1 + 2) = 112 := h.2.1 _ (by decide) (by decide)
theorem MK.a3 {kd : Nat → Nat} (h : MK kd) : kd (1 + 3) = 112 := h.2.1 _ (by decide) (by decide)
theorem MK.a4 {kd : Nat → Nat} (h : MK kd) : kd (1 + 4) = 112 := h.2.1 _ (by decide) (by decide)
theorem MK.a5 {kd : Nat → Nat} (h : MK kd) : kd (1 + 5) = 112 := h.2.1 _ (by decide) (by decide)
theorem MK.a6 {kd : Nat → Nat} (h : MK kd) : kd (1 + 6) = 112 := h.2.1 _ (by decide) (by decide)
theorem MK.a7 {kd : Nat → Nat} (h : MK kd) : kd (1 + 7) = 112 := h.2.1 _ (by decide) (by decide)
theorem MK.a8 {kd : Nat → Nat} (h : MK kd) : kd (1 + 8) = 112 := h.2.1 _ (by decide) (by decide)
theorem MK.a9 {kd : Nat → Nat} (h : MK kd) : kd (1 + 9) = 112 := h.2.1 _ (by decide) (by decide)
theorem MK.a10 {kd : Nat → Nat} (h : MK kd) : kd (1 + 10) = 112 := h.2.1 _ (by decide) (by decide)
theorem MK.a11 {kd : Nat → Nat} (h : MK kd) : kd (1 + 11) = 112 := h.2.1 _ (by decide) (by decide)
theorem MK.a12 {kd : Nat → Nat} (h : MK kd) : kd (1 + 12) = 112 := h.2.1 _ (by decide) (by decide)
theorem MK.a13 {kd : Nat → Nat} (h : MK kd) : kd (1 + 13) = 112 := h.2.1 _ (by decide) (by decide)
theorem MK.a14 {kd : Nat → Nat} (h : MK kd) : kd (1 + 14) = 112 := h.2.1 _ (by decide) (by decide)
theorem MK.a15 {kd : Nat → Nat} (h : MK kd) : kd (1 + 15) = 50 := h.2.2.1
theorem MK.a16 {kd : Nat → Nat} (h : MK kd) : kd (1 + 16) = 964 := h.2.2.2.1
theorem MK.a17 {kd : Nat → Nat} (h : MK kd) : kd (1 + 17) = 112 := h.2.2.2.2
theorem MK.mn {kd : Nat → Nat} (h : MK kd) : MnK kd 1 := ⟨h.m1, h.a16⟩
/-- what a solve reads of the reference's arrays -/
def MD (I : ek_St) (n : Nat) (c s l f : Nat → Nat) (ph : Nat → Int32) : Prop := (n ≤ 12 ∧ I 1 7 = nI n) ∧ ∀ k, k < n → (I 3 k = nI (c k) ∧ I 4 k = nI (s k) ∧ I 5 k = nI (l k) ∧ I 6 k = nI (f k) ∧ I 7 k = ph k) ∧ 1 ≤ c k ∧ c k ≤ s k ∧ s k ≤ l k ∧ l k ≤ 20000 ∧ 1 ≤ f k ∧ f k ≤ 1000
theorem MD.keep {I I' : ek_St} {n : Nat} {c s l f : Nat → Nat} {ph : Nat → Int32} (h : MD I n c s l f ph) (e1 : I' 1 7 = I 1 7) (e : ∀ z, 3 ≤ z → z ≤ 7 → I' z = I z) : MD I' n c s l f ph := by
  refine ⟨⟨h.1.1, by rw [e1]; exact h.1.2⟩, fun k hk => ?_⟩
  rw [e 3 (by decide) (by decide), e 4 (by decide) (by decide), e 5 (by decide) (by decide), e 6 (by decide) (by decide), e 7 (by decide) (by decide)]
  exact h.2 k hk
theorem MD.mf {I I' : ek_St} {n : Nat} {c s l f : Nat → Nat} {ph : Nat → Int32} {S : List Nat} (h : MD I n c s l f ph) (g : MF I I' 1 S) : MD I' n c s l f ph := h.keep (by rw [g.2 1 (by decide)]) (fun z _ _ => g.2 z (by omega))
theorem MD.ge {I : ek_St} {n : Nat} {c s l f : Nat → Nat} {ph : Nat → Int32} (h : MD I n c s l f ph) {i : Nat} (hi : i < n) : ¬ I 1 7 ≤ nI i := by rw [h.1.2]; exact nI_ge hi (by have := h.1.1; omega)
theorem MD.le {I : ek_St} {n : Nat} {c s l f : Nat → Nat} {ph : Nat → Int32} (h : MD I n c s l f ph) : I 1 7 ≤ nI n := by rw [h.1.2]; exact nI_le (Nat.le_refl _) (by have := h.1.1; omega)
theorem t_counts {kd : Nat → Nat} {I : ek_St} {k : Nat} (hM : MK kd) (hk : k < 12) : fMo_counts kd I 1 (nI k) = some (I, bI (decide (I 7 k ≠ 2))) := by
  simp only [fMo_counts, fMo_counts_0, ck_t hM.m1, ck_t hM.a1, ck_t hM.a2, ck_t hM.a3, ck_t hM.a4, ck_t hM.a5, ck_t hM.a6, ck_t hM.a7, ck_t hM.a8, ck_t hM.a9, ck_t hM.a10, ck_t hM.a11, ck_t hM.a12, ck_t hM.a13, ck_t hM.a14, ck_t hM.a15, ck_t hM.a16, ck_t hM.a17, ck_t (in12 hk), cl12 hk, ck0, ck1]
  by_cases e : I 7 k = 2
  · rw [if_pos e, decide_eq_false (by simpa using e)]
    rfl
  · rw [if_neg e, decide_eq_true e]
    rfl
theorem t_addFraction {kd : Nat → Nat} {I : ek_St} {N D c p : Nat} (hM : MK kd) (hN : Hm I 1 26 N) (hD : Hm I 1 27 D) (hc : c < 2 ^ 31) (hp : p < 2 ^ 31) (hb : N * p + D * c < 2 ^ (24 * 24)) (hb2 : D * p < 2 ^ (24 * 24)) :
    ∃ I', fMo_addFraction kd I 1 (nI c) (nI p) = some I' ∧ Hm I' 1 26 (N * p + D * c) ∧ Hm I' 1 27 (D * p) ∧ MF I I' 1 [26, 27, 30] := by
  obtain ⟨I1, e1, h1, f1⟩ := t_times (I := I) hM.mn (by decide) hN hp (Nat.lt_of_le_of_lt (Nat.le_add_right _ _) hb)
  have d1 := Hr.fm hD f1 (by decide)
  obtain ⟨I2, e2, h2, f2⟩ := t_copy (I := I1) (k := 30) hM.mn (by decide) (by decide) (by decide) d1
  have d2 := Hr.fm d1 f2 (by decide)
  have n2 := Hr.fm h1 f2 (by decide)
  obtain ⟨I3, e3, h3, f3⟩ := t_times (I := I2) hM.mn (by decide) h2 hc (Nat.lt_of_le_of_lt (Nat.le_add_left _ _) hb)
  have d3 := Hr.fm d2 f3 (by decide)
  have n3 := Hr.fm n2 f3 (by decide)
  obtain ⟨I4, e4, h4, f4⟩ := t_plus (I := I3) hM.mn (by decide) (by decide) n3 h3 hb
  have d4 := Hr.fm d3 f4 (by decide)
  obtain ⟨I5, e5, h5, f5⟩ := t_times (I := I4) hM.mn (by decide) d4 hp hb2
  refine ⟨I5, ?_, Hr.fm h4 f5 (by decide), h5, ((((f1.mf (by simp)).trans (f2.mf (by simp))).trans (f3.mf (by simp))).trans (f4.mf (by simp))).trans (f5.mf (by simp))⟩
  have e1' : fMo_times kd I 1 (26 : Int32) (nI p) = some I1 := e1
  have e2' : fMo_copy kd I1 1 (30 : Int32) (27 : Int32) = some I2 := e2
  have e3' : fMo_times kd I2 1 (30 : Int32) (nI c) = some I3 := e3
  have e4' : fMo_add3 kd I3 1 (26 : Int32) (30 : Int32) (0 : Int32) = some I4 := e4
  have e5' : fMo_times kd I4 1 (27 : Int32) (nI p) = some I5 := e5
  simp only [fMo_addFraction, fMo_addFraction_0, ck_t hM.m1, ck_t hM.a1, ck_t hM.a2, ck_t hM.a3, ck_t hM.a4, ck_t hM.a5, ck_t hM.a6, ck_t hM.a7, ck_t hM.a8, ck_t hM.a9, ck_t hM.a10, ck_t hM.a11, ck_t hM.a12, ck_t hM.a13, ck_t hM.a14, ck_t hM.a15, ck_t hM.a16, ck_t hM.a17, e1', e2', e3', e4', e5', bv_s]
theorem t_isAbove {kd : Nat → Nat} {I : ek_St} {N D th : Nat} (hM : MK kd) (hN : Hm I 1 26 N) (hD : Hm I 1 27 D) (hth : th ≤ 1000) (hb : N * 1000 < 2 ^ (24 * 24)) (hb2 : D * 1000 < 2 ^ (24 * 24)) :
    ∃ I', fMo_isAbove kd I 1 (nI th) = some (I', bI (decide (D * th < N * 1000))) ∧ MF I I' 1 [30, 31] := by
  obtain ⟨I1, e1, h1, f1⟩ := t_copy (I := I) (k := 30) hM.mn (by decide) (by decide) (by decide) hN
  have d1 := Hr.fm hD f1 (by decide)
  obtain ⟨I2, e2, h2, f2⟩ := t_times (I := I1) (f := 1000) hM.mn (by decide) h1 (by decide) hb
  have d2 := Hr.fm d1 f2 (by decide)
  obtain ⟨I3, e3, h3, f3⟩ := t_copy (I := I2) (k := 31) hM.mn (by decide) (by decide) (by decide) d2
  have n3 := Hr.fm h2 f3 (by decide)
  obtain ⟨I4, e4, h4, f4⟩ := t_times (I := I3) (f := th) hM.mn (by decide) h3 (by omega) (Nat.lt_of_le_of_lt (Nat.mul_le_mul_left _ hth) hb2)
  have n4 := Hr.fm n3 f4 (by decide)
  have e5 := t_compare (I := I4) hM.mn (by decide) (by decide) n4 h4
  refine ⟨I4, ?_, (((f1.mf (by simp)).trans (f2.mf (by simp))).trans (f3.mf (by simp))).trans (f4.mf (by simp))⟩
  have e1' : fMo_copy kd I 1 (30 : Int32) (26 : Int32) = some I1 := e1
  have e2' : fMo_times kd I1 1 (30 : Int32) (1000 : Int32) = some I2 := e2
  have e3' : fMo_copy kd I2 1 (31 : Int32) (27 : Int32) = some I3 := e3
  have e4' : fMo_times kd I3 1 (31 : Int32) (nI th) = some I4 := e4
  have e5' : fMo_compare kd I4 1 (30 : Int32) (31 : Int32) = some (I4, sg (((N * 1000 : Nat) : Int) - ((D * th : Nat) : Int))) := e5
  simp only [fMo_isAbove, fMo_isAbove_0, ck_t hM.m1, ck_t hM.a1, ck_t hM.a2, ck_t hM.a3, ck_t hM.a4, ck_t hM.a5, ck_t hM.a6, ck_t hM.a7, ck_t hM.a8, ck_t hM.a9, ck_t hM.a10, ck_t hM.a11, ck_t hM.a12, ck_t hM.a13, ck_t hM.a14, ck_t hM.a15, ck_t hM.a16, ck_t hM.a17, e1', e2', e3', e4', e5', bv_s, bi_s, ck0, ck1]
  by_cases h : D * th < N * 1000
  · rw [if_neg (fun q => (sg_le0 _).mp q (by omega)), decide_eq_true h]
    rfl
  · rw [if_pos ((sg_le0 _).mpr (by omega)), decide_eq_false h]
    rfl
theorem t_none {kd : Nat → Nat} {I : ek_St} (hM : MK kd) : ∃ I', fMo_none kd I 1 = some I' ∧ Hm I' 1 26 0 ∧ Hm I' 1 27 1 ∧ MF I I' 1 [26, 27] := by
  obtain ⟨I1, e1, h1, f1⟩ := t_be (I := I) (k := 26) (v := 0) hM.mn (by decide) (by decide)
  obtain ⟨I2, e2, h2, f2⟩ := t_be (I := I1) (k := 27) (v := 1) hM.mn (by decide) (by decide)
  have e1' : fMo_be kd I 1 (26 : Int32) (0 : Int64) = some I1 := e1
  have e2' : fMo_be kd I1 1 (27 : Int32) (1 : Int64) = some I2 := e2
  refine ⟨I2, ?_, Hr.fm h1 f2 (by decide), h2, (f1.mf (by simp)).trans (f2.mf (by simp))⟩
  simp only [fMo_none, fMo_none_0, ck_t hM.m1, ck_t hM.a1, ck_t hM.a2, ck_t hM.a3, ck_t hM.a4, ck_t hM.a5, ck_t hM.a6, ck_t hM.a7, ck_t hM.a8, ck_t hM.a9, ck_t hM.a10, ck_t hM.a11, ck_t hM.a12, ck_t hM.a13, ck_t hM.a14, ck_t hM.a15, ck_t hM.a16, ck_t hM.a17, e1', e2', bv_s]
