/-! A SOLVE: of the class, of the reference, of both -/
def solF (F : Nat → Nat → Int32) (L : Nat → Rat) (k j : Nat) : Int32 := if j = 7 ∧ F k 5 ≠ 2 then nI (perN (cF F k) (L k)) else F k j
def solG (F : Nat → Nat → Int32) (G : Nat → Int32) (n j : Nat) : Int32 := if j = 3 then G 3 + 1 else if j = 4 then inst (fun k => F k 5) (fun k => F k 6) (fun k => F k 7) (fun k => F k 8) (mx (G 4) (G 0)) n else G j
theorem solF_ne {F : Nat → Nat → Int32} {L : Nat → Rat} {k j : Nat} (h : j ≠ 7) : solF F L k j = F k j := if_neg (fun q => h q.1)
theorem solF_7 {F : Nat → Nat → Int32} {L : Nat → Rat} {k : Nat} (h : F k 5 ≠ 2) : solF F L k 7 = nI (perN (cF F k) (L k)) := if_pos ⟨rfl, h⟩
abbrev hiS (F : Nat → Nat → Int32) (n : Nat) : Rat := rs (fun k => if cnt (pF F) k then hi' (cF F) (sF F) k else 0) n
abbrev loS (F : Nat → Nat → Int32) (n : Nat) : Rat := rs (fun k => if cnt (pF F) k then lo' (cF F) (lF F) k else 0) n
abbrev SPF (F : Nat → Nat → Int32) (n th : Nat) (L : Nat → Rat) (t : Rat) : Prop := SP n (cF F) (sF F) (lF F) (fF F) (pF F) (mkRat th 1000) L t
theorem s_solve {I : ek_St} {π : Nat → Nat} {n th : Nat} {F : Nat → Nat → Int32} {L : Nat → Rat} {t : Rat} {G : Nat → Int32} {E : Nat → Prop} (h : RX I π n F L t G E) (hT : TF n F) (hth : G 1 = nI th) (hth1 : 1 ≤ th) (hth2 : th ≤ 1000) (hlo : loS F n ≤ mkRat th 1000) :
    ∃ I' L' t', fKe_solve kX I 1 = some I' ∧ SPF F n th L' t' ∧ RX I' π n (solF F L') L' t' (solG (solF F L') G n) (fun _ => False) ∧ (mkRat th 1000 < hiS F n → ∃ v p, LD n (cF F) (sF F) (lF F) (fF F) (pF F) (mkRat th 1000) v p) ∧ t' ≤ 1 ∧ t'.den ≤ 20000 ^ 12 := by
  have hn := h.1.1
  have hTT := hT.tt
  have hXD := h.xd hT
  have etk : ∀ i, tk i = 4 + 6 * i := fun _ => rfl
  generalize hI1 : ek_up I 1 5 (I 1 5 + 1) = I1
  have e1z : ∀ z, z ≠ 1 → I1 z = I z := fun z hz => by rw [← hI1]; exact ek_up_ne hz
  have hR1 : XR I1 π n := h.1.keep (e1z 2 (by decide)) (e1z 3 (by decide))
  have hD1 : XD I1 π n (cF F) (sF F) (lF F) (fF F) (pF F) := hXD.keep (fun k j _ _ _ => by rw [e1z _ (by have := etk (π k); omega)])
  obtain ⟨I2, e2, f2, g2, p2⟩ := s_haveRoom (th := th) hR1 hD1 hth2
  have e13 : I1 1 3 = nI th := by
    rw [← hI1, up_ne (by decide)]
    exact (h.2.2.2.2 1 (by decide)).trans hth
  have hR2 := hR1.fq f2
  have hD2 := XD.fq hR1 hD1 f2
  have e2' : fSp_haveRoom kX I1 (1 + 75) (1 + 1) (nI th) = some (I2, bI (decide (¬ mkRat th 1000 < hiS F n))) := e2
  have hA1 : mkRat ((th : Nat) : Int) 1000 ≤ 1 := mk_le1 hth2 (by decide)
  -- from a state with pins and push to the end
  have fin : ∀ (I3 : ek_St) (p : Nat → Bool) (v : Rat) (t' : Rat), Fq I1 I3 → FrQ I3 77 t' → FrQ I3 92 v → v.den ≤ PB → (∀ k, k < n → I3 (tk (π k)) 13 = bI (p k)) → (∀ k, k < n → cnt (pF F) k → p k = false → lo' (cF F) (lF F) k ≤ hi' (cF F) (sF F) k - v * sf' (fF F) k) → ∃ I', fKe_solve_53 kX I3 1 = some I' ∧ ∀ L' : Nat → Rat, (∀ k, L' k = if p k then lo' (cF F) (lF F) k else hi' (cF F) (sF F) k - v * sf' (fF F) k) → RX I' π n (solF F L') L' t' (solG (solF F L') G n) (fun _ => False) := by
    intro I3 p v t' j1 j2 j3 j4 j5 j6
    have hR3 := hR1.fq j1
    have hD3 := XD.fq hR1 hD1 j1
    have fld : ∀ k j, k < n → j < 13 → j ≠ 7 → I3 (tk (π k)) j = F k j := by
      intro k j hk hj h7
      rw [j1.2 (π k) j (hR1.2.2.1 k (by omega)).1 (by omega), e1z _ (by have := etk (π k); omega)]
      exact h.2.1 k j hk hj h7
    have g3 : ∀ j, I3 1 j = I1 1 j := fun j => by rw [j1.at (by decide) (by decide)]
    have e36 : I3 1 6 = G 4 := by rw [g3, ← hI1, up_ne (by decide)]; exact h.2.2.2.2 4 (by decide)
    have e32 : I3 1 2 = G 0 := by rw [g3, ← hI1, up_ne (by decide)]; exact h.2.2.2.2 0 (by decide)
    obtain ⟨I', e, ⟨a1, a2, a3, a4⟩, b1, b2, b3, b4, b5⟩ := s_solve53 hR3 hD3 j5 j3 j4 (fun k => if p k then lo' (cF F) (lF F) k else hi' (cF F) (sF F) k - v * sf' (fF F) k) (fun _ => rfl) j6 (fun k => if cnt (pF F) k then nI (perN (cF F k) (if p k then lo' (cF F) (lF F) k else hi' (cF F) (sF F) k - v * sf' (fF F) k)) else I3 (tk (π k)) 7) (fun _ _ => rfl)
    refine ⟨I', e, fun L' hL' => ⟨hR3.keep a1 a2, fun k j hk hj h7 => ?_, fun k hk _ h5 => ?_, j2.keep a3 a4, fun j hj => ?_⟩⟩
    · rw [solF_ne h7, b1 k j hk h7]
      exact fld k j hk hj h7
    · rw [solF_ne (by decide)] at h5
      rw [solF_7 h5, b2 k hk, hL' k]
      refine ⟨?_, b3 k hk h5⟩
      show (if cnt (pF F) k then _ else _) = _
      rw [if_pos h5]
    · by_cases q : j = 4
      · subst q
        show I' 1 6 = solG _ _ _ 4
        rw [b5, e36, e32]
        unfold solG
        rw [if_neg (by decide), if_pos rfl]
        refine inst_congr n (fun k hk => ⟨?_, ?_, ?_, fun q => ?_⟩)
        · rw [solF_ne (by decide)]
        · rw [solF_ne (by decide)]; exact fld k 6 hk (by decide) (by decide)
        · rw [solF_ne (by decide)]; exact fld k 8 hk (by decide) (by decide)
        · have q : F k 5 = 1 := q
          have h5 : F k 5 ≠ 2 := by rw [q]; decide
          rw [solF_7 h5, hL' k]
          show (if cnt (pF F) k then _ else _) = _
          rw [if_pos h5]
      · rw [b4 _ (by omega), g3, ← hI1]
        unfold solG
        by_cases q3 : j = 3
        · subst q3
          rw [if_pos rfl]
          have : ek_up I 1 5 (I 1 5 + 1) 1 (2 + 3) = I 1 5 + 1 := up_same
          rw [this]
          congr 1
          exact h.2.2.2.2 3 (by decide)
        · rw [if_neg q3, if_neg q, up_ne (by omega)]
          exact h.2.2.2.2 j hj
  simp only [fKe_solve, fKe_solve_0, ck_t k1, let_e, hI1, ck_t k75, e13, e2', bi_s]
  by_cases hA : mkRat ((th : Nat) : Int) 1000 < hiS F n
  · rw [decide_eq_false (fun q => q hA), if_pos (by decide)]
    obtain ⟨I3, p, v, e3, f3, g3, g3', g3d, hp3, hLD⟩ := s_press (th := th) hR2 hD2 hth1 hth2 p2 hA hlo
    have e3' : fSp_press kX I2 (1 + 75) (1 + 1) (nI th) = some I3 := e3
    have e23 : I2 1 3 = nI th := by rw [f2.at (by decide) (by decide)]; exact e13
    simp only [e23, e3', bv_s]
    have hle : ∀ k, k < n → cnt (pF F) k → p k = false → lo' (cF F) (lF F) k ≤ hi' (cF F) (sF F) k - v * sf' (fF F) k := fun k hk hc hpk => hTT.le_rr hk (Rat.not_lt.mp (hLD.2.2.1 k hk hc hpk))
    obtain ⟨I', e, hfin⟩ := fin I3 p v (mkRat th 1000) (f2.trans f3) g3 g3' g3d hp3 hle
    refine ⟨I', fun k => if p k then lo' (cF F) (lF F) k else hi' (cF F) (sF F) k - v * sf' (fF F) k, mkRat th 1000, e, Or.inr ⟨hA, rfl, v, hLD.1, fun k hk hc => hLD.toLf hk hc, hLD.sum⟩, hfin _ (fun _ => rfl), fun _ => ⟨v, p, hLD⟩, hA1, ?_⟩
    exact Nat.le_trans (den_mk (by decide)) (by decide +kernel)
  · rw [decide_eq_true hA, if_neg (by decide)]
    obtain ⟨I3, e3, f3, g3, g3', fx3⟩ := s_relax g2
    have e3' : fSp_relax kX I2 (1 + 75) = some I3 := e3
    simp only [e3', bv_s]
    have hz : ∀ k, hi' (cF F) (sF F) k - 0 * sf' (fF F) k = hi' (cF F) (sF F) k := fun k => by rw [Rat.zero_mul]; grind
    have hp3 : ∀ k, k < n → I3 (tk (π k)) 13 = bI ((fun _ => false) k) := fun k hk => by
      rw [fx3 _ (tk_nin (hR2.2.2.1 k (by omega)).1 (by decide))]
      exact p2 k hk
    obtain ⟨I', e, hfin⟩ := fin I3 (fun _ => false) 0 (hiS F n) (f2.trans f3) g3 g3' (by decide +kernel) hp3 (fun k hk hc _ => by rw [hz]; exact hTT.lohi hk)
    refine ⟨I', fun k => hi' (cF F) (sF F) k, hiS F n, e, Or.inl ⟨hA, fun _ _ _ => rfl, rfl⟩, hfin _ (fun k => by rw [if_neg (by decide), hz]), fun q => absurd q hA, Rat.le_trans (Rat.not_lt.mp hA) hA1, ?_⟩
    -- the denominator of a sum
    have hden : ∀ m, m ≤ n → (rs (fun k => if cnt (pF F) k then hi' (cF F) (sF F) k else 0) m).den ≤ 20000 ^ m := by
      intro m
      induction m with
      | zero => intro _; exact Nat.le_refl 1
      | succ m ih =>
        intro hm
        have h1 := ih (by omega)
        have h2 := hTT m (by omega)
        rw [rs, Nat.pow_succ]
        refine Nat.le_trans (den_add _ _) (Nat.mul_le_mul h1 ?_)
        split
        · exact Nat.le_trans (den_mk (by omega)) (by omega)
        · exact Nat.le_trans (show (0 : Rat).den ≤ 1 from Nat.le_refl 1) (by decide)
    exact Nat.le_trans (hden n (Nat.le_refl _)) (pw12 hn)
/-- the reference's solve, with the loads that the class has found -/
theorem m_solve {kd : Nat → Nat} {I : ek_St} {n th : Nat} {F : Nat → Nat → Int32} {L L' : Nat → Rat} {t t' : Rat} {G : Nat → Int32} {E : Nat → Prop} (hM : MK kd) (h : RM I n F L t G E) (hT : TF n F) (hth : G 1 = nI th) (hth1 : 1 ≤ th) (hth2 : th ≤ 1000) (hS : SPF F n th L' t') (hex : mkRat th 1000 < hiS F n → ∃ v p, LD n (cF F) (sF F) (lF F) (fF F) (pF F) (mkRat th 1000) v p) :
    ∃ I', fMo_solve kd I 1 = some I' ∧ RM I' n (solF F L') L' t' (solG (solF F L') G n) (fun _ => False) ∧ I' 1 0 = I 1 0 := by
  have hMD := h.md hT
  obtain ⟨h1, h2, h3, h4, h5, h6, h7, h8⟩ := h
  have hn := h1.1
  have hth0 : I 1 2 = nI th := (h8 1 (by decide)).trans hth
  obtain ⟨I', L2, t2, e, hSP, w1, w2, w3, w4, w5, w6, w7⟩ := t_solve hM hMD h6 hth0 hth1 hth2 hex
  obtain ⟨ut, uL⟩ := hSP.uniq hT.tt hS
  generalize hI0 : ek_up I 1 4 (I 1 4 + 1) = I0 at *
  have ez : ∀ z, z ≠ 1 → I0 z = I z := fun z hz => by rw [← hI0]; exact ek_up_ne hz
  have cs : cF (solF F L') = cF F := by funext k; show tn (solF F L' k 1) = _; rw [solF_ne (by decide)]
  have ss : sF (solF F L') = sF F := by funext k; show tn (solF F L' k 2) = _; rw [solF_ne (by decide)]
  have ls : lF (solF F L') = lF F := by funext k; show tn (solF F L' k 3) = _; rw [solF_ne (by decide)]
  refine ⟨I', e, ⟨⟨hn, ?_⟩, fun k j hk hj h7' => ?_, fun k hk => ?_, fun k hk _ hc => ?_, by rw [← ut]; exact w5, w1, fun k hk => ?_, fun j hj => ?_⟩, ?_⟩
  · rw [w6 7 (by decide), ← hI0, up_ne (by decide)]
    exact h1.2
  · rw [solF_ne h7']
    have hz : (2 + j) ≠ 9 := by omega
    rw [w2 _ (by omega) hz (by omega) (by omega) (by omega), ez _ (by omega)]
    exact h2 k j hk hj h7'
  · rw [solF_ne (by decide), w2 15 (by decide) (by decide) (by decide) (by decide) (by decide), ez _ (by decide)]
    exact h3 k hk
  · rw [solF_ne (by decide)] at hc
    obtain ⟨x1, x2, x3⟩ := w3 k hk hc
    rw [uL k hk hc] at x1 x2 x3
    rw [solF_7 hc, ss, ls, cs]
    exact ⟨x2, x3, x1⟩
  · by_cases q : k < n ∧ cnt (pF F) k
    · rw [(w3 k q.1 q.2).2.2]
      exact bI_or _
    · rw [(w4 k q).2, ez 16 (by decide)]
      exact h7 k hk
  · by_cases q : j = 4
    · subst q
      show I' 1 5 = _
      rw [w7]
      unfold solG
      rw [if_neg (by decide), if_pos rfl]
      have e5 : I0 1 5 = G 4 := by rw [← hI0, up_ne (by decide)]; exact h8 4 (by decide)
      have e1 : I0 1 1 = G 0 := by rw [← hI0, up_ne (by decide)]; exact h8 0 (by decide)
      rw [e5, e1]
      refine inst_congr n (fun k hk => ⟨?_, ?_, ?_, fun q => ?_⟩)
      · rw [solF_ne (by decide), ez _ (by decide)]; exact h2 k 5 hk (by decide) (by decide)
      · rw [solF_ne (by decide), ez _ (by decide)]; exact h2 k 6 hk (by decide) (by decide)
      · rw [solF_ne (by decide), ez _ (by decide)]; exact h2 k 8 hk (by decide) (by decide)
      · rw [ez _ (by decide)] at q
        have q2 : F k 5 = 1 := by rw [← h2 k 5 hk (by decide) (by decide)]; exact q
        have h5' : F k 5 ≠ 2 := by rw [q2]; decide
        rw [solF_7 h5', (w3 k hk h5').2.1, uL k hk h5']
    · rw [w6 _ (by omega), ← hI0]
      unfold solG
      by_cases q3 : j = 3
      · subst q3
        rw [if_pos rfl]
        have : ek_up I 1 4 (I 1 4 + 1) 1 (1 + 3) = I 1 4 + 1 := up_same
        rw [this]
        congr 1
        exact h8 3 (by decide)
      · rw [if_neg q3, if_neg q, up_ne (by omega)]
        exact h8 j hj
  · rw [w6 0 (by decide), ← hI0, up_ne (by decide)]
