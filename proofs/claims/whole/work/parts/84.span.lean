/-! TICK: steps keep what holds; a span is so many steps -/
def WA (q : AS) (t : Rat) (B cl : Nat) : Prop := WT q.1 q.2.1 B ∧ (∃ th, q.2.2.2 1 = nI th ∧ 1 ≤ th ∧ th ≤ 1000 ∧ rs (lo' (cF q.2.1) (lF q.2.1)) q.1 ≤ mkRat th 1000) ∧ (t ≤ 1 ∧ t.den ≤ 20000 ^ 12) ∧ q.2.2.2 0 = nI cl ∧ ∃ it, q.2.2.2 4 = nI it ∧ it ≤ B + 20000
theorem dm1_wa {q : AS} {t : Rat} {B cl i : Nat} (h : WA q t B cl) (hi : i < q.1) : WA (dm1 i q) t B cl ∧ i ≤ (dm1 i q).1 := by
  unfold dm1
  split
  · obtain ⟨h1, ⟨th, a1, a2, a3, a4⟩, h3, h4, h5⟩ := h
    refine ⟨⟨h1.del hi, ⟨th, ?_, a2, a3, Rat.le_trans (lo_del_le hi) a4⟩, h3, ?_, ?_⟩, ?_⟩
    · show lateG q.2.2.2 (q.2.1 i 9) 1 = nI th
      rw [lateG_ne (by decide)]; exact a1
    · show lateG q.2.2.2 (q.2.1 i 9) 0 = nI cl
      rw [lateG_ne (by decide)]; exact h4
    · show ∃ it, lateG q.2.2.2 (q.2.1 i 9) 4 = nI it ∧ it ≤ B + 20000
      rw [lateG_ne (by decide)]; exact h5
    · show i ≤ q.1 - 1
      omega
  · exact ⟨h, by omega⟩
theorem dm_wa {t : Rat} {B cl : Nat} : ∀ (i : Nat) (q : AS), i ≤ q.1 → WA q t B cl → WA (dm i q) t B cl
  | 0, _, _, h => h
  | i + 1, q, hi, h => by
    obtain ⟨h1, h2⟩ := dm1_wa h (show i < q.1 by omega)
    exact dm_wa i (dm1 i q) h2 h1
theorem rset_static {F : Nat → Nat → Int32} {p : Nat} {x : Nat → Int32} (hx : ∀ j, j < 5 → x j = F p j) (k j : Nat) (hj : j < 5) : rset F p x k j = F k j := by
  unfold rset
  by_cases q : k = p
  · rw [if_pos q, q]; exact hx j hj
  · rw [if_neg q]
theorem WT.rrow {n p B : Nat} {F : Nat → Nat → Int32} {x : Nat → Int32} (h : WT n F B) (hx : ∀ j, j < 5 → x j = F p j) (hd : DY x B) : WT n (rset F p x) B := by
  have st := rset_static hx
  refine ⟨fun k hk => ?_, fun k hk => by rw [st k 0 (by decide)]; exact h.2.1 k hk, fun a b hab hb => by rw [st a 0 (by decide), st b 0 (by decide)]; exact h.2.2.1 a b hab hb, fun k hk => ?_⟩
  · have := h.1 k hk
    unfold TV at this ⊢
    rw [st k 1 (by decide), st k 2 (by decide), st k 3 (by decide), st k 4 (by decide)]
    exact this
  · unfold CElasticKernelLaw_law_r3950_546d35.rset
    by_cases q : k = p
    · rw [if_pos q]; exact hd
    · rw [if_neg q]; exact h.2.2.2 k hk
theorem WA.row {q : AS} {t : Rat} {B cl cl' p : Nat} {x : Nat → Int32} {G : Nat → Int32} (h : WA q t B cl) (hx : ∀ j, j < 5 → x j = q.2.1 p j) (hd : DY x B) (g0 : G 0 = nI cl') (g1 : G 1 = q.2.2.2 1) (g4 : G 4 = q.2.2.2 4) : WA (q.1, rset q.2.1 p x, q.2.2.1, G) t B cl' := by
  obtain ⟨h1, ⟨th, a1, a2, a3, a4⟩, h3, h4, h5⟩ := h
  have st := rset_static hx
  have cs : cF (rset q.2.1 p x) = cF q.2.1 := by funext k; show tn (rset q.2.1 p x k 1) = _; rw [st k 1 (by decide)]
  have ls : lF (rset q.2.1 p x) = lF q.2.1 := by funext k; show tn (rset q.2.1 p x k 3) = _; rw [st k 3 (by decide)]
  refine ⟨h1.rrow hx hd, ⟨th, g1.trans a1, a2, a3, ?_⟩, h3, g0, ?_⟩
  · show rs (lo' (cF (rset q.2.1 p x)) (lF (rset q.2.1 p x))) q.1 ≤ _
    rw [cs, ls]
    exact a4
  · show ∃ it, G 4 = nI it ∧ it ≤ B + 20000
    rw [g4]; exact h5
theorem nd_ok {x : Nat → Int32} {B : Nat} (hv : TV x) (hd : DY x B) : ∃ m, ndR x = nI m ∧ m ≤ 20000 := by
  unfold ndR
  by_cases q : x 10 = -1
  · rw [if_pos q]
    exact ⟨tn (x 1), hv.1.1, by have := hv.2; omega⟩
  · rw [if_neg q]
    rcases hd.2.2.2.2.1 with z | z
    · exact absurd z q
    · exact z
theorem rel_dy {x : Nat → Int32} {B cl : Nat} {it : Int32} (hv : TV x) (hd : DY x B) (h5 : x 5 ≠ 2) (hcl : cl ≤ B) : DY (relR x (nI cl) it) B := by
  have hnd := nd_ok hv hd
  have hper : ∃ m, perR x (nI cl) it = nI m ∧ m ≤ 20000 := by
    unfold perR
    split
    · exact hd.2.2.2.1
    · exact hd.2.2.2.2.2.2 h5
  obtain ⟨m, e, hm⟩ := hper
  refine ⟨Or.inr (Or.inl rfl), ⟨cl + m, ?_, by omega⟩, hnd, ⟨m, e, hm⟩, Or.inl rfl, fun q => ?_, fun _ => hd.2.2.2.2.2.2 h5⟩
  · show nI cl + perR x (nI cl) it = _
    rw [e, nI_add]
  · have : (1 : Int32) = 0 := q
    exact absurd this (by decide)
theorem rl1_wa {q : AS} {t : Rat} {B cl k : Nat} (h : WA q t B cl) (hk : k < q.1) (hcl : cl ≤ B) : WA (rl1 k q) t B cl ∧ (rl1 k q).1 = q.1 := by
  unfold rl1
  split
  · rename_i hc
    have h5 : q.2.1 k 5 ≠ 2 := by
      rcases hc with z | z
      · rw [z.1]; decide
      · rw [z.1]; decide
    refine ⟨h.row (fun j hj => ?_) ?_ ?_ ?_ ?_, rfl⟩
    · unfold relR
      rw [if_neg (by omega), if_neg (by omega), if_neg (by omega), if_neg (by omega), if_neg (by omega), if_neg (by omega), if_neg (by omega)]
    · rw [h.2.2.2.1]
      exact rel_dy (h.1.1 k hk) (h.1.2.2.2 k hk) h5 hcl
    · rw [lateG_ne (by decide)]; exact h.2.2.2.1
    · rw [lateG_ne (by decide)]
    · rw [lateG_ne (by decide)]
  · exact ⟨h, rfl⟩
theorem rl_wa {t : Rat} {B cl : Nat} (hcl : cl ≤ B) : ∀ (m k : Nat) (q : AS), k + m ≤ q.1 → WA q t B cl → WA (rl m k q) t B cl
  | 0, _, _, _, h => h
  | m + 1, k, q, hk, h => by
    obtain ⟨h1, h2⟩ := rl1_wa h (show k < q.1 by omega) hcl
    exact rl_wa hcl m (k + 1) (rl1 k q) (by omega) h1
theorem bg_wa {q : AS} {t : Rat} {B cl : Nat} (h : WA q t B cl) (hcl : cl ≤ B) : WA (bg q) t B cl := by
  unfold bg
  exact rl_wa hcl _ _ _ (by omega) (dm_wa _ _ (Nat.le_refl _) h)
theorem bg_nn {q : AS} {t : Rat} {B cl : Nat} (h : WA q t B cl) : NN (dm q.1 q) := by
  intro k hk
  have h1 := dm_wa _ _ (Nat.le_refl _) h
  obtain ⟨m, e, hm⟩ := nd_ok (h1.1.1 k hk) (h1.1.2.2.2 k hk)
  rw [e]
  exact nI_pos (by omega)
theorem run_wa {q : AS} {t : Rat} {B cl : Nat} (h : WA q t B cl) : WA (run 1 q) t B (cl + 1) := by
  have e0 : q.2.2.2 0 + 1 = nI (cl + 1) := by rw [h.2.2.2.1, nI_succ]
  unfold run
  cases hb : bst q.2.1 q.1 with
  | none =>
    obtain ⟨h1, ⟨th, a1, a2, a3, a4⟩, h3, h4, h5⟩ := h
    refine ⟨h1, ⟨th, ?_, a2, a3, a4⟩, h3, ?_, ?_⟩
    · show gset q.2.2.2 0 (q.2.2.2 0 + 1) 1 = nI th
      rw [gset_ne (by decide)]; exact a1
    · exact e0
    · show ∃ it, gset q.2.2.2 0 (q.2.2.2 0 + 1) 4 = nI it ∧ it ≤ B + 20000
      rw [gset_ne (by decide)]; exact h5
  | some b =>
    have hb2 := bst_lt _ b hb
    refine h.row (fun j hj => ?_) ?_ e0 (gset_ne (by decide)) (gset_ne (by decide))
    · unfold wkR
      rw [if_neg (by omega), if_neg (by omega), if_neg (by omega)]
    · have hd := h.1.2.2.2 b hb2.1
      obtain ⟨a, ea, ha⟩ := hd.2.2.1
      have ha0 : 1 ≤ a := by
        rcases Nat.eq_zero_or_pos a with z | z
        · exfalso
          apply hb2.2
          rw [ea, z]
          decide
        · exact z
      refine ⟨hd.1, hd.2.1, ⟨a - 1, ?_, by omega⟩, hd.2.2.2.1, hd.2.2.2.2.1, hd.2.2.2.2.2.1, hd.2.2.2.2.2.2⟩
      show q.2.1 b 9 - 1 = _
      rw [ea]
      exact pk_sub (b := 1) ha0
theorem run_eq (m : Int32) (q : AS) : run m q = match bst q.2.1 q.1 with
  | none => (q.1, q.2.1, q.2.2.1, gset q.2.2.2 0 (q.2.2.2 0 + m))
  | some b => (q.1, rset q.2.1 b (wkR (q.2.1 b) m (q.2.2.2 0 + m)), q.2.2.1, gset q.2.2.2 0 (q.2.2.2 0 + m)) := rfl
/-- d single steps, and the last one's answer -/
def it : Nat → AS → AS
  | 0, q => q
  | d + 1, q => run 1 (bg (it d q))
def an : Nat → AS → Int32
  | 0, _ => 0
  | d + 1, q => ansR (bg (it d q))
theorem it_wa {q : AS} {t : Rat} {B cl : Nat} (h : WA q t B cl) : ∀ d, cl + d ≤ B + 1 → WA (it d q) t B (cl + d)
  | 0, _ => h
  | d + 1, hd => run_wa (bg_wa (it_wa h d (by omega)) (show cl + d ≤ B by omega))
theorem it_add (q : AS) (d : Nat) : ∀ m, it (d + m) q = it m (it d q)
  | 0 => rfl
  | m + 1 => by
    show run 1 (bg (it (d + m) q)) = run 1 (bg (it m (it d q)))
    rw [it_add q d m]
theorem an_add (q : AS) (d m : Nat) (hm : 0 < m) : an (d + m) q = an m (it d q) := by
  cases m with
  | zero => omega
  | succ m =>
    show ansR (bg (it (d + m) q)) = ansR (bg (it m (it d q)))
    rw [it_add q d m]
theorem dm_id {q : AS} : ∀ i, (∀ k, k < i → ¬ (q.2.1 k 5 = 2 ∧ q.2.1 k 8 = q.2.2.2 0)) → dm i q = q
  | 0, _ => rfl
  | i + 1, h => by
    show dm i (dm1 i q) = q
    have e : dm1 i q = q := if_neg (h i (by omega))
    rw [e]
    exact dm_id i (fun k hk => h k (by omega))
theorem rl_id {q : AS} : ∀ m k, (∀ i, k ≤ i → i < k + m → ¬ ((q.2.1 i 5 = 0 ∧ ¬ q.2.2.2 0 < q.2.2.2 4) ∨ (q.2.1 i 5 = 1 ∧ q.2.1 i 8 = q.2.2.2 0))) → rl m k q = q
  | 0, _, _ => rfl
  | m + 1, k, h => by
    show rl m (k + 1) (rl1 k q) = q
    have e : rl1 k q = q := if_neg (h k (Nat.le_refl _) (by omega))
    rw [e]
    exact rl_id m (k + 1) (fun i h1 h2 => h i (by omega) (by omega))
theorem bst_congr {F F' : Nat → Nat → Int32} : ∀ n, (∀ k, k < n → (F k 9 ≤ 0 ↔ F' k 9 ≤ 0) ∧ F k 8 = F' k 8) → bst F n = bst F' n
  | 0, _ => rfl
  | n + 1, h => by
    have ih := bst_congr n (fun k hk => h k (by omega))
    obtain ⟨h1, h2⟩ := h n (by omega)
    unfold bst
    rw [ih]
    by_cases q : F n 9 ≤ 0
    · rw [if_pos q, if_pos (h1.mp q)]
    · rw [if_neg q, if_neg (fun z => q (h1.mpr z))]
      cases hb : bst F' n with
      | none => rfl
      | some b =>
        have hb2 := bst_lt n b hb
        simp only
        rw [(h b (by omega)).2, h2]
theorem nI_lei {a b : Nat} (ha : a < 2 ^ 31) (h : nI a ≤ nI b) (hb : b < 2 ^ 31) : a ≤ b := by
  rcases Nat.lt_or_ge b a with q | q
  · exact absurd h (nI_ge q ha)
  · exact q
theorem sub_lei {m e c : Nat} (hm : m < 2 ^ 31) (he : e < 2 ^ 30) (hc : c < 2 ^ 30) (h : nI m ≤ nI e - nI c) : c + m ≤ e := by
  rcases Nat.lt_or_ge e c with q | q
  · have h1 := pk_sneg (a := e) (b := c) hc q
    have h2 := Int32.lt_of_le_of_lt h h1
    exact absurd h2 (nI_pos hm)
  · rw [pk_sub q] at h
    have := nI_lei hm h (by omega)
    omega
theorem span_eq {q : AS} {t : Rat} {B cl m : Nat} (hB : B ≤ 1000000000) (h : WA q t B cl) (hm : 1 ≤ m) (hcl : cl + m ≤ B + 1) (hc : m = 1 ∨ ((∀ b, bst (bg q).2.1 (bg q).1 = some b → nI m ≤ (bg q).2.1 b 9) ∧ ∀ k, k < (bg q).1 → nI m ≤ turn (bg q) k - (bg q).2.2.2 0)) : it m q = run (nI m) (bg q) ∧ an m q = ansR (bg q) := by
  have hW := bg_wa h (by omega)
  have key : ∀ j, 1 ≤ j → j ≤ m → it j q = run (nI j) (bg q) ∧ an j q = ansR (bg q) := by
    intro j
    induction j with
    | zero => intro h1; omega
    | succ j ih =>
      intro _ hjm
      by_cases hj0 : j = 0
      · subst hj0
        exact ⟨rfl, rfl⟩
      · obtain ⟨ih1, ih2⟩ := ih (by omega) (by omega)
        have hc2 : (∀ b, bst (bg q).2.1 (bg q).1 = some b → nI m ≤ (bg q).2.1 b 9) ∧ ∀ k, k < (bg q).1 → nI m ≤ turn (bg q) k - (bg q).2.2.2 0 := by
          rcases hc with z | z
          · omega
          · exact z
        have hgoal : bg (run (nI j) (bg q)) = run (nI j) (bg q) ∧ run 1 (run (nI j) (bg q)) = run (nI (j + 1)) (bg q) ∧ ansR (run (nI j) (bg q)) = ansR (bg q) := by
          generalize bg q = q1 at *
          obtain ⟨c1, c2⟩ := hc2
          have e0 : q1.2.2.2 0 = nI cl := hW.2.2.2.1
          obtain ⟨itv, ei, hi⟩ := hW.2.2.2.2
          -- what a span leaves as it was
          have hr1 : (run (nI j) q1).1 = q1.1 := by unfold run; cases bst q1.2.1 q1.1 <;> rfl
          have hrG0 : (run (nI j) q1).2.2.2 0 = nI (cl + j) := by
            have : q1.2.2.2 0 + nI j = nI (cl + j) := by rw [e0, nI_add]
            unfold run
            cases bst q1.2.1 q1.1 with
            | none => exact this
            | some b => exact this
          have hrG4 : (run (nI j) q1).2.2.2 4 = q1.2.2.2 4 := by
            unfold run
            cases bst q1.2.1 q1.1 with
            | none => exact gset_ne (G := q1.2.2.2) (i := 4) (j := 0) (v := q1.2.2.2 0 + nI j) (by decide)
            | some b => exact gset_ne (G := q1.2.2.2) (i := 4) (j := 0) (v := q1.2.2.2 0 + nI j) (by decide)
          have hrF : ∀ k i, i ≠ 9 → i ≠ 11 → i ≠ 12 → (run (nI j) q1).2.1 k i = q1.2.1 k i := by
            intro k i a1 a2 a3
            unfold run
            cases bst q1.2.1 q1.1 with
            | none => rfl
            | some b =>
              show rset q1.2.1 b _ k i = _
              unfold rset
              by_cases z : k = b
              · rw [if_pos z, z]
                unfold wkR
                rw [if_neg a1, if_neg a2, if_neg a3]
              · rw [if_neg z]
          have far : ∀ k, k < q1.1 → ∃ e, turn q1 k = nI e ∧ cl + m ≤ e ∧ e < 2 ^ 30 := by
            intro k hk
            have h1 := c2 k hk
            have hd := hW.1.2.2.2 k hk
            obtain ⟨e, ee, he⟩ := hd.2.1
            have : ∃ e, turn q1 k = nI e ∧ e ≤ B + 20000 := by
              unfold turn
              split
              · exact ⟨itv, ei, hi⟩
              · exact ⟨e, ee, he⟩
            obtain ⟨e', ee', he'⟩ := this
            rw [ee', e0] at h1
            exact ⟨e', ee', sub_lei (by omega) (by omega) (by omega) h1, by omega⟩
          have hbest : bst (run (nI j) q1).2.1 q1.1 = bst q1.2.1 q1.1 := by
            refine bst_congr _ (fun k hk => ⟨?_, hrF k 8 (by decide) (by decide) (by decide)⟩)
            unfold run
            cases hb : bst q1.2.1 q1.1 with
            | none => exact Iff.rfl
            | some b =>
              show rset q1.2.1 b _ k 9 ≤ 0 ↔ _
              unfold rset
              by_cases z : k = b
              · rw [if_pos z]
                have hb2 := bst_lt _ b hb
                obtain ⟨a, ea, ha⟩ := (hW.1.2.2.2 b hb2.1).2.2.1
                have hma := c1 b hb
                rw [ea] at hma
                have hma2 := nI_lei (by omega) hma (by omega)
                show q1.2.1 b 9 - nI j ≤ 0 ↔ _
                rw [z, ea, pk_sub (show j ≤ a by omega)]
                constructor
                · intro w
                  exact absurd w (nI_nle (by omega) (by omega))
                · intro w
                  exact absurd w (nI_nle (by omega) (by omega))
              · rw [if_neg z]
          refine ⟨?_, ?_, ?_⟩
          · -- nothing turns
            have hdm : dm (run (nI j) q1).1 (run (nI j) q1) = run (nI j) q1 := by
              rw [hr1]
              refine dm_id _ (fun k hk z => ?_)
              rw [hrF k 5 (by decide) (by decide) (by decide), hrF k 8 (by decide) (by decide) (by decide), hrG0] at z
              obtain ⟨e, ee, he, hb⟩ := far k hk
              unfold turn at ee
              rw [if_neg (by rw [z.1]; decide), z.2] at ee
              have := nI_inj (by omega) (by omega) ee
              omega
            unfold bg
            rw [hdm, hr1]
            refine rl_id _ _ (fun k _ hk z => ?_)
            rw [hrF k 5 (by decide) (by decide) (by decide), hrF k 8 (by decide) (by decide) (by decide), hrG0, hrG4] at z
            obtain ⟨e, ee, he, hb⟩ := far k (by omega)
            unfold turn at ee
            rcases z with z | z
            · rw [if_pos z.1] at ee
              apply z.2
              rw [ee]
              exact nI_lt (by omega) (by omega)
            · rw [if_neg (by rw [z.1]; decide), z.2] at ee
              have := nI_inj (by omega) (by omega) ee
              omega
          · have hG : ∀ G : Nat → Int32, gset (gset G 0 (G 0 + nI j)) 0 (gset G 0 (G 0 + nI j) 0 + 1) = gset G 0 (G 0 + nI (j + 1)) := by
              intro G
              funext i
              unfold gset
              by_cases z : i = 0
              · rw [if_pos z, if_pos z, if_pos rfl, nI_succ, Int32.add_assoc]
              · rw [if_neg z, if_neg z, if_neg z]
            have e1 : run 1 (run (nI j) q1) = match bst q1.2.1 q1.1 with
                | none => (q1.1, (run (nI j) q1).2.1, (run (nI j) q1).2.2.1, gset (run (nI j) q1).2.2.2 0 ((run (nI j) q1).2.2.2 0 + 1))
                | some b => (q1.1, rset (run (nI j) q1).2.1 b (wkR ((run (nI j) q1).2.1 b) 1 ((run (nI j) q1).2.2.2 0 + 1)), (run (nI j) q1).2.2.1, gset (run (nI j) q1).2.2.2 0 ((run (nI j) q1).2.2.2 0 + 1)) := by
              rw [run_eq 1 (run (nI j) q1), hr1, hbest]
            rw [e1]
            unfold run
            cases hb : bst q1.2.1 q1.1 with
            | none =>
              simp only
              rw [hG]
            | some b =>
              have hb2 := bst_lt _ b hb
              obtain ⟨a, ea, ha⟩ := (hW.1.2.2.2 b hb2.1).2.2.1
              have hma := c1 b hb
              rw [ea] at hma
              have hma2 := nI_lei (by omega) hma (by omega)
              simp only
              rw [hG]
              have hrow : wkR (rset q1.2.1 b (wkR (q1.2.1 b) (nI j) (q1.2.2.2 0 + nI j)) b) 1 (gset q1.2.2.2 0 (q1.2.2.2 0 + nI j) 0 + 1) = wkR (q1.2.1 b) (nI (j + 1)) (q1.2.2.2 0 + nI (j + 1)) := by
                have er : rset q1.2.1 b (wkR (q1.2.1 b) (nI j) (q1.2.2.2 0 + nI j)) b = wkR (q1.2.1 b) (nI j) (q1.2.2.2 0 + nI j) := if_pos rfl
                rw [er]
                have eg : gset q1.2.2.2 0 (q1.2.2.2 0 + nI j) 0 + 1 = q1.2.2.2 0 + nI (j + 1) := by
                  rw [nI_succ, ← Int32.add_assoc]
                  rfl
                rw [eg]
                have ne0 : ¬ q1.2.1 b 9 - nI j = 0 := by
                  rw [ea, pk_sub (show j ≤ a by omega)]
                  intro z
                  have := nI_inj (b := 0) (by omega) (by decide) z
                  omega
                have es : q1.2.1 b 9 - nI j - 1 = q1.2.1 b 9 - nI (j + 1) := by
                  rw [ea, pk_sub (show j ≤ a by omega), pk_sub (show j + 1 ≤ a by omega)]
                  exact pk_sub (b := 1) (by omega)
                have w9 : wkR (q1.2.1 b) (nI j) (q1.2.2.2 0 + nI j) 9 = q1.2.1 b 9 - nI j := rfl
                have w11 : wkR (q1.2.1 b) (nI j) (q1.2.2.2 0 + nI j) 11 = q1.2.1 b 11 := if_neg ne0
                have w12 : wkR (q1.2.1 b) (nI j) (q1.2.2.2 0 + nI j) 12 = q1.2.1 b 12 := if_neg ne0
                funext i
                by_cases z9 : i = 9
                · subst z9
                  exact es
                · by_cases z11 : i = 11
                  · subst z11
                    show (if wkR (q1.2.1 b) (nI j) (q1.2.2.2 0 + nI j) 9 - 1 = 0 then wkR (q1.2.1 b) (nI j) (q1.2.2.2 0 + nI j) 11 + 1 else wkR (q1.2.1 b) (nI j) (q1.2.2.2 0 + nI j) 11) = (if q1.2.1 b 9 - nI (j + 1) = 0 then q1.2.1 b 11 + 1 else q1.2.1 b 11)
                    rw [w9, w11, es]
                  · by_cases z12 : i = 12
                    · subst z12
                      show (if wkR (q1.2.1 b) (nI j) (q1.2.2.2 0 + nI j) 9 - 1 = 0 then _ else wkR (q1.2.1 b) (nI j) (q1.2.2.2 0 + nI j) 12) = (if q1.2.1 b 9 - nI (j + 1) = 0 then _ else q1.2.1 b 12)
                      rw [w9, w12, es]
                    · unfold wkR
                      rw [if_neg z9, if_neg z11, if_neg z12, if_neg z9, if_neg z11, if_neg z12, if_neg z9, if_neg z11, if_neg z12]
              rw [hrow]
              have hF : rset (rset q1.2.1 b (wkR (q1.2.1 b) (nI j) (q1.2.2.2 0 + nI j))) b (wkR (q1.2.1 b) (nI (j + 1)) (q1.2.2.2 0 + nI (j + 1))) = rset q1.2.1 b (wkR (q1.2.1 b) (nI (j + 1)) (q1.2.2.2 0 + nI (j + 1))) := by
                funext k
                unfold rset
                by_cases z : k = b
                · rw [if_pos z, if_pos z]
                · rw [if_neg z, if_neg z, if_neg z]
              rw [hF]
          · unfold ansR
            rw [hr1, hbest]
            cases hb : bst q1.2.1 q1.1 with
            | none => rfl
            | some b => exact hrF b 0 (by decide) (by decide) (by decide)
        refine ⟨?_, ?_⟩
        · show run 1 (bg (it j q)) = _
          rw [ih1, hgoal.1]
          exact hgoal.2.1
        · show ansR (bg (it j q)) = _
          rw [ih1, hgoal.1]
          exact hgoal.2.2
  exact key m hm (Nat.le_refl _)
