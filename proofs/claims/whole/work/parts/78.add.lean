/-! add: of both -/
theorem WT.put_in {n p B : Nat} {F : Nat → Nat → Int32} {x : Nat → Int32} (h : WT n F B) (hip : IP (fun k => F k 0) (x 0) n p) (hx0 : 0 < x 0) (hx : TV x) (hd : DY x B) : WT (n + 1) (ins p x F) B := by
  obtain ⟨hp, h1, h2⟩ := hip
  have il : ∀ k, k ≠ p → ins p x F k = F (if k < p then k else k - 1) := by
    intro k hne
    unfold ins
    by_cases q : k < p
    · rw [if_pos q, if_pos q]
    · rw [if_neg q, if_neg hne, if_neg q]
  have ip : ins p x F p = x := by
    unfold ins
    rw [if_neg (Nat.lt_irrefl p), if_pos rfl]
  have lt : ∀ k, k < n + 1 → k ≠ p → (if k < p then k else k - 1) < n := by
    intro k hk hne
    split <;> omega
  refine ⟨fun k hk => ?_, fun k hk => ?_, fun i j hij hj => ?_, fun k hk => ?_⟩
  · by_cases q : k = p
    · rw [q, ip]; exact hx
    · rw [il k q]; exact h.1 _ (lt k hk q)
  · by_cases q : k = p
    · rw [q, ip]; exact hx0
    · rw [il k q]; exact h.2.1 _ (lt k hk q)
  · by_cases qi : i = p
    · rw [qi, ip, il j (by omega)]
      refine h2 _ ?_ (lt j hj (by omega))
      rw [if_neg (by omega)]
      omega
    · by_cases qj : j = p
      · rw [qj, ip, il i qi]
        refine h1 _ ?_
        rw [if_pos (by omega)]
        omega
      · rw [il i qi, il j qj]
        refine h.2.2.1 _ _ ?_ (lt j hj qj)
        split <;> split <;> omega
  · by_cases q : k = p
    · rw [q, ip]; exact hd
    · rw [il k q]; exact h.2.2.2 _ (lt k hk q)
theorem tn_nI {m : Nat} (h : m < 2 ^ 31) : tn (nI m) = m := nI_clamp h
theorem AP.tv {a c s l f : Int32} (h : AP a c s l f) : 0 < a ∧ TV (nwF a c s l f) := by
  obtain ⟨⟨a1, a2⟩, ⟨c1, c2, c3, c4⟩, f1, f2⟩ := h
  have s1 := Int32.le_trans c1 c2
  have l1 := Int32.le_trans s1 c3
  obtain ⟨l', rfl, l2, l3⟩ := nI_mk (M := 20000) (by decide) l1 c4
  obtain ⟨s', rfl, s2, s3⟩ := nI_mk (M := l') (by omega) s1 c3
  obtain ⟨c', rfl, c2', c3'⟩ := nI_mk (M := s') (by omega) c1 c2
  obtain ⟨f', rfl, f2', f3'⟩ := nI_mk (M := 1000) (by decide) f1 f2
  refine ⟨Int32.lt_of_lt_of_le (by decide) a1, ?_⟩
  show (nI c' = nI (tn (nI c')) ∧ nI s' = nI (tn (nI s')) ∧ nI l' = nI (tn (nI l')) ∧ nI f' = nI (tn (nI f'))) ∧ 1 ≤ tn (nI c') ∧ tn (nI c') ≤ tn (nI s') ∧ tn (nI s') ≤ tn (nI l') ∧ tn (nI l') ≤ 20000 ∧ 1 ≤ tn (nI f') ∧ tn (nI f') ≤ 1000
  rw [tn_nI (by omega), tn_nI (by omega), tn_nI (by omega), tn_nI (by omega)]
  exact ⟨⟨rfl, rfl, rfl, rfl⟩, c2', c3', s3, l3, f2', f3'⟩
theorem nwF_dy {a c s l f : Int32} {B : Nat} : DY (nwF a c s l f) B := ⟨Or.inl rfl, ⟨0, rfl, by omega⟩, ⟨0, rfl, by omega⟩, ⟨0, rfl, by omega⟩, Or.inl rfl, fun _ => ⟨rfl, rfl⟩, fun _ => ⟨0, rfl, by omega⟩⟩
theorem t_add_in {kd : Nat → Nat} {I : ek_St} {n p : Nat} {F : Nat → Nat → Int32} {L : Nat → Rat} {t : Rat} {G : Nat → Int32} {a c s l f : Int32} (hM : MK kd) (h : RM I n F L t G (fun _ => False)) (hA : AP a c s l f) (hF : FD (fun k => F k 0) a n n) (hs : ∀ i j, i < j → j < n → F i 0 < F j 0) (hn : n < 12) (hip : IP (fun k => F k 0) a n p) (Post : ek_St × Int32 → Prop)
    (hfin : ∀ J, RM J (n + 1) (ins p (nwF a c s l f) F) (ins p 0 L) t G (fun k => k = p) → ∃ r, ek_bi (fMo_tooMuch kd J 1 (J 1 2)) (fun I16 ir18 => if ir18 ≤ 0 then ek_bv (fMo_solve kd I16 1) (fun I20 => some (I20, I20 1 5 - I20 1 1)) else ek_bv (fMo_remove kd (ek_up I16 1 6 ir18) 1 (nI p)) (fun I23 => some (I23, (-1 : Int32)))) = some r ∧ Post r) :
    ∃ r, fMo_add5 kd I 1 a c s l f = some r ∧ Post r := by
  have hm0 := h.code 0
  generalize hI0 : ek_up I 1 0 0 = I0 at hm0
  obtain ⟨r', hr', e2⟩ := t_find (ids := fun k => F k 0) hM hm0.1.1 hm0.1.2 (fun k hk => hm0.2.1 k 0 hk (by decide) (by decide)) a
  have er := hr'.uniq hF
  subst er
  rw [if_neg (Nat.lt_irrefl _)] at e2
  obtain ⟨⟨a1, a2⟩, ⟨c1, c2, c3, c4⟩, f1, f2⟩ := hA
  have s1 := Int32.le_trans c1 c2
  have l1 := Int32.le_trans s1 c3
  have s4 := Int32.le_trans c3 c4
  have e7 : I0 1 7 = nI r' := hm0.1.2
  have hne12 : ¬ nI r' = (12 : Int32) := fun q => by
    have := nI_inj (b := 12) (by omega) (by decide) q
    omega
  simp only [fMo_add5, fMo_add5_0, ck_t hM.m1, let_e, hI0, if_neg (Int32.not_lt.mpr a1), if_neg (Int32.not_lt.mpr a2), if_neg (Int32.not_lt.mpr c1), if_neg (Int32.not_lt.mpr s1), if_neg (Int32.not_lt.mpr s4), if_neg (Int32.not_lt.mpr l1), if_neg (Int32.not_lt.mpr c4), if_neg (Int32.not_lt.mpr c2), if_neg (Int32.not_lt.mpr c3), if_neg (Int32.not_lt.mpr f1), if_neg (Int32.not_lt.mpr f2), e2, bi_s, if_pos, e7, if_neg hne12]
  -- the rows are moved, the new one is filled
  have mv : ∃ r, fMo_add5_121 kd I0 1 a c s l f (nI p) = some r ∧ Post r := by
    simp only [fMo_add5_121, ck_t hM.m1, let_e, e7]
    refine lp_for (fun u q => ∃ I', q = (I', 1, a, c, s, l, f, nI p, nI (r' - u)) ∧ RW I0 I' (fun k => if r' - u < k ∧ k ≤ r' then k - 1 else k)) _ (r' - p) ⟨I0, rfl, (RW.refl I0).congr (fun k hk => by rw [if_neg (by omega)])⟩ ?_ ?_ (by omega)
    · rintro kk u q hu ⟨I2, rfl, q1⟩ hkk
      have hlt : ¬ nI (r' - u) ≤ nI p := nI_ge (by omega) (by omega)
      have epred : nI (r' - u) - (1 : Int32) = nI (r' - u - 1) := by
        have := nI_pred (r' - u - 1)
        rw [show r' - u - 1 + 1 = r' - u by omega] at this
        exact this
      have emin : nI (r' - u) + (-1 : Int32) = nI (r' - (u + 1)) := by
        have h5 : nI (r' - u) + (-1 : Int32) = nI (r' - u) - 1 := by rw [Int32.sub_eq_add_neg]
        rw [h5, epred]
        congr 1
      obtain ⟨I3, e3, h3⟩ := t_move (I := I2) (a := r' - u) (b := r' - u - 1) hM (by omega) (by omega) (by omega) (hm0.2.2.2.2.2.1.rw q1) (BV.rw hm0.2.2.2.2.2.2.1 q1)
      simp only [fMo_add5_127, if_neg hlt, ck_t hM.m1, epred, e3, bv_s, let_e, emin]
      refine hkk _ ⟨I3, rfl, (q1.trans h3).congr (fun k hk => ?_)⟩
      show (if r' - u < (if k = r' - u then r' - u - 1 else k) ∧ (if k = r' - u then r' - u - 1 else k) ≤ r' then (if k = r' - u then r' - u - 1 else k) - 1 else (if k = r' - u then r' - u - 1 else k)) = if r' - (u + 1) < k ∧ k ≤ r' then k - 1 else k
      by_cases q : k = r' - u
      · rw [if_pos q, if_neg (by omega), if_pos (by omega), q]
      · rw [if_neg q]
        by_cases z : r' - u < k ∧ k ≤ r'
        · rw [if_pos z, if_pos (by omega)]
        · rw [if_neg z, if_neg (by omega)]
    · rintro kk q ⟨I2, rfl, q1⟩
      have hp := hip.1
      have hp12 : p < 12 := by omega
      have ep : r' - (r' - p) = p := by omega
      rw [ep] at q1
      have e27 : I2 1 7 = nI r' := by rw [q1.2.2.2.2.2]; exact e7
      have es : nI r' + (1 : Int32) = nI (r' + 1) := (nI_succ _).symm
      simp only [fMo_add5_127, ep, if_pos (nI_le (Nat.le_refl p) (show p < 2 ^ 31 by omega)), ck_t hM.m1, ck_t hM.a1, ck_t hM.a2, ck_t hM.a3, ck_t hM.a4, ck_t hM.a5, ck_t hM.a6, ck_t hM.a7, ck_t hM.a8, ck_t hM.a9, ck_t hM.a10, ck_t hM.a11, ck_t hM.a12, ck_t hM.a13, ck_t hM.a14, ck_t hM.a15, ck_t hM.a16, ck_t hM.a17, let_e, e27, es, ck_t (in12 hp12), cl12 hp12]
      refine hfin _ (t_row (kd := kd) hm0 hn hp (nwF a c s l f) q1 ?_ ?_ ?_ ?_ ?_ ?_ ?_)
      · simp [ek_up]
      · intro j hj
        simp [ek_up, hj]
      · intro k j h1 h2
        have : j = 0 ∨ j = 1 ∨ j = 2 ∨ j = 3 ∨ j = 4 ∨ j = 5 ∨ j = 6 ∨ j = 8 ∨ j = 9 ∨ j = 10 ∨ j = 11 ∨ j = 12 := by omega
        by_cases q : k = p
        · rcases this with rfl | rfl | rfl | rfl | rfl | rfl | rfl | rfl | rfl | rfl | rfl | rfl <;> simp [ek_up, nwF, q]
        · rcases this with rfl | rfl | rfl | rfl | rfl | rfl | rfl | rfl | rfl | rfl | rfl | rfl <;> simp [ek_up, nwF, q]
      · intro k
        by_cases q : k = p
        · simp [ek_up, nwF, q]
        · simp [ek_up, nwF, q]
      · funext i
        simp [ek_up]
      · funext i
        simp [ek_up]
      · funext i
        simp [ek_up]
  refine lp_for (fun i q => q = (I0, 1, a, c, s, l, f, nI i) ∧ i ≤ p) _ p ⟨rfl, Nat.zero_le _⟩ ?_ ?_ (by have := hip.1; omega)
  · rintro kk i q hi ⟨rfl, -⟩ hkk
    have hp := hip.1
    have hi12 : i < 12 := by omega
    have hge : ¬ nI r' ≤ nI i := nI_ge (by omega) (by omega)
    have rid : I0 (1 + 1) i = F i 0 := hm0.2.1 i 0 (by omega) (by decide) (by decide)
    have hlt : ¬ a ≤ F i 0 := Int32.not_le.mpr (hip.2.1 i hi)
    simp only [fMo_add5_95, ck_t hM.m1, e7, if_neg hge, ck_t hM.a1, ck_t (in12 hi12), cl12 hi12, rid, if_neg hlt, let_e]
    exact hkk _ ⟨by rw [nI_succ], by omega⟩
  · rintro kk q ⟨rfl, -⟩
    have hp := hip.1
    simp only [fMo_add5_95, ck_t hM.m1, e7]
    by_cases q : p = r'
    · rw [if_pos (nI_le (by omega) (by omega))]
      exact mv
    · have hp12 : p < 12 := by omega
      have rid : I0 (1 + 1) p = F p 0 := hm0.2.1 p 0 (by omega) (by decide) (by decide)
      have hle : a ≤ F p 0 := Int32.le_of_lt (hip.2.2 p (Nat.le_refl _) (by omega))
      simp only [if_neg (nI_ge (show p < r' by omega) (show r' < 2 ^ 31 by omega)), ck_t hM.a1, ck_t (in12 hp12), cl12 hp12, rid, if_pos hle]
      exact mv
theorem j_add {kd : Nat → Nat} {Ix Im : ek_St} {B : Nat} (hM : MK kd) (hB : B ≤ 2000000000) (h : ST Ix Im B) (a c s l f : Int32) : OK kd (fKe_add kX Ix 1 a c s l f) (fMo_add5 kd Im 1 a c s l f) B := by
  by_cases hA : AP a c s l f
  · obtain ⟨π, n, F, L, t, G, hX, hm, hT, hG⟩ := h
    have hn := hX.1.1
    have hid : ∀ k, k < n → Ix (tk (π k)) 0 = F k 0 := fun k hk => hX.2.1 k 0 hk (by decide) (by decide)
    obtain ⟨r, hr, e1⟩ := s_find (ids := fun k => F k 0) hX.1 hid a
    simp only [fKe_add, fKe_add_0, s_within, s_periods, bi_s, decide_eq_true hA.1, decide_eq_true hA.2.1, decide_eq_true hA.2.2, if_neg (show ¬ bI true = (0 : Int32) by decide), ck_t k1, ck_t k11]
    by_cases hno : n = 12 ∨ r < n
    · have en : fRo_enter kX Ix (1 + 1) a = some (Ix, 0) := s_enter_no hX.1 hid a hr hno
      rw [en, bi_s, if_pos rfl]
      have hm0 := hm.code 0
      obtain ⟨r', hr', e2⟩ := t_find (ids := fun k => F k 0) hM hm0.1.1 hm0.1.2 (fun k hk => hm0.2.1 k 0 hk (by decide) (by decide)) a
      have er := hr.uniq hr'
      subst er
      have e7 : ek_up Im 1 0 0 1 7 = nI n := hm0.1.2
      obtain ⟨⟨a1, a2⟩, ⟨c1, c2, c3, c4⟩, f1, f2⟩ := hA
      have s1 := Int32.le_trans c1 c2
      have l1 := Int32.le_trans s1 c3
      have s4 := Int32.le_trans c3 c4
      refine ⟨Ix, ek_up Im 1 0 0, -1, rfl, ?_, π, n, F, L, t, G, hX, hm0, hT, hG⟩
      simp only [fMo_add5, fMo_add5_0, ck_t hM.m1, let_e, if_neg (Int32.not_lt.mpr a1), if_neg (Int32.not_lt.mpr a2), if_neg (Int32.not_lt.mpr c1), if_neg (Int32.not_lt.mpr s1), if_neg (Int32.not_lt.mpr s4), if_neg (Int32.not_lt.mpr l1), if_neg (Int32.not_lt.mpr c4), if_neg (Int32.not_lt.mpr c2), if_neg (Int32.not_lt.mpr c3), if_neg (Int32.not_lt.mpr f1), if_neg (Int32.not_lt.mpr f2), e2, bi_s, e7]
      by_cases hrn : r < n
      · rw [if_pos hrn, if_neg (mone (by omega))]
      · have h12 : n = 12 := by omega
        rw [if_neg hrn, if_pos rfl, if_pos (by rw [h12]; rfl)]
    · have hrn : r = n := by have := hr.1; omega
      subst hrn
      have hn12 : r < 12 := by omega
      obtain ⟨Ix1, p, hip, en, hR1, hx0, hxj, hz⟩ := s_enter hX.1 hid hT.2.2.1 hn12 a hr
      have en' : fRo_enter kX Ix (1 + 1) a = some (Ix1, tk (π r)) := en
      have hk6 := (kX_tk _ (hX.1.2.2.1 r hn12).1).1
      obtain ⟨Ix2, ea, ha1, ha2⟩ := s_announce (I := Ix1) (t := tk (π r)) (c := c) (s := s) (l := l) (f := f) hk6
      rw [hx0] at ha1
      have etk : tk (π r) = 4 + 6 * π r := rfl
      have hR2 : XR Ix2 (πi p r π) (r + 1) := hR1.keep (ha2 2 (by omega)) (ha2 3 (by omega))
      have hX2 := hX.enter hn12 hip.1 (nwF a c s l f) hR2 ha1 (fun z z2 z3 z4 => (ha2 z z4).trans (hz z z2 z3 z4))
      obtain ⟨ha0, hTV⟩ := hA.tv
      have hT2 : WT (r + 1) (ins p (nwF a c s l f) F) B := hT.put_in hip ha0 hTV nwF_dy
      obtain ⟨th, g1, g2, g3, g4⟩ := hG.1
      have e3 : Ix2 1 3 = nI th := (hX2.2.2.2.2 1 (by decide)).trans g1
      have hπp : πi p r π p = π r := by unfold πi; rw [if_neg (Nat.lt_irrefl p), if_pos rfl]
      simp only [en', bi_s, if_neg tkne, ck_t hk6, ea, bv_s, e3]
      have hfalse : del p (fun k => k = p) = fun _ => False := by
        funext k
        unfold del
        by_cases q : k < p
        · rw [if_pos q]
          exact propext ⟨fun z => by omega, fun z => z.elim⟩
        · rw [if_neg q]
          exact propext ⟨fun z => by omega, fun z => z.elim⟩
      have key : ∃ q, fMo_add5 kd Im 1 a c s l f = some q ∧ ∃ Ix', (ek_bi (fKe_isRefused kX Ix2 1 (nI th)) (fun I16 ir18 => if ir18 = 0 then ek_bv (fKe_solve kX I16 1) (fun I20 => some (I20, I20 1 6 - I20 1 2)) else ek_bv (fRo_drop kX I16 (1 + 1) (tk (π r))) (fun I22 => some (I22, (-1 : Int32)))) = some (Ix', q.2)) ∧ ST Ix' q.1 B := by
        refine t_add_in hM hm hA hr hT.2.2.1 hn12 hip _ (fun J hJ => ?_)
        have j2 : J 1 2 = nI th := (hJ.2.2.2.2.2.2.2 1 (by decide)).trans g1
        rw [j2]
        rcases j_refuse (th := th) hM hX2 hJ hT2 g3 with ⟨hlo, Ix3, Im3, e5, e6, r1, r2, -⟩ | ⟨Ix3, Im3, w, hw, e5, e6, r1, r2, -⟩
        · obtain ⟨Ix4, Im4, e7, e8, hs, eq1, eq2⟩ := j_solve (th := th) hM hB r1 r2 hT2 hG.2.2.1 hG.2.2.2 g1 g2 g3 hlo
          refine ⟨(Im4, Im4 1 5 - Im4 1 1), ?_, Ix4, ?_, hs⟩
          · rw [e6, bi_s, if_pos (by decide), e8, bv_s]
          · rw [e5, bi_s, if_pos rfl, e7, bv_s, eq1, eq2]
        · obtain ⟨Ix4, d1, d2, d3⟩ := s_drop r1.1 (show p < r + 1 by have := hip.1; omega)
          have r1' := r1.drop (show p < r + 1 by have := hip.1; omega) d2 d3
          obtain ⟨Im4, b1, b2, -⟩ := RM.remove hM (r2.g 5 w (by decide)) (show p < r + 1 by have := hip.1; omega)
          rw [del_ins, del_ins, hfalse] at r1' b2
          rw [hπp] at d1
          refine ⟨(Im4, -1), ?_, Ix4, ?_, ⟨_, r, F, L, t, _, r1', b2, hT, hG.g 5 w (by decide) (by decide) (by decide)⟩⟩
          · rw [e6, bi_s, if_neg (Int32.not_le.mpr hw)]
            have b1' : fMo_remove kd (ek_up Im3 1 6 w) 1 (nI p) = some Im4 := b1
            rw [b1', bv_s]
          · rw [e5, bi_s, if_neg (by decide)]
            have d1' : fRo_drop kX Ix3 (1 + 1) (tk (π r)) = some Ix4 := d1
            rw [d1', bv_s]
      obtain ⟨q, e9, Ix', e10, hs⟩ := key
      exact ⟨Ix', q.1, q.2, e10, e9, hs⟩
  · obtain ⟨π, n, F, L, t, G, hX, hm, hT, hG⟩ := h
    exact ⟨_, _, _, s_add_no hA, t_add_no hM hA, π, n, F, L, t, G, hX, hm.code 0, hT, hG⟩
