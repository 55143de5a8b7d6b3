/-! More posts, bikes, riders. -/
theorem RD_p {d : Bool} {t t' : Sg} {D : Dy} {eb er : Nat} {Z : Zt} {σ σ' : Sg} (h : RD d t D eb er Z σ) (hB : nB t' = nB t) (hR : nR t' = nR t) (hw : ∀ k r i, 26 ≤ k → k ≤ 47 → ¬ (27 ≤ k ∧ k ≤ 31) → σ' k d r i = σ k d r i) (hp : Rp d t' D σ') (hc : Rc d t' D σ') (hw2 : Rw d t' D er σ') : RD d t' D eb er Z σ' := by
  have e26 : σ' 26 d = σ 26 d := by
    funext r i
    exact hw 26 r i (by omega) (by omega) (by omega)
  have e32 : σ' 32 d = σ 32 d := by
    funext r i
    exact hw 32 r i (by omega) (by omega) (by omega)
  have e33 : σ' 33 d = σ 33 d := by
    funext r i
    exact hw 33 r i (by omega) (by omega) (by omega)
  have e34 : σ' 34 d = σ 34 d := by
    funext r i
    exact hw 34 r i (by omega) (by omega) (by omega)
  have e35 : σ' 35 d = σ 35 d := by
    funext r i
    exact hw 35 r i (by omega) (by omega) (by omega)
  have e36 : σ' 36 d = σ 36 d := by
    funext r i
    exact hw 36 r i (by omega) (by omega) (by omega)
  have e37 : σ' 37 d = σ 37 d := by
    funext r i
    exact hw 37 r i (by omega) (by omega) (by omega)
  have e38 : σ' 38 d = σ 38 d := by
    funext r i
    exact hw 38 r i (by omega) (by omega) (by omega)
  have e39 : σ' 39 d = σ 39 d := by
    funext r i
    exact hw 39 r i (by omega) (by omega) (by omega)
  have e40 : σ' 40 d = σ 40 d := by
    funext r i
    exact hw 40 r i (by omega) (by omega) (by omega)
  have e41 : σ' 41 d = σ 41 d := by
    funext r i
    exact hw 41 r i (by omega) (by omega) (by omega)
  have e42 : σ' 42 d = σ 42 d := by
    funext r i
    exact hw 42 r i (by omega) (by omega) (by omega)
  have e43 : σ' 43 d = σ 43 d := by
    funext r i
    exact hw 43 r i (by omega) (by omega) (by omega)
  have e44 : σ' 44 d = σ 44 d := by
    funext r i
    exact hw 44 r i (by omega) (by omega) (by omega)
  have e45 : σ' 45 d = σ 45 d := by
    funext r i
    exact hw 45 r i (by omega) (by omega) (by omega)
  have e46 : σ' 46 d = σ 46 d := by
    funext r i
    exact hw 46 r i (by omega) (by omega) (by omega)
  have e47 : σ' 47 d = σ 47 d := by
    funext r i
    exact hw 47 r i (by omega) (by omega) (by omega)
  refine ⟨?_, hp, hc, hw2, ?_⟩
  · simp only [Rm, e26, e37]
    exact h.1
  · have h2 := h.2.2.2.2
    simp only [Rb, Rr, Rg, Rz, Rl, Rv, hB, hR, e32, e33, e34, e35, e36, e37, e38, e39, e40, e41, e42, e43, e44, e45, e46, e47]
    exact h2
theorem MI_P {t t' : Sg} {D : Dy} (h : MI t D) (hP : nP t ≤ nP t') (hB : nB t' = nB t) (hR : nR t' = nR t) : MI t' D := by
  obtain ⟨⟨⟨v1, v2, v3, v4, v5, v6⟩, j1, j2, j3, j4⟩, c, m⟩ := h
  refine ⟨⟨⟨v1, v2, v3, fun i hi => ?_, fun i hi => ?_, ?_⟩, fun b hb => ?_, fun r hr => ?_, fun r s hr hs => ?_, fun i hi => ?_⟩, c, m⟩
  · obtain ⟨⟨p, h1, h2⟩, h3⟩ := v4 i hi
    exact ⟨⟨p, by omega, h2⟩, h3⟩
  · rw [hB]; exact v5 i hi
  · obtain ⟨p, h1, h2⟩ := v6
    exact ⟨p, by omega, h2⟩
  · obtain ⟨h1, p, h2, h3⟩ := j1 b (by omega)
    exact ⟨h1, p, by omega, h3⟩
  · obtain ⟨h1, h2⟩ := j2 r (by omega)
    refine ⟨h1, fun q => ?_⟩
    obtain ⟨b, p, q1, q2, q3⟩ := h2 q
    exact ⟨b, p, by omega, by omega, q3⟩
  · exact j3 r s (by omega) (by omega)
  · rw [hB]; exact j4 i hi
theorem OF_w {s s' t t' : Sg} {z : Int32} (h : OF s t z) (h1 : ∀ k, s' 17 false 0 k = s 17 false 0 k) (h2 : ∀ k, t' 86 false 0 k = t 86 false 0 k) (h3 : nRu t' = nRu t) : OF s' t' z := fun k hk => by
  rw [h1, h2]
  exact h k (by omega)
theorem TH_w {s s' t t' : Sg} (h : TH s t) (h1 : ∀ k, s' 16 false 0 k = s 16 false 0 k) (h2 : ∀ k, t' 84 false 0 k = t 84 false 0 k) (h4 : ∀ k, t' 85 false 0 k = t 85 false 0 k) (h3 : nRu t' = nRu t) : TH s' t' := fun k hk => by
  obtain ⟨e, q1, q2, q3⟩ := h k (by omega)
  refine ⟨e, by rw [h2]; exact q1, ?_, by rw [h1]; exact q3⟩
  unfold sy
  rw [h2, h4]
  exact q2
theorem CK_np {t : Sg} {D : Dy} {Z : Zt} {σ : Sg} (h : CK t D Z σ) (hT : WN t) (hRT : ∀ r, r < nR t → ∃ p, p < nP t ∧ t 77 false 0 r = nI p) (h12 : nP t < 12) (hu : D 1 (nP t) = nI 10 ∧ D 2 (nP t) = nI 1) : CK (up4 t 69 false 0 3 (nI (nP t + 1))) D Z (up4 (up4 (up4 (up4 (up4 (up4 σ 1 false 0 0 (nI (nP t + 1))) 27 false 0 (nP t) (nI (10))) 28 false 0 (nP t) (nI (1))) 29 false 0 (nP t) (nI (0))) 30 false 0 (nP t) (nI (0))) 31 false 0 (nP t) (nI (0))) := by
  obtain ⟨⟨⟨hTR, _, hD⟩, hM, hO, hOF, hZ⟩, hH, hz⟩ := h
  have hB := hT.B
  have hR := hT.R
  have eP : nP (up4 t 69 false 0 3 (nI (nP t + 1))) = nP t + 1 := by
    show nN (up4 t 69 false 0 3 (nI (nP t + 1)) 69 false 0 3) = _
    rw [up4_s, nN_nI (by omega)]
  have eB : nB (up4 t 69 false 0 3 (nI (nP t + 1))) = nB t := congrArg nN (u4n (by omega))
  have eR : nR (up4 t 69 false 0 3 (nI (nP t + 1))) = nR t := congrArg nN (u4n (by omega))
  have e0 : thr t D (nP t) = 0 := ct_none (fun b hb => by
    obtain ⟨p, hp, e⟩ := (hM.1.2.1 b hb).2
    show (decide (D 11 b = nI 0) && decide (D 12 b = nI (nP t))) = false
    rw [decide_eq_false (show ¬ D 12 b = nI (nP t) from fun q => absurd (nI_inj (e.symm.trans q) (by omega) (by omega)) (by omega)), Bool.and_false])
  have e1 : gdn t D (nP t) = 0 := ct_none (fun b hb => by
    obtain ⟨p, hp, e⟩ := (hM.1.2.1 b hb).2
    show ((decide (D 11 b = nI 0) && decide (D 12 b = nI (nP t))) && decide (D 14 b = nI 0)) = false
    rw [decide_eq_false (show ¬ D 12 b = nI (nP t) from fun q => absurd (nI_inj (e.symm.trans q) (by omega) (by omega)) (by omega)), Bool.and_false, Bool.false_and])
  have e2 : wtx t D 200 (nP t) = 0 := ct_none (fun r hr => by
    obtain ⟨p, hp, e⟩ := hRT r hr
    rw [decide_eq_false (show ¬ t 77 false 0 r = nI (nP t) from fun q => absurd (nI_inj (e.symm.trans q) (by omega) (by omega)) (by omega)), Bool.and_false, Bool.and_false])
  have t0 : ∀ p, thr (up4 t 69 false 0 3 (nI (nP t + 1))) D p = thr t D p := fun p => by unfold thr; rw [eB]
  have t1 : ∀ p, gdn (up4 t 69 false 0 3 (nI (nP t + 1))) D p = gdn t D p := fun p => by unfold gdn; rw [eB]
  have t2 : ∀ p, wtx (up4 t 69 false 0 3 (nI (nP t + 1))) D 200 p = wtx t D 200 p := fun p => by
    unfold wtx
    rw [eR]
    exact ct_cong (fun r _ => by rw [u4n (by omega)])
  refine ⟨⟨⟨TR_s (TR_s (TR_s (TR_s (TR_s (TR_w hTR rfl _) (Or.inl rfl)) (Or.inl rfl)) (Or.inl rfl)) (Or.inl rfl)) (Or.inl rfl), Fr_rf _ _, RD_p hD eB eR (fun k r i q1 q2 q3 => ?_) (fun p hp => ?_) (fun p hp => ?_) (fun p hp => ?_)⟩, MI_P hM (by omega) eB eR, fun p hp => ?_, OF_w hOF (fun k => ?_) (fun k => u4n (by omega)) (congrArg nN (u4n (by omega))), hZ⟩, TH_w hH (fun k => ?_) (fun k => u4n (by omega)) (fun k => u4n (by omega)) (congrArg nN (u4n (by omega))), hz.1, by rw [u4n (by omega), u4n (by omega), u4n (by omega), u4n (by omega), u4n (by omega), u4n (by omega)]; exact hz.2⟩
  · rw [u4n (by omega), u4n (by omega), u4n (by omega), u4n (by omega), u4n (by omega), u4n (by omega)]
  · by_cases e : p = nP t
    · subst e
      rw [u4n (by omega), u4n (by omega), u4n (by omega), u4n (by omega), up4_s, u4n (by omega), u4n (by omega), u4n (by omega), up4_s]
      exact ⟨hu.1.symm, hu.2.symm⟩
    · rw [u4n (by omega), u4n (by omega), u4n (by omega), u4n (by omega), u4n (by omega), u4n (by omega), u4n (by omega), u4n (by omega), u4n (by omega), u4n (by omega), u4n (by omega), u4n (by omega)]
      exact hD.2.1 p (by omega)
  · rw [t0, t1]
    by_cases e : p = nP t
    · subst e
      rw [e0, e1]
      exact ⟨by rw [u4n (by omega), u4n (by omega), up4_s], by rw [u4n (by omega), up4_s]⟩
    · rw [u4n (by omega), u4n (by omega), u4n (by omega), u4n (by omega), u4n (by omega), u4n (by omega), u4n (by omega), u4n (by omega), u4n (by omega), u4n (by omega), u4n (by omega), u4n (by omega)]
      exact hD.2.2.1 p (by omega)
  · rw [t2]
    by_cases e : p = nP t
    · subst e
      rw [e2, up4_s]
    · rw [u4n (by omega), u4n (by omega), u4n (by omega), u4n (by omega), u4n (by omega), u4n (by omega)]
      exact hD.2.2.2.1 p (by omega)
  · by_cases e : p = nP t
    · subst e; exact Or.inr hu.2
    · exact hO p (by omega)
  · rw [u4n (by omega), u4n (by omega), u4n (by omega), u4n (by omega), u4n (by omega), u4n (by omega)]
  · rw [u4n (by omega), u4n (by omega), u4n (by omega), u4n (by omega), u4n (by omega), u4n (by omega)]
theorem cv_begun {t : Sg} {D : Dy} {Z : Zt} {σ : Sg} (hK : CK t D Z σ) (hH : Is (t 69 false 0 18) 200) : Ev false 38 [.inr (.inr (0, false, 0))] σ (some (.inl (bD (bgn0 t D)))) σ := by
  have hC := hK.1.1
  have h0 : Is (D 0 0) 1440 := hK.1.2.1.2.2
  have h02 := h0.2
  have hH2 : nH t ≤ 200 := hH.2
  have hHH : t 69 false 0 18 = nI (nH t) := hH.1
  have eH : σ 21 false 0 0 = nI (nH t) := hC.c21_0.trans hHH
  refine Ev_wp 40 [] rfl rfl ?_
  refine br_gt (hC.m.1.trans h0.1) rfl (by omega) (by omega) (fun h3 => ?_) (fun h3 => ?_)
  · refine ⟨Or.inr rfl, ?_⟩
    exact ⟨by rw [bD_t (show bgn0 t D from Or.inl (by rw [h0.1]; exact (nI_ltI (by omega) (by omega)).mpr (by omega)))], rfl⟩
  · refine br_le eH rfl (by omega) (by omega) (fun h7 => ?_) (fun h7 => ?_)
    · refine ⟨Or.inl rfl, ?_⟩
      exact ⟨by rw [bD_f (show ¬ bgn0 t D from fun q => q.elim (fun z => absurd ((nI_ltI (a := 0) (b := nN (D 0 0)) (by omega) (by omega)).mp (by rw [← h0.1]; exact z)) (by omega)) (fun z => absurd ((nI_ltI (a := 0) (b := nH t) (by omega) (by omega)).mp (by rw [← hHH]; exact z)) (by omega)))], rfl⟩
    · refine ⟨Or.inr rfl, ?_⟩
      exact ⟨by rw [bD_t (show bgn0 t D from Or.inr (by rw [hHH]; exact (nI_ltI (by omega) (by omega)).mpr (by omega)))], rfl⟩
theorem cv_addPost {t : Sg} {D : Dy} {Z : Zt} {σ : Sg} (hK : CK t D Z σ) (hT : WN t) (h12 : nP t < 12) {x y n : Int32} : ∃ σ', Ev false 27 [.inr (.inr (1, false, 0)), .inl x, .inl y, .inl n] σ (some (.inl (nI (nP t)))) σ' ∧ ∃ σ1, CK (up4 (up4 (up4 t 72 false 0 (nP t) x) 73 false 0 (nP t) y) 74 false 0 (nP t) n) D Z σ1 ∧ σ' = up4 σ1 1 false 0 0 (nI (nP t + 1)) := by
  have hC := hK.1.1
  have eP : σ 1 false 0 0 = nI (nP t) := hC.c1_0.trans hT.1.1
  refine EvQ_wp 40 [] rfl rfl ?_
  refine ⟨nP t, eP, (by show _ < 12; omega), _, rfl, ?_⟩
  replace hK := CK_w hK (k := 2) (r := 0) (i := nP t) (k' := 72) (j := nP t) x (if_pos ⟨rfl, by omega⟩) (by omega)
  refine ⟨nP t, eP, (by show _ < 12; omega), _, rfl, ?_⟩
  replace hK := CK_w hK (k := 3) (r := 0) (i := nP t) (k' := 73) (j := nP t) y (if_pos ⟨rfl, by omega⟩) (by omega)
  refine ⟨nP t, eP, (by show _ < 12; omega), _, rfl, ?_⟩
  replace hK := CK_w hK (k := 4) (r := 0) (i := nP t) (k' := 74) (j := nP t) n (if_pos ⟨rfl, by omega⟩) (by omega)
  refine ⟨nI ((nP t) + 1), (add_n eP rfl), ?_⟩
  exact ⟨congrArg (fun z => some (Sum.inl z)) ((sub_n (up4_s _ _ _ _ _ _) rfl (by omega)).trans (by rw [Nat.add_sub_cancel])), _, hK, rfl⟩
theorem WN_o {t t' : Sg} (h : WN t) (e : ∀ j, t' 69 false 0 j = t 69 false 0 j) : WN t' := by
  unfold WN
  rw [e, e, e]
  exact h
theorem bg_no {t : Sg} {D : Dy} (h : ¬ bgn0 t D) (h0 : Is (D 0 0) 1440) (hH : Is (t 69 false 0 18) 200) : nN (D 0 0) = 0 ∧ nH t = 0 := by
  have h02 := h0.2
  have hH2 : nH t ≤ 200 := hH.2
  have hHH : t 69 false 0 18 = nI (nH t) := hH.1
  refine ⟨?_, ?_⟩
  · by_cases q : nN (D 0 0) = 0
    · exact q
    · exact absurd (Or.inl (by rw [h0.1]; exact (nI_ltI (by omega) (by omega)).mpr (by omega))) h
  · by_cases q : nH t = 0
    · exact q
    · exact absurd (Or.inr (by rw [hHH]; exact (nI_ltI (by omega) (by omega)).mpr (by omega))) h
/-- as the day begins -/
def B0 (t : Sg) (D : Dy) : Prop := nN (D 0 0) = 0 ∧ nH t = 0 → (∀ p, p < 12 → D 1 p = nI 10 ∧ D 2 p = nI 1) ∧ ∀ b, b < nB t → D 11 b = nI 0 ∧ D 12 b = t 75 false 0 b
theorem cv_post {t : Sg} {D : Dy} {Z : Zt} {σ : Sg} (hK : CK t D Z σ) (hT : WN t) (hH : Is (t 69 false 0 18) 200) (hRT : ∀ r, r < nR t → ∃ p, p < nP t ∧ t 77 false 0 r = nI p) (hb0 : B0 t D) {x y n : Int32} : ∃ σ', Ev false 91 [.inr (.inr (0, false, 0)), .inl (x), .inl (y), .inl (n)] σ (some (.inl (postR t D x y n))) σ' ∧ CK (postT t D x y n) D Z σ' := by
  have hC := hK.1.1
  have hP := hT.P
  have hB := hT.B
  have hR := hT.R
  have eP : σ 1 false 0 0 = nI (nP t) := hC.c1_0.trans hT.1.1
  have hm0 : Is (D 0 0) 1440 := hK.1.2.1.2.2
  have hu : (nN (D 0 0) = 0 ∧ nH t = 0) → ∀ p, p < 12 → D 1 p = nI 10 ∧ D 2 p = nI 1 := fun q => (hb0 q).1
  have h0 : ¬ bgn0 t D → nN (D 0 0) = 0 ∧ nH t = 0 := fun q => bg_no q hm0 hH
  refine EvQ_wp 66 [] rfl rfl ?_
  refine ⟨_, _, cv_in, ?_⟩
  refine brd_eq (fun h4 => ?_) (fun h4 => ?_)
  · have eR : postR t D x y n = (-2) := by simp only [postR, h4, eq_self, ifC_T, ifC_F, and_true, true_and, and_false, false_and, or_true, true_or, or_false, false_or, not_true_eq_false, not_false_eq_true, and_self, or_self, if_true, if_false, reduceIte, reduceCtorEq]
    have eT : postT t D x y n = t := by simp only [postT, h4, eq_self, ifC_T, ifC_F, and_true, true_and, and_false, false_and, or_true, true_or, or_false, false_or, not_true_eq_false, not_false_eq_true, and_self, or_self, if_true, if_false, reduceIte, reduceCtorEq]
    exact ⟨congrArg (fun z => some (Sum.inl z)) (Eq.trans rfl eR.symm), by rw [eT]; exact hK⟩
  · refine ⟨_, _, cv_in, ?_⟩
    refine brd_eq (fun h9 => ?_) (fun h9 => ?_)
    · have eR : postR t D x y n = (-2) := by simp only [postR, h4, h9, eq_self, ifC_T, ifC_F, and_true, true_and, and_false, false_and, or_true, true_or, or_false, false_or, not_true_eq_false, not_false_eq_true, and_self, or_self, if_true, if_false, reduceIte, reduceCtorEq]
      have eT : postT t D x y n = t := by simp only [postT, h4, h9, eq_self, ifC_T, ifC_F, and_true, true_and, and_false, false_and, or_true, true_or, or_false, false_or, not_true_eq_false, not_false_eq_true, and_self, or_self, if_true, if_false, reduceIte, reduceCtorEq]
      exact ⟨congrArg (fun z => some (Sum.inl z)) (Eq.trans rfl eR.symm), by rw [eT]; exact hK⟩
    · refine ⟨_, _, cv_in, ?_⟩
      refine brd_ne (fun h14 => ?_) (fun h14 => ?_)
      · refine ⟨_, _, cv_begun hK hH, ?_⟩
        refine brd_eq (fun h19 => ?_) (fun h19 => ?_)
        · refine br_lt eP rfl (by omega) (by omega) (fun h26 => ?_) (fun h26 => ?_)
          · obtain ⟨σ1, ev1, σ0, hK0, e1⟩ := cv_addPost hK hT (by omega) (x := x) (y := y) (n := n)
            refine ⟨_, _, ev1, _, rfl, ?_⟩
            have hT0 : WN (up4 (up4 (up4 t 72 false 0 (nP t) x) 73 false 0 (nP t) y) 74 false 0 (nP t) n) := WN_o hT (fun j => by rw [u4n (by omega), u4n (by omega), u4n (by omega)])
            have ePq : nP (up4 (up4 (up4 t 72 false 0 (nP t) x) 73 false 0 (nP t) y) 74 false 0 (nP t) n) = nP t := congrArg nN (by rw [u4n (by omega), u4n (by omega), u4n (by omega)])
            have eRq : nR (up4 (up4 (up4 t 72 false 0 (nP t) x) 73 false 0 (nP t) y) 74 false 0 (nP t) n) = nR t := congrArg nN (by rw [u4n (by omega), u4n (by omega), u4n (by omega)])
            have hK := CK_np hK0 hT0 (by rw [ePq, eRq]; intro r hr; rw [u4n (by omega), u4n (by omega), u4n (by omega)]; exact hRT r hr) (by rw [ePq]; omega) (by rw [ePq]; exact hu (h0 h19) (nP t) (by omega))
            rw [ePq, ← e1] at hK
            refine ⟨_, _, cv_sPost (by omega), ?_⟩
            have hz : ¬ nP t = 12 := by omega
            have eR : postR t D x y n = (nI (nP t)) := by simp only [postR, h4, h9, h14, h19, hz, eq_self, ifC_T, ifC_F, and_true, true_and, and_false, false_and, or_true, true_or, or_false, false_or, not_true_eq_false, not_false_eq_true, and_self, or_self, if_true, if_false, reduceIte, reduceCtorEq]
            have eT : postT t D x y n = (up4 (up4 (up4 (up4 t 72 false 0 (nP t) x) 73 false 0 (nP t) y) 74 false 0 (nP t) n) 69 false 0 3 (nI (nP t + 1))) := by simp only [postT, h4, h9, h14, h19, hz, eq_self, ifC_T, ifC_F, and_true, true_and, and_false, false_and, or_true, true_or, or_false, false_or, not_true_eq_false, not_false_eq_true, and_self, or_self, if_true, if_false, reduceIte, reduceCtorEq]
            exact ⟨congrArg (fun z => some (Sum.inl z)) (Eq.trans rfl eR.symm), by rw [eT]; exact hK⟩
          · have hz : nP t = 12 := by omega
            have eR : postR t D x y n = (-4) := by simp only [postR, h4, h9, h14, h19, hz, eq_self, ifC_T, ifC_F, and_true, true_and, and_false, false_and, or_true, true_or, or_false, false_or, not_true_eq_false, not_false_eq_true, and_self, or_self, if_true, if_false, reduceIte, reduceCtorEq]
            have eT : postT t D x y n = t := by simp only [postT, h4, h9, h14, h19, hz, eq_self, ifC_T, ifC_F, and_true, true_and, and_false, false_and, or_true, true_or, or_false, false_or, not_true_eq_false, not_false_eq_true, and_self, or_self, if_true, if_false, reduceIte, reduceCtorEq]
            exact ⟨congrArg (fun z => some (Sum.inl z)) (Eq.trans rfl eR.symm), by rw [eT]; exact hK⟩
        · have eR : postR t D x y n = (-3) := by simp only [postR, h4, h9, h14, h19, eq_self, ifC_T, ifC_F, and_true, true_and, and_false, false_and, or_true, true_or, or_false, false_or, not_true_eq_false, not_false_eq_true, and_self, or_self, if_true, if_false, reduceIte, reduceCtorEq]
          have eT : postT t D x y n = t := by simp only [postT, h4, h9, h14, h19, eq_self, ifC_T, ifC_F, and_true, true_and, and_false, false_and, or_true, true_or, or_false, false_or, not_true_eq_false, not_false_eq_true, and_self, or_self, if_true, if_false, reduceIte, reduceCtorEq]
          exact ⟨congrArg (fun z => some (Sum.inl z)) (Eq.trans rfl eR.symm), by rw [eT]; exact hK⟩
      · have eR : postR t D x y n = (-2) := by simp only [postR, h4, h9, h14, eq_self, ifC_T, ifC_F, and_true, true_and, and_false, false_and, or_true, true_or, or_false, false_or, not_true_eq_false, not_false_eq_true, and_self, or_self, if_true, if_false, reduceIte, reduceCtorEq]
        have eT : postT t D x y n = t := by simp only [postT, h4, h9, h14, eq_self, ifC_T, ifC_F, and_true, true_and, and_false, false_and, or_true, true_or, or_false, false_or, not_true_eq_false, not_false_eq_true, and_self, or_self, if_true, if_false, reduceIte, reduceCtorEq]
        exact ⟨congrArg (fun z => some (Sum.inl z)) (Eq.trans rfl eR.symm), by rw [eT]; exact hK⟩
