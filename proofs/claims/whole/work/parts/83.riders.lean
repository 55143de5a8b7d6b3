/-! More riders. -/
theorem RD_r {d : Bool} {t t' : Sg} {D D' : Dy} {Z : Zt} {σ σ' : Sg} (h : RD d t D 60 200 Z σ) (hP : nP t' = nP t) (hB : nB t' = nB t) (hD : ∀ g i, ¬ (16 ≤ g ∧ g ≤ 21) → D' g i = D g i) (hw : ∀ k r i, 26 ≤ k → k ≤ 47 → ¬ k = 34 → σ' k d r i = σ k d r i) (hw1 : ∀ p, wtx t' D' 200 p = wtx t D 200 p) (hr : Rr d t' D' 200 σ') : RD d t' D' 60 200 Z σ' := by
  have e26 : σ' 26 d = σ 26 d := by
    funext r i
    exact hw 26 r i (by omega) (by omega) (by omega)
  have e27 : σ' 27 d = σ 27 d := by
    funext r i
    exact hw 27 r i (by omega) (by omega) (by omega)
  have e28 : σ' 28 d = σ 28 d := by
    funext r i
    exact hw 28 r i (by omega) (by omega) (by omega)
  have e29 : σ' 29 d = σ 29 d := by
    funext r i
    exact hw 29 r i (by omega) (by omega) (by omega)
  have e30 : σ' 30 d = σ 30 d := by
    funext r i
    exact hw 30 r i (by omega) (by omega) (by omega)
  have e31 : σ' 31 d = σ 31 d := by
    funext r i
    exact hw 31 r i (by omega) (by omega) (by omega)
  have e32 : σ' 32 d = σ 32 d := by
    funext r i
    exact hw 32 r i (by omega) (by omega) (by omega)
  have e33 : σ' 33 d = σ 33 d := by
    funext r i
    exact hw 33 r i (by omega) (by omega) (by omega)
  have e35 : σ' 35 d = σ 35 d := by
    funext r i
    exact hw 35 r i (by omega) (by omega) (by omega)
  have e36 : σ' 36 d = σ 36 d := by
    funext r i
    exact hw 36 r i (by omega) (by omega) (by omega)
  have e37 : σ' 37 d = σ 37 d := by
    funext r i
    exact hw 37 r i (by omega) (by omega) (by omega)
  have e38 : σ' 38 d = σ 38 d := by
    funext r i
    exact hw 38 r i (by omega) (by omega) (by omega)
  have e39 : σ' 39 d = σ 39 d := by
    funext r i
    exact hw 39 r i (by omega) (by omega) (by omega)
  have e40 : σ' 40 d = σ 40 d := by
    funext r i
    exact hw 40 r i (by omega) (by omega) (by omega)
  have e41 : σ' 41 d = σ 41 d := by
    funext r i
    exact hw 41 r i (by omega) (by omega) (by omega)
  have e42 : σ' 42 d = σ 42 d := by
    funext r i
    exact hw 42 r i (by omega) (by omega) (by omega)
  have e43 : σ' 43 d = σ 43 d := by
    funext r i
    exact hw 43 r i (by omega) (by omega) (by omega)
  have e44 : σ' 44 d = σ 44 d := by
    funext r i
    exact hw 44 r i (by omega) (by omega) (by omega)
  have e45 : σ' 45 d = σ 45 d := by
    funext r i
    exact hw 45 r i (by omega) (by omega) (by omega)
  have e46 : σ' 46 d = σ 46 d := by
    funext r i
    exact hw 46 r i (by omega) (by omega) (by omega)
  have e47 : σ' 47 d = σ 47 d := by
    funext r i
    exact hw 47 r i (by omega) (by omega) (by omega)
  have d7 : ∀ g, ¬ (16 ≤ g ∧ g ≤ 21) → D' g = D g := fun g hg => funext fun i => hD g i hg
  have t0 : ∀ p, thr t' D' p = thr t D p := fun p => by
    unfold thr isA
    rw [hB, d7 11 (by omega), d7 12 (by omega)]
  have t1 : ∀ p, gdn t' D' p = gdn t D p := fun p => by
    unfold gdn isG isA
    rw [hB, d7 11 (by omega), d7 12 (by omega), d7 14 (by omega)]
  refine ⟨?_, ?_, ?_, ?_, ?_, hr, ?_, ?_, ?_, ?_⟩
  · simp only [Rm, d7 0 (by omega), e26, e37]
    exact h.1
  · simp only [Rp, hP, d7 1 (by omega), d7 2 (by omega), e27, e28]
    exact h.2.1
  · simp only [Rc, hP, t0, t1, e29, e30]
    exact h.2.2.1
  · simp only [Rw, hP, hw1, e31]
    exact h.2.2.2.1
  · simp only [Rb, hB, d7 11 (by omega), d7 12 (by omega), d7 13 (by omega), d7 14 (by omega), d7 15 (by omega), e32, e33]
    exact h.2.2.2.2.1
  · simp only [Rg, d7 7 (by omega), d7 8 (by omega), d7 9 (by omega), e39, e40, e41]
    exact h.2.2.2.2.2.2.1
  · simp only [Rz, e42, e43]
    exact h.2.2.2.2.2.2.2.1
  · simp only [Rl, d7 0 (by omega), d7 27 (by omega), e38]
    exact h.2.2.2.2.2.2.2.2.1
  · simp only [Rv, d7 0 (by omega), d7 24 (by omega), d7 25 (by omega), d7 26 (by omega), e44, e45, e46, e47]
    exact h.2.2.2.2.2.2.2.2.2
theorem nr_MI {t t' : Sg} {D : Dy} (h : MI t D) (hP : nP t' = nP t) (hB : nB t' = nB t) (hR : nR t' = nR t + 1) : MI t' (tls D (nR t)) := by
  obtain ⟨⟨⟨v1, v2, v3, v4, v5, v6⟩, j1, j2, j3, j4⟩, c, m⟩ := h
  have d7 : ∀ g, ¬ (16 ≤ g ∧ g ≤ 21) → tls D (nR t) g = D g := fun g hg => funext fun i => tls_o (by omega)
  have dr : ∀ g r, ¬ r = nR t → tls D (nR t) g r = D g r := fun g r hr => tls_o (by omega)
  have d0 := d7 0 (by omega)
  have n16 : tls D (nR t) 16 (nR t) = nI 0 := by rw [tls_v (by omega), if_pos (Or.inl rfl)]
  refine ⟨⟨⟨?_, ?_, ?_, fun i hi => ?_, fun i hi => ?_, ?_⟩, fun b hb => ?_, fun r hr => ?_, fun r s hr hs q1 q2 q3 => ?_, fun i hi => ?_⟩, ?_, ?_⟩
  · rw [d0]; exact v1
  · rw [d0]; exact v2
  · rw [d0]; exact v3
  · rw [d0] at hi
    rw [hP, d7 25 (by omega), d7 26 (by omega)]; exact v4 i hi
  · rw [d0] at hi
    rw [hB, d7 24 (by omega)]; exact v5 i hi
  · rw [hP, d0]; exact v6
  · rw [hP, d7 11 (by omega), d7 12 (by omega)]
    exact j1 b (by omega)
  · by_cases e : r = nR t
    · subst e
      rw [n16]
      exact ⟨⟨rfl, by decide⟩, fun q => absurd q (by decide)⟩
    · rw [dr 16 r e, dr 17 r e, hB, hP, d7 11 (by omega), d7 12 (by omega), d7 23 (by omega)]
      exact j2 r (by omega)
  · by_cases e : r = nR t
    · rw [e, n16] at q1
      exact absurd q1 (by decide)
    · by_cases e2 : s = nR t
      · rw [e2, n16] at q2
        exact absurd q2 (by decide)
      · rw [dr _ _ e] at q1
        rw [dr _ _ e2] at q2
        rw [dr _ _ e, dr _ _ e2] at q3
        exact j3 r s (by omega) (by omega) q1 q2 q3
  · rw [d0] at hi ⊢
    rw [hB, d7 24 (by omega), d7 11 (by omega)]
    exact j4 i hi
  · unfold CI at c ⊢
    rw [d0]; exact c
  · rw [d0]; exact m
theorem mp6 {i : Nat} (hi : i < 200) : mp 6 0 i = some (76, i) := if_pos ⟨rfl, hi⟩
theorem mp7 {i : Nat} (hi : i < 200) : mp 7 0 i = some (77, i) := if_pos ⟨rfl, hi⟩
theorem mp8 {i : Nat} (hi : i < 200) : mp 8 0 i = some (78, i) := if_pos ⟨rfl, hi⟩
theorem mp9 {i : Nat} (hi : i < 200) : mp 9 0 i = some (79, i) := if_pos ⟨rfl, hi⟩
theorem CK_nr {t : Sg} {D : Dy} {Z : Zt} {σ : Sg} {m p q k : Int32} (h : CK t D Z σ) (h200 : nR t < 200) : CK (up4 (up4 (up4 (up4 (up4 t 76 false 0 (nR t) m) 77 false 0 (nR t) p) 78 false 0 (nR t) q) 79 false 0 (nR t) k) 69 false 0 9 (nI (nR t + 1))) (tls D (nR t)) Z (up4 (up4 (up4 (up4 (up4 (up4 (up4 (up4 (up4 (up4 (up4 σ 6 false 0 (nR t) m) 7 false 0 (nR t) p) 8 false 0 (nR t) q) 9 false 0 (nR t) k) 1 false 0 2 (nI (nR t + 1))) 34 false ((0) + 1) (nR t) (nI (0))) 34 false ((1) + 1) (nR t) (-1)) 34 false ((2) + 1) (nR t) (-1)) 34 false ((3) + 1) (nR t) (-1)) 34 false ((4) + 1) (nR t) (-1)) 34 false ((5) + 1) (nR t) (nI (0))) := by
  obtain ⟨⟨⟨hTR, _, hD⟩, hM, hO, hOF, hZ, hN⟩, hH, hz⟩ := h
  have eR : nR (up4 (up4 (up4 (up4 (up4 t 76 false 0 (nR t) m) 77 false 0 (nR t) p) 78 false 0 (nR t) q) 79 false 0 (nR t) k) 69 false 0 9 (nI (nR t + 1))) = nR t + 1 := by
    show nN (up4 (up4 (up4 (up4 (up4 t 76 false 0 (nR t) m) 77 false 0 (nR t) p) 78 false 0 (nR t) q) 79 false 0 (nR t) k) 69 false 0 9 (nI (nR t + 1)) 69 false 0 9) = _
    rw [up4_s, nN_nI (by omega)]
  have eP : nP (up4 (up4 (up4 (up4 (up4 t 76 false 0 (nR t) m) 77 false 0 (nR t) p) 78 false 0 (nR t) q) 79 false 0 (nR t) k) 69 false 0 9 (nI (nR t + 1))) = nP t := congrArg nN (by rw [u4n (by omega), u4n (by omega), u4n (by omega), u4n (by omega), u4n (by omega)])
  have eB : nB (up4 (up4 (up4 (up4 (up4 t 76 false 0 (nR t) m) 77 false 0 (nR t) p) 78 false 0 (nR t) q) 79 false 0 (nR t) k) 69 false 0 9 (nI (nR t + 1))) = nB t := congrArg nN (by rw [u4n (by omega), u4n (by omega), u4n (by omega), u4n (by omega), u4n (by omega)])
  have e77 : ∀ r, r < nR t → (up4 (up4 (up4 (up4 (up4 t 76 false 0 (nR t) m) 77 false 0 (nR t) p) 78 false 0 (nR t) q) 79 false 0 (nR t) k) 69 false 0 9 (nI (nR t + 1))) 77 false 0 r = t 77 false 0 r := fun r hr => by rw [u4n (by omega), u4n (by omega), u4n (by omega), u4n (by omega), u4n (by omega)]
  have n16 : tls D (nR t) 16 (nR t) = nI 0 := by rw [tls_v (by omega), if_pos (Or.inl rfl)]
  refine ⟨⟨⟨TR_s (TR_s (TR_s (TR_s (TR_s (TR_s (TR_w (TR_w (TR_w (TR_w (TR_w hTR (mp6 h200) _) (mp7 h200) _) (mp8 h200) _) (mp9 h200) _) rfl _) (Or.inl rfl)) (Or.inl rfl)) (Or.inl rfl)) (Or.inl rfl)) (Or.inl rfl)) (Or.inl rfl), Fr_rf _ _, RD_r hD eP eB (fun g i q => tls_o (by omega)) (fun k r i q1 q2 q3 => ?_) (fun p => ?_) (fun r hr => ?_)⟩, nr_MI hM eP eB eR, fun x hx => by rw [tls_o (by omega)]; exact hO x (by omega), OF_w hOF (fun k => ?_) (fun k => ?_) (congrArg nN ?_), fun x y hx hy => by rw [tls_o (by omega)]; exact hZ x y hx hy, fun x y hx hy => by rw [tls_o (by omega)]; exact hN x y hx hy⟩, TH_w hH (fun k => ?_) (fun k => ?_) (fun k => ?_) (congrArg nN ?_), hz.1, by rw [u4n (by omega), u4n (by omega), u4n (by omega), u4n (by omega), u4n (by omega), u4n (by omega), u4n (by omega), u4n (by omega), u4n (by omega), u4n (by omega), u4n (by omega)]; exact hz.2⟩
  · rw [u4n (by omega), u4n (by omega), u4n (by omega), u4n (by omega), u4n (by omega), u4n (by omega), u4n (by omega), u4n (by omega), u4n (by omega), u4n (by omega), u4n (by omega)]
  · unfold wtx
    rw [eR, ct_S, n16, decide_eq_false (show ¬ nI 0 = nI 1 by decide), Bool.false_and, Bool.and_false, if_neg (by decide), Nat.add_zero]
    exact ct_cong (fun r hr => by rw [tls_o (by omega), e77 r hr])
  · by_cases e : r = nR t
    · subst e
      refine ⟨fun w hw => ?_, fun _ q => absurd (n16.symm.trans q) (by decide)⟩
      rw [tls_v (by omega)]
      rcases (show w = 0 ∨ w = 1 ∨ w = 2 ∨ w = 3 ∨ w = 4 ∨ w = 5 by omega) with rfl | rfl | rfl | rfl | rfl | rfl
      · rw [u4n (by omega), u4n (by omega), u4n (by omega), u4n (by omega), u4n (by omega), up4_s]; rfl
      · rw [u4n (by omega), u4n (by omega), u4n (by omega), u4n (by omega), up4_s]; rfl
      · rw [u4n (by omega), u4n (by omega), u4n (by omega), up4_s]; rfl
      · rw [u4n (by omega), u4n (by omega), up4_s]; rfl
      · rw [u4n (by omega), up4_s]; rfl
      · rw [up4_s]; rfl
    · have h1 := hD.2.2.2.2.2.1 r (by omega)
      refine ⟨fun w hw => ?_, fun q1 q2 => ?_⟩
      · rw [tls_o (by omega), u4n (by omega), u4n (by omega), u4n (by omega), u4n (by omega), u4n (by omega), u4n (by omega), u4n (by omega), u4n (by omega), u4n (by omega), u4n (by omega), u4n (by omega)]; exact h1.1 w hw
      · rw [tls_o (by omega)] at q2
        rw [tls_o (by omega), u4n (by omega), u4n (by omega), u4n (by omega), u4n (by omega), u4n (by omega), u4n (by omega), u4n (by omega), u4n (by omega), u4n (by omega), u4n (by omega), u4n (by omega)]; exact h1.2 q1 q2
  · rw [u4n (by omega), u4n (by omega), u4n (by omega), u4n (by omega), u4n (by omega), u4n (by omega), u4n (by omega), u4n (by omega), u4n (by omega), u4n (by omega), u4n (by omega)]
  · rw [u4n (by omega), u4n (by omega), u4n (by omega), u4n (by omega), u4n (by omega)]
  · rw [u4n (by omega), u4n (by omega), u4n (by omega), u4n (by omega), u4n (by omega)]
  · rw [u4n (by omega), u4n (by omega), u4n (by omega), u4n (by omega), u4n (by omega), u4n (by omega), u4n (by omega), u4n (by omega), u4n (by omega), u4n (by omega), u4n (by omega)]
  · rw [u4n (by omega), u4n (by omega), u4n (by omega), u4n (by omega), u4n (by omega)]
  · rw [u4n (by omega), u4n (by omega), u4n (by omega), u4n (by omega), u4n (by omega)]
  · rw [u4n (by omega), u4n (by omega), u4n (by omega), u4n (by omega), u4n (by omega)]
theorem cv_addRider {t : Sg} {D : Dy} {Z : Zt} {σ : Sg} (hK : CK t D Z σ) (hT : WN t) (h12 : nR t < 200) {m p q k : Int32} : Ev false 29 [.inr (.inr (1, false, 0)), .inl m, .inl p, .inl q, .inl k] σ (some (.inl (nI (nR t)))) (up4 (up4 (up4 (up4 (up4 σ 6 false 0 (nR t) m) 7 false 0 (nR t) p) 8 false 0 (nR t) q) 9 false 0 (nR t) k) 1 false 0 2 (nI ((nR t) + 1))) := by
  have hC := hK.1.1
  have eR : σ 1 false 0 2 = nI (nR t) := hC.c1_2.trans hT.2.2.1
  refine Ev_wp 40 [] rfl rfl ?_
  refine ⟨nR t, eR, (by show _ < 200; omega), _, rfl, nR t, eR, (by show _ < 200; omega), _, rfl, nR t, eR, (by show _ < 200; omega), _, rfl, nR t, eR, (by show _ < 200; omega), _, rfl, nI ((nR t) + 1), (add_n eR rfl), ?_⟩
  exact ⟨congrArg (fun z => some (Sum.inl z)) ((sub_n (up4_s _ _ _ _ _ _) rfl (by omega)).trans (by rw [Nat.add_sub_cancel])), rfl⟩
theorem cv_rider {t : Sg} {D : Dy} {Z : Zt} {σ : Sg} (hK : CK t D Z σ) (hT : WN t) {m p q k : Int32} : ∃ σ', Ev false 93 [.inr (.inr (0, false, 0)), .inl m, .inl p, .inl q, .inl k] σ (some (.inl (ridR t D m p q k))) σ' ∧ CK (ridT t D m p q k) (ridD t D m p q k) Z σ' := by
  have hC := hK.1.1
  have hP := hT.P
  have hR := hT.R
  have eR : σ 1 false 0 2 = nI (nR t) := hC.c1_2.trans hT.2.2.1
  refine EvQ_wp 80 [] rfl rfl ?_
  refine ⟨_, _, cv_in, ?_⟩
  refine brd_eq (fun h4 => ?_) (fun h4 => ?_)
  · have eR2 : ridR t D m p q k = (-2) := by simp only [ridR, h4, eq_self, ifC_T, ifC_F, and_true, true_and, and_false, false_and, or_true, true_or, or_false, false_or, not_true_eq_false, not_false_eq_true, and_self, or_self, if_true, if_false, reduceIte, reduceCtorEq]
    have eT : ridT t D m p q k = t := by simp only [ridT, h4, eq_self, ifC_T, ifC_F, and_true, true_and, and_false, false_and, or_true, true_or, or_false, false_or, not_true_eq_false, not_false_eq_true, and_self, or_self, if_true, if_false, reduceIte, reduceCtorEq]
    have eD : ridD t D m p q k = D := by simp only [ridD, h4, eq_self, ifC_T, ifC_F, and_true, true_and, and_false, false_and, or_true, true_or, or_false, false_or, not_true_eq_false, not_false_eq_true, and_self, or_self, if_true, if_false, reduceIte, reduceCtorEq]
    exact ⟨congrArg (fun z => some (Sum.inl z)) eR2.symm, by rw [eT, eD]; exact hK⟩
  · refine ⟨_, _, cv_in, ?_⟩
    refine brd_ne (fun h9 => ?_) (fun h9 => ?_)
    · refine ⟨_, _, cv_isPost (hC.c1_0.trans hT.1.1) (by omega), ?_⟩
      refine brd_eq (fun h16 => ?_) (fun h16 => ?_)
      · have eR2 : ridR t D m p q k = (-2) := by simp only [ridR, h4, h9, h16, eq_self, ifC_T, ifC_F, and_true, true_and, and_false, false_and, or_true, true_or, or_false, false_or, not_true_eq_false, not_false_eq_true, and_self, or_self, if_true, if_false, reduceIte, reduceCtorEq]
        have eT : ridT t D m p q k = t := by simp only [ridT, h4, h9, h16, eq_self, ifC_T, ifC_F, and_true, true_and, and_false, false_and, or_true, true_or, or_false, false_or, not_true_eq_false, not_false_eq_true, and_self, or_self, if_true, if_false, reduceIte, reduceCtorEq]
        have eD : ridD t D m p q k = D := by simp only [ridD, h4, h9, h16, eq_self, ifC_T, ifC_F, and_true, true_and, and_false, false_and, or_true, true_or, or_false, false_or, not_true_eq_false, not_false_eq_true, and_self, or_self, if_true, if_false, reduceIte, reduceCtorEq]
        exact ⟨congrArg (fun z => some (Sum.inl z)) eR2.symm, by rw [eT, eD]; exact hK⟩
      · refine ⟨_, _, cv_isPost (hC.c1_0.trans hT.1.1) (by omega), ?_⟩
        refine brd_eq (fun h21 => ?_) (fun h21 => ?_)
        · have eR2 : ridR t D m p q k = (-2) := by simp only [ridR, h4, h9, h16, h21, eq_self, ifC_T, ifC_F, and_true, true_and, and_false, false_and, or_true, true_or, or_false, false_or, not_true_eq_false, not_false_eq_true, and_self, or_self, if_true, if_false, reduceIte, reduceCtorEq]
          have eT : ridT t D m p q k = t := by simp only [ridT, h4, h9, h16, h21, eq_self, ifC_T, ifC_F, and_true, true_and, and_false, false_and, or_true, true_or, or_false, false_or, not_true_eq_false, not_false_eq_true, and_self, or_self, if_true, if_false, reduceIte, reduceCtorEq]
          have eD : ridD t D m p q k = D := by simp only [ridD, h4, h9, h16, h21, eq_self, ifC_T, ifC_F, and_true, true_and, and_false, false_and, or_true, true_or, or_false, false_or, not_true_eq_false, not_false_eq_true, and_self, or_self, if_true, if_false, reduceIte, reduceCtorEq]
          exact ⟨congrArg (fun z => some (Sum.inl z)) eR2.symm, by rw [eT, eD]; exact hK⟩
        · refine ⟨fun h24 => ?_, fun h24 => ?_⟩
          · refine ⟨fun h31 => ?_, fun h31 => ?_⟩
            · rw [hC.m.1] at h31
              refine br_lt eR rfl (by omega) (by omega) (fun h38 => ?_) (fun h38 => ?_)
              · refine ⟨_, _, cv_addRider hK hT (by omega), _, rfl, ?_⟩
                have hK := CK_nr (m := m) (p := p) (q := q) (k := k) hK (by omega)
                refine ⟨_, _, cv_sRid (d := false) (by omega), ?_⟩
                have hz : ¬ nR t = 200 := by omega
                have eR2 : ridR t D m p q k = (nI (nR t)) := by simp only [ridR, h4, h9, h16, h21, h24, h31, hz, eq_self, ifC_T, ifC_F, and_true, true_and, and_false, false_and, or_true, true_or, or_false, false_or, not_true_eq_false, not_false_eq_true, and_self, or_self, if_true, if_false, reduceIte, reduceCtorEq]
                have eT : ridT t D m p q k = (up4 (up4 (up4 (up4 (up4 t 76 false 0 (nR t) m) 77 false 0 (nR t) p) 78 false 0 (nR t) q) 79 false 0 (nR t) k) 69 false 0 9 (nI (nR t + 1))) := by simp only [ridT, h4, h9, h16, h21, h24, h31, hz, eq_self, ifC_T, ifC_F, and_true, true_and, and_false, false_and, or_true, true_or, or_false, false_or, not_true_eq_false, not_false_eq_true, and_self, or_self, if_true, if_false, reduceIte, reduceCtorEq]
                have eD : ridD t D m p q k = (tls D (nR t)) := by simp only [ridD, h4, h9, h16, h21, h24, h31, hz, eq_self, ifC_T, ifC_F, and_true, true_and, and_false, false_and, or_true, true_or, or_false, false_or, not_true_eq_false, not_false_eq_true, and_self, or_self, if_true, if_false, reduceIte, reduceCtorEq]
                exact ⟨congrArg (fun z => some (Sum.inl z)) eR2.symm, by rw [eT, eD]; exact hK⟩
              · have hz : nR t = 200 := by omega
                have eR2 : ridR t D m p q k = (-4) := by simp only [ridR, h4, h9, h16, h21, h24, h31, hz, eq_self, ifC_T, ifC_F, and_true, true_and, and_false, false_and, or_true, true_or, or_false, false_or, not_true_eq_false, not_false_eq_true, and_self, or_self, if_true, if_false, reduceIte, reduceCtorEq]
                have eT : ridT t D m p q k = t := by simp only [ridT, h4, h9, h16, h21, h24, h31, hz, eq_self, ifC_T, ifC_F, and_true, true_and, and_false, false_and, or_true, true_or, or_false, false_or, not_true_eq_false, not_false_eq_true, and_self, or_self, if_true, if_false, reduceIte, reduceCtorEq]
                have eD : ridD t D m p q k = D := by simp only [ridD, h4, h9, h16, h21, h24, h31, hz, eq_self, ifC_T, ifC_F, and_true, true_and, and_false, false_and, or_true, true_or, or_false, false_or, not_true_eq_false, not_false_eq_true, and_self, or_self, if_true, if_false, reduceIte, reduceCtorEq]
                exact ⟨congrArg (fun z => some (Sum.inl z)) eR2.symm, by rw [eT, eD]; exact hK⟩
            · rw [hC.m.1] at h31
              have eR2 : ridR t D m p q k = (-3) := by simp only [ridR, h4, h9, h16, h21, h24, h31, eq_self, ifC_T, ifC_F, and_true, true_and, and_false, false_and, or_true, true_or, or_false, false_or, not_true_eq_false, not_false_eq_true, and_self, or_self, if_true, if_false, reduceIte, reduceCtorEq]
              have eT : ridT t D m p q k = t := by simp only [ridT, h4, h9, h16, h21, h24, h31, eq_self, ifC_T, ifC_F, and_true, true_and, and_false, false_and, or_true, true_or, or_false, false_or, not_true_eq_false, not_false_eq_true, and_self, or_self, if_true, if_false, reduceIte, reduceCtorEq]
              have eD : ridD t D m p q k = D := by simp only [ridD, h4, h9, h16, h21, h24, h31, eq_self, ifC_T, ifC_F, and_true, true_and, and_false, false_and, or_true, true_or, or_false, false_or, not_true_eq_false, not_false_eq_true, and_self, or_self, if_true, if_false, reduceIte, reduceCtorEq]
              exact ⟨congrArg (fun z => some (Sum.inl z)) eR2.symm, by rw [eT, eD]; exact hK⟩
          · have eR2 : ridR t D m p q k = (-2) := by simp only [ridR, h4, h9, h16, h21, h24, eq_self, ifC_T, ifC_F, and_true, true_and, and_false, false_and, or_true, true_or, or_false, false_or, not_true_eq_false, not_false_eq_true, and_self, or_self, if_true, if_false, reduceIte, reduceCtorEq]
            have eT : ridT t D m p q k = t := by simp only [ridT, h4, h9, h16, h21, h24, eq_self, ifC_T, ifC_F, and_true, true_and, and_false, false_and, or_true, true_or, or_false, false_or, not_true_eq_false, not_false_eq_true, and_self, or_self, if_true, if_false, reduceIte, reduceCtorEq]
            have eD : ridD t D m p q k = D := by simp only [ridD, h4, h9, h16, h21, h24, eq_self, ifC_T, ifC_F, and_true, true_and, and_false, false_and, or_true, true_or, or_false, false_or, not_true_eq_false, not_false_eq_true, and_self, or_self, if_true, if_false, reduceIte, reduceCtorEq]
            exact ⟨congrArg (fun z => some (Sum.inl z)) eR2.symm, by rw [eT, eD]; exact hK⟩
    · have eR2 : ridR t D m p q k = (-2) := by simp only [ridR, h4, h9, eq_self, ifC_T, ifC_F, and_true, true_and, and_false, false_and, or_true, true_or, or_false, false_or, not_true_eq_false, not_false_eq_true, and_self, or_self, if_true, if_false, reduceIte, reduceCtorEq]
      have eT : ridT t D m p q k = t := by simp only [ridT, h4, h9, eq_self, ifC_T, ifC_F, and_true, true_and, and_false, false_and, or_true, true_or, or_false, false_or, not_true_eq_false, not_false_eq_true, and_self, or_self, if_true, if_false, reduceIte, reduceCtorEq]
      have eD : ridD t D m p q k = D := by simp only [ridD, h4, h9, eq_self, ifC_T, ifC_F, and_true, true_and, and_false, false_and, or_true, true_or, or_false, false_or, not_true_eq_false, not_false_eq_true, and_self, or_self, if_true, if_false, reduceIte, reduceCtorEq]
      exact ⟨congrArg (fun z => some (Sum.inl z)) eR2.symm, by rw [eT, eD]; exact hK⟩
