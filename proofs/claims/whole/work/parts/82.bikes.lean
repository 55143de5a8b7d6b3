/-! More bikes and riders. -/
theorem RD_b {d : Bool} {t t' : Sg} {D D' : Dy} {Z : Zt} {σ σ' : Sg} (h : RD d t D 60 200 Z σ) (hP : nP t' = nP t) (hR : nR t' = nR t) (h77 : ∀ r, t' 77 false 0 r = t 77 false 0 r) (hD : ∀ g i, ¬ (11 ≤ g ∧ g ≤ 14) → D' g i = D g i) (hw : ∀ k r i, 26 ≤ k → k ≤ 47 → ¬ (29 ≤ k ∧ k ≤ 30) → ¬ k = 32 → σ' k d r i = σ k d r i) (hc : Rc d t' D' σ') (hb : Rb d t' D' 60 σ') : RD d t' D' 60 200 Z σ' := by
  have e26 : σ' 26 d = σ 26 d := by
    funext r i
    exact hw 26 r i (by omega) (by omega) (by omega) (by omega)
  have e27 : σ' 27 d = σ 27 d := by
    funext r i
    exact hw 27 r i (by omega) (by omega) (by omega) (by omega)
  have e28 : σ' 28 d = σ 28 d := by
    funext r i
    exact hw 28 r i (by omega) (by omega) (by omega) (by omega)
  have e31 : σ' 31 d = σ 31 d := by
    funext r i
    exact hw 31 r i (by omega) (by omega) (by omega) (by omega)
  have e33 : σ' 33 d = σ 33 d := by
    funext r i
    exact hw 33 r i (by omega) (by omega) (by omega) (by omega)
  have e34 : σ' 34 d = σ 34 d := by
    funext r i
    exact hw 34 r i (by omega) (by omega) (by omega) (by omega)
  have e35 : σ' 35 d = σ 35 d := by
    funext r i
    exact hw 35 r i (by omega) (by omega) (by omega) (by omega)
  have e36 : σ' 36 d = σ 36 d := by
    funext r i
    exact hw 36 r i (by omega) (by omega) (by omega) (by omega)
  have e37 : σ' 37 d = σ 37 d := by
    funext r i
    exact hw 37 r i (by omega) (by omega) (by omega) (by omega)
  have e38 : σ' 38 d = σ 38 d := by
    funext r i
    exact hw 38 r i (by omega) (by omega) (by omega) (by omega)
  have e39 : σ' 39 d = σ 39 d := by
    funext r i
    exact hw 39 r i (by omega) (by omega) (by omega) (by omega)
  have e40 : σ' 40 d = σ 40 d := by
    funext r i
    exact hw 40 r i (by omega) (by omega) (by omega) (by omega)
  have e41 : σ' 41 d = σ 41 d := by
    funext r i
    exact hw 41 r i (by omega) (by omega) (by omega) (by omega)
  have e42 : σ' 42 d = σ 42 d := by
    funext r i
    exact hw 42 r i (by omega) (by omega) (by omega) (by omega)
  have e43 : σ' 43 d = σ 43 d := by
    funext r i
    exact hw 43 r i (by omega) (by omega) (by omega) (by omega)
  have e44 : σ' 44 d = σ 44 d := by
    funext r i
    exact hw 44 r i (by omega) (by omega) (by omega) (by omega)
  have e45 : σ' 45 d = σ 45 d := by
    funext r i
    exact hw 45 r i (by omega) (by omega) (by omega) (by omega)
  have e46 : σ' 46 d = σ 46 d := by
    funext r i
    exact hw 46 r i (by omega) (by omega) (by omega) (by omega)
  have e47 : σ' 47 d = σ 47 d := by
    funext r i
    exact hw 47 r i (by omega) (by omega) (by omega) (by omega)
  have d0 : D' 0 = D 0 := funext fun i => hD 0 i (by omega)
  have d7 : ∀ g, ¬ (11 ≤ g ∧ g ≤ 14) → D' g = D g := fun g hg => funext fun i => hD g i hg
  have w1 : ∀ p, wtx t' D' 200 p = wtx t D 200 p := fun p => by
    unfold wtx
    rw [hR]
    exact ct_cong (fun r _ => by rw [h77, d7 16 (by omega)])
  refine ⟨?_, ?_, hc, ?_, hb, ?_, ?_, ?_, ?_, ?_⟩
  · simp only [Rm, d0, e26, e37]
    exact h.1
  · simp only [Rp, hP, d7 1 (by omega), d7 2 (by omega), e27, e28]
    exact h.2.1
  · simp only [Rw, hP, w1, e31]
    exact h.2.2.2.1
  · intro r hr
    have q := h.2.2.2.2.2.1 r (by omega)
    refine ⟨fun w hw => ?_, fun q1 q2 => ?_⟩
    · rw [e34, d7 (16 + w) (by omega)]
      exact q.1 w hw
    · rw [d7 16 (by omega)] at q2
      rw [e35, d7 22 (by omega)]
      exact q.2 q1 q2
  · simp only [Rg, d7 7 (by omega), d7 8 (by omega), d7 9 (by omega), e39, e40, e41]
    exact h.2.2.2.2.2.2.1
  · simp only [Rz, e42, e43]
    exact h.2.2.2.2.2.2.2.1
  · simp only [Rl, d0, d7 27 (by omega), e38]
    exact h.2.2.2.2.2.2.2.2.1
  · simp only [Rv, d0, d7 24 (by omega), d7 25 (by omega), d7 26 (by omega), e44, e45, e46, e47]
    exact h.2.2.2.2.2.2.2.2.2
theorem nbD_o {t : Sg} {D : Dy} {p g i : Nat} (h : ¬ (11 ≤ g ∧ g ≤ 14)) : (up2 (up2 (up2 (up2 D 11 (nB t) (nI 0)) 12 (nB t) (nI p)) 13 (nB t) (nI 0)) 14 (nB t) (nI 0)) g i = D g i := by rw [up2_n (by omega), up2_n (by omega), up2_n (by omega), up2_n (by omega)]
theorem nbD_b {t : Sg} {D : Dy} {p g b : Nat} (h : ¬ b = nB t) : (up2 (up2 (up2 (up2 D 11 (nB t) (nI 0)) 12 (nB t) (nI p)) 13 (nB t) (nI 0)) 14 (nB t) (nI 0)) g b = D g b := by rw [up2_n (by omega), up2_n (by omega), up2_n (by omega), up2_n (by omega)]
theorem nbD_v {t : Sg} {D : Dy} {p : Nat} : (up2 (up2 (up2 (up2 D 11 (nB t) (nI 0)) 12 (nB t) (nI p)) 13 (nB t) (nI 0)) 14 (nB t) (nI 0)) 11 (nB t) = nI 0 ∧ (up2 (up2 (up2 (up2 D 11 (nB t) (nI 0)) 12 (nB t) (nI p)) 13 (nB t) (nI 0)) 14 (nB t) (nI 0)) 12 (nB t) = nI p ∧ (up2 (up2 (up2 (up2 D 11 (nB t) (nI 0)) 12 (nB t) (nI p)) 13 (nB t) (nI 0)) 14 (nB t) (nI 0)) 13 (nB t) = nI 0 ∧ (up2 (up2 (up2 (up2 D 11 (nB t) (nI 0)) 12 (nB t) (nI p)) 13 (nB t) (nI 0)) 14 (nB t) (nI 0)) 14 (nB t) = nI 0 := ⟨by rw [up2_n (by omega), up2_n (by omega), up2_n (by omega), up2_s], by rw [up2_n (by omega), up2_n (by omega), up2_s], by rw [up2_n (by omega), up2_s], up2_s _ _ _ _⟩
theorem nb_MI {t t' : Sg} {D : Dy} {p : Nat} (h : MI t D) (hP : nP t' = nP t) (hB : nB t' = nB t + 1) (hR : nR t' = nR t) (hp : p < nP t) : MI t' (up2 (up2 (up2 (up2 D 11 (nB t) (nI 0)) 12 (nB t) (nI p)) 13 (nB t) (nI 0)) 14 (nB t) (nI 0)) := by
  obtain ⟨⟨⟨v1, v2, v3, v4, v5, v6⟩, j1, j2, j3, j4⟩, c, m⟩ := h
  have d7 : ∀ g, ¬ (11 ≤ g ∧ g ≤ 14) → (up2 (up2 (up2 (up2 D 11 (nB t) (nI 0)) 12 (nB t) (nI p)) 13 (nB t) (nI 0)) 14 (nB t) (nI 0)) g = D g := fun g hg => funext fun i => nbD_o hg
  have d0 := d7 0 (by omega)
  obtain ⟨n1, n2, n3, n4⟩ := @nbD_v t D p
  refine ⟨⟨⟨?_, ?_, ?_, fun i hi => ?_, fun i hi => ?_, ?_⟩, fun b hb => ?_, fun r hr => ?_, fun r s hr hs => ?_, fun i hi => ?_⟩, ?_, ?_⟩
  · rw [d0]; exact v1
  · rw [d0]; exact v2
  · rw [d0]; exact v3
  · rw [d0] at hi
    rw [hP, d7 25 (by omega), d7 26 (by omega)]; exact v4 i hi
  · rw [d0] at hi
    obtain ⟨b, h1, h2⟩ := v5 i hi
    exact ⟨b, by omega, by rw [d7 24 (by omega)]; exact h2⟩
  · rw [hP, d0]; exact v6
  · by_cases e : b = nB t
    · subst e
      rw [n1, n2]
      exact ⟨⟨rfl, by decide⟩, p, by omega, rfl⟩
    · rw [nbD_b e, nbD_b e, hP]
      exact j1 b (by omega)
  · obtain ⟨h1, h2⟩ := j2 r (by omega)
    rw [d7 16 (by omega)]
    refine ⟨h1, fun q => ?_⟩
    obtain ⟨b, p2, q1, q2, q3, q4, q5, q6⟩ := h2 q
    exact ⟨b, p2, by omega, by omega, by rw [d7 17 (by omega)]; exact q3, by rw [nbD_b (by omega)]; exact q4, by rw [d7 23 (by omega)]; exact q5, by rw [nbD_b (by omega)]; exact q6⟩
  · rw [d7 16 (by omega), d7 17 (by omega)]
    exact j3 r s (by omega) (by omega)
  · rw [d0] at hi ⊢
    obtain ⟨b, q1, q2, q3, q4⟩ := j4 i hi
    exact ⟨b, by omega, by rw [d7 24 (by omega)]; exact q2, by rw [nbD_b (by omega)]; exact q3, by rw [d7 24 (by omega)]; exact q4⟩
  · unfold CI at c ⊢
    rw [d0]; exact c
  · rw [d0]; exact m
theorem CK_nb {t : Sg} {D : Dy} {Z : Zt} {σ : Sg} {p : Nat} (h : CK t D Z σ) (hT : WN t) (hp : p < nP t) (h60 : nB t < 60) : CK (up4 t 69 false 0 7 (nI (nB t + 1))) (up2 (up2 (up2 (up2 D 11 (nB t) (nI 0)) 12 (nB t) (nI p)) 13 (nB t) (nI 0)) 14 (nB t) (nI 0)) Z (up4 (up4 (up4 (up4 (up4 (up4 (up4 σ 1 false 0 1 (nI (nB t + 1))) 32 false ((2) + 1) (nB t) (nI (0))) 32 false ((3) + 1) (nB t) (nI (0))) 32 false ((0) + 1) (nB t) (nI (0))) 32 false ((1) + 1) (nB t) (nI (p))) 29 false 0 p (((up4 (up4 (up4 (up4 (up4 σ 1 false 0 1 (nI (nB t + 1))) 32 false ((2) + 1) (nB t) (nI (0))) 32 false ((3) + 1) (nB t) (nI (0))) 32 false ((0) + 1) (nB t) (nI (0))) 32 false ((1) + 1) (nB t) (nI (p))) 29 false 0 p) + (nI (1)))) 30 false 0 p (((up4 (up4 (up4 (up4 (up4 (up4 σ 1 false 0 1 (nI (nB t + 1))) 32 false ((2) + 1) (nB t) (nI (0))) 32 false ((3) + 1) (nB t) (nI (0))) 32 false ((0) + 1) (nB t) (nI (0))) 32 false ((1) + 1) (nB t) (nI (p))) 29 false 0 p (((up4 (up4 (up4 (up4 (up4 σ 1 false 0 1 (nI (nB t + 1))) 32 false ((2) + 1) (nB t) (nI (0))) 32 false ((3) + 1) (nB t) (nI (0))) 32 false ((0) + 1) (nB t) (nI (0))) 32 false ((1) + 1) (nB t) (nI (p))) 29 false 0 p) + (nI (1)))) 30 false 0 p) + (nI (1)))) := by
  obtain ⟨⟨⟨hTR, _, hD⟩, hM, hO, hOF, hZ, hN⟩, hH, hz⟩ := h
  have hPP := hT.P
  have eB : nB (up4 t 69 false 0 7 (nI (nB t + 1))) = nB t + 1 := by
    show nN (up4 t 69 false 0 7 (nI (nB t + 1)) 69 false 0 7) = _
    rw [up4_s, nN_nI (by omega)]
  have eP : nP (up4 t 69 false 0 7 (nI (nB t + 1))) = nP t := congrArg nN (u4n (by omega))
  have eR : nR (up4 t 69 false 0 7 (nI (nB t + 1))) = nR t := congrArg nN (u4n (by omega))
  obtain ⟨n1, n2, n3, n4⟩ := @nbD_v t D p
  have c0 : ∀ q, q < nP t → thr (up4 t 69 false 0 7 (nI (nB t + 1))) (up2 (up2 (up2 (up2 D 11 (nB t) (nI 0)) 12 (nB t) (nI p)) 13 (nB t) (nI 0)) 14 (nB t) (nI 0)) q = thr t D q + (if q = p then 1 else 0) := fun q hq => by
    unfold thr
    rw [eB, ct_S]
    congr 1
    · exact ct_cong (fun b hb => by unfold isA; rw [nbD_b (by omega), nbD_b (by omega)])
    · unfold isA
      rw [n1, n2, decide_eq_true (show nI 0 = nI 0 from rfl), Bool.true_and]
      by_cases e : q = p
      · subst e; rw [if_pos rfl, if_pos (decide_eq_true rfl)]
      · rw [if_neg e, if_neg (fun c => e (nI_inj (of_decide_eq_true c) (by omega) (by omega)).symm)]
  have c1 : ∀ q, q < nP t → gdn (up4 t 69 false 0 7 (nI (nB t + 1))) (up2 (up2 (up2 (up2 D 11 (nB t) (nI 0)) 12 (nB t) (nI p)) 13 (nB t) (nI 0)) 14 (nB t) (nI 0)) q = gdn t D q + (if q = p then 1 else 0) := fun q hq => by
    unfold gdn
    rw [eB, ct_S]
    congr 1
    · exact ct_cong (fun b hb => by unfold isG isA; rw [nbD_b (by omega), nbD_b (by omega), nbD_b (by omega)])
    · unfold isG isA
      rw [n1, n2, n4, decide_eq_true (show nI 0 = nI 0 from rfl), Bool.true_and, Bool.and_true]
      by_cases e : q = p
      · subst e; rw [if_pos rfl, if_pos (decide_eq_true rfl)]
      · rw [if_neg e, if_neg (fun c => e (nI_inj (of_decide_eq_true c) (by omega) (by omega)).symm)]
  have a29 : (((up4 (up4 (up4 (up4 (up4 σ 1 false 0 1 (nI (nB t + 1))) 32 false ((2) + 1) (nB t) (nI (0))) 32 false ((3) + 1) (nB t) (nI (0))) 32 false ((0) + 1) (nB t) (nI (0))) 32 false ((1) + 1) (nB t) (nI (p))) 29 false 0 p) + (nI (1))) = nI (thr t D p + 1) := by rw [u4n (by omega), u4n (by omega), u4n (by omega), u4n (by omega), u4n (by omega), (hD.2.2.1 p hp).1, nI_add]
  rw [a29]
  have a30 : (((up4 (up4 (up4 (up4 (up4 (up4 σ 1 false 0 1 (nI (nB t + 1))) 32 false ((2) + 1) (nB t) (nI (0))) 32 false ((3) + 1) (nB t) (nI (0))) 32 false ((0) + 1) (nB t) (nI (0))) 32 false ((1) + 1) (nB t) (nI (p))) 29 false 0 p (nI (thr t D p + 1))) 30 false 0 p) + (nI (1))) = nI (gdn t D p + 1) := by rw [u4n (by omega), u4n (by omega), u4n (by omega), u4n (by omega), u4n (by omega), u4n (by omega), (hD.2.2.1 p hp).2, nI_add]
  rw [a30]
  refine ⟨⟨⟨TR_s (TR_s (TR_s (TR_s (TR_s (TR_s (TR_w hTR rfl _) (Or.inl rfl)) (Or.inl rfl)) (Or.inl rfl)) (Or.inl rfl)) (Or.inl rfl)) (Or.inl rfl), Fr_rf _ _, RD_b hD eP eR (fun r => u4n (by omega)) (fun g i q => nbD_o q) (fun k r i q1 q2 q3 q4 => ?_) (fun q hq => ?_) (fun b hb => ?_)⟩, nb_MI hM eP eB eR hp, fun q hq => by rw [nbD_o (by omega)]; exact hO q (by omega), OF_w hOF (fun k => ?_) (fun k => u4n (by omega)) (congrArg nN (u4n (by omega))), fun q y hq hy => by rw [nbD_o (by omega)]; exact hZ q y hq hy, fun q y hq hy => by rw [nbD_o (by omega)]; exact hN q y hq hy⟩, TH_w hH (fun k => ?_) (fun k => u4n (by omega)) (fun k => u4n (by omega)) (congrArg nN (u4n (by omega))), hz.1, by rw [u4n (by omega), u4n (by omega), u4n (by omega), u4n (by omega), u4n (by omega), u4n (by omega), u4n (by omega)]; exact hz.2⟩
  · rw [u4n (by omega), u4n (by omega), u4n (by omega), u4n (by omega), u4n (by omega), u4n (by omega), u4n (by omega)]
  · rw [eP] at hq
    rw [c0 q hq, c1 q hq]
    by_cases e : q = p
    · subst e
      rw [if_pos rfl]
      exact ⟨by rw [u4n (by omega), up4_s], by rw [up4_s]⟩
    · rw [if_neg e, Nat.add_zero, Nat.add_zero, u4n (by omega), u4n (by omega), u4n (by omega), u4n (by omega), u4n (by omega), u4n (by omega), u4n (by omega), u4n (by omega), u4n (by omega), u4n (by omega), u4n (by omega), u4n (by omega), u4n (by omega), u4n (by omega)]
      exact hD.2.2.1 q hq
  · by_cases e : b = nB t
    · subst e
      rw [n1, n2, n3, n4]
      exact ⟨⟨by rw [u4n (by omega), u4n (by omega), u4n (by omega), up4_s], by rw [u4n (by omega), u4n (by omega), u4n (by omega), u4n (by omega), u4n (by omega), up4_s], by rw [u4n (by omega), u4n (by omega), u4n (by omega), u4n (by omega), up4_s]⟩, fun _ => ⟨by rw [u4n (by omega), u4n (by omega), up4_s, if_neg (by decide)], fun q => absurd q (by decide)⟩⟩
    · rw [nbD_b e, nbD_b e, nbD_b e, nbD_b e, u4n (by omega), u4n (by omega), u4n (by omega), u4n (by omega), u4n (by omega), u4n (by omega), u4n (by omega), u4n (by omega), u4n (by omega), u4n (by omega), u4n (by omega), u4n (by omega), u4n (by omega), u4n (by omega), u4n (by omega), u4n (by omega), u4n (by omega), u4n (by omega), u4n (by omega), u4n (by omega), u4n (by omega), u4n (by omega), u4n (by omega), u4n (by omega), u4n (by omega), u4n (by omega), u4n (by omega), u4n (by omega), u4n (by omega), u4n (by omega), u4n (by omega), u4n (by omega), u4n (by omega), u4n (by omega), u4n (by omega), show (up2 (up2 (up2 (up2 D 11 (nB t) (nI 0)) 12 (nB t) (nI p)) 13 (nB t) (nI 0)) 14 (nB t) (nI 0)) 15 b = D 15 b from nbD_o (by omega)]
      exact hD.2.2.2.2.1 b (by omega)
  · rw [u4n (by omega), u4n (by omega), u4n (by omega), u4n (by omega), u4n (by omega), u4n (by omega), u4n (by omega)]
  · rw [u4n (by omega), u4n (by omega), u4n (by omega), u4n (by omega), u4n (by omega), u4n (by omega), u4n (by omega)]
theorem cv_addBike {t : Sg} {D : Dy} {Z : Zt} {σ : Sg} (hK : CK t D Z σ) (hT : WN t) (h12 : nB t < 60) {x : Int32} : ∃ σ', Ev false 28 [.inr (.inr (1, false, 0)), .inl x] σ (some (.inl (nI (nB t)))) σ' ∧ ∃ σ1, CK (up4 t 75 false 0 (nB t) x) D Z σ1 ∧ σ' = up4 σ1 1 false 0 1 (nI (nB t + 1)) := by
  have hC := hK.1.1
  have eB : σ 1 false 0 1 = nI (nB t) := hC.c1_1.trans hT.2.1.1
  refine EvQ_wp 40 [] rfl rfl ?_
  refine ⟨nB t, eB, (by show _ < 60; omega), _, rfl, ?_⟩
  replace hK := CK_w hK (k := 5) (r := 0) (i := nB t) (k' := 75) (j := nB t) x (if_pos ⟨rfl, by omega⟩) (by omega)
  refine ⟨nI ((nB t) + 1), (add_n eB rfl), ?_⟩
  exact ⟨congrArg (fun z => some (Sum.inl z)) ((sub_n (up4_s _ _ _ _ _ _) rfl (by omega)).trans (by rw [Nat.add_sub_cancel])), _, hK, rfl⟩
/-- no post has more bikes of its own than racks -/
def HR (t : Sg) : Prop := ∀ p, p < nP t → Is (t 74 false 0 p) 20 ∧ hmC t (nB t) p ≤ nN (t 74 false 0 p)
theorem fre_0 {t : Sg} {D : Dy} {p : Nat} (hR : HR t) (hp : p < nP t) (hb : ∀ b, b < nB t → D 11 b = nI 0 ∧ D 12 b = t 75 false 0 b) : fre t D p = nI (nN (t 74 false 0 p) - hmC t (nB t) p) ∧ nN (t 74 false 0 p) - hmC t (nB t) p ≤ 20 := by
  obtain ⟨h1, h2⟩ := hR p hp
  have h3 := h1.2
  have e : thr t D p = hmC t (nB t) p := ct_cong (fun b hb2 => by
    unfold isA
    rw [(hb b hb2).1, (hb b hb2).2, decide_eq_true (show nI 0 = nI 0 from rfl), Bool.true_and])
  refine ⟨?_, by omega⟩
  unfold fre
  rw [e]
  exact sub_n h1.1 rfl h2
theorem cv_bike {t : Sg} {D : Dy} {Z : Zt} {σ : Sg} (hK : CK t D Z σ) (hT : WN t) (hH : Is (t 69 false 0 18) 200) (hRk : HR t) (hb0 : B0 t D) {x : Int32} : ∃ σ', Ev false 142 [.inr (.inr (0, false, 0)), .inl x] σ (some (.inl (bikeR t D x))) σ' ∧ CK (bikeT t D x) (bikeD t D x) Z σ' := by
  have hC := hK.1.1
  have hP := hT.P
  have hB := hT.B
  have hm0 : Is (D 0 0) 1440 := hK.1.2.1.2.2
  have eB : σ 1 false 0 1 = nI (nB t) := hC.c1_1.trans hT.2.1.1
  refine EvQ_wp 80 [] rfl rfl ?_
  refine ⟨_, _, cv_isPost (hC.c1_0.trans hT.1.1) (by omega), ?_⟩
  refine brd_ne (fun h4 => ?_) (fun h4 => ?_)
  · refine ⟨_, _, cv_begun hK hH, ?_⟩
    refine brd_ne (fun h9 => ?_) (fun h9 => ?_)
    · exact ⟨by unfold bikeR; rw [ifC_t h4, ifC_t h9], by unfold bikeT bikeD; rw [ifC_t h4, ifC_t h9, ifC_t h4, ifC_t h9]; exact hK⟩
    · have hx := isPo_n hT h4
      obtain ⟨f1, f2⟩ := fre_0 hRk hx.2 (hb0 (bg_no h9 hm0 hH)).2
      refine ⟨_, _, cv_free hC hT hx.1 hx.2, ?_⟩
      refine br_gt f1 rfl (by omega) (by omega) (fun h14 => ?_) (fun h14 => ?_)
      · refine br_lt eB rfl (by omega) (by omega) (fun h21 => ?_) (fun h21 => ?_)
        · obtain ⟨σ1, ev1, σ0, hK0, e1⟩ := cv_addBike hK hT (by omega) (x := x)
          refine ⟨_, _, ev1, _, rfl, ?_⟩
          have hT0 : WN (up4 t 75 false 0 (nB t) x) := WN_o hT (fun j => by rw [u4n (by omega)])
          have ePq : nP (up4 t 75 false 0 (nB t) x) = nP t := congrArg nN (by rw [u4n (by omega)])
          have eBq : nB (up4 t 75 false 0 (nB t) x) = nB t := congrArg nN (by rw [u4n (by omega)])
          have hK := CK_nb (p := nN x) hK0 hT0 (by rw [ePq]; exact hx.2) (by rw [eBq]; omega)
          rw [eBq, ← e1] at hK
          have h5 : σ1 5 false 0 (nB t) = nI (nN x) := by rw [e1, u4n (by omega)]; exact (hK0.1.1.c5 (nB t) (by omega)).trans ((up4_s _ _ _ _ _ _).trans hx.1)
          refine ⟨_, _, cv_sBike (p := nN x) (by omega) (by omega) h5, ?_⟩
          have eX : (up2 (up2 (up2 (up2 D 11 (nB t) (nI 0)) 12 (nB t) x) 13 (nB t) (nI 0)) 14 (nB t) (nI 0)) = (up2 (up2 (up2 (up2 D 11 (nB t) (nI 0)) 12 (nB t) (nI (nN x))) 13 (nB t) (nI 0)) 14 (nB t) (nI 0)) := congrArg (fun z => up2 (up2 (up2 (up2 D 11 (nB t) (nI 0)) 12 (nB t) z) 13 (nB t) (nI 0)) 14 (nB t) (nI 0)) hx.1
          exact ⟨by unfold bikeR; rw [ifC_t h4, ifC_f h9, ifC_f (fun q => absurd (nI_inj (f1.symm.trans q) (by omega) (by omega)) (by omega)), ifC_f (show ¬ nB t = 60 by omega)], by unfold bikeT bikeD; rw [ifC_t h4, ifC_f h9, ifC_f (fun q => absurd (nI_inj (f1.symm.trans q) (by omega) (by omega)) (by omega)), ifC_f (show ¬ nB t = 60 by omega), ifC_t h4, ifC_f h9, ifC_f (fun q => absurd (nI_inj (f1.symm.trans q) (by omega) (by omega)) (by omega)), ifC_f (show ¬ nB t = 60 by omega), eX]; exact hK⟩
        · exact ⟨by unfold bikeR; rw [ifC_t h4, ifC_f h9, ifC_f (fun q => absurd (nI_inj (f1.symm.trans q) (by omega) (by omega)) (by omega)), ifC_t (show nB t = 60 by omega)], by unfold bikeT bikeD; rw [ifC_t h4, ifC_f h9, ifC_f (fun q => absurd (nI_inj (f1.symm.trans q) (by omega) (by omega)) (by omega)), ifC_t (show nB t = 60 by omega), ifC_t h4, ifC_f h9, ifC_f (fun q => absurd (nI_inj (f1.symm.trans q) (by omega) (by omega)) (by omega)), ifC_t (show nB t = 60 by omega)]; exact hK⟩
      · exact ⟨by unfold bikeR; rw [ifC_t h4, ifC_f h9, ifC_t (f1.trans (congrArg nI (by omega)))], by unfold bikeT bikeD; rw [ifC_t h4, ifC_f h9, ifC_t (f1.trans (congrArg nI (by omega))), ifC_t h4, ifC_f h9, ifC_t (f1.trans (congrArg nI (by omega)))]; exact hK⟩
  · exact ⟨by unfold bikeR; rw [ifC_f h4], by unfold bikeT bikeD; rw [ifC_f h4, ifC_f h4]; exact hK⟩
