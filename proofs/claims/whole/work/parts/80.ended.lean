/-! The class ends a day. -/
theorem mp50 {r i : Nat} (hr : r < 20) (hi : i < 288) : mp 50 (r + 1) i = some (88, 288 * r + i) := if_pos ⟨by omega, by omega, hi⟩
theorem bgn_MI {t : Sg} {D : Dy} (hT : WN t) (hM : HM t) : MI t (bgn t D) := by
  have hP := hT.P
  have hB := hT.B
  have hR := hT.R
  have b0 : ∀ i, i < 8 → ¬ i = 5 → bgn t D 0 i = nI 0 := fun i hi h5 => by rw [bgn_0 hi, if_neg h5]
  have i0 : ∀ i m, i < 8 → ¬ i = 5 → Is (bgn t D 0 i) m := fun i m hi h5 => by rw [b0 i hi h5]; exact ⟨rfl, Nat.zero_le _⟩
  have b16 : ∀ r, r < nR t → bgn t D 16 r = nI 0 := fun r hr => by rw [bgn_r (by omega) hr, if_pos (Or.inl rfl)]
  refine ⟨⟨⟨i0 3 _ (by omega) (by omega), i0 7 _ (by omega) (by omega), i0 6 _ (by omega) (by omega), fun i hi => ?_, fun i hi => ?_, ⟨0, Or.inl rfl, b0 2 (by omega) (by omega)⟩⟩, fun b hb => ?_, fun r hr => ?_, fun r q hr _ h2 => ?_, fun i hi => ?_⟩, Or.inl (by rw [bgn_0 (by omega), if_pos rfl]), i0 0 _ (by omega) (by omega)⟩
  · rw [b0 6 (by omega) (by omega)] at hi; exact absurd hi (Nat.not_lt_zero _)
  · rw [b0 3 (by omega) (by omega)] at hi; exact absurd hi (Nat.not_lt_zero _)
  · rw [show bgn t D 11 b = nI 0 from bgn_z (by omega) (by show b < 60; omega), bgn_12 hb]
    exact ⟨⟨rfl, by decide⟩, hM b hb⟩
  · rw [b16 r hr]
    exact ⟨⟨rfl, by decide⟩, fun q => absurd q (by decide)⟩
  · rw [b16 r hr] at h2
    exact absurd h2 (by decide)
  · rw [b0 3 (by omega) (by omega)] at hi; exact absurd hi (Nat.not_lt_zero _)
theorem bgn_OI {t : Sg} {D : Dy} (hT : WN t) : OI t (bgn t D) := fun p hp => Or.inr (bgn_p (by have := hT.P; omega)).2
theorem bgn_DK {d : Bool} {s t σ : Sg} {D : Dy} {z : Int32} (hT : WN t) (hM : HM t) (hO : OF s t z) (h : Cg d s t (bgn t D) 60 200 (fun _ _ => nI 0, fun _ => nI 0, z) σ) : DK d s t (bgn t D) (fun _ _ => nI 0, fun _ => nI 0, z) σ :=
  ⟨h, bgn_MI hT hM, bgn_OI hT, hO, fun p y hp hy => (bgn_z (by omega) (by show 24 * p + y < 288; omega)).symm, fun p y hp hy => by rw [show bgn t D 10 (24 * p + y) = nI 0 from bgn_z (by omega) (by show 24 * p + y < 288; omega)]; exact ⟨rfl, by decide⟩⟩
theorem cv_keep_i {t : Sg} {D : Dy} {Z : Zt} {x : Int32} {P : Option AV → Sg → Prop} (hD : t 69 false 0 26 = nI (nD t)) (h20 : nD t < 20) {p : Nat} (hp : p < 12) (hQ : ∀ σ o, CK (edC t D (p * 24 + 24)) D Z σ → G false 6 P 35 [some (.inr (.inr (48, false, 0))), some (.inl x), some (.inr (.inr (37, false, 0))), some (.inl (nI p)), o] [] σ) : ∀ (n h : Nat) (σ : Sg), h + n = 24 → CK (edC t D (p * 24 + h)) D Z σ → G false 6 P 13 [some (.inr (.inr (48, false, 0))), some (.inl x), some (.inr (.inr (37, false, 0))), some (.inl (nI p)), some (.inl (nI h))] [] σ := by
  intro n
  induction n with
  | zero =>
    intro h σ hj hK
    have eD : σ 48 false 0 0 = nI (nD t) := hK.1.1.tr.c48_0.trans ((edC_o (by decide)).trans hD)
    refine G_wp 60 [13, 35] rfl ?_
    refine br_ge rfl rfl (by omega) (by omega) (fun h15 => ?_) (fun h15 => ?_)
    · rw [show p * 24 + h = p * 24 + 24 by omega] at hK
      exact hQ _ _ hK
    · exact absurd h15 (by omega)
  | succ n ih =>
    intro h σ hj hK
    have eD : σ 48 false 0 0 = nI (nD t) := hK.1.1.tr.c48_0.trans ((edC_o (by decide)).trans hD)
    refine G_wp 60 [13, 35] rfl ?_
    refine br_ge rfl rfl (by omega) (by omega) (fun h15 => ?_) (fun h15 => ?_)
    · exact absurd h15 (by omega)
    · refine ⟨nD t, eD, (by show _ < 20; omega), p, rfl, (by show _ < 12; omega), (show p < 12 by omega), h, rfl, (by show _ < 24; omega), (show nD t < 20 by omega), (p * 24) + h, (add_n (mul_n rfl rfl) rfl), (by show _ < 288; omega), (D 7 (p * 24 + h)), ((hK.1.1.g p h (by omega) (by omega)).1.trans (by rw [Nat.mul_comm])), ?_⟩
      replace hK := CK_w hK (k := 50) (r := nD t + 1) (i := p * 24 + h) (k' := 88) (j := 288 * nD t + (p * 24 + h)) (D 7 (p * 24 + h)) (mp50 (by omega) (by omega)) (by omega)
      rw [← edC_S] at hK
      refine ⟨nI (h + 1), nI_add _ _, ?_⟩
      exact ih (h + 1) _ (by omega) hK
theorem cv_keep_o {t : Sg} {D : Dy} {Z : Zt} {x : Int32} (hD : t 69 false 0 26 = nI (nD t)) (h20 : nD t < 20) : ∀ (n p : Nat) (σ : Sg) (o : Option AV), p + n = 12 → CK (edC t D (p * 24)) D Z σ → G false 6 (fun r' s' => r' = none ∧ CK (up4 (edC t D 288) 69 false 0 26 (nI (nD t + 1))) D Z s') 8 [some (.inr (.inr (48, false, 0))), some (.inl x), some (.inr (.inr (37, false, 0))), some (.inl (nI p)), o] [] σ := by
  intro n
  induction n with
  | zero =>
    intro p σ o hj hK
    have eD : σ 48 false 0 0 = nI (nD t) := hK.1.1.tr.c48_0.trans ((edC_o (by decide)).trans hD)
    refine G_wp 60 [8, 13] rfl ?_
    refine br_ge rfl rfl (by omega) (by omega) (fun h10 => ?_) (fun h10 => ?_)
    · rw [show p * 24 = 288 by omega] at hK
      refine ⟨nI ((nD t) + 1), (add_n eD rfl), ?_⟩
      replace hK := CK_w hK (k := 48) (r := 0) (i := 0) (k' := 69) (j := 26) (nI ((nD t) + 1)) rfl (by omega)
      exact ⟨rfl, hK⟩
    · exact absurd h10 (by omega)
  | succ n ih =>
    intro p σ o hj hK
    refine G_wp 60 [8, 13] rfl ?_
    refine br_ge rfl rfl (by omega) (by omega) (fun h10 => ?_) (fun h10 => ?_)
    · exact absurd h10 (by omega)
    · refine ⟨_, rfl, ?_⟩
      refine cv_keep_i hD h20 (p := p) (by omega) (fun σ2 o2 hK2 => ?_) 24 0 σ (by omega) hK
      refine G_wp 60 [8] rfl ?_
      refine ⟨nI (p + 1), nI_add _ _, ?_⟩
      exact ih (p + 1) σ2 o2 (by omega) (by rw [show (p + 1) * 24 = p * 24 + 24 by omega]; exact hK2)
theorem cv_keep {t : Sg} {D : Dy} {Z : Zt} {σ : Sg} (hK : CK t D Z σ) {x : Int32} (hD : t 69 false 0 26 = nI (nD t)) (h20 : nD t < 20) : ∃ σ', Ev false 6 [.inr (.inr (48, false, 0)), .inl x, .inr (.inr (37, false, 0))] σ none σ' ∧ CK (up4 (edC (up4 t 87 false 0 (nD t) x) D 288) 69 false 0 26 (nI (nD t + 1))) D Z σ' := by
  have eD : σ 48 false 0 0 = nI (nD t) := hK.1.1.tr.c48_0.trans hD
  refine EvQ_wp 60 [8] rfl rfl ?_
  refine ⟨nD t, eD, (by show _ < 20; omega), _, rfl, ?_⟩
  replace hK := CK_w hK (k := 49) (r := 0) (i := nD t) (k' := 87) (j := nD t) x (if_pos ⟨rfl, by omega⟩) (by omega)
  refine ⟨_, rfl, ?_⟩
  exact cv_keep_o (t := up4 t 87 false 0 (nD t) x) (D := D) hD h20 12 0 _ none (by omega) (by rw [edC_0]; exact hK)
theorem kpT_o {t : Sg} {D : Dy} {w : Int32} {k j : Nat} (h : ¬ k = 87 ∧ ¬ k = 88 ∧ ¬ (k = 69 ∧ (j = 26 ∨ j = 18))) : kpT t D w k false 0 j = t k false 0 j := by
  unfold kpT
  rw [u4n (by omega), u4n (by omega), edC_o (by omega), u4n (by omega)]
theorem kpT_HM {t : Sg} {D : Dy} {w : Int32} (h : HM t) : HM (kpT t D w) := by
  have e1 : nP (kpT t D w) = nP t := congrArg nN (kpT_o (by omega))
  have e2 : nB (kpT t D w) = nB t := congrArg nN (kpT_o (by omega))
  unfold HM
  rw [e1, e2]
  intro b hb
  rw [kpT_o (by omega)]
  exact h b hb
theorem cv_endDay {t : Sg} {D : Dy} {Z : Zt} {σ : Sg} (hK : CK t D Z σ) (hT : WN t) (hM : HM t) {x : Int32} (hN : Is (t 69 false 0 26) 20) : ∃ σ', Ev false 208 [.inr (.inr (0, false, 0)), .inl x] σ (some (.inl (edR t D x))) σ' ∧ ∃ Z', CK (edT t D x) (edD t D x) Z' σ' := by
  have hC := hK.1.1
  have h0 : Is (D 0 0) 1440 := hK.1.2.1.2.2
  have hD : t 69 false 0 26 = nI (nD t) := hN.1
  have hN2 : nD t ≤ 20 := hN.2
  have h02 := h0.2
  have eD : σ 48 false 0 0 = nI (nD t) := hC.tr.c48_0.trans hD
  refine EvQ_wp 80 [] rfl rfl ?_
  refine ⟨_, _, cv_in, ?_⟩
  refine brd_ne (fun h4 => ?_) (fun h4 => ?_)
  · refine br_ne (hC.m.1.trans h0.1) rfl (by omega) (by omega) (fun h10 => ?_) (fun h10 => ?_)
    · refine br_lt eD rfl (by omega) (by omega) (fun h17 => ?_) (fun h17 => ?_)
      · obtain ⟨σ1, ev1, hK⟩ := cv_keep hK (x := x) hD (by omega)
        refine ⟨_, _, ev1, _, rfl, ?_⟩
        replace hK := CK_w hK (k := 21) (r := 0) (i := 0) (k' := 69) (j := 18) (nI (0)) rfl (by omega)
        have hTk : WN (kpT t D x) := kpT_WN hT
        have hMk : HM (kpT t D x) := kpT_HM hM
        obtain ⟨σ2, ev2, hC2⟩ := cv_bgn (D := D) (z := -1) hK.1.1.1 hTk hMk hK.1.1.2.1 hK.1.1.m.2.2.2.1
        have hD2 := bgn_DK hTk hMk (by have q := hK.1.2.2.2.1; rw [hK.2.2.1] at q; exact q) hC2
        have hK2 := CK_of hD2 hK.2.1 rfl hK.2.2.2
        refine ⟨_, _, ev2, ?_⟩
        exact ⟨by unfold edR; rw [ifC_t h4, ifC_f (by omega), ifC_f (by omega)]; exact congrArg (fun z => some (Sum.inl z)) (hK2.1.1.tr.c48_0.trans (by unfold kpT; rw [up4_nj (by decide), up4_s])), _, by unfold edT edD; rw [ifC_t h4, ifC_f (by omega), ifC_f (by omega), ifC_t h4, ifC_f (by omega), ifC_f (by omega)]; exact hK2⟩
      · exact ⟨by unfold edR; rw [ifC_t h4, ifC_f (by omega), ifC_t (by omega)], _, by unfold edT edD; rw [ifC_t h4, ifC_f (by omega), ifC_t (by omega), ifC_t h4, ifC_f (by omega), ifC_t (by omega)]; exact hK⟩
    · exact ⟨by unfold edR; rw [ifC_t h4, ifC_t (by omega)], _, by unfold edT edD; rw [ifC_t h4, ifC_t (by omega), ifC_t h4, ifC_t (by omega)]; exact hK⟩
  · exact ⟨by unfold edR; rw [ifC_f h4], _, by unfold edT edD; rw [ifC_f h4, ifC_f h4]; exact hK⟩
