/-! Days that are kept: forecasts. -/
theorem fcN_lo {t : Sg} {l : Nat} {w : Int32} (h : l < 2) : ∀ d, fcN t l w d = d
  | 0 => rfl
  | d + 1 => by rw [fcN_S, if_pos (Or.inl h), fcN_lo h d]
theorem fcN_hi {t : Sg} {l : Nat} {w : Int32} (h : ¬ l < 2) : ∀ d, fcN t l w d = ct (fun d => decide (t 87 false 0 d = w)) d
  | 0 => rfl
  | d + 1 => by
    rw [fcN_S, ct_S, fcN_hi h d]
    by_cases e : t 87 false 0 d = w
    · rw [if_pos (Or.inr e), if_pos (decide_eq_true e)]
    · rw [if_neg (fun q => q.elim h e), if_neg (by rw [decide_eq_false e]; decide), Nat.add_zero]
theorem cv_cw_l {t : Sg} {D : Dy} {Z : Zt} {σ : Sg} (hC : Cg false σ t D 60 200 Z σ) (hN : Is (t 69 false 0 26) 20) {w : Int32} : ∀ (n j c : Nat), j + n = nD t → c = ct (fun d => decide (t 87 false 0 d = w)) j → G false 7 (fun r' s' => r' = some (.inl (nI (wkN t w))) ∧ s' = σ) 4 [some (.inr (.inr (48, false, 0))), some (.inl w), some (.inl (nI c)), some (.inl (nI j))] [] σ := by
  have hN2 : nD t ≤ 20 := hN.2
  have eD : σ 48 false 0 0 = nI (nD t) := hC.tr.c48_0.trans hN.1
  intro n
  induction n with
  | zero =>
    intro j c hj hc
    refine G_wp 60 [4] rfl ?_
    refine br_ge rfl eD (by omega) (by omega) (fun h7 => ?_) (fun h7 => ?_)
    · exact ⟨by rw [hc]; unfold wkN; rw [show nD t = j by omega], rfl⟩
    · exact absurd h7 (by omega)
  | succ n ih =>
    intro j c hj hc
    refine G_wp 60 [4] rfl ?_
    refine br_ge rfl eD (by omega) (by omega) (fun h7 => ?_) (fun h7 => ?_)
    · exact absurd h7 (by omega)
    · refine ⟨j, rfl, (by show _ < 20; omega), ?_⟩
      refine ⟨fun h13 => ?_, fun h13 => ?_⟩
      · rw [(hC.tr.c49 j (by omega))] at h13
        refine ⟨nI (j + 1), nI_add _ _, ?_⟩
        exact ih (j + 1) c (by omega) (by rw [ct_S, if_neg (by rw [decide_eq_false h13]; decide), hc, Nat.add_zero])
      · rw [(hC.tr.c49 j (by omega))] at h13
        refine ⟨nI (c + 1), nI_add _ _, nI (j + 1), nI_add _ _, ?_⟩
        exact ih (j + 1) (c + 1) (by omega) (by rw [ct_S, if_pos (decide_eq_true h13), hc])
theorem cv_cw {t : Sg} {D : Dy} {Z : Zt} {σ : Sg} (hC : Cg false σ t D 60 200 Z σ) (hN : Is (t 69 false 0 26) 20) {w : Int32} : Ev false 7 [.inr (.inr (48, false, 0)), .inl w] σ (some (.inl (nI (wkN t w)))) σ := by
  refine Ev_wp 60 [4] rfl rfl ?_
  refine ⟨_, rfl, _, rfl, ?_⟩
  exact cv_cw_l hC hN (nD t) 0 0 (by omega) rfl
theorem wkN_le {t : Sg} {w : Int32} : wkN t w ≤ nD t := ct_le _ _
theorem cv_clk {t : Sg} {D : Dy} {Z : Zt} {σ : Sg} (hC : Cg false σ t D 60 200 Z σ) (hN : Is (t 69 false 0 26) 20) {w : Int32} : Ev false 79 [.inr (.inr (48, false, 0)), .inl w] σ (some (.inl (nI (fcN t (wkN t w) w (nD t))))) σ := by
  have hN2 : nD t ≤ 20 := hN.2
  have eD : σ 48 false 0 0 = nI (nD t) := hC.tr.c48_0.trans hN.1
  have hw := wkN_le (t := t) (w := w)
  refine Ev_wp 60 [] rfl rfl ?_
  refine ⟨_, _, cv_cw hC hN, _, rfl, ?_⟩
  refine br_ge rfl rfl (by omega) (by omega) (fun h6 => ?_) (fun h6 => ?_)
  · exact ⟨by rw [fcN_hi (by omega)]; rfl, rfl⟩
  · exact ⟨by rw [fcN_lo (by omega), eD], rfl⟩
theorem cv_sl_l {t : Sg} {D : Dy} {Z : Zt} {σ : Sg} (hC : Cg false σ t D 60 200 Z σ) (hN : Is (t 69 false 0 26) 20) {w x h : Int32} (hx : x = nI (nN x)) (hx2 : nN x < 12) (hh : h = nI (nN h)) (hh2 : nN h < 24) : ∀ (n j : Nat) (c : Int32), j + n = nD t → c = fcS t (wkN t w) w (24 * nN x + nN h) j → G false 80 (fun r' s' => r' = some (.inl (fcS t (wkN t w) w (24 * nN x + nN h) (nD t))) ∧ s' = σ) 13 [some (.inr (.inr (48, false, 0))), some (.inl w), some (.inl x), some (.inl h), some (.inl (bI (wkN t w < 2))), some (.inl c), some (.inl (nI j))] [] σ := by
  have hN2 : nD t ≤ 20 := hN.2
  have eD : σ 48 false 0 0 = nI (nD t) := hC.tr.c48_0.trans hN.1
  intro n
  induction n with
  | zero =>
    intro j c hj hc
    refine G_wp 60 [13] rfl ?_
    refine br_ge rfl eD (by omega) (by omega) (fun h16 => ?_) (fun h16 => ?_)
    · exact ⟨by rw [hc, show nD t = j by omega], rfl⟩
    · exact absurd h16 (by omega)
  | succ n ih =>
    intro j c hj hc
    refine G_wp 60 [13] rfl ?_
    refine br_ge rfl eD (by omega) (by omega) (fun h16 => ?_) (fun h16 => ?_)
    · exact absurd h16 (by omega)
    · refine brb_ne (fun h18 => ?_) (fun h18 => ?_)
      · refine ⟨j, rfl, (by show _ < 20; omega), (show j < 20 by omega), ((nN x) * 24) + (nN h), (add_n (mul_n hx rfl) hh), (by show _ < 288; omega), (c + (t 88 false 0 (288 * j + (24 * nN x + nN h)))), (congr (congrArg HAdd.hAdd rfl) ((hC.tr.c50 j (by omega) (nN x * 24 + nN h) (by omega)).trans (by rw [Nat.mul_comm (nN x) 24]))), nI (j + 1), nI_add _ _, ?_⟩
        exact ih (j + 1) _ (by omega) (by rw [fcS_S, if_pos (Or.inl h18), hc])
      · refine ⟨j, rfl, (by show _ < 20; omega), ?_⟩
        refine ⟨fun h24 => ?_, fun h24 => ?_⟩
        · rw [(hC.tr.c49 j (by omega))] at h24
          refine ⟨nI (j + 1), nI_add _ _, ?_⟩
          exact ih (j + 1) c (by omega) (by rw [fcS_S, if_neg (fun q => q.elim h18 h24), hc])
        · rw [(hC.tr.c49 j (by omega))] at h24
          refine ⟨j, rfl, (by show _ < 20; omega), (show j < 20 by omega), ((nN x) * 24) + (nN h), (add_n (mul_n hx rfl) hh), (by show _ < 288; omega), (c + (t 88 false 0 (288 * j + (24 * nN x + nN h)))), (congr (congrArg HAdd.hAdd rfl) ((hC.tr.c50 j (by omega) (nN x * 24 + nN h) (by omega)).trans (by rw [Nat.mul_comm (nN x) 24]))), nI (j + 1), nI_add _ _, ?_⟩
          exact ih (j + 1) _ (by omega) (by rw [fcS_S, if_pos (Or.inr h24), hc])
theorem cv_sl {t : Sg} {D : Dy} {Z : Zt} {σ : Sg} (hC : Cg false σ t D 60 200 Z σ) (hN : Is (t 69 false 0 26) 20) {w x h : Int32} (hx : x = nI (nN x)) (hx2 : nN x < 12) (hh : h = nI (nN h)) (hh2 : nN h < 24) : Ev false 80 [.inr (.inr (48, false, 0)), .inl w, .inl x, .inl h] σ (some (.inl (fcS t (wkN t w) w (24 * nN x + nN h) (nD t)))) σ := by
  have hN2 : nD t ≤ 20 := hN.2
  have eD : σ 48 false 0 0 = nI (nD t) := hC.tr.c48_0.trans hN.1
  have hw := wkN_le (t := t) (w := w)
  refine Ev_wp 60 [13] rfl rfl ?_
  refine ⟨_, _, cv_cw hC hN, ?_⟩
  refine br_ge rfl rfl (by omega) (by omega) (fun h4 => ?_) (fun h4 => ?_)
  · refine ⟨bI (wkN t w < 2), (bI_f (by omega)).symm, _, rfl, _, rfl, ?_⟩
    exact cv_sl_l hC hN hx hx2 hh hh2 (nD t) 0 (nI 0) (by omega) rfl
  · refine ⟨bI (wkN t w < 2), (bI_t (by omega)).symm, _, rfl, _, rfl, ?_⟩
    exact cv_sl_l hC hN hx hx2 hh hh2 (nD t) 0 (nI 0) (by omega) rfl
theorem cv_forecast {t : Sg} {D : Dy} {Z : Zt} {σ : Sg} (hK : CK t D Z σ) (hT : WN t) (hN : Is (t 69 false 0 26) 20) {w x h v : Int32} : Ev false 146 [.inr (.inr (0, false, 0)), .inl (w), .inl (x), .inl (h), .inl (v)] σ (some (.inl (fcR t w x h v))) σ := by
  have hC := hK.1.1
  have hP := hT.P
  have hB := hT.B
  have hR := hT.R
  refine Ev_wp 63 [] rfl rfl ?_
  refine ⟨_, _, cv_in, ?_⟩
  refine brd_eq (fun h4 => ?_) (fun h4 => ?_)
  · exact ⟨by unfold fcR; rw [ifC_f (fun q => h4 q.1)], rfl⟩
  · refine ⟨_, _, cv_isPost (hC.c1_0.trans hT.1.1) (by omega), ?_⟩
    refine brd_ne (fun h9 => ?_) (fun h9 => ?_)
    · refine ⟨_, _, cv_in, ?_⟩
      refine brd_eq (fun h16 => ?_) (fun h16 => ?_)
      · exact ⟨by unfold fcR; rw [ifC_f (fun q => h16 q.2.2.1)], rfl⟩
      · refine ⟨_, _, cv_in, ?_⟩
        refine brd_ne (fun h21 => ?_) (fun h21 => ?_)
        · refine ⟨fun h25 => ?_, fun h25 => ?_⟩
          · refine ⟨_, _, cv_clk hC hN, ?_⟩
            exact ⟨by unfold fcR; rw [ifC_t ⟨h4, h9, h16, h21⟩, ifC_f h25], rfl⟩
          · have hx := isPo_n hT h9
            have hh := inI_n (by omega) (by omega) h16
            refine ⟨_, _, cv_sl hC hN hx.1 (by omega) hh.1 (by omega), ?_⟩
            exact ⟨by unfold fcR; rw [ifC_t ⟨h4, h9, h16, h21⟩, ifC_t h25], rfl⟩
        · exact ⟨by unfold fcR; rw [ifC_f (fun q => h21 q.2.2.2)], rfl⟩
    · exact ⟨by unfold fcR; rw [ifC_f (fun q => h9 q.2.1)], rfl⟩
