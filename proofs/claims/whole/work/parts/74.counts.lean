/-! The class asked: as of, ends, counts. -/
theorem cv_ahead_l {t : Sg} {D : Dy} {Z : Zt} {σ : Sg} (hC : Cg false σ t D 60 200 Z σ) (hT : WN t) {x : Int32} : ∀ (n j c : Nat), j + n = nB t → c = ct (fun b => decide (t 75 false 0 b = x)) j → G false 30 (fun r' s' => r' = some (.inl (nI (hmN t x))) ∧ s' = σ) 4 [some (.inr (.inr (1, false, 0))), some (.inl x), some (.inl (nI c)), some (.inl (nI j))] [] σ := by
  have hB := hT.B
  intro n
  induction n with
  | zero =>
    intro j c hj hc
    refine G_wp 60 [4] rfl ?_
    refine br_ge rfl (hC.c1_1.trans hT.eB) (by omega) (by omega) (fun h7 => ?_) (fun h7 => ?_)
    · exact ⟨by rw [hc]; unfold hmN; rw [show nB t = j by omega], rfl⟩
    · exact absurd h7 (by omega)
  | succ n ih =>
    intro j c hj hc
    refine G_wp 60 [4] rfl ?_
    refine br_ge rfl (hC.c1_1.trans hT.eB) (by omega) (by omega) (fun h7 => ?_) (fun h7 => ?_)
    · exact absurd h7 (by omega)
    · refine ⟨j, rfl, (by show _ < 60; omega), ?_⟩
      rw [hC.c5 j (by omega)]
      refine ⟨fun h13 => ?_, fun h13 => ?_⟩
      · refine ⟨nI (j + 1), nI_add _ _, ?_⟩
        exact ih (j + 1) c (by omega) (by rw [ct_S, if_neg (by rw [decide_eq_false h13]; decide), hc, Nat.add_zero])
      · refine ⟨nI (c + 1), nI_add _ _, nI (j + 1), nI_add _ _, ?_⟩
        exact ih (j + 1) (c + 1) (by omega) (by rw [ct_S, if_pos (decide_eq_true h13), hc])
theorem cv_ahead {t : Sg} {D : Dy} {Z : Zt} {σ : Sg} (hC : Cg false σ t D 60 200 Z σ) (hT : WN t) {x : Int32} : Ev false 30 [.inr (.inr (1, false, 0)), .inl x] σ (some (.inl (nI (hmN t x)))) σ := by
  refine Ev_wp 60 [4] rfl rfl ?_
  refine ⟨_, rfl, _, rfl, ?_⟩
  exact cv_ahead_l hC hT (nB t) 0 0 (by omega) rfl
theorem cv_chg {σ : Sg} {w : Int32} : Ev false 9 [.inl w] σ (some (.inl (chg w))) σ := by
  refine Ev_wp 60 [] rfl rfl ?_
  refine ⟨fun h1 => ?_, fun h1 => ?_, fun h1 => ?_, fun h1 => ?_, fun h1 => ?_, fun h1 => ?_, fun h1 => ?_, fun h1 => ?_, fun h1 => ?_, fun h1 => ?_, ?_⟩
  · exact ⟨by rw [h1]; rfl, rfl⟩
  · exact ⟨by rw [h1]; rfl, rfl⟩
  · exact ⟨by rw [h1]; rfl, rfl⟩
  · exact ⟨by rw [h1]; rfl, rfl⟩
  · exact ⟨by rw [h1]; rfl, rfl⟩
  · exact ⟨by rw [h1]; rfl, rfl⟩
  · exact ⟨by rw [h1]; rfl, rfl⟩
  · exact ⟨by rw [h1]; rfl, rfl⟩
  · exact ⟨by rw [h1]; rfl, rfl⟩
  · exact ⟨by rw [h1]; rfl, rfl⟩
  · intro h1
    refine ⟨?_, rfl⟩
    unfold chg
    rw [if_neg (fun q => by rcases q with q | q | q | q <;> first | exact h1.1 q | exact h1.2.2.2.2.1 q | exact h1.2.2.2.2.2.2.1 q | exact h1.2.2.2.2.2.2.2.2.1 q), if_neg (fun q => by rcases q with q | q | q | q <;> first | exact h1.2.1 q | exact h1.2.2.2.2.2.1 q | exact h1.2.2.2.2.2.2.2.1 q | exact h1.2.2.2.2.2.2.2.2.2.1 q)]
theorem i_lt {a b : Int32} (h : ¬ b ≤ a) : a < b := by
  rw [Int32.le_iff_toInt_le] at h
  rw [Int32.lt_iff_toInt_lt]
  omega
theorem cv_till_l {t : Sg} {D : Dy} {Z : Zt} {σ : Sg} (hC : Cg false σ t D 60 200 Z σ) (h7 : Is (D 0 7) 4000) {x m : Int32} : ∀ (n j : Nat) (c : Int32), j + n = nN (D 0 7) → c = chS D x m j → G false 83 (fun r' s' => r' = some (.inl (chS D x m (nN (D 0 7)))) ∧ s' = σ) 4 [some (.inr (.inr (37, false, 0))), some (.inl x), some (.inl m), some (.inl c), some (.inl (nI j))] [] σ := by
  have h72 := h7.2
  intro n
  induction n with
  | zero =>
    intro j c hj hc
    refine G_wp 60 [4] rfl ?_
    refine br_ge rfl ((hC.m.2.2.2.2.trans (if_neg (by decide))).trans h7.1) (by omega) (by omega) (fun h7 => ?_) (fun h7 => ?_)
    · exact ⟨by rw [hc, show nN (D 0 7) = j by omega], rfl⟩
    · exact absurd h7 (by omega)
  | succ n ih =>
    intro j c hj hc
    refine G_wp 60 [4] rfl ?_
    refine br_ge rfl ((hC.m.2.2.2.2.trans (if_neg (by decide))).trans h7.1) (by omega) (by omega) (fun h7 => ?_) (fun h7 => ?_)
    · exact absurd h7 (by omega)
    · refine ⟨1, rfl, (by show _ < 5; omega), (show 1 < 5 by omega), j, rfl, (by show j < 4000; omega), ?_⟩
      refine ⟨fun h15 => ?_, fun h15 => ?_⟩
      · rw [(hC.l rfl j 1 (by omega) (by decide))] at h15
        refine ⟨nI (j + 1), nI_add _ _, ?_⟩
        exact ih (j + 1) c (by omega) (by rw [chS_S, if_neg (fun q => absurd q.1 (Int32.not_lt.mpr h15)), hc]; exact (Int32.add_zero _).symm)
      · rw [(hC.l rfl j 1 (by omega) (by decide))] at h15
        refine ⟨2, rfl, (by show _ < 5; omega), (show 2 < 5 by omega), j, rfl, (by show j < 4000; omega), ?_⟩
        refine ⟨fun h23 => ?_, fun h23 => ?_⟩
        · rw [(hC.l rfl j 2 (by omega) (by decide))] at h23
          refine ⟨nI (j + 1), nI_add _ _, ?_⟩
          exact ih (j + 1) c (by omega) (by rw [chS_S, if_neg (fun q => h23 q.2), hc]; exact (Int32.add_zero _).symm)
        · rw [(hC.l rfl j 2 (by omega) (by decide))] at h23
          refine ⟨0, rfl, (by show _ < 5; omega), (show 0 < 5 by omega), j, rfl, (by show j < 4000; omega), _, _, cv_chg, (c + (chg (D 27 (5 * j + 0)))), (congr (congrArg HAdd.hAdd rfl) (congrArg chg (hC.l rfl j 0 (by omega) (by decide)))), nI (j + 1), nI_add _ _, ?_⟩
          exact ih (j + 1) _ (by omega) (by rw [chS_S, if_pos ⟨i_lt h15, h23⟩, ← hc]; rfl)
theorem cv_till {t : Sg} {D : Dy} {Z : Zt} {σ : Sg} (hC : Cg false σ t D 60 200 Z σ) (h7 : Is (D 0 7) 4000) {x m : Int32} : Ev false 83 [.inr (.inr (37, false, 0)), .inl x, .inl m] σ (some (.inl (chS D x m (nN (D 0 7))))) σ := by
  refine Ev_wp 60 [4] rfl rfl ?_
  refine ⟨_, rfl, _, rfl, ?_⟩
  exact cv_till_l hC h7 (nN (D 0 7)) 0 (nI 0) (by omega) rfl
theorem cv_asOf {t : Sg} {D : Dy} {Z : Zt} {σ : Sg} (hK : CK t D Z σ) (hT : WN t) (h7 : Is (D 0 7) 4000) {x m : Int32} : Ev false 145 [.inr (.inr (0, false, 0)), .inl (x), .inl (m)] σ (some (.inl (asR t D x m))) σ := by
  have hC := hK.1.1
  have hP := hT.P
  have hB := hT.B
  have hR := hT.R
  refine Ev_wp 48 [] rfl rfl ?_
  refine ⟨_, _, cv_isPost (hC.c1_0.trans hT.1.1) (by omega), ?_⟩
  refine brd_eq (fun h4 => ?_) (fun h4 => ?_)
  · exact ⟨by unfold asR; rw [ifC_f (fun q => h4 q.1)], rfl⟩
  · refine ⟨_, _, cv_in3 hC.m.1, ?_⟩
    refine brd_ne (fun h11 => ?_) (fun h11 => ?_)
    · refine ⟨_, _, cv_ahead hC hT, _, _, cv_till hC h7, ?_⟩
      exact ⟨by unfold asR; rw [ifC_t ⟨h4, h11⟩], rfl⟩
    · exact ⟨by unfold asR; rw [ifC_f (fun q => h11 q.2)], rfl⟩
theorem mMax_1 {x : Int32} (h : Is x 200) : mMax (nI 1) x = ifC (x = nI 0) (nI 1) x := by
  obtain ⟨h1, h2⟩ := h
  obtain ⟨n, e⟩ : ∃ n, nN x = n := ⟨_, rfl⟩
  rw [e] at h1 h2
  rw [h1, mMax_n (by omega) (by omega)]
  by_cases q : n = 0
  · subst q
    rw [ifC_t rfl]
    rfl
  · rw [ifC_f (fun z => q (nI_inj z (by omega) (by omega))), Nat.max_def]
    split
    · rfl
    · congr 1; omega
theorem cv_ends {t : Sg} {D : Dy} {Z : Zt} {σ : Sg} (hK : CK t D Z σ) (hT : WN t) {x h w : Int32} : Ev false 100 [.inr (.inr (0, false, 0)), .inl (x), .inl (h), .inl (w)] σ (some (.inl (endR t D x h w))) σ := by
  have hC := hK.1.1
  have hP := hT.P
  have hB := hT.B
  have hR := hT.R
  have hZ := hK.1.2.2.2.2.1
  have hN10 := hK.1.2.2.2.2.2
  refine Ev_wp 88 [] rfl rfl ?_
  refine ⟨_, _, cv_isPost (hC.c1_0.trans hT.1.1) (by omega), ?_⟩
  refine brd_eq (fun h4 => ?_) (fun h4 => ?_)
  · exact ⟨by unfold endR; rw [ifC_f (fun q => h4 q.1)], rfl⟩
  · refine ⟨_, _, cv_in, ?_⟩
    refine brd_eq (fun h9 => ?_) (fun h9 => ?_)
    · exact ⟨by unfold endR; rw [ifC_f (fun q => h9 q.2.1)], rfl⟩
    · refine ⟨_, _, cv_in, ?_⟩
      refine brd_ne (fun h14 => ?_) (fun h14 => ?_)
      · have hx := isPo_n hT h4
        have hh := inI_n (by omega) (by omega) h9
        refine ⟨nN x, hx.1, (by show _ < 12; omega), (show nN x < 12 by omega), nN h, hh.1, (by show _ < 24; omega), ?_⟩
        rw [(hC.g (nN x) (nN h) (by omega) (by omega)).1]
        refine ⟨nN x, hx.1, (by show _ < 12; omega), (show nN x < 12 by omega), nN h, hh.1, (by show _ < 24; omega), ?_⟩
        rw [(hC.g (nN x) (nN h) (by omega) (by omega)).2.1]
        refine ⟨_, rfl, nN x, hx.1, (by show _ < 12; omega), (show nN x < 12 by omega), nN h, hh.1, (by show _ < 24; omega), ?_⟩
        rw [(hC.g (nN x) (nN h) (by omega) (by omega)).2.2]
        refine ⟨nN x, hx.1, (by show _ < 12; omega), (show nN x < 12 by omega), nN h, hh.1, (by show _ < 24; omega), ?_⟩
        rw [hC.z.1 (nN x) (nN h) (by omega) (by omega), hZ (nN x) (nN h) (by omega) (by omega)]
        refine ⟨_, rfl, ?_⟩
        refine ⟨fun h58 => ?_, fun h58 => ?_⟩
        · exact ⟨by unfold endR; rw [ifC_t ⟨h4, h9, h14⟩, ifC_f h58, ← mMax_1 (hN10 (nN x) (nN h) (by omega) (by omega))], rfl⟩
        · exact ⟨by unfold endR; rw [ifC_t ⟨h4, h9, h14⟩, ifC_t h58], rfl⟩
      · exact ⟨by unfold endR; rw [ifC_f (fun q => h14 q.2.2)], rfl⟩
theorem cv_count {t : Sg} {D : Dy} {Z : Zt} {σ : Sg} (hK : CK t D Z σ) (hT : WN t) {w : Int32} : Ev false 43 [.inr (.inr (0, false, 0)), .inl (w)] σ (some (.inl (cntR t D w))) σ := by
  have hC := hK.1.1
  have hP := hT.P
  have hB := hT.B
  have hR := hT.R
  refine Ev_wp 66 [] rfl rfl ?_
  refine ⟨fun h1 => ?_, fun h1 => ?_, fun h1 => ?_, fun h1 => ?_, fun h1 => ?_, fun h1 => ?_, fun h1 => ?_, fun h1 => ?_, fun h1 => ?_, fun h1 => ?_, ?_⟩
  · exact ⟨(congrArg (fun z => some (Sum.inl z)) hC.c1_0).trans (by unfold cntR; rw [h1, ifC_t rfl]), rfl⟩
  · exact ⟨(congrArg (fun z => some (Sum.inl z)) hC.c1_1).trans (by unfold cntR; rw [h1, ifC_f (by decide), ifC_t rfl]), rfl⟩
  · exact ⟨(congrArg (fun z => some (Sum.inl z)) hC.c1_2).trans (by unfold cntR; rw [h1, ifC_f (by decide), ifC_f (by decide), ifC_t rfl]), rfl⟩
  · exact ⟨(congrArg (fun z => some (Sum.inl z)) hC.c12_2).trans (by unfold cntR; rw [h1, ifC_f (by decide), ifC_f (by decide), ifC_f (by decide), ifC_t rfl]), rfl⟩
  · exact ⟨(congrArg (fun z => some (Sum.inl z)) hC.m.1).trans (by unfold cntR; rw [h1, ifC_f (by decide), ifC_f (by decide), ifC_f (by decide), ifC_f (by decide), ifC_t rfl]), rfl⟩
  · exact ⟨(congrArg (fun z => some (Sum.inl z)) (hC.m.2.2.2.2.trans (if_neg (by decide)))).trans (by unfold cntR; rw [h1, ifC_f (by decide), ifC_f (by decide), ifC_f (by decide), ifC_f (by decide), ifC_f (by decide), ifC_t rfl]), rfl⟩
  · exact ⟨(congrArg (fun z => some (Sum.inl z)) hC.tr.c48_0).trans (by unfold cntR; rw [h1, ifC_f (by decide), ifC_f (by decide), ifC_f (by decide), ifC_f (by decide), ifC_f (by decide), ifC_f (by decide), ifC_t rfl]), rfl⟩
  · exact ⟨(congrArg (fun z => some (Sum.inl z)) hC.m.2.2.1).trans (by unfold cntR; rw [h1, ifC_f (by decide), ifC_f (by decide), ifC_f (by decide), ifC_f (by decide), ifC_f (by decide), ifC_f (by decide), ifC_f (by decide), ifC_t rfl]), rfl⟩
  · exact ⟨(congrArg (fun z => some (Sum.inl z)) hC.c21_0).trans (by unfold cntR; rw [h1, ifC_f (by decide), ifC_f (by decide), ifC_f (by decide), ifC_f (by decide), ifC_f (by decide), ifC_f (by decide), ifC_f (by decide), ifC_f (by decide), ifC_t rfl]), rfl⟩
  · exact ⟨(congrArg (fun z => some (Sum.inl z)) hC.c12_1).trans (by unfold cntR; rw [h1, ifC_f (by decide), ifC_f (by decide), ifC_f (by decide), ifC_f (by decide), ifC_f (by decide), ifC_f (by decide), ifC_f (by decide), ifC_f (by decide), ifC_f (by decide), ifC_t rfl]), rfl⟩
  · intro h1
    exact ⟨by unfold cntR; rw [ifC_f h1.1, ifC_f h1.2.1, ifC_f h1.2.2.1, ifC_f h1.2.2.2.1, ifC_f h1.2.2.2.2.1, ifC_f h1.2.2.2.2.2.1, ifC_f h1.2.2.2.2.2.2.1, ifC_f h1.2.2.2.2.2.2.2.1, ifC_f h1.2.2.2.2.2.2.2.2.1, ifC_f h1.2.2.2.2.2.2.2.2.2.1], rfl⟩
