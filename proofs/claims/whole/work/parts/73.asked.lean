/-! The class asked: a rider, a bike, a post, the log. -/
def S3 (D : Dy) : Prop := ∀ p, p < 12 → D 3 p = sI (fun y => D 7 (24 * p + y)) 24 ∧ D 4 p = sI (fun y => D 8 (24 * p + y)) 24 ∧ D 5 p = sI (fun y => D 9 (24 * p + y)) 24
theorem rd_k {t : Sg} {x : Int32} (hT : WN t) (h : inI (nI 0) x (t 69 false 0 9 - nI 1)) : x = nI (nN x) ∧ nN x < nR t := by
  have h1 : t 69 false 0 9 = nI (nR t) := hT.2.2.1
  have h2 := hT.R
  have h3 : nI 0 ≤ x ∧ x ≤ nI (nR t) - nI 1 := by rw [← h1]; exact h
  obtain ⟨p, e, hp⟩ := (in_lt (by omega)).mp h3
  rw [nN_of e (by omega)]
  exact ⟨e, hp⟩
theorem cv_riderAt {t : Sg} {D : Dy} {Z : Zt} {σ : Sg} (hK : CK t D Z σ) (hT : WN t) {x w : Int32} : Ev false 98 [.inr (.inr (0, false, 0)), .inl (x), .inl (w)] σ (some (.inl (rdaR t D x w))) σ := by
  have hC := hK.1.1
  have hP := hT.P
  have hB := hT.B
  have hR := hT.R
  refine Ev_wp 46 [] rfl rfl ?_
  refine ⟨_, _, cv_in3 (congrArg (fun z => z - nI 1) hC.c1_2), ?_⟩
  refine brd_eq (fun h8 => ?_) (fun h8 => ?_)
  · exact ⟨by unfold rdaR; rw [ifC_f (fun q => h8 q.1)], rfl⟩
  · refine ⟨_, _, cv_in, ?_⟩
    refine brd_ne (fun h13 => ?_) (fun h13 => ?_)
    · have hx := rd_k hT h8
      have hw := inI_n (by omega) (by omega) h13
      refine ⟨nN w, hw.1, (by show _ < 6; omega), (show nN w < 6 by omega), nN x, hx.1, (by show _ < 200; omega), ?_⟩
      exact ⟨(congrArg (fun z => some (Sum.inl z)) ((hC.r (nN x) (by omega)).1 (nN w) (by omega))).trans (by unfold rdaR; rw [ifC_t ⟨h8, h13⟩]), rfl⟩
    · exact ⟨by unfold rdaR; rw [ifC_f (fun q => h13 q.2)], rfl⟩
theorem ifC_i {c : Prop} [Decidable c] {a b : Int32} : ifC c a b = if c then a else b := by
  by_cases h : c
  · rw [ifC_t h, if_pos h]
  · rw [ifC_f h, if_neg h]
theorem cv_bikeAt {t : Sg} {D : Dy} {Z : Zt} {σ : Sg} (hK : CK t D Z σ) (hT : WN t) {x w : Int32} : Ev false 97 [.inr (.inr (0, false, 0)), .inl (x), .inl (w)] σ (some (.inl (bikR t D x w))) σ := by
  have hC := hK.1.1
  have hP := hT.P
  have hB := hT.B
  have hR := hT.R
  refine Ev_wp 42 [] rfl rfl ?_
  refine ⟨_, _, cv_isBike (hC.c1_1.trans hT.2.1.1) (by omega), ?_⟩
  refine brd_eq (fun h4 => ?_) (fun h4 => ?_)
  · exact ⟨by unfold bikR; rw [ifC_f (fun q => h4 q.1)], rfl⟩
  · refine ⟨_, _, cv_in, ?_⟩
    refine brd_ne (fun h9 => ?_) (fun h9 => ?_)
    · have hx := isBk_n hT h4
      have hw := inI_n (by omega) (by omega) h9
      refine ⟨nN w, hw.1, (by show _ < 4; omega), (show nN w < 4 by omega), nN x, hx.1, (by show _ < 60; omega), ?_⟩
      refine ⟨?_, rfl⟩
      unfold bikR
      rw [ifC_t ⟨h4, h9⟩]
      have hb := hC.b (nN x) hx.2
      obtain ⟨m, hm⟩ : ∃ m, nN w = m := ⟨_, rfl⟩
      have hw1 := hw.1
      have hw3 := hw.2.2
      rw [hm] at hw1 hw3 ⊢
      rw [hw1]
      rcases (show m = 0 ∨ m = 1 ∨ m = 2 ∨ m = 3 by omega) with rfl | rfl | rfl | rfl
      · rw [ifC_t rfl]; exact congrArg (fun z => some (Sum.inl z)) hb.1.1
      · rw [ifC_f (by decide), ifC_t rfl, ifC_i]; exact congrArg (fun z => some (Sum.inl z)) (hb.2 (by omega)).1
      · rw [ifC_f (by decide), ifC_f (by decide), ifC_t rfl]; exact congrArg (fun z => some (Sum.inl z)) hb.1.2.1
      · rw [ifC_f (by decide), ifC_f (by decide), ifC_f (by decide)]; exact congrArg (fun z => some (Sum.inl z)) hb.1.2.2
    · exact ⟨by unfold bikR; rw [ifC_f (fun q => h9 q.2)], rfl⟩
theorem cv_tellPost {t : Sg} {D : Dy} {Z : Zt} {σ : Sg} (hK : CK t D Z σ) (hT : WN t) (hS : S3 D) {p : Nat} {w : Int32} (hp : p < nP t) (hw1 : w = nI (nN w)) (hw3 : nN w ≤ 8) : Ev false 71 [.inr (.inr (26, false, 0)), .inl (nI p), .inl w] σ (some (.inl (pstR t D (nI p) w))) σ := by
  have hC := hK.1.1
  have hO := hK.1.2.2.1
  have hP := hT.P
  have hB := hT.B
  have hR := hT.R
  have hp0 : isPo t (nI p) := ⟨p, rfl, hp⟩
  have hpn : nN (nI p) = p := nN_nI (by omega)
  refine Ev_wp 77 [] rfl rfl ?_
  refine ⟨fun h1 => ?_, fun h1 => ?_, fun h1 => ?_, fun h1 => ?_, fun h1 => ?_, fun h1 => ?_, fun h1 => ?_, fun h1 => ?_, ?_⟩
  · refine ⟨p, rfl, (by show _ < 12; omega), ?_⟩
    have e8 := h1
    refine ⟨?_, rfl⟩
    unfold pstR
    rw [hpn, e8, ifC_t hp0, ifC_t rfl]
    exact congrArg (fun z => some (Sum.inl z)) ((hC.c p hp).1)
  · refine ⟨p, rfl, (by show _ < 12; omega), ?_⟩
    have e8 := h1
    refine ⟨?_, rfl⟩
    unfold pstR
    rw [hpn, e8, ifC_t hp0, ifC_f (by decide), ifC_t rfl]
    exact congrArg (fun z => some (Sum.inl z)) ((hC.c p hp).2)
  · refine ⟨_, _, cv_free hC hT rfl hp, ?_⟩
    have e8 := h1
    refine ⟨?_, rfl⟩
    unfold pstR
    rw [hpn, e8, ifC_t hp0, ifC_f (by decide), ifC_f (by decide), ifC_t rfl]
  · refine ⟨p, rfl, (by show _ < 12; omega), ?_⟩
    have e8 := h1
    refine ⟨?_, rfl⟩
    unfold pstR
    rw [hpn, e8, ifC_t hp0, ifC_f (by decide), ifC_f (by decide), ifC_f (by decide), ifC_t rfl]
    exact congrArg (fun z => some (Sum.inl z)) ((hC.p p hp).1)
  · refine ⟨p, rfl, (by show _ < 12; omega), ?_⟩
    refine ⟨fun h25 => ?_, fun h25 => ?_⟩
    · rw [(hC.p p hp).2] at h25
      have e8 := h1
      refine ⟨?_, rfl⟩
      unfold pstR
      rw [hpn, e8, ifC_t hp0, ifC_f (by decide), ifC_f (by decide), ifC_f (by decide), ifC_f (by decide), ifC_t rfl]
      have e4 := (hC.p p hp).2
      rcases hO p hp with q | q
      · rw [q]
      · exact absurd (q.symm.trans h25) (by decide)
    · rw [(hC.p p hp).2] at h25
      have e8 := h1
      refine ⟨?_, rfl⟩
      unfold pstR
      rw [hpn, e8, ifC_t hp0, ifC_f (by decide), ifC_f (by decide), ifC_f (by decide), ifC_f (by decide), ifC_t rfl]
      have e4 := (hC.p p hp).2
      rcases hO p hp with q | q
      · exact absurd q h25
      · rw [q]
  · refine ⟨p, rfl, (by show _ < 12; omega), ?_⟩
    have e8 := h1
    refine ⟨?_, rfl⟩
    unfold pstR
    rw [hpn, e8, ifC_t hp0, ifC_f (by decide), ifC_f (by decide), ifC_f (by decide), ifC_f (by decide), ifC_f (by decide), ifC_t rfl]
    exact congrArg (fun z => some (Sum.inl z)) (by rw [← wtx_n t D p hR]; exact hC.w p hp)
  · refine ⟨p, rfl, (by show _ < 12; omega), _, _, cv_sum39 (by omega) (fun y hy => (hC.g p y (by omega) hy).1), ?_⟩
    have e8 := h1
    refine ⟨?_, rfl⟩
    unfold pstR
    rw [hpn, e8, ifC_t hp0, ifC_f (by decide), ifC_f (by decide), ifC_f (by decide), ifC_f (by decide), ifC_f (by decide), ifC_f (by decide), ifC_t rfl]
    exact congrArg (fun z => some (Sum.inl z)) ((hS p (by omega)).1.symm)
  · refine ⟨p, rfl, (by show _ < 12; omega), _, _, cv_sum40 (by omega) (fun y hy => (hC.g p y (by omega) hy).2.1), ?_⟩
    have e8 := h1
    refine ⟨?_, rfl⟩
    unfold pstR
    rw [hpn, e8, ifC_t hp0, ifC_f (by decide), ifC_f (by decide), ifC_f (by decide), ifC_f (by decide), ifC_f (by decide), ifC_f (by decide), ifC_f (by decide), ifC_t rfl]
    exact congrArg (fun z => some (Sum.inl z)) ((hS p (by omega)).2.1.symm)
  · intro h1
    refine ⟨p, rfl, (by show _ < 12; omega), _, _, cv_sum41 (by omega) (fun y hy => (hC.g p y (by omega) hy).2.2), ?_⟩
    have e8 : w = nI 8 := by
      rcases (show nN w = 0 ∨ nN w = 1 ∨ nN w = 2 ∨ nN w = 3 ∨ nN w = 4 ∨ nN w = 5 ∨ nN w = 6 ∨ nN w = 7 ∨ nN w = 8 by omega) with q | q | q | q | q | q | q | q | q
      all_goals rw [q] at hw1
      · exact absurd hw1 h1.1
      · exact absurd hw1 h1.2.1
      · exact absurd hw1 h1.2.2.1
      · exact absurd hw1 h1.2.2.2.1
      · exact absurd hw1 h1.2.2.2.2.1
      · exact absurd hw1 h1.2.2.2.2.2.1
      · exact absurd hw1 h1.2.2.2.2.2.2.1
      · exact absurd hw1 h1.2.2.2.2.2.2.2.1
      · exact hw1
    refine ⟨?_, rfl⟩
    unfold pstR
    rw [hpn, e8, ifC_t hp0, ifC_f (by decide), ifC_f (by decide), ifC_f (by decide), ifC_f (by decide), ifC_f (by decide), ifC_f (by decide), ifC_f (by decide), ifC_f (by decide), ifC_t rfl]
    exact congrArg (fun z => some (Sum.inl z)) ((hS p (by omega)).2.2.symm)
theorem cv_postAt {t : Sg} {D : Dy} {Z : Zt} {σ : Sg} (hK : CK t D Z σ) (hT : WN t) (hS : S3 D) {x w : Int32} : Ev false 143 [.inr (.inr (0, false, 0)), .inl (x), .inl (w)] σ (some (.inl (pstR t D x w))) σ := by
  have hC := hK.1.1
  have hP := hT.P
  have hB := hT.B
  have hR := hT.R
  refine Ev_wp 41 [] rfl rfl ?_
  refine ⟨_, _, cv_isPost (hC.c1_0.trans hT.1.1) (by omega), ?_⟩
  refine brd_eq (fun h4 => ?_) (fun h4 => ?_)
  · exact ⟨by unfold pstR; rw [ifC_f h4], rfl⟩
  · refine ⟨_, _, cv_in, ?_⟩
    refine brd_eq (fun h9 => ?_) (fun h9 => ?_)
    · refine ⟨?_, rfl⟩
      unfold pstR
      rw [ifC_t h4]
      have hn : ∀ n, n ≤ 8 → ¬ w = nI n := fun n hn q => h9 ⟨by rw [q]; exact (nI_leI (by omega) (by omega)).mpr (by omega), by rw [q]; exact (nI_leI (by omega) (by omega)).mpr hn⟩
      rw [ifC_f (hn 0 (by omega)), ifC_f (hn 1 (by omega)), ifC_f (hn 2 (by omega)), ifC_f (hn 3 (by omega)), ifC_f (hn 4 (by omega)), ifC_f (hn 5 (by omega)), ifC_f (hn 6 (by omega)), ifC_f (hn 7 (by omega)), ifC_f (hn 8 (by omega))]
    · have hx := isPo_n hT h4
      have hw := inI_n (by omega) (by omega) h9
      have ev0 := cv_tellPost hK hT hS hx.2 hw.1 hw.2.2
      rw [← hx.1] at ev0
      refine ⟨_, _, ev0, ?_⟩
      exact ⟨rfl, rfl⟩
theorem lg_k {x y : Int32} (h7 : Is y 4000) (h1 : ¬ x < nI 0) (h : ¬ y ≤ x) : x = nI (nN x) ∧ nN x < nN y := by
  have h2 := h7.2
  rw [h7.1] at h
  obtain ⟨n, e⟩ : ∃ n, n = nN y := ⟨_, rfl⟩
  rw [← e] at h h2 ⊢
  have h3 : nI 0 ≤ x ∧ x ≤ nI n - nI 1 := by
    rw [Int32.lt_iff_toInt_lt, nI_toInt (by omega)] at h1
    rw [Int32.le_iff_toInt_le, nI_toInt (by omega)] at h
    have h5 : 1 ≤ n := by omega
    refine ⟨?_, ?_⟩
    · rw [Int32.le_iff_toInt_le, nI_toInt (by omega)]; omega
    · rw [Int32.le_iff_toInt_le, sub_n rfl rfl h5, nI_toInt (by omega)]; omega
  obtain ⟨p, e, hp⟩ := (in_lt (by omega)).mp h3
  rw [nN_of e (by omega)]
  exact ⟨e, hp⟩
theorem cv_log {t : Sg} {D : Dy} {Z : Zt} {σ : Sg} (hK : CK t D Z σ) (hT : WN t) (h7 : Is (D 0 7) 4000) {x w : Int32} : Ev false 99 [.inr (.inr (0, false, 0)), .inl (x), .inl (w)] σ (some (.inl (logR D x w))) σ := by
  have hC := hK.1.1
  have hP := hT.P
  have hB := hT.B
  have hR := hT.R
  refine Ev_wp 49 [] rfl rfl ?_
  refine ⟨fun h1 => ?_, fun h1 => ?_⟩
  · exact ⟨by unfold logR; rw [ifC_f (fun q => q.1 h1)], rfl⟩
  · refine ⟨_, _, cv_in, ?_⟩
    refine brd_ne (fun h6 => ?_) (fun h6 => ?_)
    · have hw := inI_n (by omega) (by omega) h6
      refine ⟨fun h14 => ?_, fun h14 => ?_⟩
      · rw [(hC.m.2.2.2.2.trans (if_neg (by decide)))] at h14
        exact ⟨by unfold logR; rw [ifC_t ⟨h1, h6⟩, ifC_t h14], rfl⟩
      · rw [(hC.m.2.2.2.2.trans (if_neg (by decide)))] at h14
        have hx : x = nI (nN x) ∧ nN x < nN (D 0 7) := lg_k h7 h1 h14
        have h72 := h7.2
        refine ⟨nN w, hw.1, (by show _ < 5; omega), (show nN w < 5 by omega), nN x, hx.1, (by show nN x < 4000; omega), ?_⟩
        exact ⟨(congrArg (fun z => some (Sum.inl z)) (hC.l rfl (nN x) (nN w) hx.2 (by omega))).trans (by unfold logR; rw [ifC_t ⟨h1, h6⟩, ifC_f h14]), rfl⟩
    · exact ⟨by unfold logR; rw [ifC_f (fun q => h6 q.2)], rfl⟩
