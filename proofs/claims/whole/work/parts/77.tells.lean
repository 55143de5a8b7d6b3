/-! What is told: kinds, the shop, wishes, gains, sites, tests. -/
theorem cv_kind {t : Sg} {D : Dy} {Z : Zt} {σ : Sg} (hK : CK t D Z σ) (hT : WN t) {k l p : Int32} : ∃ σ', Ev false 92 [.inr (.inr (0, false, 0)), .inl (k), .inl (l), .inl (p)] σ (some (.inl (kindR k l p))) σ' ∧ CK (kindT t k l p) D Z σ' := by
  have hC := hK.1.1
  have hP := hT.P
  have hB := hT.B
  have hR := hT.R
  refine EvQ_wp 55 [] rfl rfl ?_
  refine ⟨_, _, cv_in, ?_⟩
  refine brd_eq (fun h4 => ?_) (fun h4 => ?_)
  · have eR : kindR k l p = (-2) := by simp only [kindR, h4, eq_self, ifC_T, ifC_F, and_true, true_and, and_false, false_and, or_true, true_or, or_false, false_or, not_true_eq_false, not_false_eq_true, and_self, or_self, if_true, if_false, reduceIte, reduceCtorEq]
    have eT : kindT t k l p = t := by simp only [kindT, h4, eq_self, ifC_T, ifC_F, and_true, true_and, and_false, false_and, or_true, true_or, or_false, false_or, not_true_eq_false, not_false_eq_true, and_self, or_self, if_true, if_false, reduceIte, reduceCtorEq]
    exact ⟨congrArg (fun z => some (Sum.inl z)) (Eq.trans rfl eR.symm), by rw [eT]; exact hK⟩
  · refine ⟨_, _, cv_in, ?_⟩
    refine brd_eq (fun h9 => ?_) (fun h9 => ?_)
    · have eR : kindR k l p = (-2) := by simp only [kindR, h4, h9, eq_self, ifC_T, ifC_F, and_true, true_and, and_false, false_and, or_true, true_or, or_false, false_or, not_true_eq_false, not_false_eq_true, and_self, or_self, if_true, if_false, reduceIte, reduceCtorEq]
      have eT : kindT t k l p = t := by simp only [kindT, h4, h9, eq_self, ifC_T, ifC_F, and_true, true_and, and_false, false_and, or_true, true_or, or_false, false_or, not_true_eq_false, not_false_eq_true, and_self, or_self, if_true, if_false, reduceIte, reduceCtorEq]
      exact ⟨congrArg (fun z => some (Sum.inl z)) (Eq.trans rfl eR.symm), by rw [eT]; exact hK⟩
    · refine ⟨_, _, cv_in, ?_⟩
      refine brd_ne (fun h14 => ?_) (fun h14 => ?_)
      · have hk := inI_n (by omega) (by omega) h4
        refine ⟨nN k, hk.1, (by show _ < 4; omega), _, rfl, ?_⟩
        replace hK := CK_w hK (k := 10) (r := 0) (i := nN k) (k' := 80) (j := nN k) l (if_pos ⟨rfl, by omega⟩) (by omega)
        refine ⟨nN k, hk.1, (by show _ < 4; omega), _, rfl, ?_⟩
        replace hK := CK_w hK (k := 11) (r := 0) (i := nN k) (k' := 81) (j := nN k) p (if_pos ⟨rfl, by omega⟩) (by omega)
        have eR : kindR k l p = (nI (1)) := by simp only [kindR, h4, h9, h14, eq_self, ifC_T, ifC_F, and_true, true_and, and_false, false_and, or_true, true_or, or_false, false_or, not_true_eq_false, not_false_eq_true, and_self, or_self, if_true, if_false, reduceIte, reduceCtorEq]
        have eT : kindT t k l p = (up4 (up4 t 80 false 0 (nN k) l) 81 false 0 (nN k) p) := by simp only [kindT, h4, h9, h14, eq_self, ifC_T, ifC_F, and_true, true_and, and_false, false_and, or_true, true_or, or_false, false_or, not_true_eq_false, not_false_eq_true, and_self, or_self, if_true, if_false, reduceIte, reduceCtorEq]
        exact ⟨congrArg (fun z => some (Sum.inl z)) (Eq.trans rfl eR.symm), by rw [eT]; exact hK⟩
      · have eR : kindR k l p = (-2) := by simp only [kindR, h4, h9, h14, eq_self, ifC_T, ifC_F, and_true, true_and, and_false, false_and, or_true, true_or, or_false, false_or, not_true_eq_false, not_false_eq_true, and_self, or_self, if_true, if_false, reduceIte, reduceCtorEq]
        have eT : kindT t k l p = t := by simp only [kindT, h4, h9, h14, eq_self, ifC_T, ifC_F, and_true, true_and, and_false, false_and, or_true, true_or, or_false, false_or, not_true_eq_false, not_false_eq_true, and_self, or_self, if_true, if_false, reduceIte, reduceCtorEq]
        exact ⟨congrArg (fun z => some (Sum.inl z)) (Eq.trans rfl eR.symm), by rw [eT]; exact hK⟩
theorem cv_shop_p {t : Sg} {D : Dy} {Z : Zt} {σ : Sg} (hK : CK t D Z σ) (hT : WN t) {m n : Int32} : ∃ σ', Ev false 94 [.inr (.inr (0, false, 0)), .inl (m), .inl (n)] σ (some (.inl (shopR m n))) σ' ∧ CK (shopT t m n) D Z σ' := by
  have hC := hK.1.1
  have hP := hT.P
  have hB := hT.B
  have hR := hT.R
  refine EvQ_wp 44 [] rfl rfl ?_
  refine ⟨_, _, cv_in, ?_⟩
  refine brd_eq (fun h4 => ?_) (fun h4 => ?_)
  · have eR : shopR m n = (-2) := by simp only [shopR, h4, eq_self, ifC_T, ifC_F, and_true, true_and, and_false, false_and, or_true, true_or, or_false, false_or, not_true_eq_false, not_false_eq_true, and_self, or_self, if_true, if_false, reduceIte, reduceCtorEq]
    have eT : shopT t m n = t := by simp only [shopT, h4, eq_self, ifC_T, ifC_F, and_true, true_and, and_false, false_and, or_true, true_or, or_false, false_or, not_true_eq_false, not_false_eq_true, and_self, or_self, if_true, if_false, reduceIte, reduceCtorEq]
    exact ⟨congrArg (fun z => some (Sum.inl z)) (Eq.trans rfl eR.symm), by rw [eT]; exact hK⟩
  · refine ⟨_, _, cv_in, ?_⟩
    refine brd_ne (fun h9 => ?_) (fun h9 => ?_)
    · refine ⟨_, rfl, ?_⟩
      replace hK := CK_w hK (k := 1) (r := 0) (i := 3) (k' := 69) (j := 16) m rfl (by omega)
      refine ⟨_, rfl, ?_⟩
      replace hK := CK_w hK (k := 1) (r := 0) (i := 4) (k' := 69) (j := 17) n rfl (by omega)
      have eR : shopR m n = (nI (1)) := by simp only [shopR, h4, h9, eq_self, ifC_T, ifC_F, and_true, true_and, and_false, false_and, or_true, true_or, or_false, false_or, not_true_eq_false, not_false_eq_true, and_self, or_self, if_true, if_false, reduceIte, reduceCtorEq]
      have eT : shopT t m n = (up4 (up4 t 69 false 0 16 m) 69 false 0 17 n) := by simp only [shopT, h4, h9, eq_self, ifC_T, ifC_F, and_true, true_and, and_false, false_and, or_true, true_or, or_false, false_or, not_true_eq_false, not_false_eq_true, and_self, or_self, if_true, if_false, reduceIte, reduceCtorEq]
      exact ⟨congrArg (fun z => some (Sum.inl z)) (Eq.trans rfl eR.symm), by rw [eT]; exact hK⟩
    · have eR : shopR m n = (-2) := by simp only [shopR, h4, h9, eq_self, ifC_T, ifC_F, and_true, true_and, and_false, false_and, or_true, true_or, or_false, false_or, not_true_eq_false, not_false_eq_true, and_self, or_self, if_true, if_false, reduceIte, reduceCtorEq]
      have eT : shopT t m n = t := by simp only [shopT, h4, h9, eq_self, ifC_T, ifC_F, and_true, true_and, and_false, false_and, or_true, true_or, or_false, false_or, not_true_eq_false, not_false_eq_true, and_self, or_self, if_true, if_false, reduceIte, reduceCtorEq]
      exact ⟨congrArg (fun z => some (Sum.inl z)) (Eq.trans rfl eR.symm), by rw [eT]; exact hK⟩
theorem cv_want {t : Sg} {D : Dy} {Z : Zt} {σ : Sg} (hK : CK t D Z σ) (hT : WN t) {x v : Int32} : ∃ σ', Ev false 102 [.inr (.inr (0, false, 0)), .inl (x), .inl (v)] σ (some (.inl (wantR t x v))) σ' ∧ CK (wantT t x v) D Z σ' := by
  have hC := hK.1.1
  have hP := hT.P
  have hB := hT.B
  have hR := hT.R
  refine EvQ_wp 48 [] rfl rfl ?_
  refine ⟨_, _, cv_isPost (hC.c1_0.trans hT.1.1) (by omega), ?_⟩
  refine brd_eq (fun h4 => ?_) (fun h4 => ?_)
  · have eR : wantR t x v = (-100) := by simp only [wantR, h4, eq_self, ifC_T, ifC_F, and_true, true_and, and_false, false_and, or_true, true_or, or_false, false_or, not_true_eq_false, not_false_eq_true, and_self, or_self, if_true, if_false, reduceIte, reduceCtorEq]
    have eT : wantT t x v = t := by simp only [wantT, h4, eq_self, ifC_T, ifC_F, and_true, true_and, and_false, false_and, or_true, true_or, or_false, false_or, not_true_eq_false, not_false_eq_true, and_self, or_self, if_true, if_false, reduceIte, reduceCtorEq]
    exact ⟨congrArg (fun z => some (Sum.inl z)) (Eq.trans rfl eR.symm), by rw [eT]; exact hK⟩
  · refine ⟨_, _, cv_in, ?_⟩
    refine brd_ne (fun h9 => ?_) (fun h9 => ?_)
    · have hx := isPo_n hT h4
      refine ⟨nN x, hx.1, (by show _ < 12; omega), (t 89 false 0 (nN x)), (hC.tr.c52 (nN x) (by omega)), nN x, hx.1, (by show _ < 12; omega), _, rfl, ?_⟩
      replace hK := CK_w hK (k := 52) (r := 0) (i := nN x) (k' := 89) (j := nN x) v (if_pos ⟨rfl, by omega⟩) (by omega)
      have eR : wantR t x v = (t 89 false 0 (nN x)) := by simp only [wantR, h4, h9, eq_self, ifC_T, ifC_F, and_true, true_and, and_false, false_and, or_true, true_or, or_false, false_or, not_true_eq_false, not_false_eq_true, and_self, or_self, if_true, if_false, reduceIte, reduceCtorEq]
      have eT : wantT t x v = (up4 t 89 false 0 (nN x) v) := by simp only [wantT, h4, h9, eq_self, ifC_T, ifC_F, and_true, true_and, and_false, false_and, or_true, true_or, or_false, false_or, not_true_eq_false, not_false_eq_true, and_self, or_self, if_true, if_false, reduceIte, reduceCtorEq]
      exact ⟨congrArg (fun z => some (Sum.inl z)) (Eq.trans rfl eR.symm), by rw [eT]; exact hK⟩
    · have eR : wantR t x v = (-100) := by simp only [wantR, h4, h9, eq_self, ifC_T, ifC_F, and_true, true_and, and_false, false_and, or_true, true_or, or_false, false_or, not_true_eq_false, not_false_eq_true, and_self, or_self, if_true, if_false, reduceIte, reduceCtorEq]
      have eT : wantT t x v = t := by simp only [wantT, h4, h9, eq_self, ifC_T, ifC_F, and_true, true_and, and_false, false_and, or_true, true_or, or_false, false_or, not_true_eq_false, not_false_eq_true, and_self, or_self, if_true, if_false, reduceIte, reduceCtorEq]
      exact ⟨congrArg (fun z => some (Sum.inl z)) (Eq.trans rfl eR.symm), by rw [eT]; exact hK⟩
theorem lev_t {v : Int32} (h1 : ¬ v < nI 0) (h2 : ¬ nI 5 ≤ v) : inI (nI 0) v (nI 4) := by
  rw [Int32.lt_iff_toInt_lt, nI_toInt (by omega)] at h1
  rw [Int32.le_iff_toInt_le, nI_toInt (by omega)] at h2
  constructor
  · rw [Int32.le_iff_toInt_le, nI_toInt (by omega)]; omega
  · rw [Int32.le_iff_toInt_le, nI_toInt (by omega)]; omega
theorem lev_f1 {v : Int32} (h : v < nI 0) : ¬ inI (nI 0) v (nI 4) := fun q => absurd h (Int32.not_lt.mpr q.1)
theorem lev_f2 {v : Int32} (h : nI 5 ≤ v) : ¬ inI (nI 0) v (nI 4) := fun q => by
  have q2 := q.2
  rw [Int32.le_iff_toInt_le, nI_toInt (by omega)] at h q2
  omega
theorem cv_isLevel {σ : Sg} {v : Int32} : Ev false 12 [.inl v] σ (some (.inl (bD (inI (nI 0) v (nI 4))))) σ := by
  refine Ev_wp 30 [] rfl rfl ?_
  refine ⟨fun h1 => ?_, fun h1 => ?_⟩
  · refine ⟨Or.inl rfl, ?_⟩
    exact ⟨by rw [bD_f (lev_f1 h1)], rfl⟩
  · refine ⟨fun h4 => ?_, fun h4 => ?_⟩
    · refine ⟨Or.inl rfl, ?_⟩
      exact ⟨by rw [bD_f (lev_f2 h4)], rfl⟩
    · refine ⟨Or.inr rfl, ?_⟩
      exact ⟨by rw [bD_t (lev_t h1 h4)], rfl⟩
theorem cv_pair {σ : Sg} {a b : Int32} : Ev false 13 [.inl a, .inl b] σ (some (.inl (nI 5 * a + b))) σ := by
  refine Ev_wp 30 [] rfl rfl ?_
  exact ⟨rfl, rfl⟩
theorem cv_gain {t : Sg} {D : Dy} {Z : Zt} {σ : Sg} (hK : CK t D Z σ) (hT : WN t) {w a b v : Int32} : ∃ σ', Ev false 103 [.inr (.inr (0, false, 0)), .inl (w), .inl (a), .inl (b), .inl (v)] σ (some (.inl (gainR t w a b v))) σ' ∧ CK (gainT t w a b v) D Z σ' := by
  have hC := hK.1.1
  have hP := hT.P
  have hB := hT.B
  have hR := hT.R
  refine EvQ_wp 66 [] rfl rfl ?_
  refine ⟨_, _, cv_in, ?_⟩
  refine brd_eq (fun h4 => ?_) (fun h4 => ?_)
  · have eR : gainR t w a b v = (-100000) := by simp only [gainR, h4, eq_self, ifC_T, ifC_F, and_true, true_and, and_false, false_and, or_true, true_or, or_false, false_or, not_true_eq_false, not_false_eq_true, and_self, or_self, if_true, if_false, reduceIte, reduceCtorEq]
    have eT : gainT t w a b v = t := by simp only [gainT, h4, eq_self, ifC_T, ifC_F, and_true, true_and, and_false, false_and, or_true, true_or, or_false, false_or, not_true_eq_false, not_false_eq_true, and_self, or_self, if_true, if_false, reduceIte, reduceCtorEq]
    exact ⟨congrArg (fun z => some (Sum.inl z)) (Eq.trans rfl eR.symm), by rw [eT]; exact hK⟩
  · refine ⟨_, _, cv_isLevel, ?_⟩
    refine brd_eq (fun h7 => ?_) (fun h7 => ?_)
    · have eR : gainR t w a b v = (-100000) := by simp only [gainR, h4, h7, eq_self, ifC_T, ifC_F, and_true, true_and, and_false, false_and, or_true, true_or, or_false, false_or, not_true_eq_false, not_false_eq_true, and_self, or_self, if_true, if_false, reduceIte, reduceCtorEq]
      have eT : gainT t w a b v = t := by simp only [gainT, h4, h7, eq_self, ifC_T, ifC_F, and_true, true_and, and_false, false_and, or_true, true_or, or_false, false_or, not_true_eq_false, not_false_eq_true, and_self, or_self, if_true, if_false, reduceIte, reduceCtorEq]
      exact ⟨congrArg (fun z => some (Sum.inl z)) (Eq.trans rfl eR.symm), by rw [eT]; exact hK⟩
    · refine ⟨_, _, cv_isLevel, ?_⟩
      refine brd_eq (fun h10 => ?_) (fun h10 => ?_)
      · have eR : gainR t w a b v = (-100000) := by simp only [gainR, h4, h7, h10, eq_self, ifC_T, ifC_F, and_true, true_and, and_false, false_and, or_true, true_or, or_false, false_or, not_true_eq_false, not_false_eq_true, and_self, or_self, if_true, if_false, reduceIte, reduceCtorEq]
        have eT : gainT t w a b v = t := by simp only [gainT, h4, h7, h10, eq_self, ifC_T, ifC_F, and_true, true_and, and_false, false_and, or_true, true_or, or_false, false_or, not_true_eq_false, not_false_eq_true, and_self, or_self, if_true, if_false, reduceIte, reduceCtorEq]
        exact ⟨congrArg (fun z => some (Sum.inl z)) (Eq.trans rfl eR.symm), by rw [eT]; exact hK⟩
      · refine ⟨_, _, cv_in, ?_⟩
        refine brd_ne (fun h15 => ?_) (fun h15 => ?_)
        · have hw := inI_n (by omega) (by omega) h4
          have ha := inI_n (by omega) (by omega) h7
          have hb := inI_n (by omega) (by omega) h10
          have eJ : 25 * nN w + (5 * nN a + nN b) = 25 * nN w + 5 * nN a + nN b := by omega
          refine ⟨nN w, hw.1, (by show _ < 2; omega), _, _, cv_pair, (show nN w < 2 by omega), 5 * nN a + nN b, (add_n (mul_n rfl ha.1) hb.1), (by show _ < 25; omega), (t 90 false 0 (25 * nN w + 5 * nN a + nN b)), ((hC.tr.c57 (nN w) (by omega) (5 * nN a + nN b) (by omega)).trans (by rw [eJ])), nN w, hw.1, (by show _ < 2; omega), _, _, cv_pair, (show nN w < 2 by omega), 5 * nN a + nN b, (add_n (mul_n rfl ha.1) hb.1), (by show _ < 25; omega), _, rfl, ?_⟩
          replace hK := CK_w hK (k := 57) (r := (nN w) + 1) (i := 5 * nN a + nN b) (k' := 90) (j := 25 * (nN w) + (5 * nN a + nN b)) v (mp57 (by omega) (by omega)) (by omega)
          rw [show 25 * (nN w) + (5 * nN a + nN b) = 25 * nN w + 5 * nN a + nN b from eJ] at hK
          have eR : gainR t w a b v = (t 90 false 0 (25 * nN w + 5 * nN a + nN b)) := by simp only [gainR, h4, h7, h10, h15, eq_self, ifC_T, ifC_F, and_true, true_and, and_false, false_and, or_true, true_or, or_false, false_or, not_true_eq_false, not_false_eq_true, and_self, or_self, if_true, if_false, reduceIte, reduceCtorEq]
          have eT : gainT t w a b v = (up4 t 90 false 0 (25 * nN w + 5 * nN a + nN b) v) := by simp only [gainT, h4, h7, h10, h15, eq_self, ifC_T, ifC_F, and_true, true_and, and_false, false_and, or_true, true_or, or_false, false_or, not_true_eq_false, not_false_eq_true, and_self, or_self, if_true, if_false, reduceIte, reduceCtorEq]
          exact ⟨congrArg (fun z => some (Sum.inl z)) (Eq.trans rfl eR.symm), by rw [eT]; exact hK⟩
        · have eR : gainR t w a b v = (-100000) := by simp only [gainR, h4, h7, h10, h15, eq_self, ifC_T, ifC_F, and_true, true_and, and_false, false_and, or_true, true_or, or_false, false_or, not_true_eq_false, not_false_eq_true, and_self, or_self, if_true, if_false, reduceIte, reduceCtorEq]
          have eT : gainT t w a b v = t := by simp only [gainT, h4, h7, h10, h15, eq_self, ifC_T, ifC_F, and_true, true_and, and_false, false_and, or_true, true_or, or_false, false_or, not_true_eq_false, not_false_eq_true, and_self, or_self, if_true, if_false, reduceIte, reduceCtorEq]
          exact ⟨congrArg (fun z => some (Sum.inl z)) (Eq.trans rfl eR.symm), by rw [eT]; exact hK⟩
theorem cv_addSite {t : Sg} {D : Dy} {Z : Zt} {σ : Sg} (hK : CK t D Z σ) (hN : Is (t 69 false 0 31) 12) (h2 : nSi t < 12) {x y : Int32}  : ∃ σ', Ev false 23 [.inr (.inr (59, false, 0)), .inl x, .inl y] σ (some (.inl (nI (nSi t)))) σ' ∧ CK (up4 (up4 (up4 t 91 false 0 (nSi t) x) 92 false 0 (nSi t) y) 69 false 0 31 (nI ((nSi t) + 1))) D Z σ' := by
  have hC := hK.1.1
  have eN : σ 59 false 0 0 = nI (nSi t) := hC.tr.c59_0.trans hN.1
  refine EvQ_wp 60 [] rfl rfl ?_
  refine ⟨nSi t, eN, (by show _ < 12; omega), _, rfl, ?_⟩
  replace hK := CK_w hK (k := 60) (r := 0) (i := nSi t) (k' := 91) (j := nSi t) x (if_pos ⟨rfl, by omega⟩) (by omega)
  refine ⟨nSi t, eN, (by show _ < 12; omega), _, rfl, ?_⟩
  replace hK := CK_w hK (k := 61) (r := 0) (i := nSi t) (k' := 92) (j := nSi t) y (if_pos ⟨rfl, by omega⟩) (by omega)
  refine ⟨nI ((nSi t) + 1), (add_n eN rfl), ?_⟩
  replace hK := CK_w hK (k := 59) (r := 0) (i := 0) (k' := 69) (j := 31) (nI ((nSi t) + 1)) rfl (by omega)
  exact ⟨congrArg (fun z => some (Sum.inl z)) ((sub_n (up4_s _ _ _ _ _ _) rfl (by omega)).trans (by rw [Nat.add_sub_cancel])), hK⟩
theorem cv_addWish {t : Sg} {D : Dy} {Z : Zt} {σ : Sg} (hK : CK t D Z σ) (hN : Is (t 69 false 0 34) 40) (h2 : nWi t < 40) {x y n : Int32}  : ∃ σ', Ev false 24 [.inr (.inr (59, false, 0)), .inl x, .inl y, .inl n] σ (some (.inl (nI (nWi t)))) σ' ∧ CK (up4 (up4 (up4 (up4 t 93 false 0 (nWi t) x) 94 false 0 (nWi t) y) 95 false 0 (nWi t) n) 69 false 0 34 (nI ((nWi t) + 1))) D Z σ' := by
  have hC := hK.1.1
  have eN : σ 59 false 0 1 = nI (nWi t) := hC.tr.c59_1.trans hN.1
  refine EvQ_wp 60 [] rfl rfl ?_
  refine ⟨nWi t, eN, (by show _ < 40; omega), _, rfl, ?_⟩
  replace hK := CK_w hK (k := 62) (r := 0) (i := nWi t) (k' := 93) (j := nWi t) x (if_pos ⟨rfl, by omega⟩) (by omega)
  refine ⟨nWi t, eN, (by show _ < 40; omega), _, rfl, ?_⟩
  replace hK := CK_w hK (k := 63) (r := 0) (i := nWi t) (k' := 94) (j := nWi t) y (if_pos ⟨rfl, by omega⟩) (by omega)
  refine ⟨nWi t, eN, (by show _ < 40; omega), _, rfl, ?_⟩
  replace hK := CK_w hK (k := 64) (r := 0) (i := nWi t) (k' := 95) (j := nWi t) n (if_pos ⟨rfl, by omega⟩) (by omega)
  refine ⟨nI ((nWi t) + 1), (add_n eN rfl), ?_⟩
  replace hK := CK_w hK (k := 59) (r := 0) (i := 1) (k' := 69) (j := 34) (nI ((nWi t) + 1)) rfl (by omega)
  exact ⟨congrArg (fun z => some (Sum.inl z)) ((sub_n (up4_s _ _ _ _ _ _) rfl (by omega)).trans (by rw [Nat.add_sub_cancel])), hK⟩
theorem cv_addTest {t : Sg} {D : Dy} {Z : Zt} {σ : Sg} (hK : CK t D Z σ) (hN : Is (t 69 false 0 38) 60) (h2 : nTe t < 60) {x v : Int32} (hv : v = nI 0 ∨ v = nI 1) : ∃ σ', Ev false 31 [.inr (.inr (66, false, 0)), .inl x, .inl v] σ (some (.inl (nI (nTe t + 1)))) σ' ∧ CK (up4 (up4 (up4 t 96 false 0 (nTe t) x) 97 false 0 (nTe t) v) 69 false 0 38 (nI ((nTe t) + 1))) D Z σ' := by
  have hC := hK.1.1
  have eN : σ 66 false 0 0 = nI (nTe t) := hC.tr.c66_0.trans hN.1
  refine EvQ_wp 60 [] rfl rfl ?_
  refine ⟨nTe t, eN, (by show _ < 60; omega), _, rfl, ?_⟩
  replace hK := CK_w hK (k := 67) (r := 0) (i := nTe t) (k' := 96) (j := nTe t) x (if_pos ⟨rfl, by omega⟩) (by omega)
  refine ⟨nTe t, eN, (by show _ < 60; omega), v, (vp_01 hv), ?_⟩
  replace hK := CK_w hK (k := 68) (r := 0) (i := nTe t) (k' := 97) (j := nTe t) v (if_pos ⟨rfl, by omega⟩) (by omega)
  refine ⟨nI ((nTe t) + 1), (add_n eN rfl), ?_⟩
  replace hK := CK_w hK (k := 66) (r := 0) (i := 0) (k' := 69) (j := 38) (nI ((nTe t) + 1)) rfl (by omega)
  exact ⟨congrArg (fun z => some (Sum.inl z)) ((up4_s _ _ _ _ _ _)), hK⟩
theorem cv_site {t : Sg} {D : Dy} {Z : Zt} {σ : Sg} (hK : CK t D Z σ) (hT : WN t) (hS : Is (t 69 false 0 31) 12) {x y : Int32}  : ∃ σ', Ev false 104 [.inr (.inr (0, false, 0)), .inl (x), .inl (y)] σ (some (.inl (siteR t x y))) σ' ∧ CK (siteT t x y) D Z σ' := by
  have hC := hK.1.1
  have hP := hT.P
  have hB := hT.B
  have hR := hT.R
  have hS2 : nSi t ≤ 12 := hS.2
  have eS : t 69 false 0 31 = nI (nSi t) := hS.1
  refine EvQ_wp 48 [] rfl rfl ?_
  refine ⟨_, _, cv_in, ?_⟩
  refine brd_eq (fun h4 => ?_) (fun h4 => ?_)
  · have eR : siteR t x y = (-2) := by simp only [siteR, h4, eq_self, ifC_T, ifC_F, and_true, true_and, and_false, false_and, or_true, true_or, or_false, false_or, not_true_eq_false, not_false_eq_true, and_self, or_self, if_true, if_false, reduceIte, reduceCtorEq]
    have eT : siteT t x y = t := by simp only [siteT, h4, eq_self, ifC_T, ifC_F, and_true, true_and, and_false, false_and, or_true, true_or, or_false, false_or, not_true_eq_false, not_false_eq_true, and_self, or_self, if_true, if_false, reduceIte, reduceCtorEq]
    exact ⟨congrArg (fun z => some (Sum.inl z)) (Eq.trans rfl eR.symm), by rw [eT]; exact hK⟩
  · refine ⟨_, _, cv_in, ?_⟩
    refine brd_ne (fun h9 => ?_) (fun h9 => ?_)
    · refine br_lt (hC.tr.c59_0.trans eS) rfl (by omega) (by omega) (fun h16 => ?_) (fun h16 => ?_)
      · obtain ⟨σ1, ev1, hK⟩ := cv_addSite hK hS (by omega) (x := x) (y := y)
        refine ⟨_, _, ev1, ?_⟩
        have hz : ¬ nSi t = 12 := by omega
        have eR : siteR t x y = (nI (nSi t)) := by simp only [siteR, h4, h9, hz, eq_self, ifC_T, ifC_F, and_true, true_and, and_false, false_and, or_true, true_or, or_false, false_or, not_true_eq_false, not_false_eq_true, and_self, or_self, if_true, if_false, reduceIte, reduceCtorEq]
        have eT : siteT t x y = (up4 (up4 (up4 t 91 false 0 (nSi t) x) 92 false 0 (nSi t) y) 69 false 0 31 (nI ((nSi t) + 1))) := by simp only [siteT, h4, h9, hz, eq_self, ifC_T, ifC_F, and_true, true_and, and_false, false_and, or_true, true_or, or_false, false_or, not_true_eq_false, not_false_eq_true, and_self, or_self, if_true, if_false, reduceIte, reduceCtorEq]
        exact ⟨congrArg (fun z => some (Sum.inl z)) (Eq.trans rfl eR.symm), by rw [eT]; exact hK⟩
      · have hz : nSi t = 12 := by omega
        have eR : siteR t x y = (-4) := by simp only [siteR, h4, h9, hz, eq_self, ifC_T, ifC_F, and_true, true_and, and_false, false_and, or_true, true_or, or_false, false_or, not_true_eq_false, not_false_eq_true, and_self, or_self, if_true, if_false, reduceIte, reduceCtorEq]
        have eT : siteT t x y = t := by simp only [siteT, h4, h9, hz, eq_self, ifC_T, ifC_F, and_true, true_and, and_false, false_and, or_true, true_or, or_false, false_or, not_true_eq_false, not_false_eq_true, and_self, or_self, if_true, if_false, reduceIte, reduceCtorEq]
        exact ⟨congrArg (fun z => some (Sum.inl z)) (Eq.trans rfl eR.symm), by rw [eT]; exact hK⟩
    · have eR : siteR t x y = (-2) := by simp only [siteR, h4, h9, eq_self, ifC_T, ifC_F, and_true, true_and, and_false, false_and, or_true, true_or, or_false, false_or, not_true_eq_false, not_false_eq_true, and_self, or_self, if_true, if_false, reduceIte, reduceCtorEq]
      have eT : siteT t x y = t := by simp only [siteT, h4, h9, eq_self, ifC_T, ifC_F, and_true, true_and, and_false, false_and, or_true, true_or, or_false, false_or, not_true_eq_false, not_false_eq_true, and_self, or_self, if_true, if_false, reduceIte, reduceCtorEq]
      exact ⟨congrArg (fun z => some (Sum.inl z)) (Eq.trans rfl eR.symm), by rw [eT]; exact hK⟩
theorem cv_wish {t : Sg} {D : Dy} {Z : Zt} {σ : Sg} (hK : CK t D Z σ) (hT : WN t) (hS : Is (t 69 false 0 34) 40) {x y n : Int32}  : ∃ σ', Ev false 105 [.inr (.inr (0, false, 0)), .inl (x), .inl (y), .inl (n)] σ (some (.inl (wishR t x y n))) σ' ∧ CK (wishT t x y n) D Z σ' := by
  have hC := hK.1.1
  have hP := hT.P
  have hB := hT.B
  have hR := hT.R
  have hS2 : nWi t ≤ 40 := hS.2
  have eS : t 69 false 0 34 = nI (nWi t) := hS.1
  refine EvQ_wp 56 [] rfl rfl ?_
  refine ⟨_, _, cv_in, ?_⟩
  refine brd_eq (fun h4 => ?_) (fun h4 => ?_)
  · have eR : wishR t x y n = (-2) := by simp only [wishR, h4, eq_self, ifC_T, ifC_F, and_true, true_and, and_false, false_and, or_true, true_or, or_false, false_or, not_true_eq_false, not_false_eq_true, and_self, or_self, if_true, if_false, reduceIte, reduceCtorEq]
    have eT : wishT t x y n = t := by simp only [wishT, h4, eq_self, ifC_T, ifC_F, and_true, true_and, and_false, false_and, or_true, true_or, or_false, false_or, not_true_eq_false, not_false_eq_true, and_self, or_self, if_true, if_false, reduceIte, reduceCtorEq]
    exact ⟨congrArg (fun z => some (Sum.inl z)) (Eq.trans rfl eR.symm), by rw [eT]; exact hK⟩
  · refine ⟨_, _, cv_in, ?_⟩
    refine brd_eq (fun h9 => ?_) (fun h9 => ?_)
    · have eR : wishR t x y n = (-2) := by simp only [wishR, h4, h9, eq_self, ifC_T, ifC_F, and_true, true_and, and_false, false_and, or_true, true_or, or_false, false_or, not_true_eq_false, not_false_eq_true, and_self, or_self, if_true, if_false, reduceIte, reduceCtorEq]
      have eT : wishT t x y n = t := by simp only [wishT, h4, h9, eq_self, ifC_T, ifC_F, and_true, true_and, and_false, false_and, or_true, true_or, or_false, false_or, not_true_eq_false, not_false_eq_true, and_self, or_self, if_true, if_false, reduceIte, reduceCtorEq]
      exact ⟨congrArg (fun z => some (Sum.inl z)) (Eq.trans rfl eR.symm), by rw [eT]; exact hK⟩
    · refine ⟨_, _, cv_in, ?_⟩
      refine brd_ne (fun h14 => ?_) (fun h14 => ?_)
      · refine br_lt (hC.tr.c59_1.trans eS) rfl (by omega) (by omega) (fun h21 => ?_) (fun h21 => ?_)
        · obtain ⟨σ1, ev1, hK⟩ := cv_addWish hK hS (by omega) (x := x) (y := y) (n := n)
          refine ⟨_, _, ev1, ?_⟩
          have hz : ¬ nWi t = 40 := by omega
          have eR : wishR t x y n = (nI (nWi t)) := by simp only [wishR, h4, h9, h14, hz, eq_self, ifC_T, ifC_F, and_true, true_and, and_false, false_and, or_true, true_or, or_false, false_or, not_true_eq_false, not_false_eq_true, and_self, or_self, if_true, if_false, reduceIte, reduceCtorEq]
          have eT : wishT t x y n = (up4 (up4 (up4 (up4 t 93 false 0 (nWi t) x) 94 false 0 (nWi t) y) 95 false 0 (nWi t) n) 69 false 0 34 (nI ((nWi t) + 1))) := by simp only [wishT, h4, h9, h14, hz, eq_self, ifC_T, ifC_F, and_true, true_and, and_false, false_and, or_true, true_or, or_false, false_or, not_true_eq_false, not_false_eq_true, and_self, or_self, if_true, if_false, reduceIte, reduceCtorEq]
          exact ⟨congrArg (fun z => some (Sum.inl z)) (Eq.trans rfl eR.symm), by rw [eT]; exact hK⟩
        · have hz : nWi t = 40 := by omega
          have eR : wishR t x y n = (-4) := by simp only [wishR, h4, h9, h14, hz, eq_self, ifC_T, ifC_F, and_true, true_and, and_false, false_and, or_true, true_or, or_false, false_or, not_true_eq_false, not_false_eq_true, and_self, or_self, if_true, if_false, reduceIte, reduceCtorEq]
          have eT : wishT t x y n = t := by simp only [wishT, h4, h9, h14, hz, eq_self, ifC_T, ifC_F, and_true, true_and, and_false, false_and, or_true, true_or, or_false, false_or, not_true_eq_false, not_false_eq_true, and_self, or_self, if_true, if_false, reduceIte, reduceCtorEq]
          exact ⟨congrArg (fun z => some (Sum.inl z)) (Eq.trans rfl eR.symm), by rw [eT]; exact hK⟩
      · have eR : wishR t x y n = (-2) := by simp only [wishR, h4, h9, h14, eq_self, ifC_T, ifC_F, and_true, true_and, and_false, false_and, or_true, true_or, or_false, false_or, not_true_eq_false, not_false_eq_true, and_self, or_self, if_true, if_false, reduceIte, reduceCtorEq]
        have eT : wishT t x y n = t := by simp only [wishT, h4, h9, h14, eq_self, ifC_T, ifC_F, and_true, true_and, and_false, false_and, or_true, true_or, or_false, false_or, not_true_eq_false, not_false_eq_true, and_self, or_self, if_true, if_false, reduceIte, reduceCtorEq]
        exact ⟨congrArg (fun z => some (Sum.inl z)) (Eq.trans rfl eR.symm), by rw [eT]; exact hK⟩
theorem cv_test {t : Sg} {D : Dy} {Z : Zt} {σ : Sg} (hK : CK t D Z σ) (hT : WN t) (hS : Is (t 69 false 0 38) 60) {x v : Int32} (hv : v = nI 0 ∨ v = nI 1) : ∃ σ', Ev false 106 [.inr (.inr (0, false, 0)), .inl (x), .inl (v)] σ (some (.inl (testR t x))) σ' ∧ CK (testT t x v) D Z σ' := by
  have hC := hK.1.1
  have hP := hT.P
  have hB := hT.B
  have hR := hT.R
  have hS2 : nTe t ≤ 60 := hS.2
  have eS : t 69 false 0 38 = nI (nTe t) := hS.1
  refine EvQ_wp 41 [] rfl rfl ?_
  refine ⟨_, _, cv_in, ?_⟩
  refine brd_ne (fun h4 => ?_) (fun h4 => ?_)
  · refine br_lt (hC.tr.c66_0.trans eS) rfl (by omega) (by omega) (fun h11 => ?_) (fun h11 => ?_)
    · obtain ⟨σ1, ev1, hK⟩ := cv_addTest hK hS (by omega) (x := x) (v := v) hv
      refine ⟨_, _, ev1, ?_⟩
      have hz : ¬ nTe t = 60 := by omega
      have eR : testR t x = (nI (nTe t + 1)) := by simp only [testR, h4, hz, eq_self, ifC_T, ifC_F, and_true, true_and, and_false, false_and, or_true, true_or, or_false, false_or, not_true_eq_false, not_false_eq_true, and_self, or_self, if_true, if_false, reduceIte, reduceCtorEq]
      have eT : testT t x v = (up4 (up4 (up4 t 96 false 0 (nTe t) x) 97 false 0 (nTe t) v) 69 false 0 38 (nI ((nTe t) + 1))) := by simp only [testT, h4, hz, eq_self, ifC_T, ifC_F, and_true, true_and, and_false, false_and, or_true, true_or, or_false, false_or, not_true_eq_false, not_false_eq_true, and_self, or_self, if_true, if_false, reduceIte, reduceCtorEq]
      exact ⟨congrArg (fun z => some (Sum.inl z)) (Eq.trans rfl eR.symm), by rw [eT]; exact hK⟩
    · have hz : nTe t = 60 := by omega
      have eR : testR t x = (-4) := by simp only [testR, h4, hz, eq_self, ifC_T, ifC_F, and_true, true_and, and_false, false_and, or_true, true_or, or_false, false_or, not_true_eq_false, not_false_eq_true, and_self, or_self, if_true, if_false, reduceIte, reduceCtorEq]
      have eT : testT t x v = t := by simp only [testT, h4, hz, eq_self, ifC_T, ifC_F, and_true, true_and, and_false, false_and, or_true, true_or, or_false, false_or, not_true_eq_false, not_false_eq_true, and_self, or_self, if_true, if_false, reduceIte, reduceCtorEq]
      exact ⟨congrArg (fun z => some (Sum.inl z)) (Eq.trans rfl eR.symm), by rw [eT]; exact hK⟩
  · have eR : testR t x = (-2) := by simp only [testR, h4, eq_self, ifC_T, ifC_F, and_true, true_and, and_false, false_and, or_true, true_or, or_false, false_or, not_true_eq_false, not_false_eq_true, and_self, or_self, if_true, if_false, reduceIte, reduceCtorEq]
    have eT : testT t x v = t := by simp only [testT, h4, eq_self, ifC_T, ifC_F, and_true, true_and, and_false, false_and, or_true, true_or, or_false, false_or, not_true_eq_false, not_false_eq_true, and_self, or_self, if_true, if_false, reduceIte, reduceCtorEq]
    exact ⟨congrArg (fun z => some (Sum.inl z)) (Eq.trans rfl eR.symm), by rw [eT]; exact hK⟩
