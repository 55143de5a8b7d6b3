/-! What is told, on the model's state. -/
noncomputable def ifC {α : Type} (c : Prop) (a b : α) : α := @ite α c (Classical.propDecidable c) a b
theorem ifC_t {α : Type} {c : Prop} {a b : α} (h : c) : ifC c a b = a := if_pos h
theorem ifC_f {α : Type} {c : Prop} {a b : α} (h : ¬ c) : ifC c a b = b := if_neg h
theorem ifC_T {α : Type} (a b : α) : ifC True a b = a := if_pos trivial
theorem ifC_F {α : Type} (a b : α) : ifC False a b = b := if_neg id
def inI (a v b : Int32) : Prop := a ≤ v ∧ v ≤ b
def isPo (t : Sg) (x : Int32) : Prop := ∃ p, x = nI p ∧ p < nP t
def isBk (t : Sg) (x : Int32) : Prop := ∃ p, x = nI p ∧ p < nB t
def isRd (t : Sg) (x : Int32) : Prop := ∃ p, x = nI p ∧ p < nR t
def bgn0 (t : Sg) (D : Dy) : Prop := nI 0 < D 0 0 ∨ nI 0 < t 69 false 0 18
theorem bD_bI {c d : Prop} [Decidable c] (h : c ↔ d) : bI c = bD d := by
  by_cases q : c
  · rw [bI_t q, bD_t (h.mp q)]
  · rw [bI_f q, bD_f (fun z => q (h.mpr z))]
theorem mv_in2 {sd : Bool} {τ : Sg} {v a b : Int32} : Ev sd 45 [.inl v, .inl a, .inl b] τ (some (.inl (bD (inI a v b)))) τ := by
  have h := mv_in (sd := sd) (τ := τ) (v := v) (a := a) (b := b)
  rw [bD_bI (c := a ≤ v ∧ v ≤ b) (d := inI a v b) Iff.rfl] at h
  exact h
theorem mv_in3 {sd : Bool} {τ : Sg} {v a b b' : Int32} (h : b = b') : Ev sd 45 [.inl v, .inl a, .inl b] τ (some (.inl (bD (inI a v b')))) τ := by
  subst h
  exact mv_in2
theorem mv_isPost2 {t : Sg} {D : Dy} {τ : Sg} (hA : Ag t D τ) (hT : WN t) {x : Int32} : Ev true 108 [.inr (.inr (69, false, 0)), .inl x] τ (some (.inl (bD (isPo t x)))) τ := by
  have h := mv_isPost hA (x := x)
  rw [bD_bI (d := isPo t x) (isP_iff hT)] at h
  exact h
theorem mv_isBike2 {t : Sg} {D : Dy} {τ : Sg} (hA : Ag t D τ) (hT : WN t) {x : Int32} : Ev true 109 [.inr (.inr (69, false, 0)), .inl x] τ (some (.inl (bD (isBk t x)))) τ := by
  have h := mv_isBike hA (x := x)
  rw [bD_bI (d := isBk t x) (isK_iff hT)] at h
  exact h
theorem mv_isBegun2 {t : Sg} {D : Dy} {τ : Sg} (hA : Ag t D τ) : Ev true 48 [.inr (.inr (69, false, 0))] τ (some (.inl (bD (bgn0 t D)))) τ := by
  have h := mv_isBegun hA
  rw [bD_bI (c := nI 0 < D 0 0 ∨ nI 0 < t 69 false 0 18) (d := bgn0 t D) Iff.rfl] at h
  exact h
theorem nN_of {x : Int32} {n : Nat} (h : x = nI n) (hn : n < 2147483648) : nN x = n := by rw [h, nN_nI hn]
theorem isPo_n {t : Sg} (hT : WN t) {x : Int32} (h : isPo t x) : x = nI (nN x) ∧ nN x < nP t := by
  obtain ⟨p, e, hp⟩ := h
  have := hT.P
  rw [nN_of e (by omega)]
  exact ⟨e, hp⟩
theorem isBk_n {t : Sg} (hT : WN t) {x : Int32} (h : isBk t x) : x = nI (nN x) ∧ nN x < nB t := by
  obtain ⟨p, e, hp⟩ := h
  have := hT.B
  rw [nN_of e (by omega)]
  exact ⟨e, hp⟩
theorem isRd_n {t : Sg} (hT : WN t) {x : Int32} (h : isRd t x) : x = nI (nN x) ∧ nN x < nR t := by
  obtain ⟨p, e, hp⟩ := h
  have := hT.R
  rw [nN_of e (by omega)]
  exact ⟨e, hp⟩
theorem inI_n {x : Int32} {a b : Nat} (hb : b < 2147483648) (ha : a < 2147483648) (h : inI (nI a) x (nI b)) : x = nI (nN x) ∧ a ≤ nN x ∧ nN x ≤ b := by
  by_cases hab : a ≤ b
  · have h0 : ¬ x < 0 := fun q => by
      have h1 := Int32.le_iff_toInt_le.mp h.1
      have h2 := Int32.lt_iff_toInt_lt.mp q
      rw [nI_toInt (by omega)] at h1
      have h3 : (0 : Int32).toInt = 0 := by decide
      omega
    obtain ⟨j, hj, e⟩ := nI_of2 (M := nI b) (n := b) (nI_toInt (by omega)) h0 h.2
    rw [nN_of e (by omega)]
    exact ⟨e, (nI_leI (by omega) (by omega)).mp (e ▸ h.1), hj⟩
  · exact absurd ((nI_leI ha hb).mp (Int32.le_trans h.1 h.2)) hab
noncomputable def postR (t : Sg) (D : Dy) (x y n : Int32) : Int32 := ifC (inI (nI 0) x (nI 100) ∧ inI (nI 0) y (nI 100) ∧ inI (nI 1) n (nI 20)) (ifC (bgn0 t D) (-3) (ifC (nP t = 12) (-4) (nI (nP t)))) (-2)
noncomputable def postT (t : Sg) (D : Dy) (x y n : Int32) : Sg := ifC (inI (nI 0) x (nI 100) ∧ inI (nI 0) y (nI 100) ∧ inI (nI 1) n (nI 20)) (ifC (bgn0 t D) t (ifC (nP t = 12) t (up4 (up4 (up4 (up4 t 72 false 0 (nP t) x) 73 false 0 (nP t) y) 74 false 0 (nP t) n) 69 false 0 3 (nI (nP t + 1))))) t
theorem mp_post {t : Sg} {D : Dy} {τ : Sg} (hA : Ag t D τ) (hT : WN t) {x y n : Int32}  : ∃ τ', Ev true 110 [.inr (.inr (69, false, 0)), .inl (x), .inl (y), .inl (n)] τ (some (.inl (postR t D x y n))) τ' ∧ Ag (postT t D x y n) (D) τ' := by
  have eP := hA.P hT
  have hP := hT.P
  refine EvQ_wp 84 [] rfl rfl ?_
  refine ⟨_, rfl, ?_⟩
  replace hA := Ag_scr hA (k := 69) (d := false) (i := 0) (j := 0) (v := (nI (0))) (by decide) rfl
  refine ⟨_, _, mv_in2, ?_⟩
  refine brd_eq (fun h7 => ?_) (fun h7 => ?_)
  · have eR : postR t D x y n = (-2) := by
      simp only [postR, postT, h7, ifC_T, ifC_F, and_true, true_and, and_false, false_and, or_true, true_or, or_false, false_or, not_true_eq_false, not_false_eq_true, and_self, or_self, if_true, if_false, reduceIte, reduceCtorEq, Nat.add_sub_cancel]
    have eT : postT t D x y n = t := by simp only [postR, postT, h7, ifC_T, ifC_F, and_true, true_and, and_false, false_and, or_true, true_or, or_false, false_or, not_true_eq_false, not_false_eq_true, and_self, or_self, if_true, if_false, reduceIte, reduceCtorEq, Nat.add_sub_cancel]
    refine ⟨congrArg (fun z => some (Sum.inl z)) (Eq.trans rfl eR.symm), ?_⟩
    rw [eT]
    exact hA
  · refine ⟨_, _, mv_in2, ?_⟩
    refine brd_eq (fun h12 => ?_) (fun h12 => ?_)
    · have eR : postR t D x y n = (-2) := by
        simp only [postR, postT, h7, h12, ifC_T, ifC_F, and_true, true_and, and_false, false_and, or_true, true_or, or_false, false_or, not_true_eq_false, not_false_eq_true, and_self, or_self, if_true, if_false, reduceIte, reduceCtorEq, Nat.add_sub_cancel]
      have eT : postT t D x y n = t := by simp only [postR, postT, h7, h12, ifC_T, ifC_F, and_true, true_and, and_false, false_and, or_true, true_or, or_false, false_or, not_true_eq_false, not_false_eq_true, and_self, or_self, if_true, if_false, reduceIte, reduceCtorEq, Nat.add_sub_cancel]
      refine ⟨congrArg (fun z => some (Sum.inl z)) (Eq.trans rfl eR.symm), ?_⟩
      rw [eT]
      exact hA
    · refine ⟨_, _, mv_in2, ?_⟩
      refine brd_ne (fun h17 => ?_) (fun h17 => ?_)
      · refine ⟨_, _, mv_isBegun2 hA, ?_⟩
        refine brd_eq (fun h22 => ?_) (fun h22 => ?_)
        · refine br_ne eP rfl (by omega) (by omega) (fun h28 => ?_) (fun h28 => ?_)
          · refine ⟨nP t, eP, (by show _ < 12; omega), _, rfl, ?_⟩
            replace hA := Ag_t hA 72 false 0 (nP t) x (by decide)
            refine ⟨nP t, eP, (by show _ < 12; omega), _, rfl, ?_⟩
            replace hA := Ag_t hA 73 false 0 (nP t) y (by decide)
            refine ⟨nP t, eP, (by show _ < 12; omega), _, rfl, ?_⟩
            replace hA := Ag_t hA 74 false 0 (nP t) n (by decide)
            refine ⟨nI ((nP t) + 1), (add_n eP rfl), ?_⟩
            replace hA := Ag_t hA 69 false 0 3 (nI ((nP t) + 1)) (by decide)
            have eR : postR t D x y n = nI (((nP t) + 1) - 1) := by
              simp only [postR, postT, h7, h12, h17, h22, h28, ifC_T, ifC_F, and_true, true_and, and_false, false_and, or_true, true_or, or_false, false_or, not_true_eq_false, not_false_eq_true, and_self, or_self, if_true, if_false, reduceIte, reduceCtorEq, Nat.add_sub_cancel]
            have eT : postT t D x y n = (up4 (up4 (up4 (up4 t 72 false 0 (nP t) x) 73 false 0 (nP t) y) 74 false 0 (nP t) n) 69 false 0 3 (nI ((nP t) + 1))) := by simp only [postR, postT, h7, h12, h17, h22, h28, ifC_T, ifC_F, and_true, true_and, and_false, false_and, or_true, true_or, or_false, false_or, not_true_eq_false, not_false_eq_true, and_self, or_self, if_true, if_false, reduceIte, reduceCtorEq, Nat.add_sub_cancel]
            refine ⟨congrArg (fun z => some (Sum.inl z)) (Eq.trans (sub_n (up4_s _ _ _ _ _ _) rfl (by omega)) eR.symm), ?_⟩
            rw [eT]
            exact hA
          · have eR : postR t D x y n = (-4) := by
              simp only [postR, postT, h7, h12, h17, h22, h28, ifC_T, ifC_F, and_true, true_and, and_false, false_and, or_true, true_or, or_false, false_or, not_true_eq_false, not_false_eq_true, and_self, or_self, if_true, if_false, reduceIte, reduceCtorEq, Nat.add_sub_cancel]
            have eT : postT t D x y n = t := by simp only [postR, postT, h7, h12, h17, h22, h28, ifC_T, ifC_F, and_true, true_and, and_false, false_and, or_true, true_or, or_false, false_or, not_true_eq_false, not_false_eq_true, and_self, or_self, if_true, if_false, reduceIte, reduceCtorEq, Nat.add_sub_cancel]
            refine ⟨congrArg (fun z => some (Sum.inl z)) (Eq.trans rfl eR.symm), ?_⟩
            rw [eT]
            exact hA
        · have eR : postR t D x y n = (-3) := by
            simp only [postR, postT, h7, h12, h17, h22, ifC_T, ifC_F, and_true, true_and, and_false, false_and, or_true, true_or, or_false, false_or, not_true_eq_false, not_false_eq_true, and_self, or_self, if_true, if_false, reduceIte, reduceCtorEq, Nat.add_sub_cancel]
          have eT : postT t D x y n = t := by simp only [postR, postT, h7, h12, h17, h22, ifC_T, ifC_F, and_true, true_and, and_false, false_and, or_true, true_or, or_false, false_or, not_true_eq_false, not_false_eq_true, and_self, or_self, if_true, if_false, reduceIte, reduceCtorEq, Nat.add_sub_cancel]
          refine ⟨congrArg (fun z => some (Sum.inl z)) (Eq.trans rfl eR.symm), ?_⟩
          rw [eT]
          exact hA
      · have eR : postR t D x y n = (-2) := by
          simp only [postR, postT, h7, h12, h17, ifC_T, ifC_F, and_true, true_and, and_false, false_and, or_true, true_or, or_false, false_or, not_true_eq_false, not_false_eq_true, and_self, or_self, if_true, if_false, reduceIte, reduceCtorEq, Nat.add_sub_cancel]
        have eT : postT t D x y n = t := by simp only [postR, postT, h7, h12, h17, ifC_T, ifC_F, and_true, true_and, and_false, false_and, or_true, true_or, or_false, false_or, not_true_eq_false, not_false_eq_true, and_self, or_self, if_true, if_false, reduceIte, reduceCtorEq, Nat.add_sub_cancel]
        refine ⟨congrArg (fun z => some (Sum.inl z)) (Eq.trans rfl eR.symm), ?_⟩
        rw [eT]
        exact hA
noncomputable def bikeR (t : Sg) (D : Dy) (x : Int32) : Int32 := ifC (isPo t x) (ifC (bgn0 t D) (-3) (ifC (fre t D (nN x) = nI 0) (-3) (ifC (nB t = 60) (-4) (nI (nB t))))) (-2)
noncomputable def bikeT (t : Sg) (D : Dy) (x : Int32) : Sg := ifC (isPo t x) (ifC (bgn0 t D) t (ifC (fre t D (nN x) = nI 0) t (ifC (nB t = 60) t (up4 (up4 t 75 false 0 (nB t) x) 69 false 0 7 (nI (nB t + 1)))))) t
noncomputable def bikeD (t : Sg) (D : Dy) (x : Int32) : Dy := ifC (isPo t x) (ifC (bgn0 t D) D (ifC (fre t D (nN x) = nI 0) D (ifC (nB t = 60) D (up2 (up2 (up2 (up2 D 11 (nB t) (nI 0)) 12 (nB t) x) 13 (nB t) (nI 0)) 14 (nB t) (nI 0))))) D
theorem mp_bike {t : Sg} {D : Dy} {τ : Sg} (hA : Ag t D τ) (hT : WN t) {x : Int32}  : ∃ τ', Ev true 149 [.inr (.inr (69, false, 0)), .inl (x)] τ (some (.inl (bikeR t D x))) τ' ∧ Ag (bikeT t D x) (bikeD t D x) τ' := by
  have eB := hA.B hT
  have hB := hT.B
  refine EvQ_wp 95 [] rfl rfl ?_
  refine ⟨_, rfl, ?_⟩
  replace hA := Ag_scr hA (k := 69) (d := false) (i := 0) (j := 0) (v := (nI (0))) (by decide) rfl
  refine ⟨_, _, mv_isPost2 hA hT, ?_⟩
  refine brd_ne (fun h6 => ?_) (fun h6 => ?_)
  · refine ⟨_, _, mv_isBegun2 hA, ?_⟩
    refine brd_ne (fun h11 => ?_) (fun h11 => ?_)
    · have eR : bikeR t D x = (-3) := by
        simp only [bikeR, bikeT, bikeD, h6, h11, ifC_T, ifC_F, and_true, true_and, and_false, false_and, or_true, true_or, or_false, false_or, not_true_eq_false, not_false_eq_true, and_self, or_self, if_true, if_false, reduceIte, reduceCtorEq, Nat.add_sub_cancel]
      have eT : bikeT t D x = t := by simp only [bikeR, bikeT, bikeD, h6, h11, ifC_T, ifC_F, and_true, true_and, and_false, false_and, or_true, true_or, or_false, false_or, not_true_eq_false, not_false_eq_true, and_self, or_self, if_true, if_false, reduceIte, reduceCtorEq, Nat.add_sub_cancel]
      have eD : bikeD t D x = D := by simp only [bikeR, bikeT, bikeD, h6, h11, ifC_T, ifC_F, and_true, true_and, and_false, false_and, or_true, true_or, or_false, false_or, not_true_eq_false, not_false_eq_true, and_self, or_self, if_true, if_false, reduceIte, reduceCtorEq, Nat.add_sub_cancel]
      refine ⟨congrArg (fun z => some (Sum.inl z)) (Eq.trans rfl eR.symm), ?_⟩
      rw [eT, eD]
      exact hA
    · have hx := isPo_n hT h6
      refine ⟨_, _, mv_free hA hT hx.1 hx.2, ?_⟩
      refine ⟨fun h15 => ?_, fun h15 => ?_⟩
      · refine br_ne eB rfl (by omega) (by omega) (fun h21 => ?_) (fun h21 => ?_)
        · refine ⟨nB t, eB, (by show _ < 60; omega), _, rfl, ?_⟩
          replace hA := Ag_t hA 75 false 0 (nB t) x (by decide)
          refine ⟨1232 + (nB t), (add_n rfl eB), (by show _ < 23184; omega), _, rfl, ?_⟩
          replace hA := hA.w11 (nB t) (by omega) (nI (0))
          refine ⟨1292 + (nB t), (add_n rfl eB), (by show _ < 23184; omega), _, rfl, ?_⟩
          replace hA := hA.w12 (nB t) (by omega) x
          refine ⟨1352 + (nB t), (add_n rfl eB), (by show _ < 23184; omega), _, rfl, ?_⟩
          replace hA := hA.w13 (nB t) (by omega) (nI (0))
          refine ⟨1412 + (nB t), (add_n rfl eB), (by show _ < 23184; omega), _, rfl, ?_⟩
          replace hA := hA.w14 (nB t) (by omega) (nI (0))
          refine ⟨nI ((nB t) + 1), (add_n eB rfl), ?_⟩
          replace hA := Ag_t hA 69 false 0 7 (nI ((nB t) + 1)) (by decide)
          have eR : bikeR t D x = nI (((nB t) + 1) - 1) := by
            simp only [bikeR, bikeT, bikeD, h6, h11, h15, h21, ifC_T, ifC_F, and_true, true_and, and_false, false_and, or_true, true_or, or_false, false_or, not_true_eq_false, not_false_eq_true, and_self, or_self, if_true, if_false, reduceIte, reduceCtorEq, Nat.add_sub_cancel]
          have eT : bikeT t D x = (up4 (up4 t 75 false 0 (nB t) x) 69 false 0 7 (nI ((nB t) + 1))) := by simp only [bikeR, bikeT, bikeD, h6, h11, h15, h21, ifC_T, ifC_F, and_true, true_and, and_false, false_and, or_true, true_or, or_false, false_or, not_true_eq_false, not_false_eq_true, and_self, or_self, if_true, if_false, reduceIte, reduceCtorEq, Nat.add_sub_cancel]
          have eD : bikeD t D x = (up2 (up2 (up2 (up2 D 11 (nB t) (nI (0))) 12 (nB t) x) 13 (nB t) (nI (0))) 14 (nB t) (nI (0))) := by simp only [bikeR, bikeT, bikeD, h6, h11, h15, h21, ifC_T, ifC_F, and_true, true_and, and_false, false_and, or_true, true_or, or_false, false_or, not_true_eq_false, not_false_eq_true, and_self, or_self, if_true, if_false, reduceIte, reduceCtorEq, Nat.add_sub_cancel]
          refine ⟨congrArg (fun z => some (Sum.inl z)) (Eq.trans (sub_n (up4_s _ _ _ _ _ _) rfl (by omega)) eR.symm), ?_⟩
          rw [eT, eD]
          exact hA
        · have eR : bikeR t D x = (-4) := by
            simp only [bikeR, bikeT, bikeD, h6, h11, h15, h21, ifC_T, ifC_F, and_true, true_and, and_false, false_and, or_true, true_or, or_false, false_or, not_true_eq_false, not_false_eq_true, and_self, or_self, if_true, if_false, reduceIte, reduceCtorEq, Nat.add_sub_cancel]
          have eT : bikeT t D x = t := by simp only [bikeR, bikeT, bikeD, h6, h11, h15, h21, ifC_T, ifC_F, and_true, true_and, and_false, false_and, or_true, true_or, or_false, false_or, not_true_eq_false, not_false_eq_true, and_self, or_self, if_true, if_false, reduceIte, reduceCtorEq, Nat.add_sub_cancel]
          have eD : bikeD t D x = D := by simp only [bikeR, bikeT, bikeD, h6, h11, h15, h21, ifC_T, ifC_F, and_true, true_and, and_false, false_and, or_true, true_or, or_false, false_or, not_true_eq_false, not_false_eq_true, and_self, or_self, if_true, if_false, reduceIte, reduceCtorEq, Nat.add_sub_cancel]
          refine ⟨congrArg (fun z => some (Sum.inl z)) (Eq.trans rfl eR.symm), ?_⟩
          rw [eT, eD]
          exact hA
      · have eR : bikeR t D x = (-3) := by
          simp only [bikeR, bikeT, bikeD, h6, h11, h15, ifC_T, ifC_F, and_true, true_and, and_false, false_and, or_true, true_or, or_false, false_or, not_true_eq_false, not_false_eq_true, and_self, or_self, if_true, if_false, reduceIte, reduceCtorEq, Nat.add_sub_cancel]
        have eT : bikeT t D x = t := by simp only [bikeR, bikeT, bikeD, h6, h11, h15, ifC_T, ifC_F, and_true, true_and, and_false, false_and, or_true, true_or, or_false, false_or, not_true_eq_false, not_false_eq_true, and_self, or_self, if_true, if_false, reduceIte, reduceCtorEq, Nat.add_sub_cancel]
        have eD : bikeD t D x = D := by simp only [bikeR, bikeT, bikeD, h6, h11, h15, ifC_T, ifC_F, and_true, true_and, and_false, false_and, or_true, true_or, or_false, false_or, not_true_eq_false, not_false_eq_true, and_self, or_self, if_true, if_false, reduceIte, reduceCtorEq, Nat.add_sub_cancel]
        refine ⟨congrArg (fun z => some (Sum.inl z)) (Eq.trans rfl eR.symm), ?_⟩
        rw [eT, eD]
        exact hA
  · have eR : bikeR t D x = (-2) := by
      simp only [bikeR, bikeT, bikeD, h6, ifC_T, ifC_F, and_true, true_and, and_false, false_and, or_true, true_or, or_false, false_or, not_true_eq_false, not_false_eq_true, and_self, or_self, if_true, if_false, reduceIte, reduceCtorEq, Nat.add_sub_cancel]
    have eT : bikeT t D x = t := by simp only [bikeR, bikeT, bikeD, h6, ifC_T, ifC_F, and_true, true_and, and_false, false_and, or_true, true_or, or_false, false_or, not_true_eq_false, not_false_eq_true, and_self, or_self, if_true, if_false, reduceIte, reduceCtorEq, Nat.add_sub_cancel]
    have eD : bikeD t D x = D := by simp only [bikeR, bikeT, bikeD, h6, ifC_T, ifC_F, and_true, true_and, and_false, false_and, or_true, true_or, or_false, false_or, not_true_eq_false, not_false_eq_true, and_self, or_self, if_true, if_false, reduceIte, reduceCtorEq, Nat.add_sub_cancel]
    refine ⟨congrArg (fun z => some (Sum.inl z)) (Eq.trans rfl eR.symm), ?_⟩
    rw [eT, eD]
    exact hA
noncomputable def kindR (k l p : Int32) : Int32 := ifC (inI (nI 0) k (nI 3) ∧ inI (nI 0) l (nI 99) ∧ inI (nI 0) p (nI 60)) (nI 1) (-2)
noncomputable def kindT (t : Sg) (k l p : Int32) : Sg := ifC (inI (nI 0) k (nI 3) ∧ inI (nI 0) l (nI 99) ∧ inI (nI 0) p (nI 60)) (up4 (up4 t 80 false 0 (nN k) l) 81 false 0 (nN k) p) t
theorem mp_kind {t : Sg} {D : Dy} {τ : Sg} (hA : Ag t D τ) (hT : WN t) {k l p : Int32}  : ∃ τ', Ev true 112 [.inr (.inr (69, false, 0)), .inl (k), .inl (l), .inl (p)] τ (some (.inl (kindR k l p))) τ' ∧ Ag (kindT t k l p) (D) τ' := by
  refine EvQ_wp 56 [] rfl rfl ?_
  refine ⟨_, rfl, ?_⟩
  replace hA := Ag_scr hA (k := 69) (d := false) (i := 0) (j := 0) (v := (nI (0))) (by decide) rfl
  refine ⟨_, _, mv_in2, ?_⟩
  refine brd_eq (fun h7 => ?_) (fun h7 => ?_)
  · have eR : kindR k l p = (-2) := by
      simp only [kindR, kindT, h7, ifC_T, ifC_F, and_true, true_and, and_false, false_and, or_true, true_or, or_false, false_or, not_true_eq_false, not_false_eq_true, and_self, or_self, if_true, if_false, reduceIte, reduceCtorEq, Nat.add_sub_cancel]
    have eT : kindT t k l p = t := by simp only [kindR, kindT, h7, ifC_T, ifC_F, and_true, true_and, and_false, false_and, or_true, true_or, or_false, false_or, not_true_eq_false, not_false_eq_true, and_self, or_self, if_true, if_false, reduceIte, reduceCtorEq, Nat.add_sub_cancel]
    refine ⟨congrArg (fun z => some (Sum.inl z)) (Eq.trans rfl eR.symm), ?_⟩
    rw [eT]
    exact hA
  · refine ⟨_, _, mv_in2, ?_⟩
    refine brd_eq (fun h12 => ?_) (fun h12 => ?_)
    · have eR : kindR k l p = (-2) := by
        simp only [kindR, kindT, h7, h12, ifC_T, ifC_F, and_true, true_and, and_false, false_and, or_true, true_or, or_false, false_or, not_true_eq_false, not_false_eq_true, and_self, or_self, if_true, if_false, reduceIte, reduceCtorEq, Nat.add_sub_cancel]
      have eT : kindT t k l p = t := by simp only [kindR, kindT, h7, h12, ifC_T, ifC_F, and_true, true_and, and_false, false_and, or_true, true_or, or_false, false_or, not_true_eq_false, not_false_eq_true, and_self, or_self, if_true, if_false, reduceIte, reduceCtorEq, Nat.add_sub_cancel]
      refine ⟨congrArg (fun z => some (Sum.inl z)) (Eq.trans rfl eR.symm), ?_⟩
      rw [eT]
      exact hA
    · refine ⟨_, _, mv_in2, ?_⟩
      refine brd_ne (fun h17 => ?_) (fun h17 => ?_)
      · have hk := inI_n (by omega) (by omega) h7
        refine ⟨nN k, hk.1, (by show _ < 4; omega), _, rfl, ?_⟩
        replace hA := Ag_t hA 80 false 0 (nN k) l (by decide)
        refine ⟨nN k, hk.1, (by show _ < 4; omega), _, rfl, ?_⟩
        replace hA := Ag_t hA 81 false 0 (nN k) p (by decide)
        have eR : kindR k l p = nI (1) := by
          simp only [kindR, kindT, h7, h12, h17, ifC_T, ifC_F, and_true, true_and, and_false, false_and, or_true, true_or, or_false, false_or, not_true_eq_false, not_false_eq_true, and_self, or_self, if_true, if_false, reduceIte, reduceCtorEq, Nat.add_sub_cancel]
        have eT : kindT t k l p = (up4 (up4 t 80 false 0 (nN k) l) 81 false 0 (nN k) p) := by simp only [kindR, kindT, h7, h12, h17, ifC_T, ifC_F, and_true, true_and, and_false, false_and, or_true, true_or, or_false, false_or, not_true_eq_false, not_false_eq_true, and_self, or_self, if_true, if_false, reduceIte, reduceCtorEq, Nat.add_sub_cancel]
        refine ⟨congrArg (fun z => some (Sum.inl z)) (Eq.trans rfl eR.symm), ?_⟩
        rw [eT]
        exact hA
      · have eR : kindR k l p = (-2) := by
          simp only [kindR, kindT, h7, h12, h17, ifC_T, ifC_F, and_true, true_and, and_false, false_and, or_true, true_or, or_false, false_or, not_true_eq_false, not_false_eq_true, and_self, or_self, if_true, if_false, reduceIte, reduceCtorEq, Nat.add_sub_cancel]
        have eT : kindT t k l p = t := by simp only [kindR, kindT, h7, h12, h17, ifC_T, ifC_F, and_true, true_and, and_false, false_and, or_true, true_or, or_false, false_or, not_true_eq_false, not_false_eq_true, and_self, or_self, if_true, if_false, reduceIte, reduceCtorEq, Nat.add_sub_cancel]
        refine ⟨congrArg (fun z => some (Sum.inl z)) (Eq.trans rfl eR.symm), ?_⟩
        rw [eT]
        exact hA
noncomputable def ridR (t : Sg) (D : Dy) (m p q k : Int32) : Int32 := ifC (inI (nI 0) m (nI 1439) ∧ isPo t p ∧ isPo t q ∧ ¬ p = q ∧ inI (nI 0) k (nI 3)) (ifC (D 0 0 ≤ m) (ifC (nR t = 200) (-4) (nI (nR t))) (-3)) (-2)
noncomputable def ridT (t : Sg) (D : Dy) (m p q k : Int32) : Sg := ifC (inI (nI 0) m (nI 1439) ∧ isPo t p ∧ isPo t q ∧ ¬ p = q ∧ inI (nI 0) k (nI 3)) (ifC (D 0 0 ≤ m) (ifC (nR t = 200) t (up4 (up4 (up4 (up4 (up4 t 76 false 0 (nR t) m) 77 false 0 (nR t) p) 78 false 0 (nR t) q) 79 false 0 (nR t) k) 69 false 0 9 (nI (nR t + 1)))) t) t
noncomputable def ridD (t : Sg) (D : Dy) (m p q k : Int32) : Dy := ifC (inI (nI 0) m (nI 1439) ∧ isPo t p ∧ isPo t q ∧ ¬ p = q ∧ inI (nI 0) k (nI 3)) (ifC (D 0 0 ≤ m) (ifC (nR t = 200) D (tls D (nR t))) D) D
theorem mp_rider {t : Sg} {D : Dy} {τ : Sg} (hA : Ag t D τ) (hT : WN t) {m p q k : Int32}  : ∃ τ', Ev true 150 [.inr (.inr (69, false, 0)), .inl (m), .inl (p), .inl (q), .inl (k)] τ (some (.inl (ridR t D m p q k))) τ' ∧ Ag (ridT t D m p q k) (ridD t D m p q k) τ' := by
  have eR := hA.R hT
  have hR := hT.R
  refine EvQ_wp 107 [] rfl rfl ?_
  refine ⟨_, rfl, ?_⟩
  replace hA := Ag_scr hA (k := 69) (d := false) (i := 0) (j := 0) (v := (nI (0))) (by decide) rfl
  refine ⟨_, _, mv_in2, ?_⟩
  refine brd_eq (fun h7 => ?_) (fun h7 => ?_)
  · have eR : ridR t D m p q k = (-2) := by
      simp only [ridR, ridT, ridD, h7, ifC_T, ifC_F, and_true, true_and, and_false, false_and, or_true, true_or, or_false, false_or, not_true_eq_false, not_false_eq_true, and_self, or_self, if_true, if_false, reduceIte, reduceCtorEq, Nat.add_sub_cancel]
    have eT : ridT t D m p q k = t := by simp only [ridR, ridT, ridD, h7, ifC_T, ifC_F, and_true, true_and, and_false, false_and, or_true, true_or, or_false, false_or, not_true_eq_false, not_false_eq_true, and_self, or_self, if_true, if_false, reduceIte, reduceCtorEq, Nat.add_sub_cancel]
    have eD : ridD t D m p q k = D := by simp only [ridR, ridT, ridD, h7, ifC_T, ifC_F, and_true, true_and, and_false, false_and, or_true, true_or, or_false, false_or, not_true_eq_false, not_false_eq_true, and_self, or_self, if_true, if_false, reduceIte, reduceCtorEq, Nat.add_sub_cancel]
    refine ⟨congrArg (fun z => some (Sum.inl z)) (Eq.trans rfl eR.symm), ?_⟩
    rw [eT, eD]
    exact hA
  · refine ⟨_, _, mv_isPost2 hA hT, ?_⟩
    refine brd_eq (fun h11 => ?_) (fun h11 => ?_)
    · have eR : ridR t D m p q k = (-2) := by
        simp only [ridR, ridT, ridD, h7, h11, ifC_T, ifC_F, and_true, true_and, and_false, false_and, or_true, true_or, or_false, false_or, not_true_eq_false, not_false_eq_true, and_self, or_self, if_true, if_false, reduceIte, reduceCtorEq, Nat.add_sub_cancel]
      have eT : ridT t D m p q k = t := by simp only [ridR, ridT, ridD, h7, h11, ifC_T, ifC_F, and_true, true_and, and_false, false_and, or_true, true_or, or_false, false_or, not_true_eq_false, not_false_eq_true, and_self, or_self, if_true, if_false, reduceIte, reduceCtorEq, Nat.add_sub_cancel]
      have eD : ridD t D m p q k = D := by simp only [ridR, ridT, ridD, h7, h11, ifC_T, ifC_F, and_true, true_and, and_false, false_and, or_true, true_or, or_false, false_or, not_true_eq_false, not_false_eq_true, and_self, or_self, if_true, if_false, reduceIte, reduceCtorEq, Nat.add_sub_cancel]
      refine ⟨congrArg (fun z => some (Sum.inl z)) (Eq.trans rfl eR.symm), ?_⟩
      rw [eT, eD]
      exact hA
    · refine ⟨_, _, mv_isPost2 hA hT, ?_⟩
      refine brd_eq (fun h15 => ?_) (fun h15 => ?_)
      · have eR : ridR t D m p q k = (-2) := by
          simp only [ridR, ridT, ridD, h7, h11, h15, ifC_T, ifC_F, and_true, true_and, and_false, false_and, or_true, true_or, or_false, false_or, not_true_eq_false, not_false_eq_true, and_self, or_self, if_true, if_false, reduceIte, reduceCtorEq, Nat.add_sub_cancel]
        have eT : ridT t D m p q k = t := by simp only [ridR, ridT, ridD, h7, h11, h15, ifC_T, ifC_F, and_true, true_and, and_false, false_and, or_true, true_or, or_false, false_or, not_true_eq_false, not_false_eq_true, and_self, or_self, if_true, if_false, reduceIte, reduceCtorEq, Nat.add_sub_cancel]
        have eD : ridD t D m p q k = D := by simp only [ridR, ridT, ridD, h7, h11, h15, ifC_T, ifC_F, and_true, true_and, and_false, false_and, or_true, true_or, or_false, false_or, not_true_eq_false, not_false_eq_true, and_self, or_self, if_true, if_false, reduceIte, reduceCtorEq, Nat.add_sub_cancel]
        refine ⟨congrArg (fun z => some (Sum.inl z)) (Eq.trans rfl eR.symm), ?_⟩
        rw [eT, eD]
        exact hA
      · refine ⟨fun h18 => ?_, fun h18 => ?_⟩
        · have eR : ridR t D m p q k = (-2) := by
            simp only [ridR, ridT, ridD, h7, h11, h15, h18, ifC_T, ifC_F, and_true, true_and, and_false, false_and, or_true, true_or, or_false, false_or, not_true_eq_false, not_false_eq_true, and_self, or_self, if_true, if_false, reduceIte, reduceCtorEq, Nat.add_sub_cancel]
          have eT : ridT t D m p q k = t := by simp only [ridR, ridT, ridD, h7, h11, h15, h18, ifC_T, ifC_F, and_true, true_and, and_false, false_and, or_true, true_or, or_false, false_or, not_true_eq_false, not_false_eq_true, and_self, or_self, if_true, if_false, reduceIte, reduceCtorEq, Nat.add_sub_cancel]
          have eD : ridD t D m p q k = D := by simp only [ridR, ridT, ridD, h7, h11, h15, h18, ifC_T, ifC_F, and_true, true_and, and_false, false_and, or_true, true_or, or_false, false_or, not_true_eq_false, not_false_eq_true, and_self, or_self, if_true, if_false, reduceIte, reduceCtorEq, Nat.add_sub_cancel]
          refine ⟨congrArg (fun z => some (Sum.inl z)) (Eq.trans rfl eR.symm), ?_⟩
          rw [eT, eD]
          exact hA
        · refine ⟨_, _, mv_in2, ?_⟩
          refine brd_ne (fun h23 => ?_) (fun h23 => ?_)
          · refine ⟨0, rfl, (by show _ < 23184; omega), ?_⟩
            rw [hA.r0 0 (by decide)]
            refine ⟨fun h31 => ?_, fun h31 => ?_⟩
            · refine br_ne eR rfl (by omega) (by omega) (fun h37 => ?_) (fun h37 => ?_)
              · refine ⟨nR t, eR, (by show _ < 200; omega), _, rfl, ?_⟩
                replace hA := Ag_t hA 76 false 0 (nR t) m (by decide)
                refine ⟨nR t, eR, (by show _ < 200; omega), _, rfl, ?_⟩
                replace hA := Ag_t hA 77 false 0 (nR t) p (by decide)
                refine ⟨nR t, eR, (by show _ < 200; omega), _, rfl, ?_⟩
                replace hA := Ag_t hA 78 false 0 (nR t) q (by decide)
                refine ⟨nR t, eR, (by show _ < 200; omega), _, rfl, ?_⟩
                replace hA := Ag_t hA 79 false 0 (nR t) k (by decide)
                obtain ⟨τ1, ev1, hA⟩ := mv_tells hA eR (by omega)
                have eR1 : τ1 69 false 0 9 = nI (nR t) := hA.2 69 _ _ _ (by decide) rfl |>.trans (by simp only [up4_nk (show ¬ (69 : Nat) = 79 by decide), up4_nk (show ¬ (69 : Nat) = 78 by decide), up4_nk (show ¬ (69 : Nat) = 77 by decide), up4_nk (show ¬ (69 : Nat) = 76 by decide)]; exact hT.2.2.1)
                refine ⟨_, _, ev1, ?_⟩
                refine ⟨nI ((nR t) + 1), (add_n eR1 rfl), ?_⟩
                replace hA := Ag_t hA 69 false 0 9 (nI ((nR t) + 1)) (by decide)
                have eR : ridR t D m p q k = nI (((nR t) + 1) - 1) := by
                  simp only [ridR, ridT, ridD, h7, h11, h15, h18, h23, h31, h37, ifC_T, ifC_F, and_true, true_and, and_false, false_and, or_true, true_or, or_false, false_or, not_true_eq_false, not_false_eq_true, and_self, or_self, if_true, if_false, reduceIte, reduceCtorEq, Nat.add_sub_cancel]
                have eT : ridT t D m p q k = (up4 (up4 (up4 (up4 (up4 t 76 false 0 (nR t) m) 77 false 0 (nR t) p) 78 false 0 (nR t) q) 79 false 0 (nR t) k) 69 false 0 9 (nI ((nR t) + 1))) := by simp only [ridR, ridT, ridD, h7, h11, h15, h18, h23, h31, h37, ifC_T, ifC_F, and_true, true_and, and_false, false_and, or_true, true_or, or_false, false_or, not_true_eq_false, not_false_eq_true, and_self, or_self, if_true, if_false, reduceIte, reduceCtorEq, Nat.add_sub_cancel]
                have eD : ridD t D m p q k = (tls D (nR t)) := by simp only [ridR, ridT, ridD, h7, h11, h15, h18, h23, h31, h37, ifC_T, ifC_F, and_true, true_and, and_false, false_and, or_true, true_or, or_false, false_or, not_true_eq_false, not_false_eq_true, and_self, or_self, if_true, if_false, reduceIte, reduceCtorEq, Nat.add_sub_cancel]
                refine ⟨congrArg (fun z => some (Sum.inl z)) (Eq.trans (sub_n (up4_s _ _ _ _ _ _) rfl (by omega)) eR.symm), ?_⟩
                rw [eT, eD]
                exact hA
              · have eR : ridR t D m p q k = (-4) := by
                  simp only [ridR, ridT, ridD, h7, h11, h15, h18, h23, h31, h37, ifC_T, ifC_F, and_true, true_and, and_false, false_and, or_true, true_or, or_false, false_or, not_true_eq_false, not_false_eq_true, and_self, or_self, if_true, if_false, reduceIte, reduceCtorEq, Nat.add_sub_cancel]
                have eT : ridT t D m p q k = t := by simp only [ridR, ridT, ridD, h7, h11, h15, h18, h23, h31, h37, ifC_T, ifC_F, and_true, true_and, and_false, false_and, or_true, true_or, or_false, false_or, not_true_eq_false, not_false_eq_true, and_self, or_self, if_true, if_false, reduceIte, reduceCtorEq, Nat.add_sub_cancel]
                have eD : ridD t D m p q k = D := by simp only [ridR, ridT, ridD, h7, h11, h15, h18, h23, h31, h37, ifC_T, ifC_F, and_true, true_and, and_false, false_and, or_true, true_or, or_false, false_or, not_true_eq_false, not_false_eq_true, and_self, or_self, if_true, if_false, reduceIte, reduceCtorEq, Nat.add_sub_cancel]
                refine ⟨congrArg (fun z => some (Sum.inl z)) (Eq.trans rfl eR.symm), ?_⟩
                rw [eT, eD]
                exact hA
            · have eR : ridR t D m p q k = (-3) := by
                simp only [ridR, ridT, ridD, h7, h11, h15, h18, h23, h31, ifC_T, ifC_F, and_true, true_and, and_false, false_and, or_true, true_or, or_false, false_or, not_true_eq_false, not_false_eq_true, and_self, or_self, if_true, if_false, reduceIte, reduceCtorEq, Nat.add_sub_cancel]
              have eT : ridT t D m p q k = t := by simp only [ridR, ridT, ridD, h7, h11, h15, h18, h23, h31, ifC_T, ifC_F, and_true, true_and, and_false, false_and, or_true, true_or, or_false, false_or, not_true_eq_false, not_false_eq_true, and_self, or_self, if_true, if_false, reduceIte, reduceCtorEq, Nat.add_sub_cancel]
              have eD : ridD t D m p q k = D := by simp only [ridR, ridT, ridD, h7, h11, h15, h18, h23, h31, ifC_T, ifC_F, and_true, true_and, and_false, false_and, or_true, true_or, or_false, false_or, not_true_eq_false, not_false_eq_true, and_self, or_self, if_true, if_false, reduceIte, reduceCtorEq, Nat.add_sub_cancel]
              refine ⟨congrArg (fun z => some (Sum.inl z)) (Eq.trans rfl eR.symm), ?_⟩
              rw [eT, eD]
              exact hA
          · have eR : ridR t D m p q k = (-2) := by
              simp only [ridR, ridT, ridD, h7, h11, h15, h18, h23, ifC_T, ifC_F, and_true, true_and, and_false, false_and, or_true, true_or, or_false, false_or, not_true_eq_false, not_false_eq_true, and_self, or_self, if_true, if_false, reduceIte, reduceCtorEq, Nat.add_sub_cancel]
            have eT : ridT t D m p q k = t := by simp only [ridR, ridT, ridD, h7, h11, h15, h18, h23, ifC_T, ifC_F, and_true, true_and, and_false, false_and, or_true, true_or, or_false, false_or, not_true_eq_false, not_false_eq_true, and_self, or_self, if_true, if_false, reduceIte, reduceCtorEq, Nat.add_sub_cancel]
            have eD : ridD t D m p q k = D := by simp only [ridR, ridT, ridD, h7, h11, h15, h18, h23, ifC_T, ifC_F, and_true, true_and, and_false, false_and, or_true, true_or, or_false, false_or, not_true_eq_false, not_false_eq_true, and_self, or_self, if_true, if_false, reduceIte, reduceCtorEq, Nat.add_sub_cancel]
            refine ⟨congrArg (fun z => some (Sum.inl z)) (Eq.trans rfl eR.symm), ?_⟩
            rw [eT, eD]
            exact hA
noncomputable def shopR (m n : Int32) : Int32 := ifC (inI (nI 1) m (nI 600) ∧ inI (nI 1) n (nI 5000)) (nI 1) (-2)
noncomputable def shopT (t : Sg) (m n : Int32) : Sg := ifC (inI (nI 1) m (nI 600) ∧ inI (nI 1) n (nI 5000)) (up4 (up4 t 69 false 0 16 m) 69 false 0 17 n) t
theorem mp_shop {t : Sg} {D : Dy} {τ : Sg} (hA : Ag t D τ) (hT : WN t) {m n : Int32}  : ∃ τ', Ev true 113 [.inr (.inr (69, false, 0)), .inl (m), .inl (n)] τ (some (.inl (shopR m n))) τ' ∧ Ag (shopT t m n) (D) τ' := by
  refine EvQ_wp 45 [] rfl rfl ?_
  refine ⟨_, rfl, ?_⟩
  replace hA := Ag_scr hA (k := 69) (d := false) (i := 0) (j := 0) (v := (nI (0))) (by decide) rfl
  refine ⟨_, _, mv_in2, ?_⟩
  refine brd_eq (fun h7 => ?_) (fun h7 => ?_)
  · have eR : shopR m n = (-2) := by
      simp only [shopR, shopT, h7, ifC_T, ifC_F, and_true, true_and, and_false, false_and, or_true, true_or, or_false, false_or, not_true_eq_false, not_false_eq_true, and_self, or_self, if_true, if_false, reduceIte, reduceCtorEq, Nat.add_sub_cancel]
    have eT : shopT t m n = t := by simp only [shopR, shopT, h7, ifC_T, ifC_F, and_true, true_and, and_false, false_and, or_true, true_or, or_false, false_or, not_true_eq_false, not_false_eq_true, and_self, or_self, if_true, if_false, reduceIte, reduceCtorEq, Nat.add_sub_cancel]
    refine ⟨congrArg (fun z => some (Sum.inl z)) (Eq.trans rfl eR.symm), ?_⟩
    rw [eT]
    exact hA
  · refine ⟨_, _, mv_in2, ?_⟩
    refine brd_ne (fun h12 => ?_) (fun h12 => ?_)
    · refine ⟨_, rfl, ?_⟩
      replace hA := Ag_t hA 69 false 0 16 m (by decide)
      refine ⟨_, rfl, ?_⟩
      replace hA := Ag_t hA 69 false 0 17 n (by decide)
      have eR : shopR m n = nI (1) := by
        simp only [shopR, shopT, h7, h12, ifC_T, ifC_F, and_true, true_and, and_false, false_and, or_true, true_or, or_false, false_or, not_true_eq_false, not_false_eq_true, and_self, or_self, if_true, if_false, reduceIte, reduceCtorEq, Nat.add_sub_cancel]
      have eT : shopT t m n = (up4 (up4 t 69 false 0 16 m) 69 false 0 17 n) := by simp only [shopR, shopT, h7, h12, ifC_T, ifC_F, and_true, true_and, and_false, false_and, or_true, true_or, or_false, false_or, not_true_eq_false, not_false_eq_true, and_self, or_self, if_true, if_false, reduceIte, reduceCtorEq, Nat.add_sub_cancel]
      refine ⟨congrArg (fun z => some (Sum.inl z)) (Eq.trans rfl eR.symm), ?_⟩
      rw [eT]
      exact hA
    · have eR : shopR m n = (-2) := by
        simp only [shopR, shopT, h7, h12, ifC_T, ifC_F, and_true, true_and, and_false, false_and, or_true, true_or, or_false, false_or, not_true_eq_false, not_false_eq_true, and_self, or_self, if_true, if_false, reduceIte, reduceCtorEq, Nat.add_sub_cancel]
      have eT : shopT t m n = t := by simp only [shopR, shopT, h7, h12, ifC_T, ifC_F, and_true, true_and, and_false, false_and, or_true, true_or, or_false, false_or, not_true_eq_false, not_false_eq_true, and_self, or_self, if_true, if_false, reduceIte, reduceCtorEq, Nat.add_sub_cancel]
      refine ⟨congrArg (fun z => some (Sum.inl z)) (Eq.trans rfl eR.symm), ?_⟩
      rw [eT]
      exact hA
noncomputable def sayR (t : Sg) (x : Int32) : Int32 := ifC (inI (nI 0) x (nI 30)) (ifC (nSaid t = 40) (-4) (nI (nSaid t + 1))) (-2)
noncomputable def sayT (t : Sg) (x : Int32) : Sg := ifC (inI (nI 0) x (nI 30)) (ifC (nSaid t = 40) t (up4 (up4 t 83 false 0 (nSaid t) x) 69 false 0 20 (nI (nSaid t + 1)))) t
theorem mp_say {t : Sg} {D : Dy} {τ : Sg} (hA : Ag t D τ) (hT : WN t) {x : Int32} (hX : TX t) : ∃ τ', Ev true 115 [.inr (.inr (69, false, 0)), .inl (x)] τ (some (.inl (sayR t x))) τ' ∧ Ag (sayT t x) (D) τ' := by
  have eSaid : τ 69 false 0 20 = nI (nSaid t) := (hA.2 69 _ _ _ (by decide) rfl).trans hX.1.1
  have hS : nSaid t ≤ 40 := hX.1.2
  refine EvQ_wp 51 [] rfl rfl ?_
  refine ⟨_, rfl, ?_⟩
  replace hA := Ag_scr hA (k := 69) (d := false) (i := 0) (j := 0) (v := (nI (0))) (by decide) rfl
  refine ⟨_, _, mv_in2, ?_⟩
  refine brd_ne (fun h7 => ?_) (fun h7 => ?_)
  · refine br_ne eSaid rfl (by omega) (by omega) (fun h13 => ?_) (fun h13 => ?_)
    · refine ⟨nSaid t, eSaid, (by show _ < 40; omega), _, rfl, ?_⟩
      replace hA := Ag_t hA 83 false 0 (nSaid t) x (by decide)
      refine ⟨nI ((nSaid t) + 1), (add_n eSaid rfl), ?_⟩
      replace hA := Ag_t hA 69 false 0 20 (nI ((nSaid t) + 1)) (by decide)
      have eR : sayR t x = nI ((nSaid t) + 1) := by
        simp only [sayR, sayT, h7, h13, ifC_T, ifC_F, and_true, true_and, and_false, false_and, or_true, true_or, or_false, false_or, not_true_eq_false, not_false_eq_true, and_self, or_self, if_true, if_false, reduceIte, reduceCtorEq, Nat.add_sub_cancel]
      have eT : sayT t x = (up4 (up4 t 83 false 0 (nSaid t) x) 69 false 0 20 (nI ((nSaid t) + 1))) := by simp only [sayR, sayT, h7, h13, ifC_T, ifC_F, and_true, true_and, and_false, false_and, or_true, true_or, or_false, false_or, not_true_eq_false, not_false_eq_true, and_self, or_self, if_true, if_false, reduceIte, reduceCtorEq, Nat.add_sub_cancel]
      refine ⟨congrArg (fun z => some (Sum.inl z)) (Eq.trans (up4_s _ _ _ _ _ _) eR.symm), ?_⟩
      rw [eT]
      exact hA
    · have eR : sayR t x = (-4) := by
        simp only [sayR, sayT, h7, h13, ifC_T, ifC_F, and_true, true_and, and_false, false_and, or_true, true_or, or_false, false_or, not_true_eq_false, not_false_eq_true, and_self, or_self, if_true, if_false, reduceIte, reduceCtorEq, Nat.add_sub_cancel]
      have eT : sayT t x = t := by simp only [sayR, sayT, h7, h13, ifC_T, ifC_F, and_true, true_and, and_false, false_and, or_true, true_or, or_false, false_or, not_true_eq_false, not_false_eq_true, and_self, or_self, if_true, if_false, reduceIte, reduceCtorEq, Nat.add_sub_cancel]
      refine ⟨congrArg (fun z => some (Sum.inl z)) (Eq.trans rfl eR.symm), ?_⟩
      rw [eT]
      exact hA
  · have eR : sayR t x = (-2) := by
      simp only [sayR, sayT, h7, ifC_T, ifC_F, and_true, true_and, and_false, false_and, or_true, true_or, or_false, false_or, not_true_eq_false, not_false_eq_true, and_self, or_self, if_true, if_false, reduceIte, reduceCtorEq, Nat.add_sub_cancel]
    have eT : sayT t x = t := by simp only [sayR, sayT, h7, ifC_T, ifC_F, and_true, true_and, and_false, false_and, or_true, true_or, or_false, false_or, not_true_eq_false, not_false_eq_true, and_self, or_self, if_true, if_false, reduceIte, reduceCtorEq, Nat.add_sub_cancel]
    refine ⟨congrArg (fun z => some (Sum.inl z)) (Eq.trans rfl eR.symm), ?_⟩
    rw [eT]
    exact hA
noncomputable def hushT (t : Sg) : Sg := up4 t 69 false 0 20 (nI 0)
theorem mp_hush {t : Sg} {D : Dy} {τ : Sg} (hA : Ag t D τ) (hT : WN t) (hX : TX t) : ∃ τ', Ev true 51 [.inr (.inr (69, false, 0))] τ (some (.inl (nI (nSaid t)))) τ' ∧ Ag (hushT t) (D) τ' := by
  have eSaid : τ 69 false 0 20 = nI (nSaid t) := (hA.2 69 _ _ _ (by decide) rfl).trans hX.1.1
  refine EvQ_wp 31 [] rfl rfl ?_
  refine ⟨_, rfl, ?_⟩
  replace hA := Ag_scr hA (k := 69) (d := false) (i := 0) (j := 0) (v := (nI (0))) (by decide) rfl
  refine ⟨nI (nSaid t), eSaid, _, rfl, ?_⟩
  replace hA := Ag_t hA 69 false 0 20 (nI (0)) (by decide)
  exact ⟨rfl, hA⟩
noncomputable def fltR (t : Sg) : Int32 := flR (tx t) (nSaid t) (nSaid t) 0 (0, 0, 0)
theorem mp_fault {t : Sg} {D : Dy} {τ : Sg} (hA : Ag t D τ) (hT : WN t) (hX : TX t) : ∃ τ', Ev true 153 [.inr (.inr (69, false, 0))] τ (some (.inl (fltR t))) τ' ∧ Ag (t) (D) τ' := by
  refine EvQ_wp 26 [] rfl rfl ?_
  refine ⟨_, rfl, ?_⟩
  replace hA := Ag_scr hA (k := 69) (d := false) (i := 0) (j := 0) (v := (nI (0))) (by decide) rfl
  refine ⟨_, _, mv_faultOf hA hX, ?_⟩
  exact ⟨rfl, hA⟩
noncomputable def offR (t : Sg) (k v : Int32) : Int32 := ifC (inI (nI 0) k (t 69 false 0 22 - nI 1)) (ifC (t 86 false 0 (nN k) = v) (-3) (nI 1)) (-2)
noncomputable def offT (t : Sg) (k v : Int32) : Sg := ifC (inI (nI 0) k (t 69 false 0 22 - nI 1)) (ifC (t 86 false 0 (nN k) = v) t (up4 t 86 false 0 (nN k) v)) t
theorem vp_01 {v : Int32} (h : v = nI 0 ∨ v = nI 1) : vp_nar .boolean v = v := by rcases h with h | h <;> rw [h] <;> rfl
theorem off_k {t : Sg} {k : Int32} (hX : XT t) (h : inI (nI 0) k (t 69 false 0 22 - nI 1)) : k = nI (nN k) ∧ nN k < nRu t := by
  have h1 : t 69 false 0 22 = nI (nRu t) := hX.1.1
  have h2 : nRu t ≤ 10 := hX.1.2
  have h3 : nI 0 ≤ k ∧ k ≤ nI (nRu t) - nI 1 := by rw [← h1]; exact h
  obtain ⟨p, e, hp⟩ := (in_lt (by omega)).mp h3
  rw [nN_of e (by omega)]
  exact ⟨e, hp⟩
theorem mp_off {t : Sg} {D : Dy} {τ : Sg} (hA : Ag t D τ) (hT : WN t) {k v : Int32} (hX : XT t) (hv : v = nI 0 ∨ v = nI 1) : ∃ τ', Ev true 117 [.inr (.inr (69, false, 0)), .inl (k), .inl (v)] τ (some (.inl (offR t k v))) τ' ∧ Ag (offT t k v) (D) τ' := by
  have hN : nRu t ≤ 10 := hX.1.2
  refine EvQ_wp 48 [] rfl rfl ?_
  refine ⟨_, rfl, ?_⟩
  replace hA := Ag_scr hA (k := 69) (d := false) (i := 0) (j := 0) (v := (nI (0))) (by decide) rfl
  refine ⟨_, _, mv_in3 (congrArg (fun z => z - nI 1) (hA.2 69 false 0 22 (by decide) rfl)), ?_⟩
  refine brd_ne (fun h10 => ?_) (fun h10 => ?_)
  · have hk := off_k hX h10
    refine ⟨nN k, hk.1, (by show _ < 10; omega), ?_⟩
    rw [hA.2 86 _ _ _ (by decide) rfl]
    refine ⟨fun h18 => ?_, fun h18 => ?_⟩
    · refine ⟨nN k, hk.1, (by show _ < 10; omega), v, (vp_01 hv), ?_⟩
      replace hA := Ag_t hA 86 false 0 (nN k) v (by decide)
      have eR : offR t k v = nI (1) := by
        simp only [offR, offT, h10, h18, ifC_T, ifC_F, and_true, true_and, and_false, false_and, or_true, true_or, or_false, false_or, not_true_eq_false, not_false_eq_true, and_self, or_self, if_true, if_false, reduceIte, reduceCtorEq, Nat.add_sub_cancel]
      have eT : offT t k v = (up4 t 86 false 0 (nN k) v) := by simp only [offR, offT, h10, h18, ifC_T, ifC_F, and_true, true_and, and_false, false_and, or_true, true_or, or_false, false_or, not_true_eq_false, not_false_eq_true, and_self, or_self, if_true, if_false, reduceIte, reduceCtorEq, Nat.add_sub_cancel]
      refine ⟨congrArg (fun z => some (Sum.inl z)) (Eq.trans rfl eR.symm), ?_⟩
      rw [eT]
      exact hA
    · have eR : offR t k v = (-3) := by
        simp only [offR, offT, h10, h18, ifC_T, ifC_F, and_true, true_and, and_false, false_and, or_true, true_or, or_false, false_or, not_true_eq_false, not_false_eq_true, and_self, or_self, if_true, if_false, reduceIte, reduceCtorEq, Nat.add_sub_cancel]
      have eT : offT t k v = t := by simp only [offR, offT, h10, h18, ifC_T, ifC_F, and_true, true_and, and_false, false_and, or_true, true_or, or_false, false_or, not_true_eq_false, not_false_eq_true, and_self, or_self, if_true, if_false, reduceIte, reduceCtorEq, Nat.add_sub_cancel]
      refine ⟨congrArg (fun z => some (Sum.inl z)) (Eq.trans rfl eR.symm), ?_⟩
      rw [eT]
      exact hA
  · have eR : offR t k v = (-2) := by
      simp only [offR, offT, h10, ifC_T, ifC_F, and_true, true_and, and_false, false_and, or_true, true_or, or_false, false_or, not_true_eq_false, not_false_eq_true, and_self, or_self, if_true, if_false, reduceIte, reduceCtorEq, Nat.add_sub_cancel]
    have eT : offT t k v = t := by simp only [offR, offT, h10, ifC_T, ifC_F, and_true, true_and, and_false, false_and, or_true, true_or, or_false, false_or, not_true_eq_false, not_false_eq_true, and_self, or_self, if_true, if_false, reduceIte, reduceCtorEq, Nat.add_sub_cancel]
    refine ⟨congrArg (fun z => some (Sum.inl z)) (Eq.trans rfl eR.symm), ?_⟩
    rw [eT]
    exact hA
noncomputable def wantR (t : Sg) (x v : Int32) : Int32 := ifC (isPo t x ∧ inI (-12) v (nI 12)) (t 89 false 0 (nN x)) (-100)
noncomputable def wantT (t : Sg) (x v : Int32) : Sg := ifC (isPo t x ∧ inI (-12) v (nI 12)) (up4 t 89 false 0 (nN x) v) t
theorem mp_want {t : Sg} {D : Dy} {τ : Sg} (hA : Ag t D τ) (hT : WN t) {x v : Int32}  : ∃ τ', Ev true 166 [.inr (.inr (69, false, 0)), .inl (x), .inl (v)] τ (some (.inl (wantR t x v))) τ' ∧ Ag (wantT t x v) (D) τ' := by
  have hP := hT.P
  refine EvQ_wp 48 [] rfl rfl ?_
  refine ⟨_, rfl, ?_⟩
  replace hA := Ag_scr hA (k := 69) (d := false) (i := 0) (j := 0) (v := (nI (0))) (by decide) rfl
  refine ⟨_, _, mv_isPost2 hA hT, ?_⟩
  refine brd_eq (fun h6 => ?_) (fun h6 => ?_)
  · have eR : wantR t x v = (-100) := by
      simp only [wantR, wantT, h6, ifC_T, ifC_F, and_true, true_and, and_false, false_and, or_true, true_or, or_false, false_or, not_true_eq_false, not_false_eq_true, and_self, or_self, if_true, if_false, reduceIte, reduceCtorEq, Nat.add_sub_cancel]
    have eT : wantT t x v = t := by simp only [wantR, wantT, h6, ifC_T, ifC_F, and_true, true_and, and_false, false_and, or_true, true_or, or_false, false_or, not_true_eq_false, not_false_eq_true, and_self, or_self, if_true, if_false, reduceIte, reduceCtorEq, Nat.add_sub_cancel]
    refine ⟨congrArg (fun z => some (Sum.inl z)) (Eq.trans rfl eR.symm), ?_⟩
    rw [eT]
    exact hA
  · refine ⟨_, _, mv_in2, ?_⟩
    refine brd_ne (fun h11 => ?_) (fun h11 => ?_)
    · have hx := isPo_n hT h6
      refine ⟨nN x, hx.1, (by show _ < 12; omega), ?_⟩
      rw [hA.2 89 _ _ _ (by decide) rfl]
      refine ⟨_, rfl, nN x, hx.1, (by show _ < 12; omega), _, rfl, ?_⟩
      replace hA := Ag_t hA 89 false 0 (nN x) v (by decide)
      have eR : wantR t x v = (t 89 false 0 (nN x)) := by
        simp only [wantR, wantT, h6, h11, ifC_T, ifC_F, and_true, true_and, and_false, false_and, or_true, true_or, or_false, false_or, not_true_eq_false, not_false_eq_true, and_self, or_self, if_true, if_false, reduceIte, reduceCtorEq, Nat.add_sub_cancel]
      have eT : wantT t x v = (up4 t 89 false 0 (nN x) v) := by simp only [wantR, wantT, h6, h11, ifC_T, ifC_F, and_true, true_and, and_false, false_and, or_true, true_or, or_false, false_or, not_true_eq_false, not_false_eq_true, and_self, or_self, if_true, if_false, reduceIte, reduceCtorEq, Nat.add_sub_cancel]
      refine ⟨congrArg (fun z => some (Sum.inl z)) (Eq.trans rfl eR.symm), ?_⟩
      rw [eT]
      exact hA
    · have eR : wantR t x v = (-100) := by
        simp only [wantR, wantT, h6, h11, ifC_T, ifC_F, and_true, true_and, and_false, false_and, or_true, true_or, or_false, false_or, not_true_eq_false, not_false_eq_true, and_self, or_self, if_true, if_false, reduceIte, reduceCtorEq, Nat.add_sub_cancel]
      have eT : wantT t x v = t := by simp only [wantR, wantT, h6, h11, ifC_T, ifC_F, and_true, true_and, and_false, false_and, or_true, true_or, or_false, false_or, not_true_eq_false, not_false_eq_true, and_self, or_self, if_true, if_false, reduceIte, reduceCtorEq, Nat.add_sub_cancel]
      refine ⟨congrArg (fun z => some (Sum.inl z)) (Eq.trans rfl eR.symm), ?_⟩
      rw [eT]
      exact hA
theorem mv_isLevel {sd : Bool} {τ : Sg} {v : Int32} : Ev sd 122 [.inl v] τ (some (.inl (bD (inI (nI 0) v (nI 4))))) τ := by
  refine Ev_wp 30 [] rfl rfl ?_
  exact ⟨_, _, mv_in2, bD_01 _, rfl, rfl⟩
noncomputable def gainR (t : Sg) (w a b v : Int32) : Int32 := ifC (inI (nI 0) w (nI 1) ∧ inI (nI 0) a (nI 4) ∧ inI (nI 0) b (nI 4) ∧ inI (-10000) v (nI 10000)) (t 90 false 0 (25 * nN w + 5 * nN a + nN b)) (-100000)
noncomputable def gainT (t : Sg) (w a b v : Int32) : Sg := ifC (inI (nI 0) w (nI 1) ∧ inI (nI 0) a (nI 4) ∧ inI (nI 0) b (nI 4) ∧ inI (-10000) v (nI 10000)) (up4 t 90 false 0 (25 * nN w + 5 * nN a + nN b) v) t
theorem mp_gain {t : Sg} {D : Dy} {τ : Sg} (hA : Ag t D τ) (hT : WN t) {w a b v : Int32}  : ∃ τ', Ev true 168 [.inr (.inr (69, false, 0)), .inl (w), .inl (a), .inl (b), .inl (v)] τ (some (.inl (gainR t w a b v))) τ' ∧ Ag (gainT t w a b v) (D) τ' := by
  refine EvQ_wp 69 [] rfl rfl ?_
  refine ⟨_, rfl, ?_⟩
  replace hA := Ag_scr hA (k := 69) (d := false) (i := 0) (j := 0) (v := (nI (0))) (by decide) rfl
  refine ⟨_, _, mv_in2, ?_⟩
  refine brd_eq (fun h7 => ?_) (fun h7 => ?_)
  · have eR : gainR t w a b v = (-100000) := by
      simp only [gainR, gainT, h7, ifC_T, ifC_F, and_true, true_and, and_false, false_and, or_true, true_or, or_false, false_or, not_true_eq_false, not_false_eq_true, and_self, or_self, if_true, if_false, reduceIte, reduceCtorEq, Nat.add_sub_cancel]
    have eT : gainT t w a b v = t := by simp only [gainR, gainT, h7, ifC_T, ifC_F, and_true, true_and, and_false, false_and, or_true, true_or, or_false, false_or, not_true_eq_false, not_false_eq_true, and_self, or_self, if_true, if_false, reduceIte, reduceCtorEq, Nat.add_sub_cancel]
    refine ⟨congrArg (fun z => some (Sum.inl z)) (Eq.trans rfl eR.symm), ?_⟩
    rw [eT]
    exact hA
  · refine ⟨_, _, mv_isLevel, ?_⟩
    refine brd_eq (fun h10 => ?_) (fun h10 => ?_)
    · have eR : gainR t w a b v = (-100000) := by
        simp only [gainR, gainT, h7, h10, ifC_T, ifC_F, and_true, true_and, and_false, false_and, or_true, true_or, or_false, false_or, not_true_eq_false, not_false_eq_true, and_self, or_self, if_true, if_false, reduceIte, reduceCtorEq, Nat.add_sub_cancel]
      have eT : gainT t w a b v = t := by simp only [gainR, gainT, h7, h10, ifC_T, ifC_F, and_true, true_and, and_false, false_and, or_true, true_or, or_false, false_or, not_true_eq_false, not_false_eq_true, and_self, or_self, if_true, if_false, reduceIte, reduceCtorEq, Nat.add_sub_cancel]
      refine ⟨congrArg (fun z => some (Sum.inl z)) (Eq.trans rfl eR.symm), ?_⟩
      rw [eT]
      exact hA
    · refine ⟨_, _, mv_isLevel, ?_⟩
      refine brd_eq (fun h13 => ?_) (fun h13 => ?_)
      · have eR : gainR t w a b v = (-100000) := by
          simp only [gainR, gainT, h7, h10, h13, ifC_T, ifC_F, and_true, true_and, and_false, false_and, or_true, true_or, or_false, false_or, not_true_eq_false, not_false_eq_true, and_self, or_self, if_true, if_false, reduceIte, reduceCtorEq, Nat.add_sub_cancel]
        have eT : gainT t w a b v = t := by simp only [gainR, gainT, h7, h10, h13, ifC_T, ifC_F, and_true, true_and, and_false, false_and, or_true, true_or, or_false, false_or, not_true_eq_false, not_false_eq_true, and_self, or_self, if_true, if_false, reduceIte, reduceCtorEq, Nat.add_sub_cancel]
        refine ⟨congrArg (fun z => some (Sum.inl z)) (Eq.trans rfl eR.symm), ?_⟩
        rw [eT]
        exact hA
      · refine ⟨_, _, mv_in2, ?_⟩
        refine brd_ne (fun h18 => ?_) (fun h18 => ?_)
        · have hw := inI_n (by omega) (by omega) h7
          have ha := inI_n (by omega) (by omega) h10
          have hb := inI_n (by omega) (by omega) h13
          refine ⟨nI (25 * nN w + 5 * nN a + nN b), (add_n (add_n (mul_n rfl hw.1) (mul_n rfl ha.1)) hb.1), 25 * nN w + 5 * nN a + nN b, rfl, (by show _ < 50; omega), ?_⟩
          rw [hA.2 90 _ _ _ (by decide) rfl]
          refine ⟨_, rfl, 25 * nN w + 5 * nN a + nN b, rfl, (by show _ < 50; omega), _, rfl, ?_⟩
          replace hA := Ag_t hA 90 false 0 (25 * nN w + 5 * nN a + nN b) v (by decide)
          have eR : gainR t w a b v = (t 90 false 0 (25 * nN w + 5 * nN a + nN b)) := by
            simp only [gainR, gainT, h7, h10, h13, h18, ifC_T, ifC_F, and_true, true_and, and_false, false_and, or_true, true_or, or_false, false_or, not_true_eq_false, not_false_eq_true, and_self, or_self, if_true, if_false, reduceIte, reduceCtorEq, Nat.add_sub_cancel]
          have eT : gainT t w a b v = (up4 t 90 false 0 (25 * nN w + 5 * nN a + nN b) v) := by simp only [gainR, gainT, h7, h10, h13, h18, ifC_T, ifC_F, and_true, true_and, and_false, false_and, or_true, true_or, or_false, false_or, not_true_eq_false, not_false_eq_true, and_self, or_self, if_true, if_false, reduceIte, reduceCtorEq, Nat.add_sub_cancel]
          refine ⟨congrArg (fun z => some (Sum.inl z)) (Eq.trans rfl eR.symm), ?_⟩
          rw [eT]
          exact hA
        · have eR : gainR t w a b v = (-100000) := by
            simp only [gainR, gainT, h7, h10, h13, h18, ifC_T, ifC_F, and_true, true_and, and_false, false_and, or_true, true_or, or_false, false_or, not_true_eq_false, not_false_eq_true, and_self, or_self, if_true, if_false, reduceIte, reduceCtorEq, Nat.add_sub_cancel]
          have eT : gainT t w a b v = t := by simp only [gainR, gainT, h7, h10, h13, h18, ifC_T, ifC_F, and_true, true_and, and_false, false_and, or_true, true_or, or_false, false_or, not_true_eq_false, not_false_eq_true, and_self, or_self, if_true, if_false, reduceIte, reduceCtorEq, Nat.add_sub_cancel]
          refine ⟨congrArg (fun z => some (Sum.inl z)) (Eq.trans rfl eR.symm), ?_⟩
          rw [eT]
          exact hA
noncomputable def siteR (t : Sg) (x y : Int32) : Int32 := ifC (inI (nI 0) x (nI 100) ∧ inI (nI 0) y (nI 100)) (ifC (nSi t = 12) (-4) (nI (nSi t))) (-2)
noncomputable def siteT (t : Sg) (x y : Int32) : Sg := ifC (inI (nI 0) x (nI 100) ∧ inI (nI 0) y (nI 100)) (ifC (nSi t = 12) t (up4 (up4 (up4 t 91 false 0 (nSi t) x) 92 false 0 (nSi t) y) 69 false 0 31 (nI (nSi t + 1)))) t
theorem mp_site {t : Sg} {D : Dy} {τ : Sg} (hA : Ag t D τ) (hT : WN t) {x y : Int32} (hS : Is (t 69 false 0 31) 12) : ∃ τ', Ev true 124 [.inr (.inr (69, false, 0)), .inl (x), .inl (y)] τ (some (.inl (siteR t x y))) τ' ∧ Ag (siteT t x y) (D) τ' := by
  have eSi : τ 69 false 0 31 = nI (nSi t) := (hA.2 69 _ _ _ (by decide) rfl).trans hS.1
  have hS2 : nSi t ≤ 12 := hS.2
  refine EvQ_wp 66 [] rfl rfl ?_
  refine ⟨_, rfl, ?_⟩
  replace hA := Ag_scr hA (k := 69) (d := false) (i := 0) (j := 0) (v := (nI (0))) (by decide) rfl
  refine ⟨_, _, mv_in2, ?_⟩
  refine brd_eq (fun h7 => ?_) (fun h7 => ?_)
  · have eR : siteR t x y = (-2) := by
      simp only [siteR, siteT, h7, ifC_T, ifC_F, and_true, true_and, and_false, false_and, or_true, true_or, or_false, false_or, not_true_eq_false, not_false_eq_true, and_self, or_self, if_true, if_false, reduceIte, reduceCtorEq, Nat.add_sub_cancel]
    have eT : siteT t x y = t := by simp only [siteR, siteT, h7, ifC_T, ifC_F, and_true, true_and, and_false, false_and, or_true, true_or, or_false, false_or, not_true_eq_false, not_false_eq_true, and_self, or_self, if_true, if_false, reduceIte, reduceCtorEq, Nat.add_sub_cancel]
    refine ⟨congrArg (fun z => some (Sum.inl z)) (Eq.trans rfl eR.symm), ?_⟩
    rw [eT]
    exact hA
  · refine ⟨_, _, mv_in2, ?_⟩
    refine brd_ne (fun h12 => ?_) (fun h12 => ?_)
    · refine br_ne eSi rfl (by omega) (by omega) (fun h18 => ?_) (fun h18 => ?_)
      · refine ⟨nSi t, eSi, (by show _ < 12; omega), _, rfl, ?_⟩
        replace hA := Ag_t hA 91 false 0 (nSi t) x (by decide)
        refine ⟨nSi t, eSi, (by show _ < 12; omega), _, rfl, ?_⟩
        replace hA := Ag_t hA 92 false 0 (nSi t) y (by decide)
        refine ⟨nI ((nSi t) + 1), (add_n eSi rfl), ?_⟩
        replace hA := Ag_t hA 69 false 0 31 (nI ((nSi t) + 1)) (by decide)
        have eR : siteR t x y = nI (((nSi t) + 1) - 1) := by
          simp only [siteR, siteT, h7, h12, h18, ifC_T, ifC_F, and_true, true_and, and_false, false_and, or_true, true_or, or_false, false_or, not_true_eq_false, not_false_eq_true, and_self, or_self, if_true, if_false, reduceIte, reduceCtorEq, Nat.add_sub_cancel]
        have eT : siteT t x y = (up4 (up4 (up4 t 91 false 0 (nSi t) x) 92 false 0 (nSi t) y) 69 false 0 31 (nI ((nSi t) + 1))) := by simp only [siteR, siteT, h7, h12, h18, ifC_T, ifC_F, and_true, true_and, and_false, false_and, or_true, true_or, or_false, false_or, not_true_eq_false, not_false_eq_true, and_self, or_self, if_true, if_false, reduceIte, reduceCtorEq, Nat.add_sub_cancel]
        refine ⟨congrArg (fun z => some (Sum.inl z)) (Eq.trans (sub_n (up4_s _ _ _ _ _ _) rfl (by omega)) eR.symm), ?_⟩
        rw [eT]
        exact hA
      · have eR : siteR t x y = (-4) := by
          simp only [siteR, siteT, h7, h12, h18, ifC_T, ifC_F, and_true, true_and, and_false, false_and, or_true, true_or, or_false, false_or, not_true_eq_false, not_false_eq_true, and_self, or_self, if_true, if_false, reduceIte, reduceCtorEq, Nat.add_sub_cancel]
        have eT : siteT t x y = t := by simp only [siteR, siteT, h7, h12, h18, ifC_T, ifC_F, and_true, true_and, and_false, false_and, or_true, true_or, or_false, false_or, not_true_eq_false, not_false_eq_true, and_self, or_self, if_true, if_false, reduceIte, reduceCtorEq, Nat.add_sub_cancel]
        refine ⟨congrArg (fun z => some (Sum.inl z)) (Eq.trans rfl eR.symm), ?_⟩
        rw [eT]
        exact hA
    · have eR : siteR t x y = (-2) := by
        simp only [siteR, siteT, h7, h12, ifC_T, ifC_F, and_true, true_and, and_false, false_and, or_true, true_or, or_false, false_or, not_true_eq_false, not_false_eq_true, and_self, or_self, if_true, if_false, reduceIte, reduceCtorEq, Nat.add_sub_cancel]
      have eT : siteT t x y = t := by simp only [siteR, siteT, h7, h12, ifC_T, ifC_F, and_true, true_and, and_false, false_and, or_true, true_or, or_false, false_or, not_true_eq_false, not_false_eq_true, and_self, or_self, if_true, if_false, reduceIte, reduceCtorEq, Nat.add_sub_cancel]
      refine ⟨congrArg (fun z => some (Sum.inl z)) (Eq.trans rfl eR.symm), ?_⟩
      rw [eT]
      exact hA
noncomputable def wishR (t : Sg) (x y n : Int32) : Int32 := ifC (inI (nI 0) x (nI 100) ∧ inI (nI 0) y (nI 100) ∧ inI (nI 1) n (nI 100)) (ifC (nWi t = 40) (-4) (nI (nWi t))) (-2)
noncomputable def wishT (t : Sg) (x y n : Int32) : Sg := ifC (inI (nI 0) x (nI 100) ∧ inI (nI 0) y (nI 100) ∧ inI (nI 1) n (nI 100)) (ifC (nWi t = 40) t (up4 (up4 (up4 (up4 t 93 false 0 (nWi t) x) 94 false 0 (nWi t) y) 95 false 0 (nWi t) n) 69 false 0 34 (nI (nWi t + 1)))) t
theorem mp_wish {t : Sg} {D : Dy} {τ : Sg} (hA : Ag t D τ) (hT : WN t) {x y n : Int32} (hS : Is (t 69 false 0 34) 40) : ∃ τ', Ev true 125 [.inr (.inr (69, false, 0)), .inl (x), .inl (y), .inl (n)] τ (some (.inl (wishR t x y n))) τ' ∧ Ag (wishT t x y n) (D) τ' := by
  have eWi : τ 69 false 0 34 = nI (nWi t) := (hA.2 69 _ _ _ (by decide) rfl).trans hS.1
  have hS2 : nWi t ≤ 40 := hS.2
  refine EvQ_wp 79 [] rfl rfl ?_
  refine ⟨_, rfl, ?_⟩
  replace hA := Ag_scr hA (k := 69) (d := false) (i := 0) (j := 0) (v := (nI (0))) (by decide) rfl
  refine ⟨_, _, mv_in2, ?_⟩
  refine brd_eq (fun h7 => ?_) (fun h7 => ?_)
  · have eR : wishR t x y n = (-2) := by
      simp only [wishR, wishT, h7, ifC_T, ifC_F, and_true, true_and, and_false, false_and, or_true, true_or, or_false, false_or, not_true_eq_false, not_false_eq_true, and_self, or_self, if_true, if_false, reduceIte, reduceCtorEq, Nat.add_sub_cancel]
    have eT : wishT t x y n = t := by simp only [wishR, wishT, h7, ifC_T, ifC_F, and_true, true_and, and_false, false_and, or_true, true_or, or_false, false_or, not_true_eq_false, not_false_eq_true, and_self, or_self, if_true, if_false, reduceIte, reduceCtorEq, Nat.add_sub_cancel]
    refine ⟨congrArg (fun z => some (Sum.inl z)) (Eq.trans rfl eR.symm), ?_⟩
    rw [eT]
    exact hA
  · refine ⟨_, _, mv_in2, ?_⟩
    refine brd_eq (fun h12 => ?_) (fun h12 => ?_)
    · have eR : wishR t x y n = (-2) := by
        simp only [wishR, wishT, h7, h12, ifC_T, ifC_F, and_true, true_and, and_false, false_and, or_true, true_or, or_false, false_or, not_true_eq_false, not_false_eq_true, and_self, or_self, if_true, if_false, reduceIte, reduceCtorEq, Nat.add_sub_cancel]
      have eT : wishT t x y n = t := by simp only [wishR, wishT, h7, h12, ifC_T, ifC_F, and_true, true_and, and_false, false_and, or_true, true_or, or_false, false_or, not_true_eq_false, not_false_eq_true, and_self, or_self, if_true, if_false, reduceIte, reduceCtorEq, Nat.add_sub_cancel]
      refine ⟨congrArg (fun z => some (Sum.inl z)) (Eq.trans rfl eR.symm), ?_⟩
      rw [eT]
      exact hA
    · refine ⟨_, _, mv_in2, ?_⟩
      refine brd_ne (fun h17 => ?_) (fun h17 => ?_)
      · refine br_ne eWi rfl (by omega) (by omega) (fun h23 => ?_) (fun h23 => ?_)
        · refine ⟨nWi t, eWi, (by show _ < 40; omega), _, rfl, ?_⟩
          replace hA := Ag_t hA 93 false 0 (nWi t) x (by decide)
          refine ⟨nWi t, eWi, (by show _ < 40; omega), _, rfl, ?_⟩
          replace hA := Ag_t hA 94 false 0 (nWi t) y (by decide)
          refine ⟨nWi t, eWi, (by show _ < 40; omega), _, rfl, ?_⟩
          replace hA := Ag_t hA 95 false 0 (nWi t) n (by decide)
          refine ⟨nI ((nWi t) + 1), (add_n eWi rfl), ?_⟩
          replace hA := Ag_t hA 69 false 0 34 (nI ((nWi t) + 1)) (by decide)
          have eR : wishR t x y n = nI (((nWi t) + 1) - 1) := by
            simp only [wishR, wishT, h7, h12, h17, h23, ifC_T, ifC_F, and_true, true_and, and_false, false_and, or_true, true_or, or_false, false_or, not_true_eq_false, not_false_eq_true, and_self, or_self, if_true, if_false, reduceIte, reduceCtorEq, Nat.add_sub_cancel]
          have eT : wishT t x y n = (up4 (up4 (up4 (up4 t 93 false 0 (nWi t) x) 94 false 0 (nWi t) y) 95 false 0 (nWi t) n) 69 false 0 34 (nI ((nWi t) + 1))) := by simp only [wishR, wishT, h7, h12, h17, h23, ifC_T, ifC_F, and_true, true_and, and_false, false_and, or_true, true_or, or_false, false_or, not_true_eq_false, not_false_eq_true, and_self, or_self, if_true, if_false, reduceIte, reduceCtorEq, Nat.add_sub_cancel]
          refine ⟨congrArg (fun z => some (Sum.inl z)) (Eq.trans (sub_n (up4_s _ _ _ _ _ _) rfl (by omega)) eR.symm), ?_⟩
          rw [eT]
          exact hA
        · have eR : wishR t x y n = (-4) := by
            simp only [wishR, wishT, h7, h12, h17, h23, ifC_T, ifC_F, and_true, true_and, and_false, false_and, or_true, true_or, or_false, false_or, not_true_eq_false, not_false_eq_true, and_self, or_self, if_true, if_false, reduceIte, reduceCtorEq, Nat.add_sub_cancel]
          have eT : wishT t x y n = t := by simp only [wishR, wishT, h7, h12, h17, h23, ifC_T, ifC_F, and_true, true_and, and_false, false_and, or_true, true_or, or_false, false_or, not_true_eq_false, not_false_eq_true, and_self, or_self, if_true, if_false, reduceIte, reduceCtorEq, Nat.add_sub_cancel]
          refine ⟨congrArg (fun z => some (Sum.inl z)) (Eq.trans rfl eR.symm), ?_⟩
          rw [eT]
          exact hA
      · have eR : wishR t x y n = (-2) := by
          simp only [wishR, wishT, h7, h12, h17, ifC_T, ifC_F, and_true, true_and, and_false, false_and, or_true, true_or, or_false, false_or, not_true_eq_false, not_false_eq_true, and_self, or_self, if_true, if_false, reduceIte, reduceCtorEq, Nat.add_sub_cancel]
        have eT : wishT t x y n = t := by simp only [wishR, wishT, h7, h12, h17, ifC_T, ifC_F, and_true, true_and, and_false, false_and, or_true, true_or, or_false, false_or, not_true_eq_false, not_false_eq_true, and_self, or_self, if_true, if_false, reduceIte, reduceCtorEq, Nat.add_sub_cancel]
        refine ⟨congrArg (fun z => some (Sum.inl z)) (Eq.trans rfl eR.symm), ?_⟩
        rw [eT]
        exact hA
noncomputable def testR (t : Sg) (x : Int32) : Int32 := ifC (inI (nI 0) x (nI 100)) (ifC (nTe t = 60) (-4) (nI (nTe t + 1))) (-2)
noncomputable def testT (t : Sg) (x v : Int32) : Sg := ifC (inI (nI 0) x (nI 100)) (ifC (nTe t = 60) t (up4 (up4 (up4 t 96 false 0 (nTe t) x) 97 false 0 (nTe t) v) 69 false 0 38 (nI (nTe t + 1)))) t
theorem mp_test {t : Sg} {D : Dy} {τ : Sg} (hA : Ag t D τ) (hT : WN t) {x v : Int32} (hS : Is (t 69 false 0 38) 60) (hv : v = nI 0 ∨ v = nI 1) : ∃ τ', Ev true 127 [.inr (.inr (69, false, 0)), .inl (x), .inl (v)] τ (some (.inl (testR t x))) τ' ∧ Ag (testT t x v) (D) τ' := by
  have eTe : τ 69 false 0 38 = nI (nTe t) := (hA.2 69 _ _ _ (by decide) rfl).trans hS.1
  have hS2 : nTe t ≤ 60 := hS.2
  refine EvQ_wp 57 [] rfl rfl ?_
  refine ⟨_, rfl, ?_⟩
  replace hA := Ag_scr hA (k := 69) (d := false) (i := 0) (j := 0) (v := (nI (0))) (by decide) rfl
  refine ⟨_, _, mv_in2, ?_⟩
  refine brd_ne (fun h7 => ?_) (fun h7 => ?_)
  · refine br_ne eTe rfl (by omega) (by omega) (fun h13 => ?_) (fun h13 => ?_)
    · refine ⟨nTe t, eTe, (by show _ < 60; omega), _, rfl, ?_⟩
      replace hA := Ag_t hA 96 false 0 (nTe t) x (by decide)
      refine ⟨nTe t, eTe, (by show _ < 60; omega), v, (vp_01 hv), ?_⟩
      replace hA := Ag_t hA 97 false 0 (nTe t) v (by decide)
      refine ⟨nI ((nTe t) + 1), (add_n eTe rfl), ?_⟩
      replace hA := Ag_t hA 69 false 0 38 (nI ((nTe t) + 1)) (by decide)
      have eR : testR t x = nI ((nTe t) + 1) := by
        simp only [testR, testT, h7, h13, ifC_T, ifC_F, and_true, true_and, and_false, false_and, or_true, true_or, or_false, false_or, not_true_eq_false, not_false_eq_true, and_self, or_self, if_true, if_false, reduceIte, reduceCtorEq, Nat.add_sub_cancel]
      have eT : testT t x v = (up4 (up4 (up4 t 96 false 0 (nTe t) x) 97 false 0 (nTe t) v) 69 false 0 38 (nI ((nTe t) + 1))) := by simp only [testR, testT, h7, h13, ifC_T, ifC_F, and_true, true_and, and_false, false_and, or_true, true_or, or_false, false_or, not_true_eq_false, not_false_eq_true, and_self, or_self, if_true, if_false, reduceIte, reduceCtorEq, Nat.add_sub_cancel]
      refine ⟨congrArg (fun z => some (Sum.inl z)) (Eq.trans (up4_s _ _ _ _ _ _) eR.symm), ?_⟩
      rw [eT]
      exact hA
    · have eR : testR t x = (-4) := by
        simp only [testR, testT, h7, h13, ifC_T, ifC_F, and_true, true_and, and_false, false_and, or_true, true_or, or_false, false_or, not_true_eq_false, not_false_eq_true, and_self, or_self, if_true, if_false, reduceIte, reduceCtorEq, Nat.add_sub_cancel]
      have eT : testT t x v = t := by simp only [testR, testT, h7, h13, ifC_T, ifC_F, and_true, true_and, and_false, false_and, or_true, true_or, or_false, false_or, not_true_eq_false, not_false_eq_true, and_self, or_self, if_true, if_false, reduceIte, reduceCtorEq, Nat.add_sub_cancel]
      refine ⟨congrArg (fun z => some (Sum.inl z)) (Eq.trans rfl eR.symm), ?_⟩
      rw [eT]
      exact hA
  · have eR : testR t x = (-2) := by
      simp only [testR, testT, h7, ifC_T, ifC_F, and_true, true_and, and_false, false_and, or_true, true_or, or_false, false_or, not_true_eq_false, not_false_eq_true, and_self, or_self, if_true, if_false, reduceIte, reduceCtorEq, Nat.add_sub_cancel]
    have eT : testT t x v = t := by simp only [testR, testT, h7, ifC_T, ifC_F, and_true, true_and, and_false, false_and, or_true, true_or, or_false, false_or, not_true_eq_false, not_false_eq_true, and_self, or_self, if_true, if_false, reduceIte, reduceCtorEq, Nat.add_sub_cancel]
    refine ⟨congrArg (fun z => some (Sum.inl z)) (Eq.trans rfl eR.symm), ?_⟩
    rw [eT]
    exact hA
