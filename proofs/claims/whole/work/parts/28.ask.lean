/-! Public methods of the model: rules, by hand, what is asked. -/
def rulC (t : Sg) (n : Nat) : Sg := fun k d i j => if k = 85 ∧ d = false ∧ i = 0 ∧ 40 * nRu t ≤ j ∧ j < 40 * nRu t + n then t 83 false 0 (j - 40 * nRu t) else t k d i j
theorem rulC_0 (t : Sg) : rulC t 0 = t := by
  funext k d i j
  unfold rulC
  rw [if_neg (by omega)]
theorem rulC_o {t : Sg} {n k : Nat} {d : Bool} {i j : Nat} (h : ¬ k = 85) : rulC t n k d i j = t k d i j := if_neg (fun q => h q.1)
theorem rulC_S (t : Sg) (n : Nat) : rulC t (n + 1) = up4 (rulC t n) 85 false 0 (40 * nRu t + n) (t 83 false 0 n) := by
  funext k d i j
  show (if k = 85 ∧ d = false ∧ i = 0 ∧ 40 * nRu t ≤ j ∧ j < 40 * nRu t + (n + 1) then t 83 false 0 (j - 40 * nRu t) else t k d i j) = (if k = 85 ∧ d = false ∧ i = 0 ∧ j = 40 * nRu t + n then t 83 false 0 n else if k = 85 ∧ d = false ∧ i = 0 ∧ 40 * nRu t ≤ j ∧ j < 40 * nRu t + n then t 83 false 0 (j - 40 * nRu t) else t k d i j)
  by_cases h : k = 85 ∧ d = false ∧ i = 0
  · obtain ⟨rfl, rfl, rfl⟩ := h
    by_cases e : j = 40 * nRu t + n
    · subst e
      rw [if_pos ⟨rfl, rfl, rfl, by omega, by omega⟩, if_pos ⟨rfl, rfl, rfl, rfl⟩]
      congr 1
      omega
    · rw [if_neg (c := _ ∧ _ ∧ _ ∧ j = _) (fun q => e q.2.2.2)]
      by_cases e2 : 40 * nRu t ≤ j ∧ j < 40 * nRu t + n
      · rw [if_pos ⟨rfl, rfl, rfl, by omega, by omega⟩, if_pos ⟨rfl, rfl, rfl, e2⟩]
      · rw [if_neg (fun q => e2 ⟨q.2.2.2.1, by omega⟩), if_neg (fun q => e2 q.2.2.2)]
  · rw [if_neg (fun q => h ⟨q.1, q.2.1, q.2.2.1⟩), if_neg (fun q => h ⟨q.1, q.2.1, q.2.2.1⟩), if_neg (fun q => h ⟨q.1, q.2.1, q.2.2.1⟩)]
def rulN (t : Sg) : Sg := up4 (up4 (up4 (rulC t (nSaid t)) 84 false 0 (nRu t) (nI (nSaid t))) 86 false 0 (nRu t) (nI 0)) 69 false 0 22 (nI (nRu t + 1))
theorem mv_faultR {t : Sg} {D : Dy} {τ : Sg} (hA : Ag t D τ) (hX : TX t) : Ev true 116 [.inr (.inr (69, false, 0))] τ (some (.inl (fltR t))) τ := mv_faultOf hA hX
theorem mv_rule_l {t : Sg} {D : Dy} {P : Option AV → Sg → Prop} (hX : XT t) (hT2 : TX t) (h10 : nRu t < 10) (hK : ∀ τ, Ag (rulC t (nSaid t)) D τ → G true 154 P 36 [some (.inr (.inr (69, false, 0))), none] [] τ) : ∀ (j k : Nat), k + j = nSaid t → ∀ τ, Ag (rulC t k) D τ → G true 154 P 17 [some (.inr (.inr (69, false, 0))), some (.inl (nI k))] [] τ := by
  have hS := hT2.1.2
  have hS2 : nSaid t ≤ 40 := hS
  intro j
  induction j with
  | zero =>
    intro k hk τ hA
    have eSaid : τ 69 false 0 20 = nI (nSaid t) := (hA.2 69 _ _ _ (by decide) rfl).trans ((rulC_o (by decide)).trans hT2.1.1)
    have eRu : τ 69 false 0 22 = nI (nRu t) := (hA.2 69 _ _ _ (by decide) rfl).trans ((rulC_o (by decide)).trans hX.1.1)
    refine G_wp 60 [17, 36] rfl ?_
    refine br_ge rfl eSaid (by omega) (by omega) (fun h20 => ?_) (fun h20 => ?_)
    · rw [show k = nSaid t by omega] at hA
      exact G_fg 1 (hK _ hA)
    · exact absurd h20 (by omega)
  | succ j ih =>
    intro k hk τ hA
    have eSaid : τ 69 false 0 20 = nI (nSaid t) := (hA.2 69 _ _ _ (by decide) rfl).trans ((rulC_o (by decide)).trans hT2.1.1)
    have eRu : τ 69 false 0 22 = nI (nRu t) := (hA.2 69 _ _ _ (by decide) rfl).trans ((rulC_o (by decide)).trans hX.1.1)
    refine G_wp 60 [17, 36] rfl ?_
    refine br_ge rfl eSaid (by omega) (by omega) (fun h20 => ?_) (fun h20 => ?_)
    · exact absurd h20 (by omega)
    · refine ⟨k, rfl, (by show _ < 40; omega), ?_⟩
      rw [hA.2 83 _ _ _ (by decide) rfl]
      refine ⟨(40 * (nRu t)) + k, (add_n (mul_n rfl eRu) rfl), (by show _ < 400; omega), _, rfl, ?_⟩
      replace hA := Ag_t hA 85 false 0 ((40 * (nRu t)) + k) ((rulC t k) 83 false 0 k) (by decide)
      refine ⟨nI (k + 1), nI_add _ _, ?_⟩
      have e : rulC t (k + 1) = up4 (rulC t k) 85 false 0 (40 * nRu t + k) (rulC t k 83 false 0 k) := by rw [rulC_S, rulC_o (by decide)]
      rw [← e] at hA
      exact ih (k + 1) (by omega) _ hA
theorem mv_rule_e {t : Sg} {D : Dy} {τ : Sg} (hX : XT t) (hT2 : TX t) (h10 : nRu t < 10) (hA : Ag (rulC t (nSaid t)) D τ) : G true 154 (fun r' s' => r' = some (.inl (nI (nRu t))) ∧ Ag (rulN t) D s') 36 [some (.inr (.inr (69, false, 0))), none] [] τ := by
  have eSaid : τ 69 false 0 20 = nI (nSaid t) := (hA.2 69 _ _ _ (by decide) rfl).trans ((rulC_o (by decide)).trans hT2.1.1)
  have eRu : τ 69 false 0 22 = nI (nRu t) := (hA.2 69 _ _ _ (by decide) rfl).trans ((rulC_o (by decide)).trans hX.1.1)
  refine G_wp 60 [] rfl ?_
  refine ⟨nRu t, eRu, (by show _ < 10; omega), nI (nSaid t), eSaid, ?_⟩
  replace hA := Ag_t hA 84 false 0 (nRu t) (nI (nSaid t)) (by decide)
  refine ⟨nRu t, eRu, (by show _ < 10; omega), nI 0, rfl, ?_⟩
  replace hA := Ag_t hA 86 false 0 (nRu t) (nI (0)) (by decide)
  refine ⟨nI ((nRu t) + 1), (add_n eRu rfl), ?_⟩
  replace hA := Ag_t hA 69 false 0 22 (nI ((nRu t) + 1)) (by decide)
  exact ⟨congrArg (fun z => some (Sum.inl z)) (Eq.trans (sub_n (up4_s _ _ _ _ _ _) rfl (by omega)) (by rw [Nat.add_sub_cancel])), hA⟩
noncomputable def rulR (t : Sg) : Int32 := ifC (fltR t = -1) (ifC (nRu t = 10) (-4) (nI (nRu t))) (-3)
noncomputable def rulT (t : Sg) : Sg := ifC (fltR t = -1) (ifC (nRu t = 10) t (rulN t)) t
theorem mp_rule {t : Sg} {D : Dy} {τ : Sg} (hA : Ag t D τ) (hT : WN t) (hX : XT t) (hX2 : TX t) : ∃ τ', Ev true 154 [.inr (.inr (69, false, 0))] τ (some (.inl (rulR t))) τ' ∧ Ag (rulT t) (D) τ' := by
  have eSaid : τ 69 false 0 20 = nI (nSaid t) := (hA.2 69 _ _ _ (by decide) rfl).trans hX2.1.1
  have eRu : τ 69 false 0 22 = nI (nRu t) := (hA.2 69 _ _ _ (by decide) rfl).trans hX.1.1
  have hRu : nRu t ≤ 10 := hX.1.2
  refine EvQ_wp 37 [17] rfl rfl ?_
  refine ⟨_, rfl, ?_⟩
  replace hA := Ag_scr hA (k := 69) (d := false) (i := 0) (j := 0) (v := (nI (0))) (by decide) rfl
  refine ⟨_, _, mv_faultR hA hX2, ?_⟩
  refine ⟨fun h6 => ?_, fun h6 => ?_⟩
  · refine br_ne eRu rfl (by omega) (by omega) (fun h12 => ?_) (fun h12 => ?_)
    · refine ⟨_, rfl, ?_⟩
      have eR : rulR t = nI (nRu t) := by simp only [rulR, rulT, eq_true h6, h12, eq_self, ifC_T, ifC_F, and_true, true_and, and_false, false_and, or_true, true_or, or_false, false_or, not_true_eq_false, not_false_eq_true, and_self, or_self, if_true, if_false, reduceIte, reduceCtorEq, Nat.add_sub_cancel]
      have eT : rulT t = rulN t := by simp only [rulR, rulT, eq_true h6, h12, eq_self, ifC_T, ifC_F, and_true, true_and, and_false, false_and, or_true, true_or, or_false, false_or, not_true_eq_false, not_false_eq_true, and_self, or_self, if_true, if_false, reduceIte, reduceCtorEq, Nat.add_sub_cancel]
      rw [eR, eT]
      refine mv_rule_l hX hX2 (by omega) (fun τ1 hA1 => mv_rule_e hX hX2 (by omega) hA1) (nSaid t) 0 (by omega) _ ?_
      rw [rulC_0]
      exact hA
    · have eR : rulR t = (-4) := by
        simp only [rulR, rulT, eq_true h6, eq_true h12, eq_self, ifC_T, ifC_F, and_true, true_and, and_false, false_and, or_true, true_or, or_false, false_or, not_true_eq_false, not_false_eq_true, and_self, or_self, if_true, if_false, reduceIte, reduceCtorEq, Nat.add_sub_cancel]
      have eT : rulT t = t := by simp only [rulR, rulT, eq_true h6, eq_true h12, eq_self, ifC_T, ifC_F, and_true, true_and, and_false, false_and, or_true, true_or, or_false, false_or, not_true_eq_false, not_false_eq_true, and_self, or_self, if_true, if_false, reduceIte, reduceCtorEq, Nat.add_sub_cancel]
      refine ⟨congrArg (fun z => some (Sum.inl z)) (Eq.trans rfl eR.symm), ?_⟩
      rw [eT]
      exact hA
  · have eR : rulR t = (-3) := by
      simp only [rulR, rulT, h6, eq_self, ifC_T, ifC_F, and_true, true_and, and_false, false_and, or_true, true_or, or_false, false_or, not_true_eq_false, not_false_eq_true, and_self, or_self, if_true, if_false, reduceIte, reduceCtorEq, Nat.add_sub_cancel]
    have eT : rulT t = t := by simp only [rulR, rulT, h6, eq_self, ifC_T, ifC_F, and_true, true_and, and_false, false_and, or_true, true_or, or_false, false_or, not_true_eq_false, not_false_eq_true, and_self, or_self, if_true, if_false, reduceIte, reduceCtorEq, Nat.add_sub_cancel]
    refine ⟨congrArg (fun z => some (Sum.inl z)) (Eq.trans rfl eR.symm), ?_⟩
    rw [eT]
    exact hA
noncomputable def hdR (t : Sg) (D : Dy) (w a : Nat) (b : Int32) : Int32 := ifC (canB t D w a b) (ifC (t 69 false 0 18 = nI 200) (-4) (nI 1)) (-3)
noncomputable def hdT (t : Sg) (D : Dy) (w a : Nat) (b : Int32) : Sg := ifC (canB t D w a b) (ifC (t 69 false 0 18 = nI 200) t (hnd t (D 0 0) (nI w) (nI a) b)) t
noncomputable def hdD (t : Sg) (D : Dy) (w a : Nat) (b : Int32) : Dy := ifC (canB t D w a b) (ifC (t 69 false 0 18 = nI 200) D (dos D w a b)) D
theorem mv_handledR {t : Sg} {D : Dy} {τ : Sg} (hA : Ag t D τ) (hT : WN t) (h6 : Is (D 0 6) 20) (h7 : Is (D 0 7) 4000) (hH : Is (t 69 false 0 18) 200) {w a : Nat} {y x b b' : Int32} (hy : y = nI w) (hx : x = nI a) (hb : b' = b) (hk : hOk t w a b) : ∃ τ', Ev true 188 [.inr (.inr (69, false, 0)), .inl y, .inl x, .inl b'] τ (some (.inl (hdR t D w a b))) τ' ∧ Ag (hdT t D w a b) (hdD t D w a b) τ' := by
  rw [hb]
  unfold hdR hdT hdD
  by_cases hc : canB t D w a b
  · rw [ifC_t hc, ifC_t hc, ifC_t hc]
    by_cases h2 : t 69 false 0 18 = nI 200
    · rw [ifC_t h2, ifC_t h2, ifC_t h2]
      exact ⟨τ, mv_handled_full hA hT h6 hy hx hk hc h2, hA⟩
    · rw [ifC_f h2, ifC_f h2, ifC_f h2]
      have h3 : Is (t 69 false 0 18) 199 := ⟨hH.1, by
        have h4 := hH.2
        by_cases q : nN (t 69 false 0 18) = 200
        · exact absurd (by rw [hH.1, q]) h2
        · omega⟩
      exact mv_handled hA hT h6 h7 h3 hy hx hk hc
  · rw [ifC_f hc, ifC_f hc, ifC_f hc]
    exact ⟨τ, mv_handled_no hA hT h6 hy hx hk hc, hA⟩
noncomputable def prcR (t : Sg) (D : Dy) (x v : Int32) : Int32 := ifC (isPo t x ∧ inI (nI 0) v (nI 99)) (ifC ((hdR t D 0 (nN x) v) = nI 1) (D 1 (nN x)) (hdR t D 0 (nN x) v)) (-2)
noncomputable def prcT (t : Sg) (D : Dy) (x v : Int32) : Sg := ifC (isPo t x ∧ inI (nI 0) v (nI 99)) (hdT t D 0 (nN x) v) t
noncomputable def prcD (t : Sg) (D : Dy) (x v : Int32) : Dy := ifC (isPo t x ∧ inI (nI 0) v (nI 99)) (hdD t D 0 (nN x) v) D
theorem mp_price {t : Sg} {D : Dy} {τ : Sg} (hA : Ag t D τ) (hT : WN t) {x v : Int32} (hWI : WI t D) (hH : Is (t 69 false 0 18) 200) : ∃ τ', Ev true 211 [.inr (.inr (69, false, 0)), .inl (x), .inl (v)] τ (some (.inl (prcR t D x v))) τ' ∧ Ag (prcT t D x v) (prcD t D x v) τ' := by
  have hP := hT.P
  refine EvQ_wp 57 [] rfl rfl ?_
  refine ⟨_, rfl, ?_⟩
  replace hA := Ag_scr hA (k := 69) (d := false) (i := 0) (j := 0) (v := (nI (0))) (by decide) rfl
  refine ⟨_, _, mv_isPost2 hA hT, ?_⟩
  refine brd_eq (fun h6 => ?_) (fun h6 => ?_)
  · have eR : prcR t D x v = (-2) := by
      simp only [prcR, prcT, prcD, h6, eq_self, ifC_T, ifC_F, and_true, true_and, and_false, false_and, or_true, true_or, or_false, false_or, not_true_eq_false, not_false_eq_true, and_self, or_self, if_true, if_false, reduceIte, reduceCtorEq, Nat.add_sub_cancel]
    have eT : prcT t D x v = t := by simp only [prcR, prcT, prcD, h6, eq_self, ifC_T, ifC_F, and_true, true_and, and_false, false_and, or_true, true_or, or_false, false_or, not_true_eq_false, not_false_eq_true, and_self, or_self, if_true, if_false, reduceIte, reduceCtorEq, Nat.add_sub_cancel]
    have eD : prcD t D x v = D := by simp only [prcR, prcT, prcD, h6, eq_self, ifC_T, ifC_F, and_true, true_and, and_false, false_and, or_true, true_or, or_false, false_or, not_true_eq_false, not_false_eq_true, and_self, or_self, if_true, if_false, reduceIte, reduceCtorEq, Nat.add_sub_cancel]
    refine ⟨congrArg (fun z => some (Sum.inl z)) (Eq.trans rfl eR.symm), ?_⟩
    rw [eT, eD]
    exact hA
  · refine ⟨_, _, mv_in2, ?_⟩
    refine brd_ne (fun h11 => ?_) (fun h11 => ?_)
    · have hx := isPo_n hT h6
      refine ⟨8 + (nN x), (add_n rfl hx.1), (by show _ < 23184; omega), ?_⟩
      rw [hA.r1 (nN x) (by omega)]
      refine ⟨_, rfl, ?_⟩
      obtain ⟨τ1, ev1, hA⟩ := mv_handledR hA hT hWI.1.2.2.1 hWI.1.2.1 hH (y := nI 0) rfl hx.1 rfl (show hOk t 0 (nN x) v from hx.2)
      refine ⟨_, _, ev1, _, rfl, ?_⟩
      refine ⟨fun h29 => ?_, fun h29 => ?_⟩
      · have eR : prcR t D x v = (hdR t D 0 (nN x) v) := by
          simp only [prcR, prcT, prcD, h6, h11, h29, eq_self, ifC_T, ifC_F, and_true, true_and, and_false, false_and, or_true, true_or, or_false, false_or, not_true_eq_false, not_false_eq_true, and_self, or_self, if_true, if_false, reduceIte, reduceCtorEq, Nat.add_sub_cancel]
        have eT : prcT t D x v = (hdT t D 0 (nN x) v) := by simp only [prcR, prcT, prcD, h6, h11, h29, eq_self, ifC_T, ifC_F, and_true, true_and, and_false, false_and, or_true, true_or, or_false, false_or, not_true_eq_false, not_false_eq_true, and_self, or_self, if_true, if_false, reduceIte, reduceCtorEq, Nat.add_sub_cancel]
        have eD : prcD t D x v = (hdD t D 0 (nN x) v) := by simp only [prcR, prcT, prcD, h6, h11, h29, eq_self, ifC_T, ifC_F, and_true, true_and, and_false, false_and, or_true, true_or, or_false, false_or, not_true_eq_false, not_false_eq_true, and_self, or_self, if_true, if_false, reduceIte, reduceCtorEq, Nat.add_sub_cancel]
        refine ⟨congrArg (fun z => some (Sum.inl z)) (Eq.trans rfl eR.symm), ?_⟩
        rw [eT, eD]
        exact hA
      · have eR : prcR t D x v = (D 1 (nN x)) := by
          simp only [prcR, prcT, prcD, h6, h11, eq_true h29, eq_self, ifC_T, ifC_F, and_true, true_and, and_false, false_and, or_true, true_or, or_false, false_or, not_true_eq_false, not_false_eq_true, and_self, or_self, if_true, if_false, reduceIte, reduceCtorEq, Nat.add_sub_cancel]
        have eT : prcT t D x v = (hdT t D 0 (nN x) v) := by simp only [prcR, prcT, prcD, h6, h11, eq_true h29, eq_self, ifC_T, ifC_F, and_true, true_and, and_false, false_and, or_true, true_or, or_false, false_or, not_true_eq_false, not_false_eq_true, and_self, or_self, if_true, if_false, reduceIte, reduceCtorEq, Nat.add_sub_cancel]
        have eD : prcD t D x v = (hdD t D 0 (nN x) v) := by simp only [prcR, prcT, prcD, h6, h11, eq_true h29, eq_self, ifC_T, ifC_F, and_true, true_and, and_false, false_and, or_true, true_or, or_false, false_or, not_true_eq_false, not_false_eq_true, and_self, or_self, if_true, if_false, reduceIte, reduceCtorEq, Nat.add_sub_cancel]
        refine ⟨congrArg (fun z => some (Sum.inl z)) (Eq.trans rfl eR.symm), ?_⟩
        rw [eT, eD]
        exact hA
    · have eR : prcR t D x v = (-2) := by
        simp only [prcR, prcT, prcD, h6, h11, eq_self, ifC_T, ifC_F, and_true, true_and, and_false, false_and, or_true, true_or, or_false, false_or, not_true_eq_false, not_false_eq_true, and_self, or_self, if_true, if_false, reduceIte, reduceCtorEq, Nat.add_sub_cancel]
      have eT : prcT t D x v = t := by simp only [prcR, prcT, prcD, h6, h11, eq_self, ifC_T, ifC_F, and_true, true_and, and_false, false_and, or_true, true_or, or_false, false_or, not_true_eq_false, not_false_eq_true, and_self, or_self, if_true, if_false, reduceIte, reduceCtorEq, Nat.add_sub_cancel]
      have eD : prcD t D x v = D := by simp only [prcR, prcT, prcD, h6, h11, eq_self, ifC_T, ifC_F, and_true, true_and, and_false, false_and, or_true, true_or, or_false, false_or, not_true_eq_false, not_false_eq_true, and_self, or_self, if_true, if_false, reduceIte, reduceCtorEq, Nat.add_sub_cancel]
      refine ⟨congrArg (fun z => some (Sum.inl z)) (Eq.trans rfl eR.symm), ?_⟩
      rw [eT, eD]
      exact hA
noncomputable def opn1R (t : Sg) (D : Dy) (x v : Int32) : Int32 := ifC (isPo t x) ((hdR t D 1 (nN x) v)) (-2)
noncomputable def opn1T (t : Sg) (D : Dy) (x v : Int32) : Sg := ifC (isPo t x) (hdT t D 1 (nN x) v) t
noncomputable def opn1D (t : Sg) (D : Dy) (x v : Int32) : Dy := ifC (isPo t x) (hdD t D 1 (nN x) v) D
theorem mp_open {t : Sg} {D : Dy} {τ : Sg} (hA : Ag t D τ) (hT : WN t) {x v : Int32} (hWI : WI t D) (hH : Is (t 69 false 0 18) 200) (hv : v = nI 0 ∨ v = nI 1) : ∃ τ', Ev true 212 [.inr (.inr (69, false, 0)), .inl (x), .inl (v)] τ (some (.inl (opn1R t D x v))) τ' ∧ Ag (opn1T t D x v) (opn1D t D x v) τ' := by
  refine EvQ_wp 43 [] rfl rfl ?_
  refine ⟨_, rfl, ?_⟩
  replace hA := Ag_scr hA (k := 69) (d := false) (i := 0) (j := 0) (v := (nI (0))) (by decide) rfl
  refine ⟨_, _, mv_isPost2 hA hT, ?_⟩
  refine brd_eq (fun h6 => ?_) (fun h6 => ?_)
  · have eR : opn1R t D x v = (-2) := by
      simp only [opn1R, opn1T, opn1D, h6, eq_self, ifC_T, ifC_F, and_true, true_and, and_false, false_and, or_true, true_or, or_false, false_or, not_true_eq_false, not_false_eq_true, and_self, or_self, if_true, if_false, reduceIte, reduceCtorEq, Nat.add_sub_cancel]
    have eT : opn1T t D x v = t := by simp only [opn1R, opn1T, opn1D, h6, eq_self, ifC_T, ifC_F, and_true, true_and, and_false, false_and, or_true, true_or, or_false, false_or, not_true_eq_false, not_false_eq_true, and_self, or_self, if_true, if_false, reduceIte, reduceCtorEq, Nat.add_sub_cancel]
    have eD : opn1D t D x v = D := by simp only [opn1R, opn1T, opn1D, h6, eq_self, ifC_T, ifC_F, and_true, true_and, and_false, false_and, or_true, true_or, or_false, false_or, not_true_eq_false, not_false_eq_true, and_self, or_self, if_true, if_false, reduceIte, reduceCtorEq, Nat.add_sub_cancel]
    refine ⟨congrArg (fun z => some (Sum.inl z)) (Eq.trans rfl eR.symm), ?_⟩
    rw [eT, eD]
    exact hA
  · refine ⟨fun h11 => ?_, fun h11 => ?_⟩
    · have hx := isPo_n hT h6
      have ev : v = nI 0 := h11
      obtain ⟨τ1, ev1, hA⟩ := mv_handledR hA hT hWI.1.2.2.1 hWI.1.2.1 hH (y := nI 1) rfl hx.1 ev.symm (show hOk t 1 (nN x) v from ⟨hx.2, hv⟩)
      refine ⟨_, _, ev1, ?_⟩
      have eR : opn1R t D x v = (hdR t D 1 (nN x) v) := by
        simp only [opn1R, opn1T, opn1D, h6, eq_true h11, eq_self, ifC_T, ifC_F, and_true, true_and, and_false, false_and, or_true, true_or, or_false, false_or, not_true_eq_false, not_false_eq_true, and_self, or_self, if_true, if_false, reduceIte, reduceCtorEq, Nat.add_sub_cancel]
      have eT : opn1T t D x v = (hdT t D 1 (nN x) v) := by simp only [opn1R, opn1T, opn1D, h6, eq_true h11, eq_self, ifC_T, ifC_F, and_true, true_and, and_false, false_and, or_true, true_or, or_false, false_or, not_true_eq_false, not_false_eq_true, and_self, or_self, if_true, if_false, reduceIte, reduceCtorEq, Nat.add_sub_cancel]
      have eD : opn1D t D x v = (hdD t D 1 (nN x) v) := by simp only [opn1R, opn1T, opn1D, h6, eq_true h11, eq_self, ifC_T, ifC_F, and_true, true_and, and_false, false_and, or_true, true_or, or_false, false_or, not_true_eq_false, not_false_eq_true, and_self, or_self, if_true, if_false, reduceIte, reduceCtorEq, Nat.add_sub_cancel]
      refine ⟨congrArg (fun z => some (Sum.inl z)) (Eq.trans rfl eR.symm), ?_⟩
      rw [eT, eD]
      exact hA
    · have hx := isPo_n hT h6
      have ev : v = nI 1 := hv.resolve_left h11
      obtain ⟨τ1, ev1, hA⟩ := mv_handledR hA hT hWI.1.2.2.1 hWI.1.2.1 hH (y := nI 1) rfl hx.1 ev.symm (show hOk t 1 (nN x) v from ⟨hx.2, hv⟩)
      refine ⟨_, _, ev1, ?_⟩
      have eR : opn1R t D x v = (hdR t D 1 (nN x) v) := by
        simp only [opn1R, opn1T, opn1D, h6, h11, eq_self, ifC_T, ifC_F, and_true, true_and, and_false, false_and, or_true, true_or, or_false, false_or, not_true_eq_false, not_false_eq_true, and_self, or_self, if_true, if_false, reduceIte, reduceCtorEq, Nat.add_sub_cancel]
      have eT : opn1T t D x v = (hdT t D 1 (nN x) v) := by simp only [opn1R, opn1T, opn1D, h6, h11, eq_self, ifC_T, ifC_F, and_true, true_and, and_false, false_and, or_true, true_or, or_false, false_or, not_true_eq_false, not_false_eq_true, and_self, or_self, if_true, if_false, reduceIte, reduceCtorEq, Nat.add_sub_cancel]
      have eD : opn1D t D x v = (hdD t D 1 (nN x) v) := by simp only [opn1R, opn1T, opn1D, h6, h11, eq_self, ifC_T, ifC_F, and_true, true_and, and_false, false_and, or_true, true_or, or_false, false_or, not_true_eq_false, not_false_eq_true, and_self, or_self, if_true, if_false, reduceIte, reduceCtorEq, Nat.add_sub_cancel]
      refine ⟨congrArg (fun z => some (Sum.inl z)) (Eq.trans rfl eR.symm), ?_⟩
      rw [eT, eD]
      exact hA
noncomputable def ftyR (t : Sg) (D : Dy) (x : Int32) : Int32 := ifC (isBk t x) ((hdR t D 2 (nN x) (nI 0))) (-2)
noncomputable def ftyT (t : Sg) (D : Dy) (x : Int32) : Sg := ifC (isBk t x) (hdT t D 2 (nN x) (nI 0)) t
noncomputable def ftyD (t : Sg) (D : Dy) (x : Int32) : Dy := ifC (isBk t x) (hdD t D 2 (nN x) (nI 0)) D
theorem mp_faulty {t : Sg} {D : Dy} {τ : Sg} (hA : Ag t D τ) (hT : WN t) {x : Int32} (hWI : WI t D) (hH : Is (t 69 false 0 18) 200) : ∃ τ', Ev true 213 [.inr (.inr (69, false, 0)), .inl (x)] τ (some (.inl (ftyR t D x))) τ' ∧ Ag (ftyT t D x) (ftyD t D x) τ' := by
  refine EvQ_wp 36 [] rfl rfl ?_
  refine ⟨_, rfl, ?_⟩
  replace hA := Ag_scr hA (k := 69) (d := false) (i := 0) (j := 0) (v := (nI (0))) (by decide) rfl
  refine ⟨_, _, mv_isBike2 hA hT, ?_⟩
  refine brd_eq (fun h6 => ?_) (fun h6 => ?_)
  · have eR : ftyR t D x = (-2) := by
      simp only [ftyR, ftyT, ftyD, h6, eq_self, ifC_T, ifC_F, and_true, true_and, and_false, false_and, or_true, true_or, or_false, false_or, not_true_eq_false, not_false_eq_true, and_self, or_self, if_true, if_false, reduceIte, reduceCtorEq, Nat.add_sub_cancel]
    have eT : ftyT t D x = t := by simp only [ftyR, ftyT, ftyD, h6, eq_self, ifC_T, ifC_F, and_true, true_and, and_false, false_and, or_true, true_or, or_false, false_or, not_true_eq_false, not_false_eq_true, and_self, or_self, if_true, if_false, reduceIte, reduceCtorEq, Nat.add_sub_cancel]
    have eD : ftyD t D x = D := by simp only [ftyR, ftyT, ftyD, h6, eq_self, ifC_T, ifC_F, and_true, true_and, and_false, false_and, or_true, true_or, or_false, false_or, not_true_eq_false, not_false_eq_true, and_self, or_self, if_true, if_false, reduceIte, reduceCtorEq, Nat.add_sub_cancel]
    refine ⟨congrArg (fun z => some (Sum.inl z)) (Eq.trans rfl eR.symm), ?_⟩
    rw [eT, eD]
    exact hA
  · have hx := isBk_n hT h6
    obtain ⟨τ1, ev1, hA⟩ := mv_handledR hA hT hWI.1.2.2.1 hWI.1.2.1 hH (y := nI 2) rfl hx.1 rfl (show hOk t 2 (nN x) (nI 0) from hx.2)
    refine ⟨_, _, ev1, ?_⟩
    have eR : ftyR t D x = (hdR t D 2 (nN x) (nI 0)) := by
      simp only [ftyR, ftyT, ftyD, h6, eq_self, ifC_T, ifC_F, and_true, true_and, and_false, false_and, or_true, true_or, or_false, false_or, not_true_eq_false, not_false_eq_true, and_self, or_self, if_true, if_false, reduceIte, reduceCtorEq, Nat.add_sub_cancel]
    have eT : ftyT t D x = (hdT t D 2 (nN x) (nI 0)) := by simp only [ftyR, ftyT, ftyD, h6, eq_self, ifC_T, ifC_F, and_true, true_and, and_false, false_and, or_true, true_or, or_false, false_or, not_true_eq_false, not_false_eq_true, and_self, or_self, if_true, if_false, reduceIte, reduceCtorEq, Nat.add_sub_cancel]
    have eD : ftyD t D x = (hdD t D 2 (nN x) (nI 0)) := by simp only [ftyR, ftyT, ftyD, h6, eq_self, ifC_T, ifC_F, and_true, true_and, and_false, false_and, or_true, true_or, or_false, false_or, not_true_eq_false, not_false_eq_true, and_self, or_self, if_true, if_false, reduceIte, reduceCtorEq, Nat.add_sub_cancel]
    refine ⟨congrArg (fun z => some (Sum.inl z)) (Eq.trans rfl eR.symm), ?_⟩
    rw [eT, eD]
    exact hA
noncomputable def stlR (t : Sg) (D : Dy) (x : Int32) : Int32 := ifC (isBk t x) ((hdR t D 3 (nN x) (nI 0))) (-2)
noncomputable def stlT (t : Sg) (D : Dy) (x : Int32) : Sg := ifC (isBk t x) (hdT t D 3 (nN x) (nI 0)) t
noncomputable def stlD (t : Sg) (D : Dy) (x : Int32) : Dy := ifC (isBk t x) (hdD t D 3 (nN x) (nI 0)) D
theorem mp_steal {t : Sg} {D : Dy} {τ : Sg} (hA : Ag t D τ) (hT : WN t) {x : Int32} (hWI : WI t D) (hH : Is (t 69 false 0 18) 200) : ∃ τ', Ev true 214 [.inr (.inr (69, false, 0)), .inl (x)] τ (some (.inl (stlR t D x))) τ' ∧ Ag (stlT t D x) (stlD t D x) τ' := by
  refine EvQ_wp 36 [] rfl rfl ?_
  refine ⟨_, rfl, ?_⟩
  replace hA := Ag_scr hA (k := 69) (d := false) (i := 0) (j := 0) (v := (nI (0))) (by decide) rfl
  refine ⟨_, _, mv_isBike2 hA hT, ?_⟩
  refine brd_eq (fun h6 => ?_) (fun h6 => ?_)
  · have eR : stlR t D x = (-2) := by
      simp only [stlR, stlT, stlD, h6, eq_self, ifC_T, ifC_F, and_true, true_and, and_false, false_and, or_true, true_or, or_false, false_or, not_true_eq_false, not_false_eq_true, and_self, or_self, if_true, if_false, reduceIte, reduceCtorEq, Nat.add_sub_cancel]
    have eT : stlT t D x = t := by simp only [stlR, stlT, stlD, h6, eq_self, ifC_T, ifC_F, and_true, true_and, and_false, false_and, or_true, true_or, or_false, false_or, not_true_eq_false, not_false_eq_true, and_self, or_self, if_true, if_false, reduceIte, reduceCtorEq, Nat.add_sub_cancel]
    have eD : stlD t D x = D := by simp only [stlR, stlT, stlD, h6, eq_self, ifC_T, ifC_F, and_true, true_and, and_false, false_and, or_true, true_or, or_false, false_or, not_true_eq_false, not_false_eq_true, and_self, or_self, if_true, if_false, reduceIte, reduceCtorEq, Nat.add_sub_cancel]
    refine ⟨congrArg (fun z => some (Sum.inl z)) (Eq.trans rfl eR.symm), ?_⟩
    rw [eT, eD]
    exact hA
  · have hx := isBk_n hT h6
    obtain ⟨τ1, ev1, hA⟩ := mv_handledR hA hT hWI.1.2.2.1 hWI.1.2.1 hH (y := nI 3) rfl hx.1 rfl (show hOk t 3 (nN x) (nI 0) from hx.2)
    refine ⟨_, _, ev1, ?_⟩
    have eR : stlR t D x = (hdR t D 3 (nN x) (nI 0)) := by
      simp only [stlR, stlT, stlD, h6, eq_self, ifC_T, ifC_F, and_true, true_and, and_false, false_and, or_true, true_or, or_false, false_or, not_true_eq_false, not_false_eq_true, and_self, or_self, if_true, if_false, reduceIte, reduceCtorEq, Nat.add_sub_cancel]
    have eT : stlT t D x = (hdT t D 3 (nN x) (nI 0)) := by simp only [stlR, stlT, stlD, h6, eq_self, ifC_T, ifC_F, and_true, true_and, and_false, false_and, or_true, true_or, or_false, false_or, not_true_eq_false, not_false_eq_true, and_self, or_self, if_true, if_false, reduceIte, reduceCtorEq, Nat.add_sub_cancel]
    have eD : stlD t D x = (hdD t D 3 (nN x) (nI 0)) := by simp only [stlR, stlT, stlD, h6, eq_self, ifC_T, ifC_F, and_true, true_and, and_false, false_and, or_true, true_or, or_false, false_or, not_true_eq_false, not_false_eq_true, and_self, or_self, if_true, if_false, reduceIte, reduceCtorEq, Nat.add_sub_cancel]
    refine ⟨congrArg (fun z => some (Sum.inl z)) (Eq.trans rfl eR.symm), ?_⟩
    rw [eT, eD]
    exact hA
noncomputable def fndR (t : Sg) (D : Dy) (x v : Int32) : Int32 := ifC (isBk t x ∧ isPo t v) ((hdR t D 4 (nN x) v)) (-2)
noncomputable def fndT (t : Sg) (D : Dy) (x v : Int32) : Sg := ifC (isBk t x ∧ isPo t v) (hdT t D 4 (nN x) v) t
noncomputable def fndD (t : Sg) (D : Dy) (x v : Int32) : Dy := ifC (isBk t x ∧ isPo t v) (hdD t D 4 (nN x) v) D
theorem mp_find {t : Sg} {D : Dy} {τ : Sg} (hA : Ag t D τ) (hT : WN t) {x v : Int32} (hWI : WI t D) (hH : Is (t 69 false 0 18) 200) : ∃ τ', Ev true 215 [.inr (.inr (69, false, 0)), .inl (x), .inl (v)] τ (some (.inl (fndR t D x v))) τ' ∧ Ag (fndT t D x v) (fndD t D x v) τ' := by
  refine EvQ_wp 42 [] rfl rfl ?_
  refine ⟨_, rfl, ?_⟩
  replace hA := Ag_scr hA (k := 69) (d := false) (i := 0) (j := 0) (v := (nI (0))) (by decide) rfl
  refine ⟨_, _, mv_isBike2 hA hT, ?_⟩
  refine brd_eq (fun h6 => ?_) (fun h6 => ?_)
  · have eR : fndR t D x v = (-2) := by
      simp only [fndR, fndT, fndD, h6, eq_self, ifC_T, ifC_F, and_true, true_and, and_false, false_and, or_true, true_or, or_false, false_or, not_true_eq_false, not_false_eq_true, and_self, or_self, if_true, if_false, reduceIte, reduceCtorEq, Nat.add_sub_cancel]
    have eT : fndT t D x v = t := by simp only [fndR, fndT, fndD, h6, eq_self, ifC_T, ifC_F, and_true, true_and, and_false, false_and, or_true, true_or, or_false, false_or, not_true_eq_false, not_false_eq_true, and_self, or_self, if_true, if_false, reduceIte, reduceCtorEq, Nat.add_sub_cancel]
    have eD : fndD t D x v = D := by simp only [fndR, fndT, fndD, h6, eq_self, ifC_T, ifC_F, and_true, true_and, and_false, false_and, or_true, true_or, or_false, false_or, not_true_eq_false, not_false_eq_true, and_self, or_self, if_true, if_false, reduceIte, reduceCtorEq, Nat.add_sub_cancel]
    refine ⟨congrArg (fun z => some (Sum.inl z)) (Eq.trans rfl eR.symm), ?_⟩
    rw [eT, eD]
    exact hA
  · refine ⟨_, _, mv_isPost2 hA hT, ?_⟩
    refine brd_eq (fun h10 => ?_) (fun h10 => ?_)
    · have eR : fndR t D x v = (-2) := by
        simp only [fndR, fndT, fndD, h6, h10, eq_self, ifC_T, ifC_F, and_true, true_and, and_false, false_and, or_true, true_or, or_false, false_or, not_true_eq_false, not_false_eq_true, and_self, or_self, if_true, if_false, reduceIte, reduceCtorEq, Nat.add_sub_cancel]
      have eT : fndT t D x v = t := by simp only [fndR, fndT, fndD, h6, h10, eq_self, ifC_T, ifC_F, and_true, true_and, and_false, false_and, or_true, true_or, or_false, false_or, not_true_eq_false, not_false_eq_true, and_self, or_self, if_true, if_false, reduceIte, reduceCtorEq, Nat.add_sub_cancel]
      have eD : fndD t D x v = D := by simp only [fndR, fndT, fndD, h6, h10, eq_self, ifC_T, ifC_F, and_true, true_and, and_false, false_and, or_true, true_or, or_false, false_or, not_true_eq_false, not_false_eq_true, and_self, or_self, if_true, if_false, reduceIte, reduceCtorEq, Nat.add_sub_cancel]
      refine ⟨congrArg (fun z => some (Sum.inl z)) (Eq.trans rfl eR.symm), ?_⟩
      rw [eT, eD]
      exact hA
    · have hx := isBk_n hT h6
      have hv2 := isPo_n hT h10
      obtain ⟨τ1, ev1, hA⟩ := mv_handledR hA hT hWI.1.2.2.1 hWI.1.2.1 hH (y := nI 4) rfl hx.1 rfl (show hOk t 4 (nN x) v from ⟨hx.2, nN v, hv2.1, hv2.2⟩)
      refine ⟨_, _, ev1, ?_⟩
      have eR : fndR t D x v = (hdR t D 4 (nN x) v) := by
        simp only [fndR, fndT, fndD, h6, h10, eq_self, ifC_T, ifC_F, and_true, true_and, and_false, false_and, or_true, true_or, or_false, false_or, not_true_eq_false, not_false_eq_true, and_self, or_self, if_true, if_false, reduceIte, reduceCtorEq, Nat.add_sub_cancel]
      have eT : fndT t D x v = (hdT t D 4 (nN x) v) := by simp only [fndR, fndT, fndD, h6, h10, eq_self, ifC_T, ifC_F, and_true, true_and, and_false, false_and, or_true, true_or, or_false, false_or, not_true_eq_false, not_false_eq_true, and_self, or_self, if_true, if_false, reduceIte, reduceCtorEq, Nat.add_sub_cancel]
      have eD : fndD t D x v = (hdD t D 4 (nN x) v) := by simp only [fndR, fndT, fndD, h6, h10, eq_self, ifC_T, ifC_F, and_true, true_and, and_false, false_and, or_true, true_or, or_false, false_or, not_true_eq_false, not_false_eq_true, and_self, or_self, if_true, if_false, reduceIte, reduceCtorEq, Nat.add_sub_cancel]
      refine ⟨congrArg (fun z => some (Sum.inl z)) (Eq.trans rfl eR.symm), ?_⟩
      rw [eT, eD]
      exact hA
noncomputable def stp1R (t : Sg) (D : Dy) (x v : Int32) : Int32 := ifC (isPo t x ∧ inI (-12) v (nI 12)) (ifC ((hdR t D 5 (nN x) v) = nI 1) ((hdD t D 5 (nN x) v) 0 6) (-4)) (-2)
noncomputable def stp1T (t : Sg) (D : Dy) (x v : Int32) : Sg := ifC (isPo t x ∧ inI (-12) v (nI 12)) (hdT t D 5 (nN x) v) t
noncomputable def stp1D (t : Sg) (D : Dy) (x v : Int32) : Dy := ifC (isPo t x ∧ inI (-12) v (nI 12)) (hdD t D 5 (nN x) v) D
theorem mp_stop {t : Sg} {D : Dy} {τ : Sg} (hA : Ag t D τ) (hT : WN t) {x v : Int32} (hWI : WI t D) (hH : Is (t 69 false 0 18) 200) : ∃ τ', Ev true 216 [.inr (.inr (69, false, 0)), .inl (x), .inl (v)] τ (some (.inl (stp1R t D x v))) τ' ∧ Ag (stp1T t D x v) (stp1D t D x v) τ' := by
  refine EvQ_wp 53 [] rfl rfl ?_
  refine ⟨_, rfl, ?_⟩
  replace hA := Ag_scr hA (k := 69) (d := false) (i := 0) (j := 0) (v := (nI (0))) (by decide) rfl
  refine ⟨_, _, mv_isPost2 hA hT, ?_⟩
  refine brd_eq (fun h6 => ?_) (fun h6 => ?_)
  · have eR : stp1R t D x v = (-2) := by
      simp only [stp1R, stp1T, stp1D, h6, eq_self, ifC_T, ifC_F, and_true, true_and, and_false, false_and, or_true, true_or, or_false, false_or, not_true_eq_false, not_false_eq_true, and_self, or_self, if_true, if_false, reduceIte, reduceCtorEq, Nat.add_sub_cancel]
    have eT : stp1T t D x v = t := by simp only [stp1R, stp1T, stp1D, h6, eq_self, ifC_T, ifC_F, and_true, true_and, and_false, false_and, or_true, true_or, or_false, false_or, not_true_eq_false, not_false_eq_true, and_self, or_self, if_true, if_false, reduceIte, reduceCtorEq, Nat.add_sub_cancel]
    have eD : stp1D t D x v = D := by simp only [stp1R, stp1T, stp1D, h6, eq_self, ifC_T, ifC_F, and_true, true_and, and_false, false_and, or_true, true_or, or_false, false_or, not_true_eq_false, not_false_eq_true, and_self, or_self, if_true, if_false, reduceIte, reduceCtorEq, Nat.add_sub_cancel]
    refine ⟨congrArg (fun z => some (Sum.inl z)) (Eq.trans rfl eR.symm), ?_⟩
    rw [eT, eD]
    exact hA
  · refine ⟨_, _, mv_in2, ?_⟩
    refine brd_ne (fun h11 => ?_) (fun h11 => ?_)
    · have hx := isPo_n hT h6
      obtain ⟨τ1, ev1, hA⟩ := mv_handledR hA hT hWI.1.2.2.1 hWI.1.2.1 hH (y := nI 5) rfl hx.1 rfl (show hOk t 5 (nN x) v from hx.2)
      refine ⟨_, _, ev1, _, rfl, ?_⟩
      refine ⟨fun h22 => ?_, fun h22 => ?_⟩
      · have eR : stp1R t D x v = (-4) := by
          simp only [stp1R, stp1T, stp1D, h6, h11, h22, eq_self, ifC_T, ifC_F, and_true, true_and, and_false, false_and, or_true, true_or, or_false, false_or, not_true_eq_false, not_false_eq_true, and_self, or_self, if_true, if_false, reduceIte, reduceCtorEq, Nat.add_sub_cancel]
        have eT : stp1T t D x v = (hdT t D 5 (nN x) v) := by simp only [stp1R, stp1T, stp1D, h6, h11, h22, eq_self, ifC_T, ifC_F, and_true, true_and, and_false, false_and, or_true, true_or, or_false, false_or, not_true_eq_false, not_false_eq_true, and_self, or_self, if_true, if_false, reduceIte, reduceCtorEq, Nat.add_sub_cancel]
        have eD : stp1D t D x v = (hdD t D 5 (nN x) v) := by simp only [stp1R, stp1T, stp1D, h6, h11, h22, eq_self, ifC_T, ifC_F, and_true, true_and, and_false, false_and, or_true, true_or, or_false, false_or, not_true_eq_false, not_false_eq_true, and_self, or_self, if_true, if_false, reduceIte, reduceCtorEq, Nat.add_sub_cancel]
        refine ⟨congrArg (fun z => some (Sum.inl z)) (Eq.trans rfl eR.symm), ?_⟩
        rw [eT, eD]
        exact hA
      · refine ⟨6, rfl, (by show _ < 23184; omega), ?_⟩
        rw [hA.r0 6 (by decide)]
        have eR : stp1R t D x v = ((hdD t D 5 (nN x) v) 0 6) := by
          simp only [stp1R, stp1T, stp1D, h6, h11, eq_true h22, eq_self, ifC_T, ifC_F, and_true, true_and, and_false, false_and, or_true, true_or, or_false, false_or, not_true_eq_false, not_false_eq_true, and_self, or_self, if_true, if_false, reduceIte, reduceCtorEq, Nat.add_sub_cancel]
        have eT : stp1T t D x v = (hdT t D 5 (nN x) v) := by simp only [stp1R, stp1T, stp1D, h6, h11, eq_true h22, eq_self, ifC_T, ifC_F, and_true, true_and, and_false, false_and, or_true, true_or, or_false, false_or, not_true_eq_false, not_false_eq_true, and_self, or_self, if_true, if_false, reduceIte, reduceCtorEq, Nat.add_sub_cancel]
        have eD : stp1D t D x v = (hdD t D 5 (nN x) v) := by simp only [stp1R, stp1T, stp1D, h6, h11, eq_true h22, eq_self, ifC_T, ifC_F, and_true, true_and, and_false, false_and, or_true, true_or, or_false, false_or, not_true_eq_false, not_false_eq_true, and_self, or_self, if_true, if_false, reduceIte, reduceCtorEq, Nat.add_sub_cancel]
        refine ⟨congrArg (fun z => some (Sum.inl z)) (Eq.trans rfl eR.symm), ?_⟩
        rw [eT, eD]
        exact hA
    · have eR : stp1R t D x v = (-2) := by
        simp only [stp1R, stp1T, stp1D, h6, h11, eq_self, ifC_T, ifC_F, and_true, true_and, and_false, false_and, or_true, true_or, or_false, false_or, not_true_eq_false, not_false_eq_true, and_self, or_self, if_true, if_false, reduceIte, reduceCtorEq, Nat.add_sub_cancel]
      have eT : stp1T t D x v = t := by simp only [stp1R, stp1T, stp1D, h6, h11, eq_self, ifC_T, ifC_F, and_true, true_and, and_false, false_and, or_true, true_or, or_false, false_or, not_true_eq_false, not_false_eq_true, and_self, or_self, if_true, if_false, reduceIte, reduceCtorEq, Nat.add_sub_cancel]
      have eD : stp1D t D x v = D := by simp only [stp1R, stp1T, stp1D, h6, h11, eq_self, ifC_T, ifC_F, and_true, true_and, and_false, false_and, or_true, true_or, or_false, false_or, not_true_eq_false, not_false_eq_true, and_self, or_self, if_true, if_false, reduceIte, reduceCtorEq, Nat.add_sub_cancel]
      refine ⟨congrArg (fun z => some (Sum.inl z)) (Eq.trans rfl eR.symm), ?_⟩
      rw [eT, eD]
      exact hA
noncomputable def bikR (t : Sg) (D : Dy) (x w : Int32) : Int32 := ifC (isBk t x ∧ inI (nI 0) w (nI 3)) (ifC (w = nI 0) (D 11 (nN x)) (ifC (w = nI 1) (ifC (D 11 (nN x) = nI 2) (-1) (D 12 (nN x))) (ifC (w = nI 2) (D 13 (nN x)) (D 14 (nN x))))) (-2)
theorem mp_bikeAt {t : Sg} {D : Dy} {τ : Sg} (hA : Ag t D τ) (hT : WN t) {x w : Int32}  : ∃ τ', Ev true 160 [.inr (.inr (69, false, 0)), .inl (x), .inl (w)] τ (some (.inl (bikR t D x w))) τ' ∧ Ag (t) (D) τ' := by
  have hB := hT.B
  refine EvQ_wp 83 [] rfl rfl ?_
  refine ⟨_, rfl, ?_⟩
  replace hA := Ag_scr hA (k := 69) (d := false) (i := 0) (j := 0) (v := (nI (0))) (by decide) rfl
  refine ⟨_, _, mv_isBike2 hA hT, ?_⟩
  refine brd_eq (fun h6 => ?_) (fun h6 => ?_)
  · have eR : bikR t D x w = (-2) := by
      simp only [bikR, h6, eq_self, ifC_T, ifC_F, and_true, true_and, and_false, false_and, or_true, true_or, or_false, false_or, not_true_eq_false, not_false_eq_true, and_self, or_self, if_true, if_false, reduceIte, reduceCtorEq, Nat.add_sub_cancel]
    refine ⟨congrArg (fun z => some (Sum.inl z)) (Eq.trans rfl eR.symm), ?_⟩
    exact hA
  · refine ⟨_, _, mv_in2, ?_⟩
    refine brd_ne (fun h11 => ?_) (fun h11 => ?_)
    · have hx := isBk_n hT h6
      refine ⟨1232 + (nN x), (add_n rfl hx.1), (by show _ < 23184; omega), ?_⟩
      rw [hA.r11 (nN x) (by omega)]
      refine ⟨_, rfl, ?_⟩
      refine ⟨fun h22 => ?_, fun h22 => ?_⟩
      · refine ⟨fun h27 => ?_, fun h27 => ?_⟩
        · refine ⟨fun h42 => ?_, fun h42 => ?_⟩
          · refine ⟨1412 + (nN x), (add_n rfl hx.1), (by show _ < 23184; omega), ?_⟩
            rw [hA.r14 (nN x) (by omega)]
            have eR : bikR t D x w = (D 14 (nN x)) := by
              simp only [bikR, h6, h11, h22, h27, h42, eq_self, ifC_T, ifC_F, and_true, true_and, and_false, false_and, or_true, true_or, or_false, false_or, not_true_eq_false, not_false_eq_true, and_self, or_self, if_true, if_false, reduceIte, reduceCtorEq, Nat.add_sub_cancel]
            refine ⟨congrArg (fun z => some (Sum.inl z)) (Eq.trans rfl eR.symm), ?_⟩
            exact hA
          · refine ⟨1352 + (nN x), (add_n rfl hx.1), (by show _ < 23184; omega), ?_⟩
            rw [hA.r13 (nN x) (by omega)]
            have eR : bikR t D x w = (D 13 (nN x)) := by
              simp only [bikR, h6, h11, h22, h27, eq_true h42, eq_self, ifC_T, ifC_F, and_true, true_and, and_false, false_and, or_true, true_or, or_false, false_or, not_true_eq_false, not_false_eq_true, and_self, or_self, if_true, if_false, reduceIte, reduceCtorEq, Nat.add_sub_cancel]
            refine ⟨congrArg (fun z => some (Sum.inl z)) (Eq.trans rfl eR.symm), ?_⟩
            exact hA
        · refine ⟨fun h30 => ?_, fun h30 => ?_⟩
          · refine ⟨1292 + (nN x), (add_n rfl hx.1), (by show _ < 23184; omega), ?_⟩
            rw [hA.r12 (nN x) (by omega)]
            have eR : bikR t D x w = (D 12 (nN x)) := by
              simp only [bikR, h6, h11, h22, eq_true h27, h30, eq_self, ifC_T, ifC_F, and_true, true_and, and_false, false_and, or_true, true_or, or_false, false_or, not_true_eq_false, not_false_eq_true, and_self, or_self, if_true, if_false, reduceIte, reduceCtorEq, Nat.add_sub_cancel]
            refine ⟨congrArg (fun z => some (Sum.inl z)) (Eq.trans rfl eR.symm), ?_⟩
            exact hA
          · have eR : bikR t D x w = (-1) := by
              simp only [bikR, h6, h11, h22, eq_true h27, eq_true h30, eq_self, ifC_T, ifC_F, and_true, true_and, and_false, false_and, or_true, true_or, or_false, false_or, not_true_eq_false, not_false_eq_true, and_self, or_self, if_true, if_false, reduceIte, reduceCtorEq, Nat.add_sub_cancel]
            refine ⟨congrArg (fun z => some (Sum.inl z)) (Eq.trans rfl eR.symm), ?_⟩
            exact hA
      · have eR : bikR t D x w = (D 11 (nN x)) := by
          simp only [bikR, h6, h11, eq_true h22, eq_self, ifC_T, ifC_F, and_true, true_and, and_false, false_and, or_true, true_or, or_false, false_or, not_true_eq_false, not_false_eq_true, and_self, or_self, if_true, if_false, reduceIte, reduceCtorEq, Nat.add_sub_cancel]
        refine ⟨congrArg (fun z => some (Sum.inl z)) (Eq.trans rfl eR.symm), ?_⟩
        exact hA
    · have eR : bikR t D x w = (-2) := by
        simp only [bikR, h6, h11, eq_self, ifC_T, ifC_F, and_true, true_and, and_false, false_and, or_true, true_or, or_false, false_or, not_true_eq_false, not_false_eq_true, and_self, or_self, if_true, if_false, reduceIte, reduceCtorEq, Nat.add_sub_cancel]
      refine ⟨congrArg (fun z => some (Sum.inl z)) (Eq.trans rfl eR.symm), ?_⟩
      exact hA
def wtn (t : Sg) (D : Dy) (p : Nat) : Nat := ct (fun r => decide (D 16 r = nI 1) && decide (t 77 false 0 r = nI p)) (nR t)
noncomputable def pstR (t : Sg) (D : Dy) (x w : Int32) : Int32 := ifC (isPo t x) (ifC (w = nI 0) (nI (thr t D (nN x))) (ifC (w = nI 1) (nI (gdn t D (nN x))) (ifC (w = nI 2) (fre t D (nN x)) (ifC (w = nI 3) (D 1 (nN x)) (ifC (w = nI 4) (D 2 (nN x)) (ifC (w = nI 5) (nI (wtn t D (nN x))) (ifC (w = nI 6) (D 3 (nN x)) (ifC (w = nI 7) (D 4 (nN x)) (ifC (w = nI 8) (D 5 (nN x)) (-2)))))))))) (-2)
theorem mv_waits_l {t : Sg} {D : Dy} {τ : Sg} {P : Option AV → Sg → Prop} (hA : Ag t D τ) (hT : WN t) {x w : Int32} {p : Nat} (hx : x = nI p) (hK : G true 161 P 67 [some (.inr (.inr (69, false, 0))), some (.inl x), some (.inl w), some (.inl (nI (wtn t D p))), none] [] τ) : ∀ (j r : Nat), r + j = nR t → ∀ n, n = ct (fun r => decide (D 16 r = nI 1) && decide (t 77 false 0 r = nI p)) r → G true 161 P 41 [some (.inr (.inr (69, false, 0))), some (.inl x), some (.inl w), some (.inl (nI n)), some (.inl (nI r))] [] τ := by
  have eR := hA.R hT
  have hR := hT.R
  intro j
  induction j with
  | zero =>
    intro r hr n hn
    refine G_wp 60 [41, 67] rfl ?_
    refine br_ge rfl eR (by omega) (by omega) (fun h44 => ?_) (fun h44 => ?_)
    · rw [hn, show r = nR t by omega]
      exact G_fg 4 hK
    · exact absurd h44 (by omega)
  | succ j ih =>
    intro r hr n hn
    refine G_wp 60 [41, 67] rfl ?_
    refine br_ge rfl eR (by omega) (by omega) (fun h44 => ?_) (fun h44 => ?_)
    · exact absurd h44 (by omega)
    · refine ⟨1532 + r, (add_n rfl rfl), (by show _ < 23184; omega), ?_⟩
      rw [hA.r16 r (by omega)]
      refine ⟨fun h53 => ?_, fun h53 => ?_⟩
      · refine ⟨nI (n + 0), (add_n rfl rfl), nI (r + 1), nI_add _ _, ?_⟩
        refine ih (r + 1) (by omega) _ ?_
        rw [ct_S, hn]
        simp_all
      · refine ⟨r, rfl, (by show _ < 200; omega), ?_⟩
        rw [hA.2 77 _ _ _ (by decide) rfl]
        refine ⟨fun h59 => ?_, fun h59 => ?_⟩
        · refine ⟨nI (n + 0), (add_n rfl rfl), nI (r + 1), nI_add _ _, ?_⟩
          refine ih (r + 1) (by omega) _ ?_
          rw [ct_S, hn]
          simp_all
        · refine ⟨nI (n + 1), (add_n rfl rfl), nI (r + 1), nI_add _ _, ?_⟩
          refine ih (r + 1) (by omega) _ ?_
          rw [ct_S, hn]
          simp_all
theorem mp_postAt {t : Sg} {D : Dy} {τ : Sg} (hA : Ag t D τ) (hT : WN t) {x w : Int32}  : ∃ τ', Ev true 161 [.inr (.inr (69, false, 0)), .inl (x), .inl (w)] τ (some (.inl (pstR t D x w))) τ' ∧ Ag (t) (D) τ' := by
  have hP := hT.P
  refine EvQ_wp 84 [41] rfl rfl ?_
  refine ⟨_, rfl, ?_⟩
  replace hA := Ag_scr hA (k := 69) (d := false) (i := 0) (j := 0) (v := (nI (0))) (by decide) rfl
  refine ⟨_, _, mv_isPost2 hA hT, ?_⟩
  refine brd_ne (fun h6 => ?_) (fun h6 => ?_)
  · have hx := isPo_n hT h6
    refine ⟨_, rfl, ?_⟩
    refine ⟨fun h12 => ?_, fun h12 => ?_, fun h12 => ?_, fun h12 => ?_, fun h12 => ?_, fun h12 => ?_, fun h12 => ?_, fun h12 => ?_, fun h12 => ?_, ?_⟩
    · refine ⟨_, _, mv_there hA hT hx.1, ?_⟩
      have eR : pstR t D x w = nI (thr t D (nN x)) := by
        simp only [pstR, h6, eq_true h12, eq_self, ifC_T, ifC_F, and_true, true_and, and_false, false_and, or_true, true_or, or_false, false_or, not_true_eq_false, not_false_eq_true, and_self, or_self, if_true, if_false, reduceIte, reduceCtorEq, Nat.add_sub_cancel]
      refine ⟨congrArg (fun z => some (Sum.inl z)) (Eq.trans rfl eR.symm), ?_⟩
      exact hA
    · refine ⟨_, _, mv_good hA hT hx.1, ?_⟩
      have eR : pstR t D x w = nI (gdn t D (nN x)) := by
        simp only [pstR, h6, eq_true h12, (show ¬ w = nI 0 from fun q => absurd (h12.symm.trans q) (by decide)), eq_self, ifC_T, ifC_F, and_true, true_and, and_false, false_and, or_true, true_or, or_false, false_or, not_true_eq_false, not_false_eq_true, and_self, or_self, if_true, if_false, reduceIte, reduceCtorEq, Nat.add_sub_cancel]
      refine ⟨congrArg (fun z => some (Sum.inl z)) (Eq.trans rfl eR.symm), ?_⟩
      exact hA
    · refine ⟨_, _, mv_free hA hT hx.1 hx.2, ?_⟩
      have eR : pstR t D x w = (fre t D (nN x)) := by
        simp only [pstR, h6, eq_true h12, (show ¬ w = nI 0 from fun q => absurd (h12.symm.trans q) (by decide)), (show ¬ w = nI 1 from fun q => absurd (h12.symm.trans q) (by decide)), eq_self, ifC_T, ifC_F, and_true, true_and, and_false, false_and, or_true, true_or, or_false, false_or, not_true_eq_false, not_false_eq_true, and_self, or_self, if_true, if_false, reduceIte, reduceCtorEq, Nat.add_sub_cancel]
      refine ⟨congrArg (fun z => some (Sum.inl z)) (Eq.trans rfl eR.symm), ?_⟩
      exact hA
    · refine ⟨8 + (nN x), (add_n rfl hx.1), (by show _ < 23184; omega), ?_⟩
      rw [hA.r1 (nN x) (by omega)]
      have eR : pstR t D x w = (D 1 (nN x)) := by
        simp only [pstR, h6, eq_true h12, (show ¬ w = nI 0 from fun q => absurd (h12.symm.trans q) (by decide)), (show ¬ w = nI 1 from fun q => absurd (h12.symm.trans q) (by decide)), (show ¬ w = nI 2 from fun q => absurd (h12.symm.trans q) (by decide)), eq_self, ifC_T, ifC_F, and_true, true_and, and_false, false_and, or_true, true_or, or_false, false_or, not_true_eq_false, not_false_eq_true, and_self, or_self, if_true, if_false, reduceIte, reduceCtorEq, Nat.add_sub_cancel]
      refine ⟨congrArg (fun z => some (Sum.inl z)) (Eq.trans rfl eR.symm), ?_⟩
      exact hA
    · refine ⟨20 + (nN x), (add_n rfl hx.1), (by show _ < 23184; omega), ?_⟩
      rw [hA.r2 (nN x) (by omega)]
      have eR : pstR t D x w = (D 2 (nN x)) := by
        simp only [pstR, h6, eq_true h12, (show ¬ w = nI 0 from fun q => absurd (h12.symm.trans q) (by decide)), (show ¬ w = nI 1 from fun q => absurd (h12.symm.trans q) (by decide)), (show ¬ w = nI 2 from fun q => absurd (h12.symm.trans q) (by decide)), (show ¬ w = nI 3 from fun q => absurd (h12.symm.trans q) (by decide)), eq_self, ifC_T, ifC_F, and_true, true_and, and_false, false_and, or_true, true_or, or_false, false_or, not_true_eq_false, not_false_eq_true, and_self, or_self, if_true, if_false, reduceIte, reduceCtorEq, Nat.add_sub_cancel]
      refine ⟨congrArg (fun z => some (Sum.inl z)) (Eq.trans rfl eR.symm), ?_⟩
      exact hA
    · refine ⟨_, rfl, ?_⟩
      have eR : pstR t D x w = nI (wtn t D (nN x)) := by simp only [pstR, h6, eq_true h12, (show ¬ w = nI 0 from fun q => absurd (h12.symm.trans q) (by decide)), (show ¬ w = nI 1 from fun q => absurd (h12.symm.trans q) (by decide)), (show ¬ w = nI 2 from fun q => absurd (h12.symm.trans q) (by decide)), (show ¬ w = nI 3 from fun q => absurd (h12.symm.trans q) (by decide)), (show ¬ w = nI 4 from fun q => absurd (h12.symm.trans q) (by decide)), eq_self, ifC_T, ifC_F, and_true, true_and, and_false, false_and, or_true, true_or, or_false, false_or, not_true_eq_false, not_false_eq_true, and_self, or_self, if_true, if_false, reduceIte, reduceCtorEq, Nat.add_sub_cancel]
      rw [eR]
      refine mv_waits_l hA hT hx.1 ?_ (nR t) 0 (by omega) 0 rfl
      refine G_wp 20 [] rfl ?_
      exact ⟨rfl, hA⟩
    · refine ⟨32 + (nN x), (add_n rfl hx.1), (by show _ < 23184; omega), ?_⟩
      rw [hA.r3 (nN x) (by omega)]
      have eR : pstR t D x w = (D 3 (nN x)) := by
        simp only [pstR, h6, eq_true h12, (show ¬ w = nI 0 from fun q => absurd (h12.symm.trans q) (by decide)), (show ¬ w = nI 1 from fun q => absurd (h12.symm.trans q) (by decide)), (show ¬ w = nI 2 from fun q => absurd (h12.symm.trans q) (by decide)), (show ¬ w = nI 3 from fun q => absurd (h12.symm.trans q) (by decide)), (show ¬ w = nI 4 from fun q => absurd (h12.symm.trans q) (by decide)), (show ¬ w = nI 5 from fun q => absurd (h12.symm.trans q) (by decide)), eq_self, ifC_T, ifC_F, and_true, true_and, and_false, false_and, or_true, true_or, or_false, false_or, not_true_eq_false, not_false_eq_true, and_self, or_self, if_true, if_false, reduceIte, reduceCtorEq, Nat.add_sub_cancel]
      refine ⟨congrArg (fun z => some (Sum.inl z)) (Eq.trans rfl eR.symm), ?_⟩
      exact hA
    · refine ⟨44 + (nN x), (add_n rfl hx.1), (by show _ < 23184; omega), ?_⟩
      rw [hA.r4 (nN x) (by omega)]
      have eR : pstR t D x w = (D 4 (nN x)) := by
        simp only [pstR, h6, eq_true h12, (show ¬ w = nI 0 from fun q => absurd (h12.symm.trans q) (by decide)), (show ¬ w = nI 1 from fun q => absurd (h12.symm.trans q) (by decide)), (show ¬ w = nI 2 from fun q => absurd (h12.symm.trans q) (by decide)), (show ¬ w = nI 3 from fun q => absurd (h12.symm.trans q) (by decide)), (show ¬ w = nI 4 from fun q => absurd (h12.symm.trans q) (by decide)), (show ¬ w = nI 5 from fun q => absurd (h12.symm.trans q) (by decide)), (show ¬ w = nI 6 from fun q => absurd (h12.symm.trans q) (by decide)), eq_self, ifC_T, ifC_F, and_true, true_and, and_false, false_and, or_true, true_or, or_false, false_or, not_true_eq_false, not_false_eq_true, and_self, or_self, if_true, if_false, reduceIte, reduceCtorEq, Nat.add_sub_cancel]
      refine ⟨congrArg (fun z => some (Sum.inl z)) (Eq.trans rfl eR.symm), ?_⟩
      exact hA
    · refine ⟨56 + (nN x), (add_n rfl hx.1), (by show _ < 23184; omega), ?_⟩
      rw [hA.r5 (nN x) (by omega)]
      have eR : pstR t D x w = (D 5 (nN x)) := by
        simp only [pstR, h6, eq_true h12, (show ¬ w = nI 0 from fun q => absurd (h12.symm.trans q) (by decide)), (show ¬ w = nI 1 from fun q => absurd (h12.symm.trans q) (by decide)), (show ¬ w = nI 2 from fun q => absurd (h12.symm.trans q) (by decide)), (show ¬ w = nI 3 from fun q => absurd (h12.symm.trans q) (by decide)), (show ¬ w = nI 4 from fun q => absurd (h12.symm.trans q) (by decide)), (show ¬ w = nI 5 from fun q => absurd (h12.symm.trans q) (by decide)), (show ¬ w = nI 6 from fun q => absurd (h12.symm.trans q) (by decide)), (show ¬ w = nI 7 from fun q => absurd (h12.symm.trans q) (by decide)), eq_self, ifC_T, ifC_F, and_true, true_and, and_false, false_and, or_true, true_or, or_false, false_or, not_true_eq_false, not_false_eq_true, and_self, or_self, if_true, if_false, reduceIte, reduceCtorEq, Nat.add_sub_cancel]
      refine ⟨congrArg (fun z => some (Sum.inl z)) (Eq.trans rfl eR.symm), ?_⟩
      exact hA
    · intro h12
      have eR : pstR t D x w = (-2) := by
        simp only [pstR, h6, h12.1, h12.2.1, h12.2.2.1, h12.2.2.2.1, h12.2.2.2.2.1, h12.2.2.2.2.2.1, h12.2.2.2.2.2.2.1, h12.2.2.2.2.2.2.2.1, h12.2.2.2.2.2.2.2.2.1, eq_self, ifC_T, ifC_F, and_true, true_and, and_false, false_and, or_true, true_or, or_false, false_or, not_true_eq_false, not_false_eq_true, and_self, or_self, if_true, if_false, reduceIte, reduceCtorEq, Nat.add_sub_cancel]
      refine ⟨congrArg (fun z => some (Sum.inl z)) (Eq.trans rfl eR.symm), ?_⟩
      exact hA
  · have eR : pstR t D x w = (-2) := by
      simp only [pstR, h6, eq_self, ifC_T, ifC_F, and_true, true_and, and_false, false_and, or_true, true_or, or_false, false_or, not_true_eq_false, not_false_eq_true, and_self, or_self, if_true, if_false, reduceIte, reduceCtorEq, Nat.add_sub_cancel]
    refine ⟨congrArg (fun z => some (Sum.inl z)) (Eq.trans rfl eR.symm), ?_⟩
    exact hA
noncomputable def rdaR (t : Sg) (D : Dy) (x w : Int32) : Int32 := ifC (inI (nI 0) x (t 69 false 0 9 - nI 1) ∧ inI (nI 0) w (nI 5)) (D (16 + nN w) (nN x)) (-2)
theorem mp_riderAt {t : Sg} {D : Dy} {τ : Sg} (hA : Ag t D τ) (hT : WN t) {x w : Int32}  : ∃ τ', Ev true 120 [.inr (.inr (69, false, 0)), .inl (x), .inl (w)] τ (some (.inl (rdaR t D x w))) τ' ∧ Ag (t) (D) τ' := by
  have hR := hT.R
  refine EvQ_wp 51 [] rfl rfl ?_
  refine ⟨_, rfl, ?_⟩
  replace hA := Ag_scr hA (k := 69) (d := false) (i := 0) (j := 0) (v := (nI (0))) (by decide) rfl
  refine ⟨_, _, mv_in3 (congrArg (fun z => z - nI 1) (hA.2 69 false 0 9 (by decide) rfl)), ?_⟩
  refine brd_eq (fun h10 => ?_) (fun h10 => ?_)
  · have eR : rdaR t D x w = (-2) := by
      simp only [rdaR, h10, eq_self, ifC_T, ifC_F, and_true, true_and, and_false, false_and, or_true, true_or, or_false, false_or, not_true_eq_false, not_false_eq_true, and_self, or_self, if_true, if_false, reduceIte, reduceCtorEq, Nat.add_sub_cancel]
    refine ⟨congrArg (fun z => some (Sum.inl z)) (Eq.trans rfl eR.symm), ?_⟩
    exact hA
  · refine ⟨_, _, mv_in2, ?_⟩
    refine brd_ne (fun h15 => ?_) (fun h15 => ?_)
    · have hx := isRd_n hT ((isR_iff hT).mp h10)
      have hw := inI_n (by omega) (by omega) h15
      refine ⟨1532 + ((200 * (nN w)) + (nN x)), (add_nr (add_n rfl (mul_n rfl hw.1)) hx.1), (by show _ < 23184; omega), ?_⟩
      have e9 : (up4 τ 69 false 0 0 (nI 0)) 70 false 0 (1532 + (200 * nN w + nN x)) = D (16 + nN w) (nN x) := by
        have h9 := hw.2.2
        rcases (show nN w = 0 ∨ nN w = 1 ∨ nN w = 2 ∨ nN w = 3 ∨ nN w = 4 ∨ nN w = 5 by omega) with q | q | q | q | q | q <;> rw [q]
        · exact (show (up4 τ 69 false 0 0 (nI 0)) 70 false 0 (1532 + (200 * 0 + nN x)) = D 16 (nN x) by rw [show 1532 + (200 * 0 + nN x) = 1532 + nN x by omega]; exact hA.r16 (nN x) (by omega))
        · exact (show (up4 τ 69 false 0 0 (nI 0)) 70 false 0 (1532 + (200 * 1 + nN x)) = D 17 (nN x) by rw [show 1532 + (200 * 1 + nN x) = 1732 + nN x by omega]; exact hA.r17 (nN x) (by omega))
        · exact (show (up4 τ 69 false 0 0 (nI 0)) 70 false 0 (1532 + (200 * 2 + nN x)) = D 18 (nN x) by rw [show 1532 + (200 * 2 + nN x) = 1932 + nN x by omega]; exact hA.r18 (nN x) (by omega))
        · exact (show (up4 τ 69 false 0 0 (nI 0)) 70 false 0 (1532 + (200 * 3 + nN x)) = D 19 (nN x) by rw [show 1532 + (200 * 3 + nN x) = 2132 + nN x by omega]; exact hA.r19 (nN x) (by omega))
        · exact (show (up4 τ 69 false 0 0 (nI 0)) 70 false 0 (1532 + (200 * 4 + nN x)) = D 20 (nN x) by rw [show 1532 + (200 * 4 + nN x) = 2332 + nN x by omega]; exact hA.r20 (nN x) (by omega))
        · exact (show (up4 τ 69 false 0 0 (nI 0)) 70 false 0 (1532 + (200 * 5 + nN x)) = D 21 (nN x) by rw [show 1532 + (200 * 5 + nN x) = 2532 + nN x by omega]; exact hA.r21 (nN x) (by omega))
      have eR : rdaR t D x w = D (16 + nN w) (nN x) := by simp only [rdaR, h10, h15, eq_self, ifC_T, ifC_F, and_true, true_and, and_false, false_and, or_true, true_or, or_false, false_or, not_true_eq_false, not_false_eq_true, and_self, or_self, if_true, if_false, reduceIte, reduceCtorEq, Nat.add_sub_cancel]
      exact ⟨congrArg (fun z => some (Sum.inl z)) (e9.trans eR.symm), hA⟩
    · have eR : rdaR t D x w = (-2) := by
        simp only [rdaR, h10, h15, eq_self, ifC_T, ifC_F, and_true, true_and, and_false, false_and, or_true, true_or, or_false, false_or, not_true_eq_false, not_false_eq_true, and_self, or_self, if_true, if_false, reduceIte, reduceCtorEq, Nat.add_sub_cancel]
      refine ⟨congrArg (fun z => some (Sum.inl z)) (Eq.trans rfl eR.symm), ?_⟩
      exact hA
noncomputable def vanR (D : Dy) (w : Int32) : Int32 := ifC (w = nI 0) (D 0 2) (ifC (w = nI 1) (D 0 3) (ifC (w = nI 2) (D 0 5) (ifC (w = nI 3) (D 0 6) (-2))))
theorem mp_van {t : Sg} {D : Dy} {τ : Sg} (hA : Ag t D τ) (hT : WN t) {w : Int32}  : ∃ τ', Ev true 58 [.inr (.inr (69, false, 0)), .inl (w)] τ (some (.inl (vanR D w))) τ' ∧ Ag (t) (D) τ' := by
  refine EvQ_wp 47 [] rfl rfl ?_
  refine ⟨_, rfl, ?_⟩
  replace hA := Ag_scr hA (k := 69) (d := false) (i := 0) (j := 0) (v := (nI (0))) (by decide) rfl
  refine ⟨fun h4 => ?_, fun h4 => ?_, fun h4 => ?_, fun h4 => ?_, ?_⟩
  · refine ⟨2, rfl, (by show _ < 23184; omega), ?_⟩
    rw [hA.r0 2 (by decide)]
    have eR : vanR D w = (D 0 2) := by
      simp only [vanR, eq_true h4, eq_self, ifC_T, ifC_F, and_true, true_and, and_false, false_and, or_true, true_or, or_false, false_or, not_true_eq_false, not_false_eq_true, and_self, or_self, if_true, if_false, reduceIte, reduceCtorEq, Nat.add_sub_cancel]
    refine ⟨congrArg (fun z => some (Sum.inl z)) (Eq.trans rfl eR.symm), ?_⟩
    exact hA
  · refine ⟨3, rfl, (by show _ < 23184; omega), ?_⟩
    rw [hA.r0 3 (by decide)]
    have eR : vanR D w = (D 0 3) := by
      simp only [vanR, eq_true h4, (show ¬ w = nI 0 from fun q => absurd (h4.symm.trans q) (by decide)), eq_self, ifC_T, ifC_F, and_true, true_and, and_false, false_and, or_true, true_or, or_false, false_or, not_true_eq_false, not_false_eq_true, and_self, or_self, if_true, if_false, reduceIte, reduceCtorEq, Nat.add_sub_cancel]
    refine ⟨congrArg (fun z => some (Sum.inl z)) (Eq.trans rfl eR.symm), ?_⟩
    exact hA
  · refine ⟨5, rfl, (by show _ < 23184; omega), ?_⟩
    rw [hA.r0 5 (by decide)]
    have eR : vanR D w = (D 0 5) := by
      simp only [vanR, eq_true h4, (show ¬ w = nI 0 from fun q => absurd (h4.symm.trans q) (by decide)), (show ¬ w = nI 1 from fun q => absurd (h4.symm.trans q) (by decide)), eq_self, ifC_T, ifC_F, and_true, true_and, and_false, false_and, or_true, true_or, or_false, false_or, not_true_eq_false, not_false_eq_true, and_self, or_self, if_true, if_false, reduceIte, reduceCtorEq, Nat.add_sub_cancel]
    refine ⟨congrArg (fun z => some (Sum.inl z)) (Eq.trans rfl eR.symm), ?_⟩
    exact hA
  · refine ⟨6, rfl, (by show _ < 23184; omega), ?_⟩
    rw [hA.r0 6 (by decide)]
    have eR : vanR D w = (D 0 6) := by
      simp only [vanR, eq_true h4, (show ¬ w = nI 0 from fun q => absurd (h4.symm.trans q) (by decide)), (show ¬ w = nI 1 from fun q => absurd (h4.symm.trans q) (by decide)), (show ¬ w = nI 2 from fun q => absurd (h4.symm.trans q) (by decide)), eq_self, ifC_T, ifC_F, and_true, true_and, and_false, false_and, or_true, true_or, or_false, false_or, not_true_eq_false, not_false_eq_true, and_self, or_self, if_true, if_false, reduceIte, reduceCtorEq, Nat.add_sub_cancel]
    refine ⟨congrArg (fun z => some (Sum.inl z)) (Eq.trans rfl eR.symm), ?_⟩
    exact hA
  · intro h4
    have eR : vanR D w = (-2) := by
      simp only [vanR, h4.1, h4.2.1, h4.2.2.1, h4.2.2.2.1, eq_self, ifC_T, ifC_F, and_true, true_and, and_false, false_and, or_true, true_or, or_false, false_or, not_true_eq_false, not_false_eq_true, and_self, or_self, if_true, if_false, reduceIte, reduceCtorEq, Nat.add_sub_cancel]
    refine ⟨congrArg (fun z => some (Sum.inl z)) (Eq.trans rfl eR.symm), ?_⟩
    exact hA
noncomputable def wayR (t : Sg) (x y : Int32) : Int32 := ifC (isPo t x ∧ isPo t y) (way t (nN x) (nN y)) (-2)
theorem mp_way {t : Sg} {D : Dy} {τ : Sg} (hA : Ag t D τ) (hT : WN t) {x y : Int32}  : ∃ τ', Ev true 162 [.inr (.inr (69, false, 0)), .inl (x), .inl (y)] τ (some (.inl (wayR t x y))) τ' ∧ Ag (t) (D) τ' := by
  have hP := hT.P
  refine EvQ_wp 41 [] rfl rfl ?_
  refine ⟨_, rfl, ?_⟩
  replace hA := Ag_scr hA (k := 69) (d := false) (i := 0) (j := 0) (v := (nI (0))) (by decide) rfl
  refine ⟨_, _, mv_isPost2 hA hT, ?_⟩
  refine brd_eq (fun h6 => ?_) (fun h6 => ?_)
  · have eR : wayR t x y = (-2) := by
      simp only [wayR, h6, eq_self, ifC_T, ifC_F, and_true, true_and, and_false, false_and, or_true, true_or, or_false, false_or, not_true_eq_false, not_false_eq_true, and_self, or_self, if_true, if_false, reduceIte, reduceCtorEq, Nat.add_sub_cancel]
    refine ⟨congrArg (fun z => some (Sum.inl z)) (Eq.trans rfl eR.symm), ?_⟩
    exact hA
  · refine ⟨_, _, mv_isPost2 hA hT, ?_⟩
    refine brd_eq (fun h10 => ?_) (fun h10 => ?_)
    · have eR : wayR t x y = (-2) := by
        simp only [wayR, h6, h10, eq_self, ifC_T, ifC_F, and_true, true_and, and_false, false_and, or_true, true_or, or_false, false_or, not_true_eq_false, not_false_eq_true, and_self, or_self, if_true, if_false, reduceIte, reduceCtorEq, Nat.add_sub_cancel]
      refine ⟨congrArg (fun z => some (Sum.inl z)) (Eq.trans rfl eR.symm), ?_⟩
      exact hA
    · have hx := isPo_n hT h6
      have hy := isPo_n hT h10
      refine ⟨_, _, mv_way hA hT hx.1 (by omega) hy.1 (by omega), ?_⟩
      have eR : wayR t x y = (way t (nN x) (nN y)) := by
        simp only [wayR, h6, h10, eq_self, ifC_T, ifC_F, and_true, true_and, and_false, false_and, or_true, true_or, or_false, false_or, not_true_eq_false, not_false_eq_true, and_self, or_self, if_true, if_false, reduceIte, reduceCtorEq, Nat.add_sub_cancel]
      refine ⟨congrArg (fun z => some (Sum.inl z)) (Eq.trans rfl eR.symm), ?_⟩
      exact hA
noncomputable def logR (D : Dy) (x w : Int32) : Int32 := ifC (¬ x < nI 0 ∧ inI (nI 0) w (nI 4)) (ifC (D 0 7 ≤ x) (-1) (D 27 (5 * nN x + nN w))) (-2)
theorem nN_lt (x : Int32) : nN x < 2147483648 := by
  unfold nN
  have h1 := x.toInt_lt
  have h2 : x.toNatClampNeg = x.toInt.toNat := rfl
  omega
theorem mp_log {t : Sg} {D : Dy} {τ : Sg} (hA : Ag t D τ) (hT : WN t) {x w : Int32} (h7 : Is (D 0 7) 4000) : ∃ τ', Ev true 121 [.inr (.inr (69, false, 0)), .inl (x), .inl (w)] τ (some (.inl (logR D x w))) τ' ∧ Ag (t) (D) τ' := by
  refine EvQ_wp 54 [] rfl rfl ?_
  refine ⟨_, rfl, ?_⟩
  replace hA := Ag_scr hA (k := 69) (d := false) (i := 0) (j := 0) (v := (nI (0))) (by decide) rfl
  refine ⟨fun h4 => ?_, fun h4 => ?_⟩
  · have eR : logR D x w = (-2) := by
      simp only [logR, h4, eq_self, ifC_T, ifC_F, and_true, true_and, and_false, false_and, or_true, true_or, or_false, false_or, not_true_eq_false, not_false_eq_true, and_self, or_self, if_true, if_false, reduceIte, reduceCtorEq, Nat.add_sub_cancel]
    refine ⟨congrArg (fun z => some (Sum.inl z)) (Eq.trans rfl eR.symm), ?_⟩
    exact hA
  · refine ⟨_, _, mv_in2, ?_⟩
    refine brd_ne (fun h9 => ?_) (fun h9 => ?_)
    · refine ⟨7, rfl, (by show _ < 23184; omega), ?_⟩
      rw [hA.r0 7 (by decide)]
      refine ⟨fun h17 => ?_, fun h17 => ?_⟩
      · have eR : logR D x w = (-1) := by
          simp only [logR, h4, h9, h17, eq_self, ifC_T, ifC_F, and_true, true_and, and_false, false_and, or_true, true_or, or_false, false_or, not_true_eq_false, not_false_eq_true, and_self, or_self, if_true, if_false, reduceIte, reduceCtorEq, Nat.add_sub_cancel]
        refine ⟨congrArg (fun z => some (Sum.inl z)) (Eq.trans rfl eR.symm), ?_⟩
        exact hA
      · have hw := inI_n (by omega) (by omega) h9
        have hx : x = nI (nN x) := by
          obtain ⟨j, hj, e⟩ := nI_of (x := x) (by rw [nI_0] at h4; exact h4)
          rw [nN_of e hj]
          exact e
        have hxl : nN x < 4000 := by
          have h8 := h7.2
          have h5 := h17
          rw [hx, h7.1] at h5
          have hb : nN x < 2147483648 := nN_lt x
          have := (nI_leI (show nN (D 0 7) < 2147483648 by omega) hb)
          by_cases q : nN (D 0 7) ≤ nN x
          · exact absurd (this.mpr q) h5
          · omega
        refine ⟨3184 + ((5 * (nN x)) + (nN w)), (add_nr (add_n rfl (mul_n rfl hx)) hw.1), (by show _ < 23184; omega), ?_⟩
        rw [hA.r27 ((5 * (nN x)) + (nN w)) (by omega)]
        have eR : logR D x w = (D 27 ((5 * (nN x)) + (nN w))) := by
          simp only [logR, h4, h9, h17, eq_self, ifC_T, ifC_F, and_true, true_and, and_false, false_and, or_true, true_or, or_false, false_or, not_true_eq_false, not_false_eq_true, and_self, or_self, if_true, if_false, reduceIte, reduceCtorEq, Nat.add_sub_cancel]
        refine ⟨congrArg (fun z => some (Sum.inl z)) (Eq.trans rfl eR.symm), ?_⟩
        exact hA
    · have eR : logR D x w = (-2) := by
        simp only [logR, h4, h9, eq_self, ifC_T, ifC_F, and_true, true_and, and_false, false_and, or_true, true_or, or_false, false_or, not_true_eq_false, not_false_eq_true, and_self, or_self, if_true, if_false, reduceIte, reduceCtorEq, Nat.add_sub_cancel]
      refine ⟨congrArg (fun z => some (Sum.inl z)) (Eq.trans rfl eR.symm), ?_⟩
      exact hA
noncomputable def cntR (t : Sg) (D : Dy) (w : Int32) : Int32 := ifC (w = nI 0) (t 69 false 0 3) (ifC (w = nI 1) (t 69 false 0 7) (ifC (w = nI 2) (t 69 false 0 9) (ifC (w = nI 3) (t 69 false 0 22) (ifC (w = nI 4) (D 0 0) (ifC (w = nI 5) (D 0 7) (ifC (w = nI 6) (t 69 false 0 26) (ifC (w = nI 7) (D 0 1) (ifC (w = nI 8) (t 69 false 0 18) (ifC (w = nI 9) (t 69 false 0 20) (-2))))))))))
theorem mp_count {t : Sg} {D : Dy} {τ : Sg} (hA : Ag t D τ) (hT : WN t) {w : Int32}  : ∃ τ', Ev true 61 [.inr (.inr (69, false, 0)), .inl (w)] τ (some (.inl (cntR t D w))) τ' ∧ Ag (t) (D) τ' := by
  refine EvQ_wp 63 [] rfl rfl ?_
  refine ⟨_, rfl, ?_⟩
  replace hA := Ag_scr hA (k := 69) (d := false) (i := 0) (j := 0) (v := (nI (0))) (by decide) rfl
  refine ⟨fun h4 => ?_, fun h4 => ?_, fun h4 => ?_, fun h4 => ?_, fun h4 => ?_, fun h4 => ?_, fun h4 => ?_, fun h4 => ?_, fun h4 => ?_, fun h4 => ?_, ?_⟩
  · have eR : cntR t D w = t 69 false 0 3 := by simp only [cntR, eq_true h4, eq_self, ifC_T, ifC_F, and_true, true_and, and_false, false_and, or_true, true_or, or_false, false_or, not_true_eq_false, not_false_eq_true, and_self, or_self, if_true, if_false, reduceIte, reduceCtorEq, Nat.add_sub_cancel]
    exact ⟨congrArg (fun z => some (Sum.inl z)) ((hA.2 69 false 0 3 (by decide) rfl).trans eR.symm), hA⟩
  · have eR : cntR t D w = t 69 false 0 7 := by simp only [cntR, eq_true h4, (show ¬ w = nI 0 from fun q => absurd (h4.symm.trans q) (by decide)), eq_self, ifC_T, ifC_F, and_true, true_and, and_false, false_and, or_true, true_or, or_false, false_or, not_true_eq_false, not_false_eq_true, and_self, or_self, if_true, if_false, reduceIte, reduceCtorEq, Nat.add_sub_cancel]
    exact ⟨congrArg (fun z => some (Sum.inl z)) ((hA.2 69 false 0 7 (by decide) rfl).trans eR.symm), hA⟩
  · have eR : cntR t D w = t 69 false 0 9 := by simp only [cntR, eq_true h4, (show ¬ w = nI 0 from fun q => absurd (h4.symm.trans q) (by decide)), (show ¬ w = nI 1 from fun q => absurd (h4.symm.trans q) (by decide)), eq_self, ifC_T, ifC_F, and_true, true_and, and_false, false_and, or_true, true_or, or_false, false_or, not_true_eq_false, not_false_eq_true, and_self, or_self, if_true, if_false, reduceIte, reduceCtorEq, Nat.add_sub_cancel]
    exact ⟨congrArg (fun z => some (Sum.inl z)) ((hA.2 69 false 0 9 (by decide) rfl).trans eR.symm), hA⟩
  · have eR : cntR t D w = t 69 false 0 22 := by simp only [cntR, eq_true h4, (show ¬ w = nI 0 from fun q => absurd (h4.symm.trans q) (by decide)), (show ¬ w = nI 1 from fun q => absurd (h4.symm.trans q) (by decide)), (show ¬ w = nI 2 from fun q => absurd (h4.symm.trans q) (by decide)), eq_self, ifC_T, ifC_F, and_true, true_and, and_false, false_and, or_true, true_or, or_false, false_or, not_true_eq_false, not_false_eq_true, and_self, or_self, if_true, if_false, reduceIte, reduceCtorEq, Nat.add_sub_cancel]
    exact ⟨congrArg (fun z => some (Sum.inl z)) ((hA.2 69 false 0 22 (by decide) rfl).trans eR.symm), hA⟩
  · refine ⟨0, rfl, (by show _ < 23184; omega), ?_⟩
    rw [hA.r0 0 (by decide)]
    have eR : cntR t D w = (D 0 0) := by
      simp only [cntR, eq_true h4, (show ¬ w = nI 0 from fun q => absurd (h4.symm.trans q) (by decide)), (show ¬ w = nI 1 from fun q => absurd (h4.symm.trans q) (by decide)), (show ¬ w = nI 2 from fun q => absurd (h4.symm.trans q) (by decide)), (show ¬ w = nI 3 from fun q => absurd (h4.symm.trans q) (by decide)), eq_self, ifC_T, ifC_F, and_true, true_and, and_false, false_and, or_true, true_or, or_false, false_or, not_true_eq_false, not_false_eq_true, and_self, or_self, if_true, if_false, reduceIte, reduceCtorEq, Nat.add_sub_cancel]
    refine ⟨congrArg (fun z => some (Sum.inl z)) (Eq.trans rfl eR.symm), ?_⟩
    exact hA
  · refine ⟨7, rfl, (by show _ < 23184; omega), ?_⟩
    rw [hA.r0 7 (by decide)]
    have eR : cntR t D w = (D 0 7) := by
      simp only [cntR, eq_true h4, (show ¬ w = nI 0 from fun q => absurd (h4.symm.trans q) (by decide)), (show ¬ w = nI 1 from fun q => absurd (h4.symm.trans q) (by decide)), (show ¬ w = nI 2 from fun q => absurd (h4.symm.trans q) (by decide)), (show ¬ w = nI 3 from fun q => absurd (h4.symm.trans q) (by decide)), (show ¬ w = nI 4 from fun q => absurd (h4.symm.trans q) (by decide)), eq_self, ifC_T, ifC_F, and_true, true_and, and_false, false_and, or_true, true_or, or_false, false_or, not_true_eq_false, not_false_eq_true, and_self, or_self, if_true, if_false, reduceIte, reduceCtorEq, Nat.add_sub_cancel]
    refine ⟨congrArg (fun z => some (Sum.inl z)) (Eq.trans rfl eR.symm), ?_⟩
    exact hA
  · have eR : cntR t D w = t 69 false 0 26 := by simp only [cntR, eq_true h4, (show ¬ w = nI 0 from fun q => absurd (h4.symm.trans q) (by decide)), (show ¬ w = nI 1 from fun q => absurd (h4.symm.trans q) (by decide)), (show ¬ w = nI 2 from fun q => absurd (h4.symm.trans q) (by decide)), (show ¬ w = nI 3 from fun q => absurd (h4.symm.trans q) (by decide)), (show ¬ w = nI 4 from fun q => absurd (h4.symm.trans q) (by decide)), (show ¬ w = nI 5 from fun q => absurd (h4.symm.trans q) (by decide)), eq_self, ifC_T, ifC_F, and_true, true_and, and_false, false_and, or_true, true_or, or_false, false_or, not_true_eq_false, not_false_eq_true, and_self, or_self, if_true, if_false, reduceIte, reduceCtorEq, Nat.add_sub_cancel]
    exact ⟨congrArg (fun z => some (Sum.inl z)) ((hA.2 69 false 0 26 (by decide) rfl).trans eR.symm), hA⟩
  · refine ⟨1, rfl, (by show _ < 23184; omega), ?_⟩
    rw [hA.r0 1 (by decide)]
    have eR : cntR t D w = (D 0 1) := by
      simp only [cntR, eq_true h4, (show ¬ w = nI 0 from fun q => absurd (h4.symm.trans q) (by decide)), (show ¬ w = nI 1 from fun q => absurd (h4.symm.trans q) (by decide)), (show ¬ w = nI 2 from fun q => absurd (h4.symm.trans q) (by decide)), (show ¬ w = nI 3 from fun q => absurd (h4.symm.trans q) (by decide)), (show ¬ w = nI 4 from fun q => absurd (h4.symm.trans q) (by decide)), (show ¬ w = nI 5 from fun q => absurd (h4.symm.trans q) (by decide)), (show ¬ w = nI 6 from fun q => absurd (h4.symm.trans q) (by decide)), eq_self, ifC_T, ifC_F, and_true, true_and, and_false, false_and, or_true, true_or, or_false, false_or, not_true_eq_false, not_false_eq_true, and_self, or_self, if_true, if_false, reduceIte, reduceCtorEq, Nat.add_sub_cancel]
    refine ⟨congrArg (fun z => some (Sum.inl z)) (Eq.trans rfl eR.symm), ?_⟩
    exact hA
  · have eR : cntR t D w = t 69 false 0 18 := by simp only [cntR, eq_true h4, (show ¬ w = nI 0 from fun q => absurd (h4.symm.trans q) (by decide)), (show ¬ w = nI 1 from fun q => absurd (h4.symm.trans q) (by decide)), (show ¬ w = nI 2 from fun q => absurd (h4.symm.trans q) (by decide)), (show ¬ w = nI 3 from fun q => absurd (h4.symm.trans q) (by decide)), (show ¬ w = nI 4 from fun q => absurd (h4.symm.trans q) (by decide)), (show ¬ w = nI 5 from fun q => absurd (h4.symm.trans q) (by decide)), (show ¬ w = nI 6 from fun q => absurd (h4.symm.trans q) (by decide)), (show ¬ w = nI 7 from fun q => absurd (h4.symm.trans q) (by decide)), eq_self, ifC_T, ifC_F, and_true, true_and, and_false, false_and, or_true, true_or, or_false, false_or, not_true_eq_false, not_false_eq_true, and_self, or_self, if_true, if_false, reduceIte, reduceCtorEq, Nat.add_sub_cancel]
    exact ⟨congrArg (fun z => some (Sum.inl z)) ((hA.2 69 false 0 18 (by decide) rfl).trans eR.symm), hA⟩
  · have eR : cntR t D w = t 69 false 0 20 := by simp only [cntR, eq_true h4, (show ¬ w = nI 0 from fun q => absurd (h4.symm.trans q) (by decide)), (show ¬ w = nI 1 from fun q => absurd (h4.symm.trans q) (by decide)), (show ¬ w = nI 2 from fun q => absurd (h4.symm.trans q) (by decide)), (show ¬ w = nI 3 from fun q => absurd (h4.symm.trans q) (by decide)), (show ¬ w = nI 4 from fun q => absurd (h4.symm.trans q) (by decide)), (show ¬ w = nI 5 from fun q => absurd (h4.symm.trans q) (by decide)), (show ¬ w = nI 6 from fun q => absurd (h4.symm.trans q) (by decide)), (show ¬ w = nI 7 from fun q => absurd (h4.symm.trans q) (by decide)), (show ¬ w = nI 8 from fun q => absurd (h4.symm.trans q) (by decide)), eq_self, ifC_T, ifC_F, and_true, true_and, and_false, false_and, or_true, true_or, or_false, false_or, not_true_eq_false, not_false_eq_true, and_self, or_self, if_true, if_false, reduceIte, reduceCtorEq, Nat.add_sub_cancel]
    exact ⟨congrArg (fun z => some (Sum.inl z)) ((hA.2 69 false 0 20 (by decide) rfl).trans eR.symm), hA⟩
  · intro h4
    have eR : cntR t D w = (-2) := by
      simp only [cntR, h4.1, h4.2.1, h4.2.2.1, h4.2.2.2.1, h4.2.2.2.2.1, h4.2.2.2.2.2.1, h4.2.2.2.2.2.2.1, h4.2.2.2.2.2.2.2.1, h4.2.2.2.2.2.2.2.2.1, h4.2.2.2.2.2.2.2.2.2.1, eq_self, ifC_T, ifC_F, and_true, true_and, and_false, false_and, or_true, true_or, or_false, false_or, not_true_eq_false, not_false_eq_true, and_self, or_self, if_true, if_false, reduceIte, reduceCtorEq, Nat.add_sub_cancel]
    refine ⟨congrArg (fun z => some (Sum.inl z)) (Eq.trans rfl eR.symm), ?_⟩
    exact hA
