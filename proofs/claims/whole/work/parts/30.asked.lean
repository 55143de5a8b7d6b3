/-! The model asked: as of, ends, forecasts, the digest. -/
def hmN (t : Sg) (x : Int32) : Nat := ct (fun b => decide (t 75 false 0 b = x)) (nB t)
def chg (w : Int32) : Int32 := if w = nI 1 ∨ w = nI 5 ∨ w = nI 7 ∨ w = nI 9 then -1 else if w = nI 2 ∨ w = nI 6 ∨ w = nI 8 ∨ w = nI 10 then nI 1 else nI 0
def chS (D : Dy) (p m : Int32) : Nat → Int32
  | 0 => nI 0
  | i + 1 => chS D p m i + (if D 27 (5 * i + 1) < m ∧ D 27 (5 * i + 2) = p then chg (D 27 (5 * i)) else nI 0)
theorem chS_S (D : Dy) (p m : Int32) (i : Nat) : chS D p m (i + 1) = chS D p m i + (if D 27 (5 * i + 1) < m ∧ D 27 (5 * i + 2) = p then chg (D 27 (5 * i)) else nI 0) := rfl
theorem mv_home_l {t : Sg} {D : Dy} {τ : Sg} {P : Option AV → Sg → Prop} (hA : Ag t D τ) (hT : WN t) {x m : Int32} (hK : G true 163 P 39 [some (.inr (.inr (69, false, 0))), some (.inl x), some (.inl m), some (.inl (nI (hmN t x))), none, none, none, none] [] τ) : ∀ (j b : Nat), b + j = nB t → ∀ n, n = ct (fun b => decide (t 75 false 0 b = x)) b → G true 163 P 21 [some (.inr (.inr (69, false, 0))), some (.inl x), some (.inl m), some (.inl (nI n)), some (.inl (nI b)), none, none, none] [] τ := by
  have eB := hA.B hT
  have hB := hT.B
  intro j
  induction j with
  | zero =>
    intro b hb n hn
    refine G_wp 60 [21, 39] rfl ?_
    refine br_ge rfl eB (by omega) (by omega) (fun h24 => ?_) (fun h24 => ?_)
    · rw [hn, show b = nB t by omega]
      exact G_fg 4 hK
    · exact absurd h24 (by omega)
  | succ j ih =>
    intro b hb n hn
    refine G_wp 60 [21, 39] rfl ?_
    refine br_ge rfl eB (by omega) (by omega) (fun h24 => ?_) (fun h24 => ?_)
    · exact absurd h24 (by omega)
    · refine ⟨b, rfl, (by show _ < 60; omega), ?_⟩
      rw [hA.2 75 _ _ _ (by decide) rfl]
      refine ⟨fun h31 => ?_, fun h31 => ?_⟩
      · refine ⟨nI (n + 0), (add_n rfl rfl), nI (b + 1), nI_add _ _, ?_⟩
        refine ih (b + 1) (by omega) _ ?_
        rw [ct_S, hn]
        simp_all
      · refine ⟨nI (n + 1), (add_n rfl rfl), nI (b + 1), nI_add _ _, ?_⟩
        refine ih (b + 1) (by omega) _ ?_
        rw [ct_S, hn]
        simp_all
theorem mv_asOf_l {t : Sg} {D : Dy} {τ : Sg} (hA : Ag t D τ) (h7 : Is (D 0 7) 4000) {x m c : Int32} : ∀ (j i : Nat), i + j = nN (D 0 7) → ∀ z, z = c + chS D x m i → G true 163 (fun r' s' => r' = some (.inl (c + chS D x m (nN (D 0 7)))) ∧ s' = τ) 41 [some (.inr (.inr (69, false, 0))), some (.inl x), some (.inl m), some (.inl (z)), some (.inl (nI i)), none, none, none] [] τ := by
  have h72 := h7.2
  intro j
  induction j with
  | zero =>
    intro i hi z hz
    refine G_wp 160 [41] rfl ?_
    refine ⟨7, rfl, (by show _ < 23184; (have := h7.2; omega)), ?_⟩
    rw [hA.r0 7 (by decide)]
    refine br_ge rfl h7.1 (by omega) (by omega) (fun h46 => ?_) (fun h46 => ?_)
    · exact ⟨by rw [hz, show i = nN (D 0 7) by omega], rfl⟩
    · exact absurd h46 (by omega)
  | succ j ih =>
    intro i hi z hz
    refine G_wp 160 [41] rfl ?_
    refine ⟨7, rfl, (by show _ < 23184; (have := h7.2; omega)), ?_⟩
    rw [hA.r0 7 (by decide)]
    refine br_ge rfl h7.1 (by omega) (by omega) (fun h46 => ?_) (fun h46 => ?_)
    · exact absurd h46 (by omega)
    · refine ⟨nI (3184 + (5 * i)), (add_n rfl (mul_n rfl rfl)), 3184 + (5 * i), rfl, (by show _ < 23184; (have := h7.2; omega)), ?_⟩
      rw [hA.r27 (5 * i) (by (have := h7.2; omega))]
      refine ⟨_, rfl, 3184 + ((5 * i) + 1), (add_nr rfl rfl), (by show _ < 23184; (have := h7.2; omega)), ?_⟩
      rw [hA.r27 ((5 * i) + 1) (by (have := h7.2; omega))]
      refine ⟨fun h65 => ?_, fun h65 => ?_⟩
      · refine ⟨_, rfl, ?_⟩
        refine br_ne rfl rfl (by omega) (by omega) (fun h80 => ?_) (fun h80 => ?_)
        · exact absurd h80 (by omega)
        · refine ⟨_, rfl, nI (i + 1), nI_add _ _, ?_⟩
          refine G_fg 5 (G_fg 6 (G_fg 7 (ih (i + 1) (by omega) _ ?_)))
          rw [chS_S, hz, ← Int32.add_assoc]
          rw [if_neg (fun q => absurd q.1 (Int32.not_lt.mpr h65))]
      · refine ⟨3184 + ((5 * i) + 2), (add_nr rfl rfl), (by show _ < 23184; (have := h7.2; omega)), ?_⟩
        rw [hA.r27 ((5 * i) + 2) (by (have := h7.2; omega))]
        refine ⟨fun h73 => ?_, fun h73 => ?_⟩
        · refine ⟨_, rfl, ?_⟩
          refine br_ne rfl rfl (by omega) (by omega) (fun h80 => ?_) (fun h80 => ?_)
          · exact absurd h80 (by omega)
          · refine ⟨_, rfl, nI (i + 1), nI_add _ _, ?_⟩
            refine G_fg 5 (G_fg 6 (G_fg 7 (ih (i + 1) (by omega) _ ?_)))
            rw [chS_S, hz, ← Int32.add_assoc]
            rw [if_neg (fun q => h73 q.2)]
        · refine ⟨_, rfl, ?_⟩
          refine br_ne rfl rfl (by omega) (by omega) (fun h80 => ?_) (fun h80 => ?_)
          · refine ⟨fun h85 => ?_, fun h85 => ?_⟩
            · refine ⟨_, rfl, nI (i + 1), nI_add _ _, ?_⟩
              refine G_fg 5 (G_fg 6 (G_fg 7 (ih (i + 1) (by omega) _ ?_)))
              rw [chS_S, hz, ← Int32.add_assoc]
              rw [if_pos ⟨Int32.not_le.mp h65, h73⟩]
              unfold chg
              rw [if_pos (by simp [h85])]
            · refine ⟨fun h88 => ?_, fun h88 => ?_⟩
              · refine ⟨_, rfl, nI (i + 1), nI_add _ _, ?_⟩
                refine G_fg 5 (G_fg 6 (G_fg 7 (ih (i + 1) (by omega) _ ?_)))
                rw [chS_S, hz, ← Int32.add_assoc]
                rw [if_pos ⟨Int32.not_le.mp h65, h73⟩]
                unfold chg
                rw [if_pos (by simp [h88])]
              · refine ⟨fun h91 => ?_, fun h91 => ?_⟩
                · refine ⟨_, rfl, nI (i + 1), nI_add _ _, ?_⟩
                  refine G_fg 5 (G_fg 6 (G_fg 7 (ih (i + 1) (by omega) _ ?_)))
                  rw [chS_S, hz, ← Int32.add_assoc]
                  rw [if_pos ⟨Int32.not_le.mp h65, h73⟩]
                  unfold chg
                  rw [if_pos (by simp [h91])]
                · refine ⟨fun h94 => ?_, fun h94 => ?_⟩
                  · refine ⟨fun h99 => ?_, fun h99 => ?_⟩
                    · refine ⟨_, rfl, nI (i + 1), nI_add _ _, ?_⟩
                      refine G_fg 5 (G_fg 6 (G_fg 7 (ih (i + 1) (by omega) _ ?_)))
                      rw [chS_S, hz, ← Int32.add_assoc]
                      rw [if_pos ⟨Int32.not_le.mp h65, h73⟩]
                      unfold chg
                      rw [if_neg (by simp [h85, h88, h91, h94]), if_pos (by simp [h99])]
                    · refine ⟨fun h102 => ?_, fun h102 => ?_⟩
                      · refine ⟨_, rfl, nI (i + 1), nI_add _ _, ?_⟩
                        refine G_fg 5 (G_fg 6 (G_fg 7 (ih (i + 1) (by omega) _ ?_)))
                        rw [chS_S, hz, ← Int32.add_assoc]
                        rw [if_pos ⟨Int32.not_le.mp h65, h73⟩]
                        unfold chg
                        rw [if_neg (by simp [h85, h88, h91, h94]), if_pos (by simp [h102])]
                      · refine ⟨fun h105 => ?_, fun h105 => ?_⟩
                        · refine ⟨_, rfl, nI (i + 1), nI_add _ _, ?_⟩
                          refine G_fg 5 (G_fg 6 (G_fg 7 (ih (i + 1) (by omega) _ ?_)))
                          rw [chS_S, hz, ← Int32.add_assoc]
                          rw [if_pos ⟨Int32.not_le.mp h65, h73⟩]
                          unfold chg
                          rw [if_neg (by simp [h85, h88, h91, h94]), if_pos (by simp [h105])]
                        · refine ⟨fun h108 => ?_, fun h108 => ?_⟩
                          · refine ⟨_, rfl, nI (i + 1), nI_add _ _, ?_⟩
                            refine G_fg 5 (G_fg 6 (G_fg 7 (ih (i + 1) (by omega) _ ?_)))
                            rw [chS_S, hz, ← Int32.add_assoc]
                            rw [if_pos ⟨Int32.not_le.mp h65, h73⟩]
                            unfold chg
                            rw [if_neg (by simp [h85, h88, h91, h94]), if_neg (by simp [h99, h102, h105, h108])]
                          · refine ⟨_, rfl, nI (i + 1), nI_add _ _, ?_⟩
                            refine G_fg 5 (G_fg 6 (G_fg 7 (ih (i + 1) (by omega) _ ?_)))
                            rw [chS_S, hz, ← Int32.add_assoc]
                            rw [if_pos ⟨Int32.not_le.mp h65, h73⟩]
                            unfold chg
                            rw [if_neg (by simp [h85, h88, h91, h94]), if_pos (by simp [h108])]
                  · refine ⟨_, rfl, nI (i + 1), nI_add _ _, ?_⟩
                    refine G_fg 5 (G_fg 6 (G_fg 7 (ih (i + 1) (by omega) _ ?_)))
                    rw [chS_S, hz, ← Int32.add_assoc]
                    rw [if_pos ⟨Int32.not_le.mp h65, h73⟩]
                    unfold chg
                    rw [if_pos (by simp [h94])]
          · exact absurd h80 (by omega)
noncomputable def asR (t : Sg) (D : Dy) (x m : Int32) : Int32 := ifC (isPo t x ∧ inI (nI 0) m (D 0 0)) (nI (hmN t x) + chS D x m (nN (D 0 7))) (-2)
theorem mp_asOf {t : Sg} {D : Dy} {τ : Sg} (hA : Ag t D τ) (hT : WN t) {x m : Int32} (h7 : Is (D 0 7) 4000) : ∃ τ', Ev true 163 [.inr (.inr (69, false, 0)), .inl (x), .inl (m)] τ (some (.inl (asR t D x m))) τ' ∧ Ag (t) (D) τ' := by
  refine EvQ_wp 43 [21] rfl rfl ?_
  refine ⟨_, rfl, ?_⟩
  replace hA := Ag_scr hA (k := 69) (d := false) (i := 0) (j := 0) (v := (nI (0))) (by decide) rfl
  refine ⟨_, _, mv_isPost2 hA hT, ?_⟩
  refine brd_eq (fun h6 => ?_) (fun h6 => ?_)
  · have eR : asR t D x m = (-2) := by
      simp only [asR, h6, eq_self, ifC_T, ifC_F, and_true, true_and, and_false, false_and, or_true, true_or, or_false, false_or, not_true_eq_false, not_false_eq_true, and_self, or_self, if_true, if_false, reduceIte, reduceCtorEq, Nat.add_sub_cancel]
    refine ⟨congrArg (fun z => some (Sum.inl z)) (Eq.trans rfl eR.symm), ?_⟩
    exact hA
  · refine ⟨0, rfl, (by show _ < 23184; omega), ?_⟩
    rw [hA.r0 0 (by decide)]
    refine ⟨_, _, mv_in2, ?_⟩
    refine brd_ne (fun h14 => ?_) (fun h14 => ?_)
    · refine ⟨_, rfl, _, rfl, ?_⟩
      have eR : asR t D x m = nI (hmN t x) + chS D x m (nN (D 0 7)) := by simp only [asR, h6, h14, eq_self, ifC_T, ifC_F, and_true, true_and, and_false, false_and, or_true, true_or, or_false, false_or, not_true_eq_false, not_false_eq_true, and_self, or_self, if_true, if_false, reduceIte, reduceCtorEq, Nat.add_sub_cancel]
      refine mv_home_l hA hT ?_ (nB t) 0 (by omega) 0 rfl
      refine G_wp 30 [41] rfl ?_
      refine ⟨_, rfl, ?_⟩
      have hl := mv_asOf_l hA h7 (x := x) (m := m) (c := nI (hmN t x)) (nN (D 0 7)) 0 (by omega) _ rfl
      obtain ⟨r0, s0, ⟨e1, e2⟩, hg⟩ := hl
      exact ⟨r0, s0, ⟨by rw [e1, eR], by rw [e2]; exact hA⟩, by
        have e3 : nI (hmN t x) + chS D x m 0 = nI (hmN t x) := by show nI (hmN t x) + nI 0 = _; rw [nI_add]; rfl
        rw [e3] at hg
        exact hg⟩
    · have eR : asR t D x m = (-2) := by
        simp only [asR, h6, h14, eq_self, ifC_T, ifC_F, and_true, true_and, and_false, false_and, or_true, true_or, or_false, false_or, not_true_eq_false, not_false_eq_true, and_self, or_self, if_true, if_false, reduceIte, reduceCtorEq, Nat.add_sub_cancel]
      refine ⟨congrArg (fun z => some (Sum.inl z)) (Eq.trans rfl eR.symm), ?_⟩
      exact hA
noncomputable def endR (t : Sg) (D : Dy) (x h w : Int32) : Int32 := ifC (isPo t x ∧ inI (nI 0) h (nI 23) ∧ inI (nI 0) w (nI 1)) (ifC (w = nI 0) (D 7 (24 * nN x + nN h) + D 8 (24 * nN x + nN h)) (D 7 (24 * nN x + nN h) + D 8 (24 * nN x + nN h) + D 9 (24 * nN x + nN h) * ifC (D 10 (24 * nN x + nN h) = nI 0) (nI 1) (D 10 (24 * nN x + nN h)))) (-2)
theorem mp_ends {t : Sg} {D : Dy} {τ : Sg} (hA : Ag t D τ) (hT : WN t) {x h w : Int32}  : ∃ τ', Ev true 164 [.inr (.inr (69, false, 0)), .inl (x), .inl (h), .inl (w)] τ (some (.inl (endR t D x h w))) τ' ∧ Ag (t) (D) τ' := by
  have hP := hT.P
  refine EvQ_wp 112 [] rfl rfl ?_
  refine ⟨_, rfl, ?_⟩
  replace hA := Ag_scr hA (k := 69) (d := false) (i := 0) (j := 0) (v := (nI (0))) (by decide) rfl
  refine ⟨_, _, mv_isPost2 hA hT, ?_⟩
  refine brd_eq (fun h6 => ?_) (fun h6 => ?_)
  · have eR : endR t D x h w = (-2) := by
      simp only [endR, h6, eq_self, ifC_T, ifC_F, and_true, true_and, and_false, false_and, or_true, true_or, or_false, false_or, not_true_eq_false, not_false_eq_true, and_self, or_self, if_true, if_false, reduceIte, reduceCtorEq, Nat.add_sub_cancel]
    refine ⟨congrArg (fun z => some (Sum.inl z)) (Eq.trans rfl eR.symm), ?_⟩
    exact hA
  · refine ⟨_, _, mv_in2, ?_⟩
    refine brd_eq (fun h11 => ?_) (fun h11 => ?_)
    · have eR : endR t D x h w = (-2) := by
        simp only [endR, h6, h11, eq_self, ifC_T, ifC_F, and_true, true_and, and_false, false_and, or_true, true_or, or_false, false_or, not_true_eq_false, not_false_eq_true, and_self, or_self, if_true, if_false, reduceIte, reduceCtorEq, Nat.add_sub_cancel]
      refine ⟨congrArg (fun z => some (Sum.inl z)) (Eq.trans rfl eR.symm), ?_⟩
      exact hA
    · refine ⟨_, _, mv_in2, ?_⟩
      refine brd_ne (fun h16 => ?_) (fun h16 => ?_)
      · have hx := isPo_n hT h6
        have hh := inI_n (by omega) (by omega) h11
        refine ⟨nI ((24 * (nN x)) + (nN h)), (add_n (mul_n rfl hx.1) hh.1), 80 + ((24 * (nN x)) + (nN h)), (add_n rfl rfl), (by show _ < 23184; omega), ?_⟩
        rw [hA.r7 ((24 * (nN x)) + (nN h)) (by omega)]
        refine ⟨368 + ((24 * (nN x)) + (nN h)), (add_n rfl rfl), (by show _ < 23184; omega), ?_⟩
        rw [hA.r8 ((24 * (nN x)) + (nN h)) (by omega)]
        refine ⟨_, rfl, 944 + ((24 * (nN x)) + (nN h)), (add_n rfl rfl), (by show _ < 23184; omega), ?_⟩
        rw [hA.r10 ((24 * (nN x)) + (nN h)) (by omega)]
        refine ⟨fun h45 => ?_, fun h45 => ?_⟩
        · refine ⟨944 + ((24 * (nN x)) + (nN h)), (add_n rfl rfl), (by show _ < 23184; omega), ?_⟩
          rw [hA.r10 ((24 * (nN x)) + (nN h)) (by omega)]
          refine ⟨_, rfl, ?_⟩
          refine ⟨fun h56 => ?_, fun h56 => ?_⟩
          · refine ⟨656 + ((24 * (nN x)) + (nN h)), (add_n rfl rfl), (by show _ < 23184; omega), ?_⟩
            rw [hA.r9 ((24 * (nN x)) + (nN h)) (by omega)]
            have eR : endR t D x h w = (((D 7 ((24 * (nN x)) + (nN h))) + (D 8 ((24 * (nN x)) + (nN h)))) + ((D 9 ((24 * (nN x)) + (nN h))) * (D 10 ((24 * (nN x)) + (nN h))))) := by
              simp only [endR, h6, h11, h16, h45, h56, eq_self, ifC_T, ifC_F, and_true, true_and, and_false, false_and, or_true, true_or, or_false, false_or, not_true_eq_false, not_false_eq_true, and_self, or_self, if_true, if_false, reduceIte, reduceCtorEq, Nat.add_sub_cancel]
            refine ⟨congrArg (fun z => some (Sum.inl z)) (Eq.trans rfl eR.symm), ?_⟩
            exact hA
          · have eR : endR t D x h w = ((D 7 ((24 * (nN x)) + (nN h))) + (D 8 ((24 * (nN x)) + (nN h)))) := by
              simp only [endR, h6, h11, h16, h45, eq_true h56, eq_self, ifC_T, ifC_F, and_true, true_and, and_false, false_and, or_true, true_or, or_false, false_or, not_true_eq_false, not_false_eq_true, and_self, or_self, if_true, if_false, reduceIte, reduceCtorEq, Nat.add_sub_cancel]
            refine ⟨congrArg (fun z => some (Sum.inl z)) (Eq.trans rfl eR.symm), ?_⟩
            exact hA
        · refine ⟨_, rfl, ?_⟩
          refine ⟨fun h56 => ?_, fun h56 => ?_⟩
          · refine ⟨656 + ((24 * (nN x)) + (nN h)), (add_n rfl rfl), (by show _ < 23184; omega), ?_⟩
            rw [hA.r9 ((24 * (nN x)) + (nN h)) (by omega)]
            have eR : endR t D x h w = (((D 7 ((24 * (nN x)) + (nN h))) + (D 8 ((24 * (nN x)) + (nN h)))) + ((D 9 ((24 * (nN x)) + (nN h))) * (nI (1)))) := by
              simp only [endR, h6, h11, h16, eq_true h45, h56, eq_self, ifC_T, ifC_F, and_true, true_and, and_false, false_and, or_true, true_or, or_false, false_or, not_true_eq_false, not_false_eq_true, and_self, or_self, if_true, if_false, reduceIte, reduceCtorEq, Nat.add_sub_cancel]
            refine ⟨congrArg (fun z => some (Sum.inl z)) (Eq.trans rfl eR.symm), ?_⟩
            exact hA
          · have eR : endR t D x h w = ((D 7 ((24 * (nN x)) + (nN h))) + (D 8 ((24 * (nN x)) + (nN h)))) := by
              simp only [endR, h6, h11, h16, eq_true h45, eq_true h56, eq_self, ifC_T, ifC_F, and_true, true_and, and_false, false_and, or_true, true_or, or_false, false_or, not_true_eq_false, not_false_eq_true, and_self, or_self, if_true, if_false, reduceIte, reduceCtorEq, Nat.add_sub_cancel]
            refine ⟨congrArg (fun z => some (Sum.inl z)) (Eq.trans rfl eR.symm), ?_⟩
            exact hA
      · have eR : endR t D x h w = (-2) := by
          simp only [endR, h6, h11, h16, eq_self, ifC_T, ifC_F, and_true, true_and, and_false, false_and, or_true, true_or, or_false, false_or, not_true_eq_false, not_false_eq_true, and_self, or_self, if_true, if_false, reduceIte, reduceCtorEq, Nat.add_sub_cancel]
        refine ⟨congrArg (fun z => some (Sum.inl z)) (Eq.trans rfl eR.symm), ?_⟩
        exact hA
def wkN (t : Sg) (w : Int32) : Nat := ct (fun d => decide (t 87 false 0 d = w)) (nD t)
def fcS (t : Sg) (l : Nat) (w : Int32) (k : Nat) : Nat → Int32
  | 0 => nI 0
  | d + 1 => if l < 2 ∨ t 87 false 0 d = w then fcS t l w k d + t 88 false 0 (288 * d + k) else fcS t l w k d
theorem fcS_S (t : Sg) (l : Nat) (w : Int32) (k d : Nat) : fcS t l w k (d + 1) = if l < 2 ∨ t 87 false 0 d = w then fcS t l w k d + t 88 false 0 (288 * d + k) else fcS t l w k d := rfl
def fcN (t : Sg) (l : Nat) (w : Int32) : Nat → Nat
  | 0 => 0
  | d + 1 => if l < 2 ∨ t 87 false 0 d = w then fcN t l w d + 1 else fcN t l w d
theorem fcN_S (t : Sg) (l : Nat) (w : Int32) (d : Nat) : fcN t l w (d + 1) = if l < 2 ∨ t 87 false 0 d = w then fcN t l w d + 1 else fcN t l w d := rfl
theorem mv_like_l {t : Sg} {D : Dy} {τ : Sg} {P : Option AV → Sg → Prop} (hA : Ag t D τ) (hN : Is (t 69 false 0 26) 20) {w x h v : Int32} (hK : G true 165 P 46 [some (.inr (.inr (69, false, 0))), some (.inl w), some (.inl x), some (.inl h), some (.inl v), some (.inl (nI (wkN t w))), none, none, none] [] τ) : ∀ (j d : Nat), d + j = nD t → ∀ n, n = ct (fun d => decide (t 87 false 0 d = w)) d → G true 165 P 28 [some (.inr (.inr (69, false, 0))), some (.inl w), some (.inl x), some (.inl h), some (.inl v), some (.inl (nI n)), some (.inl (nI d)), none, none] [] τ := by
  have eD : τ 69 false 0 26 = nI (nD t) := (hA.2 69 _ _ _ (by decide) rfl).trans hN.1
  have hN2 : nD t ≤ 20 := hN.2
  intro j
  induction j with
  | zero =>
    intro d hd n hn
    refine G_wp 60 [28, 46] rfl ?_
    refine br_ge rfl eD (by omega) (by omega) (fun h31 => ?_) (fun h31 => ?_)
    · rw [hn, show d = nD t by omega]
      exact G_fg 6 hK
    · exact absurd h31 (by omega)
  | succ j ih =>
    intro d hd n hn
    refine G_wp 60 [28, 46] rfl ?_
    refine br_ge rfl eD (by omega) (by omega) (fun h31 => ?_) (fun h31 => ?_)
    · exact absurd h31 (by omega)
    · refine ⟨d, rfl, (by show _ < 20; omega), ?_⟩
      rw [hA.2 87 _ _ _ (by decide) rfl]
      refine ⟨fun h38 => ?_, fun h38 => ?_⟩
      · refine ⟨nI (n + 0), (add_n rfl rfl), nI (d + 1), nI_add _ _, ?_⟩
        refine ih (d + 1) (by omega) _ ?_
        rw [ct_S, hn]
        simp_all
      · refine ⟨nI (n + 1), (add_n rfl rfl), nI (d + 1), nI_add _ _, ?_⟩
        refine ih (d + 1) (by omega) _ ?_
        rw [ct_S, hn]
        simp_all
theorem mv_fc_l {t : Sg} {D : Dy} {τ : Sg} {P : Option AV → Sg → Prop} (hA : Ag t D τ) (hN : Is (t 69 false 0 26) 20) {w x h v : Int32} {l : Nat} (hl : l ≤ 20) (hx : x = nI (nN x)) (hx2 : nN x < 12) (hh : h = nI (nN h) ∧ nN h ≤ 23) (hK : G true 165 P 83 [some (.inr (.inr (69, false, 0))), some (.inl w), some (.inl x), some (.inl h), some (.inl v), some (.inl (nI l)), some (.inl (fcS t l w (24 * nN x + nN h) (nD t))), some (.inl (nI (fcN t l w (nD t)))), none] [] τ) : ∀ (j d : Nat), d + j = nD t → ∀ z, z = fcS t l w (24 * nN x + nN h) d → ∀ n, n = fcN t l w d → G true 165 P 52 [some (.inr (.inr (69, false, 0))), some (.inl w), some (.inl x), some (.inl h), some (.inl v), some (.inl (nI l)), some (.inl z), some (.inl (nI n)), some (.inl (nI d))] [] τ := by
  have eD : τ 69 false 0 26 = nI (nD t) := (hA.2 69 _ _ _ (by decide) rfl).trans hN.1
  have hN2 : nD t ≤ 20 := hN.2
  have hx := And.intro hx hx2
  intro j
  induction j with
  | zero =>
    intro d hd z hz n hn
    refine G_wp 90 [52, 83] rfl ?_
    refine br_ge rfl eD (by omega) (by omega) (fun h55 => ?_) (fun h55 => ?_)
    · rw [show d = nD t by omega] at hz hn
      rw [hz, hn]
      exact G_fg 8 hK
    · exact absurd h55 (by omega)
  | succ j ih =>
    intro d hd z hz n hn
    refine G_wp 90 [52, 83] rfl ?_
    refine br_ge rfl eD (by omega) (by omega) (fun h55 => ?_) (fun h55 => ?_)
    · exact absurd h55 (by omega)
    · refine br_lt rfl rfl (by omega) (by omega) (fun h58 => ?_) (fun h58 => ?_)
      · refine ⟨((288 * d) + (24 * (nN x))) + (nN h), (add_n (add_n (mul_n rfl rfl) (mul_n rfl hx.1)) hh.1), (by show _ < 5760; omega), ?_⟩
        rw [hA.2 88 _ _ _ (by decide) rfl]
        refine ⟨_, rfl, nI (n + 1), nI_add _ _, nI (d + 1), nI_add _ _, ?_⟩
        refine ih (d + 1) (by omega) _ ?_ _ ?_
        · rw [fcS_S, if_pos (Or.inl h58), hz]
          rw [show 288 * d + (24 * nN x + nN h) = 288 * d + 24 * nN x + nN h by omega]
        · rw [fcN_S, if_pos (Or.inl h58), hn]
      · refine ⟨d, rfl, (by show _ < 20; omega), ?_⟩
        rw [hA.2 87 _ _ _ (by decide) rfl]
        refine ⟨fun h64 => ?_, fun h64 => ?_⟩
        · refine ⟨nI (d + 1), nI_add _ _, ?_⟩
          refine ih (d + 1) (by omega) _ ?_ _ ?_
          · rw [fcS_S, if_neg (fun q => q.elim (fun z => absurd z (by omega)) h64), hz]
          · rw [fcN_S, if_neg (fun q => q.elim (fun z => absurd z (by omega)) h64), hn]
        · refine ⟨((288 * d) + (24 * (nN x))) + (nN h), (add_n (add_n (mul_n rfl rfl) (mul_n rfl hx.1)) hh.1), (by show _ < 5760; omega), ?_⟩
          rw [hA.2 88 _ _ _ (by decide) rfl]
          refine ⟨_, rfl, nI (n + 1), nI_add _ _, nI (d + 1), nI_add _ _, ?_⟩
          refine ih (d + 1) (by omega) _ ?_ _ ?_
          · rw [fcS_S, if_pos (Or.inr h64), hz]
            rw [show 288 * d + (24 * nN x + nN h) = 288 * d + 24 * nN x + nN h by omega]
          · rw [fcN_S, if_pos (Or.inr h64), hn]
noncomputable def fcR (t : Sg) (w x h v : Int32) : Int32 := ifC (inI (nI 0) w (nI 6) ∧ isPo t x ∧ inI (nI 0) h (nI 23) ∧ inI (nI 0) v (nI 1)) (ifC (v = nI 0) (fcS t (wkN t w) w (24 * nN x + nN h) (nD t)) (nI (fcN t (wkN t w) w (nD t)))) (-2)
theorem mp_forecast {t : Sg} {D : Dy} {τ : Sg} (hA : Ag t D τ) (hT : WN t) {w x h v : Int32} (hN : Is (t 69 false 0 26) 20) : ∃ τ', Ev true 165 [.inr (.inr (69, false, 0)), .inl (w), .inl (x), .inl (h), .inl (v)] τ (some (.inl (fcR t w x h v))) τ' ∧ Ag (t) (D) τ' := by
  have fc_le : ∀ d, fcN t (wkN t w) w d ≤ d := fun d => by
    induction d with
    | zero => exact Nat.le_refl _
    | succ d ih => rw [fcN_S]; split <;> omega
  have fc2 := fc_le (nD t)
  have hN2 : nD t ≤ 20 := hN.2
  refine EvQ_wp 54 [28] rfl rfl ?_
  refine ⟨_, rfl, ?_⟩
  replace hA := Ag_scr hA (k := 69) (d := false) (i := 0) (j := 0) (v := (nI (0))) (by decide) rfl
  refine ⟨_, _, mv_in2, ?_⟩
  refine brd_eq (fun h7 => ?_) (fun h7 => ?_)
  · have eR : fcR t w x h v = (-2) := by
      simp only [fcR, h7, eq_self, ifC_T, ifC_F, and_true, true_and, and_false, false_and, or_true, true_or, or_false, false_or, not_true_eq_false, not_false_eq_true, and_self, or_self, if_true, if_false, reduceIte, reduceCtorEq, Nat.add_sub_cancel]
    refine ⟨congrArg (fun z => some (Sum.inl z)) (Eq.trans rfl eR.symm), ?_⟩
    exact hA
  · refine ⟨_, _, mv_isPost2 hA hT, ?_⟩
    refine brd_eq (fun h11 => ?_) (fun h11 => ?_)
    · have eR : fcR t w x h v = (-2) := by
        simp only [fcR, h7, h11, eq_self, ifC_T, ifC_F, and_true, true_and, and_false, false_and, or_true, true_or, or_false, false_or, not_true_eq_false, not_false_eq_true, and_self, or_self, if_true, if_false, reduceIte, reduceCtorEq, Nat.add_sub_cancel]
      refine ⟨congrArg (fun z => some (Sum.inl z)) (Eq.trans rfl eR.symm), ?_⟩
      exact hA
    · refine ⟨_, _, mv_in2, ?_⟩
      refine brd_eq (fun h16 => ?_) (fun h16 => ?_)
      · have eR : fcR t w x h v = (-2) := by
          simp only [fcR, h7, h11, h16, eq_self, ifC_T, ifC_F, and_true, true_and, and_false, false_and, or_true, true_or, or_false, false_or, not_true_eq_false, not_false_eq_true, and_self, or_self, if_true, if_false, reduceIte, reduceCtorEq, Nat.add_sub_cancel]
        refine ⟨congrArg (fun z => some (Sum.inl z)) (Eq.trans rfl eR.symm), ?_⟩
        exact hA
      · refine ⟨_, _, mv_in2, ?_⟩
        refine brd_ne (fun h21 => ?_) (fun h21 => ?_)
        · refine ⟨_, rfl, _, rfl, ?_⟩
          have hx := isPo_n hT h11
          have hh := inI_n (by omega) (by omega) h16
          refine mv_like_l hA hN ?_ (nD t) 0 (by omega) 0 rfl
          refine G_wp 30 [52] rfl ?_
          refine ⟨_, rfl, _, rfl, _, rfl, ?_⟩
          refine mv_fc_l hA hN (Nat.le_trans (ct_le _ _) hN.2) hx.1 (by have := hT.P; omega) ⟨hh.1, hh.2.2⟩ ?_ (nD t) 0 (by omega) _ rfl _ rfl
          refine G_wp 30 [] rfl ?_
          refine ⟨fun h84 => ?_, fun h84 => ?_⟩
          · have eR : fcR t w x h v = nI (fcN t (wkN t w) w (nD t)) := by
              simp only [fcR, h7, h11, h16, h21, h84, eq_self, ifC_T, ifC_F, and_true, true_and, and_false, false_and, or_true, true_or, or_false, false_or, not_true_eq_false, not_false_eq_true, and_self, or_self, if_true, if_false, reduceIte, reduceCtorEq, Nat.add_sub_cancel]
            refine ⟨congrArg (fun z => some (Sum.inl z)) (Eq.trans rfl eR.symm), ?_⟩
            exact hA
          · have eR : fcR t w x h v = (fcS t (wkN t w) w (24 * nN x + nN h) (nD t)) := by
              simp only [fcR, h7, h11, h16, h21, eq_true h84, eq_self, ifC_T, ifC_F, and_true, true_and, and_false, false_and, or_true, true_or, or_false, false_or, not_true_eq_false, not_false_eq_true, and_self, or_self, if_true, if_false, reduceIte, reduceCtorEq, Nat.add_sub_cancel]
            refine ⟨congrArg (fun z => some (Sum.inl z)) (Eq.trans rfl eR.symm), ?_⟩
            exact hA
        · have eR : fcR t w x h v = (-2) := by
            simp only [fcR, h7, h11, h16, h21, eq_self, ifC_T, ifC_F, and_true, true_and, and_false, false_and, or_true, true_or, or_false, false_or, not_true_eq_false, not_false_eq_true, and_self, or_self, if_true, if_false, reduceIte, reduceCtorEq, Nat.add_sub_cancel]
          refine ⟨congrArg (fun z => some (Sum.inl z)) (Eq.trans rfl eR.symm), ?_⟩
          exact hA
def dgF (f : Nat → Int32) : Nat → Int64 → Int64
  | 0, h => h
  | n + 1, h => (nI 31).toInt64 * dgF f n h + (f n).toInt64
theorem dgF_S (f : Nat → Int32) (n : Nat) (h : Int64) : dgF f (n + 1) h = (nI 31).toInt64 * dgF f n h + (f n).toInt64 := rfl
def dg2 (f : Nat → Nat → Int32) (m : Nat) : Nat → Int64 → Int64
  | 0, h => h
  | n + 1, h => dgF (f n) m (dg2 f m n h)
theorem dg2_S (f : Nat → Nat → Int32) (m n : Nat) (h : Int64) : dg2 f m (n + 1) h = dgF (f n) m (dg2 f m n h) := rfl
theorem dg_count {t : Sg} {D : Dy} {P : Option AV → Sg → Prop} {h0 : Int64} (hT : WN t) (hK : ∀ τ, Ag t D τ → G true 193 P 18 [some (.inr (.inr (69, false, 0))), some (.inr (.inl (dgF (fun w => cntR t D (nI w)) 10 h0))), none, none, none] [] τ) : ∀ (j n : Nat), n + j = 10 → ∀ h, h = dgF (fun w => cntR t D (nI w)) n h0 → ∀ τ, Ag t D τ → G true 193 P 4 [some (.inr (.inr (69, false, 0))), some (.inr (.inl (h))), none, some (.inl (nI n)), none] [] τ := by
  intro j
  induction j with
  | zero =>
    intro n hj h hh τ hA
    refine G_wp 60 [4, 18] rfl ?_
    refine br_ge rfl rfl (by omega) (by omega) (fun h6 => ?_) (fun h6 => ?_)
    · rw [hh, show n = 10 by omega]
      exact G_fg 3 (hK _ hA)
    · exact absurd h6 (by omega)
  | succ j ih =>
    intro n hj h hh τ hA
    refine G_wp 60 [4, 18] rfl ?_
    refine br_ge rfl rfl (by omega) (by omega) (fun h6 => ?_) (fun h6 => ?_)
    · exact absurd h6 (by omega)
    · obtain ⟨τ1, ev1, hA⟩ := mp_count hA hT (w := nI n)
      refine ⟨_, _, ev1, nI (n + 1), nI_add _ _, ?_⟩
      refine ih (n + 1) (by omega) _ ?_ _ hA
      rw [dgF_S, hh]
theorem dg_post1 {t : Sg} {D : Dy} {P : Option AV → Sg → Prop} {h0 : Int64} (hT : WN t) {p : Nat} (hK : ∀ τ, Ag t D τ → G true 193 P 41 [some (.inr (.inr (69, false, 0))), some (.inr (.inl (dgF (fun w => pstR t D (nI p) (nI w)) 9 h0))), none, some (.inl (nI p)), none] [] τ) : ∀ (j w : Nat), w + j = 9 → ∀ h, h = dgF (fun w => pstR t D (nI p) (nI w)) w h0 → ∀ τ, Ag t D τ → G true 193 P 26 [some (.inr (.inr (69, false, 0))), some (.inr (.inl (h))), none, some (.inl (nI p)), some (.inl (nI w))] [] τ := by
  intro j
  induction j with
  | zero =>
    intro w hj h hh τ hA
    refine G_wp 60 [26, 41] rfl ?_
    refine br_ge rfl rfl (by omega) (by omega) (fun h28 => ?_) (fun h28 => ?_)
    · rw [hh, show w = 9 by omega]
      exact G_fg 4 (hK _ hA)
    · exact absurd h28 (by omega)
  | succ j ih =>
    intro w hj h hh τ hA
    refine G_wp 60 [26, 41] rfl ?_
    refine br_ge rfl rfl (by omega) (by omega) (fun h28 => ?_) (fun h28 => ?_)
    · exact absurd h28 (by omega)
    · obtain ⟨τ1, ev1, hA⟩ := mp_postAt hA hT (x := nI p) (w := nI w)
      refine ⟨_, _, ev1, nI (w + 1), nI_add _ _, ?_⟩
      refine ih (w + 1) (by omega) _ ?_ _ hA
      rw [dgF_S, hh]
theorem dg_bike1 {t : Sg} {D : Dy} {P : Option AV → Sg → Prop} {h0 : Int64} (hT : WN t) {p : Nat} (hK : ∀ τ, Ag t D τ → G true 193 P 66 [some (.inr (.inr (69, false, 0))), some (.inr (.inl (dgF (fun w => bikR t D (nI p) (nI w)) 4 h0))), none, some (.inl (nI p)), none] [] τ) : ∀ (j w : Nat), w + j = 4 → ∀ h, h = dgF (fun w => bikR t D (nI p) (nI w)) w h0 → ∀ τ, Ag t D τ → G true 193 P 51 [some (.inr (.inr (69, false, 0))), some (.inr (.inl (h))), none, some (.inl (nI p)), some (.inl (nI w))] [] τ := by
  intro j
  induction j with
  | zero =>
    intro w hj h hh τ hA
    refine G_wp 60 [51, 66] rfl ?_
    refine br_ge rfl rfl (by omega) (by omega) (fun h53 => ?_) (fun h53 => ?_)
    · rw [hh, show w = 4 by omega]
      exact G_fg 4 (hK _ hA)
    · exact absurd h53 (by omega)
  | succ j ih =>
    intro w hj h hh τ hA
    refine G_wp 60 [51, 66] rfl ?_
    refine br_ge rfl rfl (by omega) (by omega) (fun h53 => ?_) (fun h53 => ?_)
    · exact absurd h53 (by omega)
    · obtain ⟨τ1, ev1, hA⟩ := mp_bikeAt hA hT (x := nI p) (w := nI w)
      refine ⟨_, _, ev1, nI (w + 1), nI_add _ _, ?_⟩
      refine ih (w + 1) (by omega) _ ?_ _ hA
      rw [dgF_S, hh]
theorem dg_rid1 {t : Sg} {D : Dy} {P : Option AV → Sg → Prop} {h0 : Int64} (hT : WN t) {p : Nat} (hK : ∀ τ, Ag t D τ → G true 193 P 91 [some (.inr (.inr (69, false, 0))), some (.inr (.inl (dgF (fun w => rdaR t D (nI p) (nI w)) 6 h0))), none, some (.inl (nI p)), none] [] τ) : ∀ (j w : Nat), w + j = 6 → ∀ h, h = dgF (fun w => rdaR t D (nI p) (nI w)) w h0 → ∀ τ, Ag t D τ → G true 193 P 76 [some (.inr (.inr (69, false, 0))), some (.inr (.inl (h))), none, some (.inl (nI p)), some (.inl (nI w))] [] τ := by
  intro j
  induction j with
  | zero =>
    intro w hj h hh τ hA
    refine G_wp 60 [76, 91] rfl ?_
    refine br_ge rfl rfl (by omega) (by omega) (fun h78 => ?_) (fun h78 => ?_)
    · rw [hh, show w = 6 by omega]
      exact G_fg 4 (hK _ hA)
    · exact absurd h78 (by omega)
  | succ j ih =>
    intro w hj h hh τ hA
    refine G_wp 60 [76, 91] rfl ?_
    refine br_ge rfl rfl (by omega) (by omega) (fun h78 => ?_) (fun h78 => ?_)
    · exact absurd h78 (by omega)
    · obtain ⟨τ1, ev1, hA⟩ := mp_riderAt hA hT (x := nI p) (w := nI w)
      refine ⟨_, _, ev1, nI (w + 1), nI_add _ _, ?_⟩
      refine ih (w + 1) (by omega) _ ?_ _ hA
      rw [dgF_S, hh]
theorem dg_van {t : Sg} {D : Dy} {P : Option AV → Sg → Prop} {h0 : Int64} (hT : WN t) (hK : ∀ τ, Ag t D τ → G true 193 P 109 [some (.inr (.inr (69, false, 0))), some (.inr (.inl (dgF (fun w => vanR D (nI w)) 4 h0))), none, none, none] [] τ) : ∀ (j n : Nat), n + j = 4 → ∀ h, h = dgF (fun w => vanR D (nI w)) n h0 → ∀ τ, Ag t D τ → G true 193 P 95 [some (.inr (.inr (69, false, 0))), some (.inr (.inl (h))), none, some (.inl (nI n)), none] [] τ := by
  intro j
  induction j with
  | zero =>
    intro n hj h hh τ hA
    refine G_wp 60 [95, 109] rfl ?_
    refine br_ge rfl rfl (by omega) (by omega) (fun h97 => ?_) (fun h97 => ?_)
    · rw [hh, show n = 4 by omega]
      exact G_fg 3 (hK _ hA)
    · exact absurd h97 (by omega)
  | succ j ih =>
    intro n hj h hh τ hA
    refine G_wp 60 [95, 109] rfl ?_
    refine br_ge rfl rfl (by omega) (by omega) (fun h97 => ?_) (fun h97 => ?_)
    · exact absurd h97 (by omega)
    · obtain ⟨τ1, ev1, hA⟩ := mp_van hA hT (w := nI n)
      refine ⟨_, _, ev1, nI (n + 1), nI_add _ _, ?_⟩
      refine ih (n + 1) (by omega) _ ?_ _ hA
      rw [dgF_S, hh]
theorem dg_log {t : Sg} {D : Dy} {P : Option AV → Sg → Prop} {h0 : Int64} (h7 : Is (D 0 7) 4000) (hK : ∀ τ, Ag t D τ → G true 193 P 133 [some (.inr (.inr (69, false, 0))), some (.inr (.inl (dgF (fun i => D 27 i) (5 * nN (D 0 7)) h0))), none, none, none] [] τ) : ∀ (j n : Nat), n + j = (5 * nN (D 0 7)) → ∀ h, h = dgF (fun i => D 27 i) n h0 → ∀ τ, Ag t D τ → G true 193 P 111 [some (.inr (.inr (69, false, 0))), some (.inr (.inl (h))), none, some (.inl (nI n)), none] [] τ := by
  intro j
  induction j with
  | zero =>
    intro n hj h hh τ hA
    have h72 := h7.2
    refine G_wp 60 [111, 133] rfl ?_
    refine ⟨7, rfl, (by show _ < 23184; omega), ?_⟩
    rw [hA.r0 7 (by decide)]
    refine br_ge rfl (mul_n rfl h7.1) (by omega) (by omega) (fun h118 => ?_) (fun h118 => ?_)
    · rw [hh, show n = (5 * nN (D 0 7)) by omega]
      exact G_fg 3 (hK _ hA)
    · exact absurd h118 (by omega)
  | succ j ih =>
    intro n hj h hh τ hA
    have h72 := h7.2
    refine G_wp 60 [111, 133] rfl ?_
    refine ⟨7, rfl, (by show _ < 23184; omega), ?_⟩
    rw [hA.r0 7 (by decide)]
    refine br_ge rfl (mul_n rfl h7.1) (by omega) (by omega) (fun h118 => ?_) (fun h118 => ?_)
    · exact absurd h118 (by omega)
    · refine ⟨3184 + n, (add_n rfl rfl), (by show _ < 23184; omega), ?_⟩
      rw [hA.r27 n (by omega)]
      refine ⟨nI (n + 1), nI_add _ _, ?_⟩
      refine ih (n + 1) (by omega) _ ?_ _ hA
      rw [dgF_S, hh]
theorem dg_posts {t : Sg} {D : Dy} {P : Option AV → Sg → Prop} {h0 : Int64} (hT : WN t) (hK : ∀ τ, Ag t D τ → G true 193 P 43 [some (.inr (.inr (69, false, 0))), some (.inr (.inl (dg2 (fun p w => pstR t D (nI p) (nI w)) 9 (nP t) h0))), none, none, none] [] τ) : ∀ (j p : Nat), p + j = nP t → ∀ h, h = dg2 (fun p w => pstR t D (nI p) (nI w)) 9 p h0 → ∀ τ, Ag t D τ → G true 193 P 20 [some (.inr (.inr (69, false, 0))), some (.inr (.inl (h))), none, some (.inl (nI p)), none] [] τ := by
  have hP := hT.P
  have hB := hT.B
  have hR := hT.R
  intro j
  induction j with
  | zero =>
    intro p hj h hh τ hA
    have eP := hA.P hT
    refine G_wp 60 [20, 26, 43] rfl ?_
    refine br_ge rfl eP (by omega) (by omega) (fun h23 => ?_) (fun h23 => ?_)
    · rw [hh, show p = nP t by omega]
      exact G_fg 3 (G_fg 4 (hK _ hA))
    · exact absurd h23 (by omega)
  | succ j ih =>
    intro p hj h hh τ hA
    have eP := hA.P hT
    refine G_wp 60 [20, 26, 43] rfl ?_
    refine br_ge rfl eP (by omega) (by omega) (fun h23 => ?_) (fun h23 => ?_)
    · exact absurd h23 (by omega)
    · refine ⟨_, rfl, ?_⟩
      refine dg_post1 hT (fun τ1 hA1 => ?_) 9 0 (by omega) _ rfl _ hA
      refine G_wp 30 [20] rfl ?_
      refine ⟨nI (p + 1), nI_add _ _, ?_⟩
      refine ih (p + 1) (by omega) _ ?_ _ hA1
      rw [dg2_S, hh]
theorem dg_bikes {t : Sg} {D : Dy} {P : Option AV → Sg → Prop} {h0 : Int64} (hT : WN t) (hK : ∀ τ, Ag t D τ → G true 193 P 68 [some (.inr (.inr (69, false, 0))), some (.inr (.inl (dg2 (fun p w => bikR t D (nI p) (nI w)) 4 (nB t) h0))), none, none, none] [] τ) : ∀ (j p : Nat), p + j = nB t → ∀ h, h = dg2 (fun p w => bikR t D (nI p) (nI w)) 4 p h0 → ∀ τ, Ag t D τ → G true 193 P 45 [some (.inr (.inr (69, false, 0))), some (.inr (.inl (h))), none, some (.inl (nI p)), none] [] τ := by
  have hP := hT.P
  have hB := hT.B
  have hR := hT.R
  intro j
  induction j with
  | zero =>
    intro p hj h hh τ hA
    have eB := hA.B hT
    refine G_wp 60 [45, 51, 68] rfl ?_
    refine br_ge rfl eB (by omega) (by omega) (fun h48 => ?_) (fun h48 => ?_)
    · rw [hh, show p = nB t by omega]
      exact G_fg 3 (G_fg 4 (hK _ hA))
    · exact absurd h48 (by omega)
  | succ j ih =>
    intro p hj h hh τ hA
    have eB := hA.B hT
    refine G_wp 60 [45, 51, 68] rfl ?_
    refine br_ge rfl eB (by omega) (by omega) (fun h48 => ?_) (fun h48 => ?_)
    · exact absurd h48 (by omega)
    · refine ⟨_, rfl, ?_⟩
      refine dg_bike1 hT (fun τ1 hA1 => ?_) 4 0 (by omega) _ rfl _ hA
      refine G_wp 30 [45] rfl ?_
      refine ⟨nI (p + 1), nI_add _ _, ?_⟩
      refine ih (p + 1) (by omega) _ ?_ _ hA1
      rw [dg2_S, hh]
theorem dg_rids {t : Sg} {D : Dy} {P : Option AV → Sg → Prop} {h0 : Int64} (hT : WN t) (hK : ∀ τ, Ag t D τ → G true 193 P 93 [some (.inr (.inr (69, false, 0))), some (.inr (.inl (dg2 (fun p w => rdaR t D (nI p) (nI w)) 6 (nR t) h0))), none, none, none] [] τ) : ∀ (j p : Nat), p + j = nR t → ∀ h, h = dg2 (fun p w => rdaR t D (nI p) (nI w)) 6 p h0 → ∀ τ, Ag t D τ → G true 193 P 70 [some (.inr (.inr (69, false, 0))), some (.inr (.inl (h))), none, some (.inl (nI p)), none] [] τ := by
  have hP := hT.P
  have hB := hT.B
  have hR := hT.R
  intro j
  induction j with
  | zero =>
    intro p hj h hh τ hA
    have eR := hA.R hT
    refine G_wp 60 [70, 76, 93] rfl ?_
    refine br_ge rfl eR (by omega) (by omega) (fun h73 => ?_) (fun h73 => ?_)
    · rw [hh, show p = nR t by omega]
      exact G_fg 3 (G_fg 4 (hK _ hA))
    · exact absurd h73 (by omega)
  | succ j ih =>
    intro p hj h hh τ hA
    have eR := hA.R hT
    refine G_wp 60 [70, 76, 93] rfl ?_
    refine br_ge rfl eR (by omega) (by omega) (fun h73 => ?_) (fun h73 => ?_)
    · exact absurd h73 (by omega)
    · refine ⟨_, rfl, ?_⟩
      refine dg_rid1 hT (fun τ1 hA1 => ?_) 6 0 (by omega) _ rfl _ hA
      refine G_wp 30 [70] rfl ?_
      refine ⟨nI (p + 1), nI_add _ _, ?_⟩
      refine ih (p + 1) (by omega) _ ?_ _ hA1
      rw [dg2_S, hh]
noncomputable def dgH (t : Sg) (D : Dy) : Int64 := dgF (fun i => D 27 i) (5 * nN (D 0 7)) (dgF (fun w => vanR D (nI w)) 4 (dg2 (fun r w => rdaR t D (nI r) (nI w)) 6 (nR t) (dg2 (fun b w => bikR t D (nI b) (nI w)) 4 (nB t) (dg2 (fun p w => pstR t D (nI p) (nI w)) 9 (nP t) (dgF (fun w => cntR t D (nI w)) 10 ((nI 277).toInt64))))))
theorem dg_s133 {t : Sg} {D : Dy} (hT : WN t) (h7 : Is (D 0 7) 4000) {h : Int64} {τ : Sg} (hA : Ag t D τ) : G true 193 (fun r' s' => r' = some (.inr (.inl h)) ∧ Ag t D s') 133 [some (.inr (.inr (69, false, 0))), some (.inr (.inl h)), none, none, none] [] τ := by
  refine G_wp 30 [] rfl ?_
  refine ⟨_, rfl, ?_⟩
  replace hA := Ag_scr hA (k := 69) (d := false) (i := 0) (j := 0) (v := (nI (0))) (by decide) rfl
  exact ⟨rfl, hA⟩
theorem dg_s109 {t : Sg} {D : Dy} (hT : WN t) (h7 : Is (D 0 7) 4000) {h : Int64} {τ : Sg} (hA : Ag t D τ) : G true 193 (fun r' s' => r' = some (.inr (.inl (dgF (fun i => D 27 i) (5 * nN (D 0 7)) h))) ∧ Ag t D s') 109 [some (.inr (.inr (69, false, 0))), some (.inr (.inl h)), none, none, none] [] τ := by
  refine G_wp 30 [111] rfl ?_
  refine ⟨_, rfl, ?_⟩
  exact dg_log h7 (fun τ hA => dg_s133 hT h7 hA) _ 0 (Nat.zero_add _) _ rfl _ hA
theorem dg_s93 {t : Sg} {D : Dy} (hT : WN t) (h7 : Is (D 0 7) 4000) {h : Int64} {τ : Sg} (hA : Ag t D τ) : G true 193 (fun r' s' => r' = some (.inr (.inl (dgF (fun i => D 27 i) (5 * nN (D 0 7)) (dgF (fun w => vanR D (nI w)) 4 h)))) ∧ Ag t D s') 93 [some (.inr (.inr (69, false, 0))), some (.inr (.inl h)), none, none, none] [] τ := by
  refine G_wp 30 [95] rfl ?_
  refine ⟨_, rfl, ?_⟩
  exact dg_van hT (fun τ hA => dg_s109 hT h7 hA) 4 0 (by omega) _ rfl _ hA
theorem dg_s68 {t : Sg} {D : Dy} (hT : WN t) (h7 : Is (D 0 7) 4000) {h : Int64} {τ : Sg} (hA : Ag t D τ) : G true 193 (fun r' s' => r' = some (.inr (.inl (dgF (fun i => D 27 i) (5 * nN (D 0 7)) (dgF (fun w => vanR D (nI w)) 4 (dg2 (fun r w => rdaR t D (nI r) (nI w)) 6 (nR t) h))))) ∧ Ag t D s') 68 [some (.inr (.inr (69, false, 0))), some (.inr (.inl h)), none, none, none] [] τ := by
  refine G_wp 30 [70] rfl ?_
  refine ⟨_, rfl, ?_⟩
  exact dg_rids hT (fun τ hA => dg_s93 hT h7 hA) _ 0 (Nat.zero_add _) _ rfl _ hA
theorem dg_s43 {t : Sg} {D : Dy} (hT : WN t) (h7 : Is (D 0 7) 4000) {h : Int64} {τ : Sg} (hA : Ag t D τ) : G true 193 (fun r' s' => r' = some (.inr (.inl (dgF (fun i => D 27 i) (5 * nN (D 0 7)) (dgF (fun w => vanR D (nI w)) 4 (dg2 (fun r w => rdaR t D (nI r) (nI w)) 6 (nR t) (dg2 (fun b w => bikR t D (nI b) (nI w)) 4 (nB t) h)))))) ∧ Ag t D s') 43 [some (.inr (.inr (69, false, 0))), some (.inr (.inl h)), none, none, none] [] τ := by
  refine G_wp 30 [45] rfl ?_
  refine ⟨_, rfl, ?_⟩
  exact dg_bikes hT (fun τ hA => dg_s68 hT h7 hA) _ 0 (Nat.zero_add _) _ rfl _ hA
theorem dg_s18 {t : Sg} {D : Dy} (hT : WN t) (h7 : Is (D 0 7) 4000) {h : Int64} {τ : Sg} (hA : Ag t D τ) : G true 193 (fun r' s' => r' = some (.inr (.inl (dgF (fun i => D 27 i) (5 * nN (D 0 7)) (dgF (fun w => vanR D (nI w)) 4 (dg2 (fun r w => rdaR t D (nI r) (nI w)) 6 (nR t) (dg2 (fun b w => bikR t D (nI b) (nI w)) 4 (nB t) (dg2 (fun p w => pstR t D (nI p) (nI w)) 9 (nP t) h))))))) ∧ Ag t D s') 18 [some (.inr (.inr (69, false, 0))), some (.inr (.inl h)), none, none, none] [] τ := by
  refine G_wp 30 [20] rfl ?_
  refine ⟨_, rfl, ?_⟩
  exact dg_posts hT (fun τ hA => dg_s43 hT h7 hA) _ 0 (Nat.zero_add _) _ rfl _ hA
theorem mp_digest {t : Sg} {D : Dy} {τ : Sg} (hA : Ag t D τ) (hT : WN t) (h7 : Is (D 0 7) 4000) : ∃ τ', Ev true 193 [.inr (.inr (69, false, 0))] τ (some (.inr (.inl (dgH t D)))) τ' ∧ Ag t D τ' := by
  unfold dgH
  refine EvQ_wp 30 [4] rfl rfl ?_
  refine ⟨_, rfl, ?_⟩
  exact dg_count hT (fun τ hA => dg_s18 hT h7 hA) 10 0 (by omega) _ rfl _ hA
