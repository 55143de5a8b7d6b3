/-! A rule's test, on the model's state: the symbols. -/
theorem so_7 {t : Sg} {D : Dy} {P : Option AV → Sg → Prop} {k p i : Nat} {ss vs : List Nat} {τ : Sg} (hX : XT t) (hk : k < 10) {n : Nat} (hi : i ≤ 41) (hs : ss.length ≤ 50) (hS : SR t D τ i ss vs)
    (hthen : sy t k i = 20 → G true 189 P 199 [some (.inr (.inr (69, false, 0))), some (.inl (nI k)), some (.inl (nI p)), some (.inl (nI n)), some (.inl (nI ss.length)), none, none, none, none] [] τ)
    (hpush : (sy t k i = 19 ∨ sy t k i = 15) → ∀ τ', SR t D τ' (i + 1) (sy t k i :: ss) vs → G true 189 P 7 [some (.inr (.inr (69, false, 0))), some (.inl (nI k)), some (.inl (nI p)), some (.inl (nI n)), some (.inl (nI (ss.length + 1))), none, none, none, none] [] τ')
    (hbin : (sy t k i = 17 ∨ sy t k i = 18) → G true 189 P 41 [some (.inr (.inr (69, false, 0))), some (.inl (nI k)), some (.inl (nI p)), some (.inl (nI n)), some (.inl (nI ss.length)), some (.inl (nI (sy t k i))), none, none, none] [] τ)
    (hcl : sy t k i = 16 → G true 189 P 102 [some (.inr (.inr (69, false, 0))), some (.inl (nI k)), some (.inl (nI p)), some (.inl (nI n)), some (.inl (nI ss.length)), some (.inl (nI (sy t k i))), none, none, none] [] τ)
    (helse : ¬ sy t k i = 20 → ¬ sy t k i = 19 → ¬ sy t k i = 15 → ¬ sy t k i = 17 → ¬ sy t k i = 18 → ¬ sy t k i = 16 → G true 189 P 148 [some (.inr (.inr (69, false, 0))), some (.inl (nI k)), some (.inl (nI p)), some (.inl (nI n)), some (.inl (nI ss.length)), some (.inl (nI (sy t k i))), none, none, none] [] τ) : G true 189 P 7 [some (.inr (.inr (69, false, 0))), some (.inl (nI k)), some (.inl (nI p)), some (.inl (nI n)), some (.inl (nI ss.length)), none, none, none, none] [] τ := by
  have hsy := sy_le hX hk (i := i)
  refine G_wp 200 [7, 41, 102, 148, 199] rfl ?_
  refine ⟨_, _, mv_symbol hS.1 hX hk rfl (by omega) hS.2.1, ?_⟩
  refine br_eq rfl rfl (by omega) (by omega) (fun h11 => ?_) (fun h11 => ?_)
  · exact hthen (by omega)
  · refine ⟨_, _, mv_symbol hS.1 hX hk rfl (by omega) hS.2.1, _, rfl, ?_⟩
    refine br_eq rfl rfl (by omega) (by omega) (fun h18 => ?_) (fun h18 => ?_)
    · refine ⟨ss.length, rfl, (by show _ < 60; omega), _, rfl, nI (ss.length + 1), nI_add _ _, nI (i + 1), (add_n (by first | exact hS.2.1 | exact (SR_s hS).2.1) rfl), ?_⟩
      exact G_fg 5 (hpush (by omega) _ (SR_at (SR_s hS)))
    · refine br_ne rfl rfl (by omega) (by omega) (fun h21 => ?_) (fun h21 => ?_)
      · refine br_eq rfl rfl (by omega) (by omega) (fun h37 => ?_) (fun h37 => ?_)
        · exact hbin (by omega)
        · refine br_ne rfl rfl (by omega) (by omega) (fun h40 => ?_) (fun h40 => ?_)
          · refine br_ne rfl rfl (by omega) (by omega) (fun h101 => ?_) (fun h101 => ?_)
            · exact helse (by omega) (by omega) (by omega) (by omega) (by omega) (by omega)
            · exact hcl (by omega)
          · exact hbin (by omega)
      · refine ⟨ss.length, rfl, (by show _ < 60; omega), _, rfl, nI (ss.length + 1), nI_add _ _, nI (i + 1), (add_n (by first | exact hS.2.1 | exact (SR_s hS).2.1) rfl), ?_⟩
        exact G_fg 5 (hpush (by omega) _ (SR_at (SR_s hS)))
theorem so_86 {t : Sg} {D : Dy} {P : Option AV → Sg → Prop} {k p i n s : Nat} {ss vs : List Nat} {τ : Sg} (hs : ss.length ≤ 50) (hS : SR t D τ i ss vs) (hK : ∀ τ', SR t D τ' (i + 1) (s :: ss) vs → G true 189 P 7 [some (.inr (.inr (69, false, 0))), some (.inl (nI k)), some (.inl (nI p)), some (.inl (nI n)), some (.inl (nI (ss.length + 1))), none, none, none, none] [] τ') : G true 189 P 86 [some (.inr (.inr (69, false, 0))), some (.inl (nI k)), some (.inl (nI p)), some (.inl (nI n)), some (.inl (nI ss.length)), some (.inl (nI s)), none, none, none] [] τ := by
  refine G_wp 100 [7] rfl ?_
  refine ⟨ss.length, rfl, (by show _ < 60; omega), _, rfl, nI (ss.length + 1), nI_add _ _, nI (i + 1), (add_n (by first | exact hS.2.1 | exact (SR_s hS).2.1) rfl), ?_⟩
  exact G_fg 5 (hK _ (SR_at (SR_s hS)))
theorem so_134 {t : Sg} {D : Dy} {P : Option AV → Sg → Prop} {k p i s m x c : Nat} {rest vs : List Nat} {τ : Sg} (hr : ∀ c r, rest = c :: r → ¬ c = 19 ∧ c ≤ 99) (hv : vs.length ≤ 50) (hx : x ≤ 1) (h59 : (List.replicate m 19 ++ rest).length ≤ 59) (hS : SR t D τ i (c :: (List.replicate m 19 ++ rest)) (x :: vs)) (hK : ∀ τ', SR t D τ' (i + 1) rest (flp m x :: vs) → G true 189 P 7 [some (.inr (.inr (69, false, 0))), some (.inl (nI k)), some (.inl (nI p)), some (.inl (nI (vs.length + 1))), some (.inl (nI rest.length)), none, none, none, none] [] τ') : G true 189 P 134 [some (.inr (.inr (69, false, 0))), some (.inl (nI k)), some (.inl (nI p)), some (.inl (nI (vs.length + 1))), some (.inl (nI ((List.replicate m 19 ++ rest).length + 1))), some (.inl (nI s)), none, none, none] [] τ := by
  refine G_wp 100 [7] rfl ?_
  obtain ⟨τ1, ev1, hS1⟩ := mv_turned (n := m) (rest := rest) (vs := vs) (x := x) hr hv hx h59 (SR_ps hS)
  have e9 : nI ((List.replicate m 19 ++ rest).length + 1) - nI 1 = nI (List.replicate m 19 ++ rest).length := nI_pred _
  rw [← e9] at ev1
  refine ⟨_, _, ev1, _, rfl, nI (i + 1), (add_n (by exact hS1.2.1) rfl), ?_⟩
  exact G_fg 5 (hK _ (SR_at hS1))
def cmpV (s : Nat) (a b : Int32) : Nat := if s = 12 then (if a < b then 1 else 0) else if s = 13 then (if a = b then 1 else 0) else (if b < a then 1 else 0)
theorem so_148 {t : Sg} {D : Dy} {P : Option AV → Sg → Prop} {k p i s m : Nat} {rest vs : List Nat} {τ : Sg} (hT : WN t) (hX : XT t) (hk : k < 10) (hp : p < nP t) (hi : i ≤ 40) {r1 r2 : Int32 × Nat} (e1 : r1 = sumE (sy t k) (envV t D p) (41 - i) i (nI 0) (nI 1)) (hi2 : r1.2 + 1 ≤ 40) (e2 : r2 = sumE (sy t k) (envV t D p) (41 - (r1.2 + 1)) (r1.2 + 1) (nI 0) (nI 1)) (hr : ∀ c r, rest = c :: r → ¬ c = 19 ∧ c ≤ 99) (hv : vs.length ≤ 50) (h59 : (List.replicate m 19 ++ rest).length ≤ 59) (hS : SR t D τ i (List.replicate m 19 ++ rest) vs) (hK : ∀ τ', SR t D τ' r2.2 rest (flp m (cmpV (sy t k r1.2) r1.1 r2.1) :: vs) → G true 189 P 7 [some (.inr (.inr (69, false, 0))), some (.inl (nI k)), some (.inl (nI p)), some (.inl (nI (vs.length + 1))), some (.inl (nI rest.length)), none, none, none, none] [] τ') : G true 189 P 148 [some (.inr (.inr (69, false, 0))), some (.inl (nI k)), some (.inl (nI p)), some (.inl (nI vs.length)), some (.inl (nI (List.replicate m 19 ++ rest).length)), some (.inl (nI s)), none, none, none] [] τ := by
  have hsy := sy_le hX hk (i := r1.2)
  have q1 := mv_sum hS.1 hT hX hk hp hi hS.2.1
  rw [← e1] at q1
  have q2 := mv_sum (aw_A hS.1 (r1.2 + 1)) hT hX hk hp hi2 (aw_at _ _)
  rw [← e2] at q2
  refine G_wp 200 [7] rfl ?_
  refine ⟨_, _, q1, _, rfl, _, _, mv_symbol (aw_A hS.1 _) hX hk rfl (by omega) (aw_at _ _), _, rfl, nI (r1.2 + 1), (add_n (aw_at _ _) rfl), ?_⟩
  rw [aw_S]
  refine ⟨_, _, q2, _, rfl, ?_⟩
  refine br_ne rfl rfl (by omega) (by omega) (fun h173 => ?_) (fun h173 => ?_)
  · refine br_ne rfl rfl (by omega) (by omega) (fun h180 => ?_) (fun h180 => ?_)
    · refine ⟨fun h187 => ?_, fun h187 => ?_⟩
      · refine ⟨vs.length, rfl, (by show _ < 60; omega), _, rfl, nI (vs.length + 1), nI_add _ _, ?_⟩
        have hS2 := SR_v (x := 0) (SR_aw (j := r2.2) (SR_aw (j := r1.2 + 1) hS))
        obtain ⟨τ1, ev1, hS1⟩ := mv_turned (n := m) (rest := rest) (vs := vs) (x := 0) hr hv (by omega) h59 hS2
        refine ⟨_, _, ev1, _, rfl, ?_⟩
        have e : cmpV (sy t k r1.2) r1.1 r2.1 = 0 := by
          unfold cmpV
          rw [if_neg h173, if_neg h180, if_neg (Int32.not_lt.mpr h187)]
        exact G_fg 5 (G_fg 6 (G_fg 7 (G_fg 8 (hK _ (by rw [e]; exact hS1)))))
      · refine ⟨vs.length, rfl, (by show _ < 60; omega), _, rfl, nI (vs.length + 1), nI_add _ _, ?_⟩
        have hS2 := SR_v (x := 1) (SR_aw (j := r2.2) (SR_aw (j := r1.2 + 1) hS))
        obtain ⟨τ1, ev1, hS1⟩ := mv_turned (n := m) (rest := rest) (vs := vs) (x := 1) hr hv (by omega) h59 hS2
        refine ⟨_, _, ev1, _, rfl, ?_⟩
        have e : cmpV (sy t k r1.2) r1.1 r2.1 = 1 := by
          unfold cmpV
          rw [if_neg h173, if_neg h180, if_pos (i_nle h187)]
        exact G_fg 5 (G_fg 6 (G_fg 7 (G_fg 8 (hK _ (by rw [e]; exact hS1)))))
    · refine ⟨fun h183 => ?_, fun h183 => ?_⟩
      · refine ⟨vs.length, rfl, (by show _ < 60; omega), _, rfl, nI (vs.length + 1), nI_add _ _, ?_⟩
        have hS2 := SR_v (x := 0) (SR_aw (j := r2.2) (SR_aw (j := r1.2 + 1) hS))
        obtain ⟨τ1, ev1, hS1⟩ := mv_turned (n := m) (rest := rest) (vs := vs) (x := 0) hr hv (by omega) h59 hS2
        refine ⟨_, _, ev1, _, rfl, ?_⟩
        have e : cmpV (sy t k r1.2) r1.1 r2.1 = 0 := by
          unfold cmpV
          rw [if_neg h173, if_pos h180, if_neg h183]
        exact G_fg 5 (G_fg 6 (G_fg 7 (G_fg 8 (hK _ (by rw [e]; exact hS1)))))
      · refine ⟨vs.length, rfl, (by show _ < 60; omega), _, rfl, nI (vs.length + 1), nI_add _ _, ?_⟩
        have hS2 := SR_v (x := 1) (SR_aw (j := r2.2) (SR_aw (j := r1.2 + 1) hS))
        obtain ⟨τ1, ev1, hS1⟩ := mv_turned (n := m) (rest := rest) (vs := vs) (x := 1) hr hv (by omega) h59 hS2
        refine ⟨_, _, ev1, _, rfl, ?_⟩
        have e : cmpV (sy t k r1.2) r1.1 r2.1 = 1 := by
          unfold cmpV
          rw [if_neg h173, if_pos h180, if_pos h183]
        exact G_fg 5 (G_fg 6 (G_fg 7 (G_fg 8 (hK _ (by rw [e]; exact hS1)))))
  · refine ⟨fun h176 => ?_, fun h176 => ?_⟩
    · refine ⟨vs.length, rfl, (by show _ < 60; omega), _, rfl, nI (vs.length + 1), nI_add _ _, ?_⟩
      have hS2 := SR_v (x := 0) (SR_aw (j := r2.2) (SR_aw (j := r1.2 + 1) hS))
      obtain ⟨τ1, ev1, hS1⟩ := mv_turned (n := m) (rest := rest) (vs := vs) (x := 0) hr hv (by omega) h59 hS2
      refine ⟨_, _, ev1, _, rfl, ?_⟩
      have e : cmpV (sy t k r1.2) r1.1 r2.1 = 0 := by
        unfold cmpV
        rw [if_pos h173, if_neg (Int32.not_lt.mpr h176)]
      exact G_fg 5 (G_fg 6 (G_fg 7 (G_fg 8 (hK _ (by rw [e]; exact hS1)))))
    · refine ⟨vs.length, rfl, (by show _ < 60; omega), _, rfl, nI (vs.length + 1), nI_add _ _, ?_⟩
      have hS2 := SR_v (x := 1) (SR_aw (j := r2.2) (SR_aw (j := r1.2 + 1) hS))
      obtain ⟨τ1, ev1, hS1⟩ := mv_turned (n := m) (rest := rest) (vs := vs) (x := 1) hr hv (by omega) h59 hS2
      refine ⟨_, _, ev1, _, rfl, ?_⟩
      have e : cmpV (sy t k r1.2) r1.1 r2.1 = 1 := by
        unfold cmpV
        rw [if_pos h173, if_pos (Int32.not_le.mp h176)]
      exact G_fg 5 (G_fg 6 (G_fg 7 (G_fg 8 (hK _ (by rw [e]; exact hS1)))))
theorem so_225 {t : Sg} {D : Dy} {k p i x : Nat} {τ : Sg} (hx : x ≤ 1) (hS : SR t D τ i [] [x]) : G true 189 (fun r' s' => r' = some (.inl (if x = 1 then nI 1 else nI 0)) ∧ SR t D s' (i + 1) [] []) 225 [some (.inr (.inr (69, false, 0))), some (.inl (nI k)), some (.inl (nI p)), some (.inl (nI 1)), some (.inl (nI 0)), none, none, none, none] [] τ := by
  refine G_wp 100 [] rfl ?_
  refine ⟨nI (i + 1), (add_n (by exact hS.2.1) rfl), 0, rfl, (by show _ < 60; omega), ?_⟩
  refine br_ne ((up4_nk (by decide)).trans (stk_hd hS.2.2.2 rfl)) rfl (by omega) (by omega) (fun h236 => ?_) (fun h236 => ?_)
  · refine ⟨Or.inl rfl, ?_⟩
    exact ⟨by rw [if_neg h236], SR_at (SR_pv hS)⟩
  · refine ⟨Or.inr rfl, ?_⟩
    exact ⟨by rw [if_pos h236], SR_at (SR_pv hS)⟩
