/-! The class tests a rule, symbol by symbol. -/
theorem bI_n1 {b : Bool} (h : ¬ nI 1 = bI (b = true)) : b = false := by
  cases b
  · rfl
  · exact absurd (bI_t rfl).symm h
theorem bI_q1 {b : Bool} (h : nI 1 = bI (b = true)) : b = true := bI_e1 (fun z => absurd (h.trans z) (by decide))
theorem bI_q0 {b : Bool} (h : nI 0 = bI (b = true)) : b = false := bI_e0 h.symm
theorem bI_n0 {b : Bool} (h : ¬ nI 0 = bI (b = true)) : b = true := bI_e1 (fun z => h z.symm)
theorem bI_ab {a b : Bool} (h : bI (a = true) = bI (b = true)) : (a != b) = false := by
  cases a <;> cases b
  · rfl
  · exact absurd h (by decide)
  · exact absurd h (by decide)
  · rfl
theorem bI_nab {a b : Bool} (h : ¬ bI (a = true) = bI (b = true)) : (a != b) = true := by
  cases a <;> cases b
  · exact absurd rfl h
  · rfl
  · rfl
  · exact absurd rfl h
theorem hsC_S (f : Nat → Nat) (ev : Nat → Int32) (e n i : Nat) (c : B3) (r : List B3) (q : Bool) : hsC f ev e (n + 1) i c r q = if e ≤ i then botV c r else if f i = 19 then hsC f ev e n (i + 1) c r (!q) else if f i = 15 ∧ r.length < 8 then hsC f ev e n (i + 1) (false, true, q) (c :: r) false else if f i = 16 ∧ 0 < r.length then (match r with
      | [] => false
      | x :: r2 => hsC f ev e n (i + 1) (x.1, x.2.1 && ((c.1 || c.2.1) != c.2.2), x.2.2) r2 q) else if f i = 18 then hsC f ev e n (i + 1) (c.1 || c.2.1, true, c.2.2) r q else if f i = 17 then hsC f ev e n (i + 1) c r q else hsC f ev e n (cmC f ev e i).2 (c.1, c.2.1 && ((cmC f ev e i).1 != q), c.2.2) r false := rfl
def botB : B3 → List B3 → B3
  | c, [] => c
  | _, x :: r => botB x r
theorem botV_B : ∀ (c : B3) (r : List B3), botV c r = ((botB c r).1 || (botB c r).2.1)
  | _, [] => rfl
  | _, x :: r => botV_B x r
theorem stH_bot {σ : Sg} : ∀ {c : B3} {r : List B3}, stH σ (c :: r) → σ 18 false 0 0 = bI ((botB c r).1 = true) ∧ σ 19 false 0 0 = bI ((botB c r).2.1 = true)
  | _, [], h => ⟨h.1.1, h.1.2.1⟩
  | c, x :: r, h => stH_bot (c := x) (r := r) h.2
theorem aW_id {σ : Sg} {i : Nat} (h : σ 12 false 0 7 = nI i) : aW σ i = σ := by
  funext k d r j
  unfold aW up4
  split
  next q => rw [q.1, q.2.1, q.2.2.1, q.2.2.2, h]
  next => rfl
theorem cm_le (f : Nat → Nat) (ev : Nat → Int32) (e i : Nat) : (cmC f ev e i).2 ≤ max e i + 1 := by
  have h1 := (rs_le f ev e 41 i (nI 0) (nI 0) (nI 1)).2
  have h2 := (rs_le f ev e 41 ((rs1 f ev e i).2 + 1) (nI 0) (nI 0) (nI 1)).2
  change (rs1 f ev e i).2 ≤ _ at h1
  change (rs1 f ev e ((rs1 f ev e i).2 + 1)).2 ≤ _ at h2
  show (rs1 f ev e ((rs1 f ev e i).2 + 1)).2 ≤ _
  omega
theorem nI_back (n : Nat) : nI n + nI 1 + -1 = nI n := by
  rw [Int32.add_assoc, show nI 1 + (-1 : Int32) = 0 by decide, Int32.add_zero]
theorem cv_hs_l {d : Bool} {σ : Sg} {f : Nat → Nat} {ev : Nat → Int32} {k e : Nat} (hk : k < 10) (he : e ≤ 40) (hf30 : ∀ i, i < e → f i ≤ 30) (hrow : ∀ i, i < e → σ 14 false (k + 1) i = nI (f i)) (hn : ∀ s, 21 ≤ s → s ≤ 27 → σ 36 d 0 (s - 21) = ev s) : ∀ (n i : Nat) (c : B3) (r : List B3) (q : Bool) (y : Int32), y = bI (q = true) → ∀ (j : Nat) (o8 o9 : Option AV) (s1 : Sg), j + n = 40 → i ≤ 100 → r.length ≤ 8 → HS σ s1 i c r → G false 139 (fun r' s' => r' = some (.inl (bI (hsC f ev e n i c r q = true))) ∧ ∀ k d x j, scc k j = false → s' k d x j = σ k d x j) 23 [some (.inr (.inr (12, false, 0))), some (.inl (nI k)), some (.inr (.inr (36, d, 0))), some (.inr (.inr (14, false, k + 1))), some (.inl (nI e)), some (.inl (nI r.length)), some (.inl y), some (.inl (nI j)), o8, o9] [] s1 := by
  intro n
  induction n with
  | zero =>
    intro i c r q y hy j o8 o9 s1 hj hi hr hS
    refine G_wp 400 [23] rfl ?_
    cases r with
    | nil =>
      have hl0 : ([] : List B3).length = 0 := rfl
      refine br_ge rfl rfl (by omega) (by omega) (fun h25 => ?_) (fun h25 => ?_)
      · refine ⟨0, rfl, (by show _ < 9; omega), ?_⟩
        have p170 := (stH_bot hS.2.2).1
        refine ⟨fun h171 => ?_, fun h171 => ?_⟩
        · refine ⟨Or.inr rfl, ?_⟩
          have b171 := bI_e1 (fun z => h171 (p170.trans z))
          have e9 : hsC f ev e 0 i c [] q = botV c [] := rfl
          have hv : botV c [] = true := by
            rw [botV_B]
            simp [b171]
          exact ⟨by rw [e9, hv, bI_t rfl], hS.2.1⟩
        · refine ⟨0, rfl, (by show _ < 9; omega), ?_⟩
          have p175 := (stH_bot hS.2.2).2
          refine ⟨fun h176 => ?_, fun h176 => ?_⟩
          · refine ⟨Or.inl rfl, ?_⟩
            have b171 := bI_e0 (p170.symm.trans h171)
            have b176 := bI_e0 (p175.symm.trans h176)
            have e9 : hsC f ev e 0 i c [] q = botV c [] := rfl
            have hv : botV c [] = false := by
              rw [botV_B]
              simp [b171, b176]
            exact ⟨by rw [e9, hv, bI_f (fun z : false = true => Bool.false_ne_true z)], hS.2.1⟩
          · refine ⟨Or.inr rfl, ?_⟩
            have b171 := bI_e0 (p170.symm.trans h171)
            have b176 := bI_e1 (fun z => h176 (p175.trans z))
            have e9 : hsC f ev e 0 i c [] q = botV c [] := rfl
            have hv : botV c [] = true := by
              rw [botV_B]
              simp [b171, b176]
            exact ⟨by rw [e9, hv, bI_t rfl], hS.2.1⟩
      · exact absurd h25 (by omega)
    | cons x r2 =>
      refine br_ge rfl rfl (by omega) (by omega) (fun h25 => ?_) (fun h25 => ?_)
      · refine ⟨0, rfl, (by show _ < 9; omega), ?_⟩
        have p170 := (stH_bot hS.2.2).1
        refine ⟨fun h171 => ?_, fun h171 => ?_⟩
        · refine ⟨Or.inr rfl, ?_⟩
          have b171 := bI_e1 (fun z => h171 (p170.trans z))
          have e9 : hsC f ev e 0 i c (x :: r2) q = botV c (x :: r2) := rfl
          have hv : botV c (x :: r2) = true := by
            rw [botV_B]
            simp [b171]
          exact ⟨by rw [e9, hv, bI_t rfl], hS.2.1⟩
        · refine ⟨0, rfl, (by show _ < 9; omega), ?_⟩
          have p175 := (stH_bot hS.2.2).2
          refine ⟨fun h176 => ?_, fun h176 => ?_⟩
          · refine ⟨Or.inl rfl, ?_⟩
            have b171 := bI_e0 (p170.symm.trans h171)
            have b176 := bI_e0 (p175.symm.trans h176)
            have e9 : hsC f ev e 0 i c (x :: r2) q = botV c (x :: r2) := rfl
            have hv : botV c (x :: r2) = false := by
              rw [botV_B]
              simp [b171, b176]
            exact ⟨by rw [e9, hv, bI_f (fun z : false = true => Bool.false_ne_true z)], hS.2.1⟩
          · refine ⟨Or.inr rfl, ?_⟩
            have b171 := bI_e0 (p170.symm.trans h171)
            have b176 := bI_e1 (fun z => h176 (p175.trans z))
            have e9 : hsC f ev e 0 i c (x :: r2) q = botV c (x :: r2) := rfl
            have hv : botV c (x :: r2) = true := by
              rw [botV_B]
              simp [b171, b176]
            exact ⟨by rw [e9, hv, bI_t rfl], hS.2.1⟩
      · exact absurd h25 (by omega)
  | succ n ih =>
    intro i c r q y hy j o8 o9 s1 hj hi hr hS
    refine G_wp 400 [23] rfl ?_
    cases r with
    | nil =>
      have hl0 : ([] : List B3).length = 0 := rfl
      refine br_ge rfl rfl (by omega) (by omega) (fun h25 => ?_) (fun h25 => ?_)
      · exact absurd h25 (by omega)
      · refine br_ge hS.1 rfl (by omega) (by omega) (fun h29 => ?_) (fun h29 => ?_)
        · refine ⟨0, rfl, (by show _ < 9; omega), ?_⟩
          have p170 := (stH_bot hS.2.2).1
          refine ⟨fun h171 => ?_, fun h171 => ?_⟩
          · refine ⟨Or.inr rfl, ?_⟩
            have b171 := bI_e1 (fun z => h171 (p170.trans z))
            have e9 : hsC f ev e (n + 1) i c [] q = botV c [] := by rw [hsC_S, if_pos (by omega)]
            have hv : botV c [] = true := by
              rw [botV_B]
              simp [b171]
            exact ⟨by rw [e9, hv, bI_t rfl], hS.2.1⟩
          · refine ⟨0, rfl, (by show _ < 9; omega), ?_⟩
            have p175 := (stH_bot hS.2.2).2
            refine ⟨fun h176 => ?_, fun h176 => ?_⟩
            · refine ⟨Or.inl rfl, ?_⟩
              have b171 := bI_e0 (p170.symm.trans h171)
              have b176 := bI_e0 (p175.symm.trans h176)
              have e9 : hsC f ev e (n + 1) i c [] q = botV c [] := by rw [hsC_S, if_pos (by omega)]
              have hv : botV c [] = false := by
                rw [botV_B]
                simp [b171, b176]
              exact ⟨by rw [e9, hv, bI_f (fun z : false = true => Bool.false_ne_true z)], hS.2.1⟩
            · refine ⟨Or.inr rfl, ?_⟩
              have b171 := bI_e0 (p170.symm.trans h171)
              have b176 := bI_e1 (fun z => h176 (p175.trans z))
              have e9 : hsC f ev e (n + 1) i c [] q = botV c [] := by rw [hsC_S, if_pos (by omega)]
              have hv : botV c [] = true := by
                rw [botV_B]
                simp [b171, b176]
              exact ⟨by rw [e9, hv, bI_t rfl], hS.2.1⟩
        · refine ⟨(show k < 10 by omega), i, hS.1, (by show _ < 40; omega), nI (f i), ((hS.2.1 14 false _ _ rfl).trans (hrow i (by omega))), ?_⟩
          have hf := hf30 i (by omega)
          refine br_ne rfl rfl (by omega) (by omega) (fun h37 => ?_) (fun h37 => ?_)
          · refine br_ne rfl rfl (by omega) (by omega) (fun h47 => ?_) (fun h47 => ?_)
            · refine br_ne rfl rfl (by omega) (by omega) (fun h61 => ?_) (fun h61 => ?_)
              · refine br_ne rfl rfl (by omega) (by omega) (fun h104 => ?_) (fun h104 => ?_)
                · refine br_eq rfl rfl (by omega) (by omega) (fun h130 => ?_) (fun h130 => ?_)
                  · refine ⟨nI (i + 1), (add_n hS.1 rfl), ?_⟩
                    replace hS := HS_at (j := i + 1) hS
                    refine ⟨nI (j + 1), nI_add _ _, ?_⟩
                    have e9 : hsC f ev e (n + 1) i c [] q = hsC f ev e n (i + 1) c [] q := by
                      rw [hsC_S, if_neg (by omega), if_neg (by omega), if_neg (fun z => absurd z.1 (by omega)), if_neg (fun z => absurd z.1 (by omega)), if_neg (by omega), if_pos (by omega)]
                    rw [e9]
                    exact ih (i + 1) c [] q _ hy (j + 1) _ _ _ (by omega) (by omega) (by exact hr) hS
                  · have ev1 := cv_cm hk he hf30 (fun z hz => (hS.2.1 14 false _ _ rfl).trans (hrow z hz)) (fun z h1 h2 => (hS.2.1 36 d _ _ rfl).trans (hn z h1 h2)) (i := i) (by omega)
                    rw [aW_id hS.1] at ev1
                    replace hS := HS_at (j := (cmC f ev e i).2) hS
                    have hcl := cm_le f ev e i
                    refine ⟨_, _, ev1, ?_⟩
                    refine ⟨fun h137 => ?_, fun h137 => ?_⟩
                    · rw [hy] at h137
                      refine ⟨_, rfl, 0, rfl, (by show _ < 9; omega), ?_⟩
                      have p148 := hS.2.2.1.2.1
                      refine ⟨fun h149 => ?_, fun h149 => ?_⟩
                      · refine ⟨0, rfl, (by show _ < 9; omega), nI 0, rfl, ?_⟩
                        have b137 := bI_ab h137
                        have b149 := bI_e0 (p148.symm.trans h149)
                        have hv : nI 0 = bI ((c.2.1 && ((cmC f ev e i).1 != q)) = true) := by
                          rw [show (c.2.1 && ((cmC f ev e i).1 != q)) = false by simp [b137, b149]]
                          exact (bI_f (fun z : false = true => Bool.false_ne_true z)).symm
                        replace hS := HS_all hS hv
                        refine ⟨_, rfl, nI (j + 1), nI_add _ _, ?_⟩
                        have e9 : hsC f ev e (n + 1) i c [] q = hsC f ev e n (cmC f ev e i).2 (c.1, c.2.1 && ((cmC f ev e i).1 != q), c.2.2) [] false := by
                          rw [hsC_S, if_neg (by omega), if_neg (by omega), if_neg (fun z => absurd z.1 (by omega)), if_neg (fun z => absurd z.1 (by omega)), if_neg (by omega), if_neg (by omega)]
                        rw [e9]
                        exact ih (cmC f ev e i).2 (c.1, c.2.1 && ((cmC f ev e i).1 != q), c.2.2) [] false _ (bI_f (fun z : false = true => Bool.false_ne_true z)).symm (j + 1) _ _ _ (by omega) (by omega) (by exact hr) hS
                      · refine br_eq rfl rfl (by omega) (by omega) (fun h151 => ?_) (fun h151 => ?_)
                        · refine ⟨0, rfl, (by show _ < 9; omega), nI 0, rfl, ?_⟩
                          have b137 := bI_ab h137
                          have b149 := bI_e1 (fun z => h149 (p148.trans z))
                          have hv : nI 0 = bI ((c.2.1 && ((cmC f ev e i).1 != q)) = true) := by
                            rw [show (c.2.1 && ((cmC f ev e i).1 != q)) = false by simp [b137, b149]]
                            exact (bI_f (fun z : false = true => Bool.false_ne_true z)).symm
                          replace hS := HS_all hS hv
                          refine ⟨_, rfl, nI (j + 1), nI_add _ _, ?_⟩
                          have e9 : hsC f ev e (n + 1) i c [] q = hsC f ev e n (cmC f ev e i).2 (c.1, c.2.1 && ((cmC f ev e i).1 != q), c.2.2) [] false := by
                            rw [hsC_S, if_neg (by omega), if_neg (by omega), if_neg (fun z => absurd z.1 (by omega)), if_neg (fun z => absurd z.1 (by omega)), if_neg (by omega), if_neg (by omega)]
                          rw [e9]
                          exact ih (cmC f ev e i).2 (c.1, c.2.1 && ((cmC f ev e i).1 != q), c.2.2) [] false _ (bI_f (fun z : false = true => Bool.false_ne_true z)).symm (j + 1) _ _ _ (by omega) (by omega) (by exact hr) hS
                        · exact absurd h151 (by omega)
                    · rw [hy] at h137
                      refine ⟨_, rfl, 0, rfl, (by show _ < 9; omega), ?_⟩
                      have p148 := hS.2.2.1.2.1
                      refine ⟨fun h149 => ?_, fun h149 => ?_⟩
                      · refine ⟨0, rfl, (by show _ < 9; omega), nI 0, rfl, ?_⟩
                        have b137 := bI_nab h137
                        have b149 := bI_e0 (p148.symm.trans h149)
                        have hv : nI 0 = bI ((c.2.1 && ((cmC f ev e i).1 != q)) = true) := by
                          rw [show (c.2.1 && ((cmC f ev e i).1 != q)) = false by simp [b137, b149]]
                          exact (bI_f (fun z : false = true => Bool.false_ne_true z)).symm
                        replace hS := HS_all hS hv
                        refine ⟨_, rfl, nI (j + 1), nI_add _ _, ?_⟩
                        have e9 : hsC f ev e (n + 1) i c [] q = hsC f ev e n (cmC f ev e i).2 (c.1, c.2.1 && ((cmC f ev e i).1 != q), c.2.2) [] false := by
                          rw [hsC_S, if_neg (by omega), if_neg (by omega), if_neg (fun z => absurd z.1 (by omega)), if_neg (fun z => absurd z.1 (by omega)), if_neg (by omega), if_neg (by omega)]
                        rw [e9]
                        exact ih (cmC f ev e i).2 (c.1, c.2.1 && ((cmC f ev e i).1 != q), c.2.2) [] false _ (bI_f (fun z : false = true => Bool.false_ne_true z)).symm (j + 1) _ _ _ (by omega) (by omega) (by exact hr) hS
                      · refine br_eq rfl rfl (by omega) (by omega) (fun h151 => ?_) (fun h151 => ?_)
                        · exact absurd h151 (by omega)
                        · refine ⟨0, rfl, (by show _ < 9; omega), nI 1, rfl, ?_⟩
                          have b137 := bI_nab h137
                          have b149 := bI_e1 (fun z => h149 (p148.trans z))
                          have hv : nI 1 = bI ((c.2.1 && ((cmC f ev e i).1 != q)) = true) := by
                            rw [show (c.2.1 && ((cmC f ev e i).1 != q)) = true by simp [b137, b149]]
                            exact (bI_t rfl).symm
                          replace hS := HS_all hS hv
                          refine ⟨_, rfl, nI (j + 1), nI_add _ _, ?_⟩
                          have e9 : hsC f ev e (n + 1) i c [] q = hsC f ev e n (cmC f ev e i).2 (c.1, c.2.1 && ((cmC f ev e i).1 != q), c.2.2) [] false := by
                            rw [hsC_S, if_neg (by omega), if_neg (by omega), if_neg (fun z => absurd z.1 (by omega)), if_neg (fun z => absurd z.1 (by omega)), if_neg (by omega), if_neg (by omega)]
                          rw [e9]
                          exact ih (cmC f ev e i).2 (c.1, c.2.1 && ((cmC f ev e i).1 != q), c.2.2) [] false _ (bI_f (fun z : false = true => Bool.false_ne_true z)).symm (j + 1) _ _ _ (by omega) (by omega) (by exact hr) hS
                · refine ⟨0, rfl, (by show _ < 9; omega), ?_⟩
                  have p111 := hS.2.2.1.1
                  refine ⟨fun h112 => ?_, fun h112 => ?_⟩
                  · refine ⟨0, rfl, (by show _ < 9; omega), nI 1, rfl, ?_⟩
                    have b112 := bI_e1 (fun z => h112 (p111.trans z))
                    have hv : nI 1 = bI ((c.1 || c.2.1) = true) := by
                      rw [show (c.1 || c.2.1) = true by simp [b112]]
                      exact (bI_t rfl).symm
                    replace hS := HS_any hS hv
                    refine ⟨0, rfl, (by show _ < 9; omega), nI 1, rfl, ?_⟩
                    replace hS := HS_all (l := true) hS (bI_t rfl).symm
                    refine ⟨nI (i + 1), (add_n hS.1 rfl), ?_⟩
                    replace hS := HS_at (j := i + 1) hS
                    refine ⟨nI (j + 1), nI_add _ _, ?_⟩
                    have e9 : hsC f ev e (n + 1) i c [] q = hsC f ev e n (i + 1) (c.1 || c.2.1, true, c.2.2) [] q := by
                      rw [hsC_S, if_neg (by omega), if_neg (by omega), if_neg (fun z => absurd z.1 (by omega)), if_neg (fun z => absurd z.1 (by omega)), if_pos (by omega)]
                    rw [e9]
                    exact ih (i + 1) (c.1 || c.2.1, true, c.2.2) [] q _ hy (j + 1) _ _ _ (by omega) (by omega) (by exact hr) hS
                  · refine ⟨0, rfl, (by show _ < 9; omega), ?_⟩
                    have p116 := hS.2.2.1.2.1
                    refine ⟨fun h117 => ?_, fun h117 => ?_⟩
                    · refine ⟨0, rfl, (by show _ < 9; omega), nI 0, rfl, ?_⟩
                      have b112 := bI_e0 (p111.symm.trans h112)
                      have b117 := bI_e0 (p116.symm.trans h117)
                      have hv : nI 0 = bI ((c.1 || c.2.1) = true) := by
                        rw [show (c.1 || c.2.1) = false by simp [b112, b117]]
                        exact (bI_f (fun z : false = true => Bool.false_ne_true z)).symm
                      replace hS := HS_any hS hv
                      refine ⟨0, rfl, (by show _ < 9; omega), nI 1, rfl, ?_⟩
                      replace hS := HS_all (l := true) hS (bI_t rfl).symm
                      refine ⟨nI (i + 1), (add_n hS.1 rfl), ?_⟩
                      replace hS := HS_at (j := i + 1) hS
                      refine ⟨nI (j + 1), nI_add _ _, ?_⟩
                      have e9 : hsC f ev e (n + 1) i c [] q = hsC f ev e n (i + 1) (c.1 || c.2.1, true, c.2.2) [] q := by
                        rw [hsC_S, if_neg (by omega), if_neg (by omega), if_neg (fun z => absurd z.1 (by omega)), if_neg (fun z => absurd z.1 (by omega)), if_pos (by omega)]
                      rw [e9]
                      exact ih (i + 1) (c.1 || c.2.1, true, c.2.2) [] q _ hy (j + 1) _ _ _ (by omega) (by omega) (by exact hr) hS
                    · refine ⟨0, rfl, (by show _ < 9; omega), nI 1, rfl, ?_⟩
                      have b112 := bI_e0 (p111.symm.trans h112)
                      have b117 := bI_e1 (fun z => h117 (p116.trans z))
                      have hv : nI 1 = bI ((c.1 || c.2.1) = true) := by
                        rw [show (c.1 || c.2.1) = true by simp [b112, b117]]
                        exact (bI_t rfl).symm
                      replace hS := HS_any hS hv
                      refine ⟨0, rfl, (by show _ < 9; omega), nI 1, rfl, ?_⟩
                      replace hS := HS_all (l := true) hS (bI_t rfl).symm
                      refine ⟨nI (i + 1), (add_n hS.1 rfl), ?_⟩
                      replace hS := HS_at (j := i + 1) hS
                      refine ⟨nI (j + 1), nI_add _ _, ?_⟩
                      have e9 : hsC f ev e (n + 1) i c [] q = hsC f ev e n (i + 1) (c.1 || c.2.1, true, c.2.2) [] q := by
                        rw [hsC_S, if_neg (by omega), if_neg (by omega), if_neg (fun z => absurd z.1 (by omega)), if_neg (fun z => absurd z.1 (by omega)), if_pos (by omega)]
                      rw [e9]
                      exact ih (i + 1) (c.1 || c.2.1, true, c.2.2) [] q _ hy (j + 1) _ _ _ (by omega) (by omega) (by exact hr) hS
              · refine br_le rfl rfl (by omega) (by omega) (fun h63 => ?_) (fun h63 => ?_)
                · refine br_ne rfl rfl (by omega) (by omega) (fun h104 => ?_) (fun h104 => ?_)
                  · refine br_eq rfl rfl (by omega) (by omega) (fun h130 => ?_) (fun h130 => ?_)
                    · exact absurd h130 (by omega)
                    · have ev1 := cv_cm hk he hf30 (fun z hz => (hS.2.1 14 false _ _ rfl).trans (hrow z hz)) (fun z h1 h2 => (hS.2.1 36 d _ _ rfl).trans (hn z h1 h2)) (i := i) (by omega)
                      rw [aW_id hS.1] at ev1
                      replace hS := HS_at (j := (cmC f ev e i).2) hS
                      have hcl := cm_le f ev e i
                      refine ⟨_, _, ev1, ?_⟩
                      refine ⟨fun h137 => ?_, fun h137 => ?_⟩
                      · rw [hy] at h137
                        refine ⟨_, rfl, 0, rfl, (by show _ < 9; omega), ?_⟩
                        have p148 := hS.2.2.1.2.1
                        refine ⟨fun h149 => ?_, fun h149 => ?_⟩
                        · refine ⟨0, rfl, (by show _ < 9; omega), nI 0, rfl, ?_⟩
                          have b137 := bI_ab h137
                          have b149 := bI_e0 (p148.symm.trans h149)
                          have hv : nI 0 = bI ((c.2.1 && ((cmC f ev e i).1 != q)) = true) := by
                            rw [show (c.2.1 && ((cmC f ev e i).1 != q)) = false by simp [b137, b149]]
                            exact (bI_f (fun z : false = true => Bool.false_ne_true z)).symm
                          replace hS := HS_all hS hv
                          refine ⟨_, rfl, nI (j + 1), nI_add _ _, ?_⟩
                          have e9 : hsC f ev e (n + 1) i c [] q = hsC f ev e n (cmC f ev e i).2 (c.1, c.2.1 && ((cmC f ev e i).1 != q), c.2.2) [] false := by
                            rw [hsC_S, if_neg (by omega), if_neg (by omega), if_neg (fun z => absurd z.1 (by omega)), if_neg (fun z => Nat.lt_irrefl _ z.2), if_neg (by omega), if_neg (by omega)]
                          rw [e9]
                          exact ih (cmC f ev e i).2 (c.1, c.2.1 && ((cmC f ev e i).1 != q), c.2.2) [] false _ (bI_f (fun z : false = true => Bool.false_ne_true z)).symm (j + 1) _ _ _ (by omega) (by omega) (by exact hr) hS
                        · refine br_eq rfl rfl (by omega) (by omega) (fun h151 => ?_) (fun h151 => ?_)
                          · refine ⟨0, rfl, (by show _ < 9; omega), nI 0, rfl, ?_⟩
                            have b137 := bI_ab h137
                            have b149 := bI_e1 (fun z => h149 (p148.trans z))
                            have hv : nI 0 = bI ((c.2.1 && ((cmC f ev e i).1 != q)) = true) := by
                              rw [show (c.2.1 && ((cmC f ev e i).1 != q)) = false by simp [b137, b149]]
                              exact (bI_f (fun z : false = true => Bool.false_ne_true z)).symm
                            replace hS := HS_all hS hv
                            refine ⟨_, rfl, nI (j + 1), nI_add _ _, ?_⟩
                            have e9 : hsC f ev e (n + 1) i c [] q = hsC f ev e n (cmC f ev e i).2 (c.1, c.2.1 && ((cmC f ev e i).1 != q), c.2.2) [] false := by
                              rw [hsC_S, if_neg (by omega), if_neg (by omega), if_neg (fun z => absurd z.1 (by omega)), if_neg (fun z => Nat.lt_irrefl _ z.2), if_neg (by omega), if_neg (by omega)]
                            rw [e9]
                            exact ih (cmC f ev e i).2 (c.1, c.2.1 && ((cmC f ev e i).1 != q), c.2.2) [] false _ (bI_f (fun z : false = true => Bool.false_ne_true z)).symm (j + 1) _ _ _ (by omega) (by omega) (by exact hr) hS
                          · exact absurd h151 (by omega)
                      · rw [hy] at h137
                        refine ⟨_, rfl, 0, rfl, (by show _ < 9; omega), ?_⟩
                        have p148 := hS.2.2.1.2.1
                        refine ⟨fun h149 => ?_, fun h149 => ?_⟩
                        · refine ⟨0, rfl, (by show _ < 9; omega), nI 0, rfl, ?_⟩
                          have b137 := bI_nab h137
                          have b149 := bI_e0 (p148.symm.trans h149)
                          have hv : nI 0 = bI ((c.2.1 && ((cmC f ev e i).1 != q)) = true) := by
                            rw [show (c.2.1 && ((cmC f ev e i).1 != q)) = false by simp [b137, b149]]
                            exact (bI_f (fun z : false = true => Bool.false_ne_true z)).symm
                          replace hS := HS_all hS hv
                          refine ⟨_, rfl, nI (j + 1), nI_add _ _, ?_⟩
                          have e9 : hsC f ev e (n + 1) i c [] q = hsC f ev e n (cmC f ev e i).2 (c.1, c.2.1 && ((cmC f ev e i).1 != q), c.2.2) [] false := by
                            rw [hsC_S, if_neg (by omega), if_neg (by omega), if_neg (fun z => absurd z.1 (by omega)), if_neg (fun z => Nat.lt_irrefl _ z.2), if_neg (by omega), if_neg (by omega)]
                          rw [e9]
                          exact ih (cmC f ev e i).2 (c.1, c.2.1 && ((cmC f ev e i).1 != q), c.2.2) [] false _ (bI_f (fun z : false = true => Bool.false_ne_true z)).symm (j + 1) _ _ _ (by omega) (by omega) (by exact hr) hS
                        · refine br_eq rfl rfl (by omega) (by omega) (fun h151 => ?_) (fun h151 => ?_)
                          · exact absurd h151 (by omega)
                          · refine ⟨0, rfl, (by show _ < 9; omega), nI 1, rfl, ?_⟩
                            have b137 := bI_nab h137
                            have b149 := bI_e1 (fun z => h149 (p148.trans z))
                            have hv : nI 1 = bI ((c.2.1 && ((cmC f ev e i).1 != q)) = true) := by
                              rw [show (c.2.1 && ((cmC f ev e i).1 != q)) = true by simp [b137, b149]]
                              exact (bI_t rfl).symm
                            replace hS := HS_all hS hv
                            refine ⟨_, rfl, nI (j + 1), nI_add _ _, ?_⟩
                            have e9 : hsC f ev e (n + 1) i c [] q = hsC f ev e n (cmC f ev e i).2 (c.1, c.2.1 && ((cmC f ev e i).1 != q), c.2.2) [] false := by
                              rw [hsC_S, if_neg (by omega), if_neg (by omega), if_neg (fun z => absurd z.1 (by omega)), if_neg (fun z => Nat.lt_irrefl _ z.2), if_neg (by omega), if_neg (by omega)]
                            rw [e9]
                            exact ih (cmC f ev e i).2 (c.1, c.2.1 && ((cmC f ev e i).1 != q), c.2.2) [] false _ (bI_f (fun z : false = true => Bool.false_ne_true z)).symm (j + 1) _ _ _ (by omega) (by omega) (by exact hr) hS
                  · exact absurd h104 (by omega)
                · exact absurd h63 (by omega)
            · refine br_ge rfl rfl (by omega) (by omega) (fun h50 => ?_) (fun h50 => ?_)
              · exact absurd h50 (by omega)
              · refine ⟨nI (0 + 1), nI_add _ _, ?_⟩
                have ev1 := cv_begin (σ := s1) (o := 0 + 1) (v := y) (by omega) (by rw [hy]; exact bI_01 _)
                replace hS := HS_push hS hy
                refine ⟨_, _, ev1, _, rfl, nI (i + 1), (add_n hS.1 rfl), ?_⟩
                replace hS := HS_at (j := i + 1) hS
                refine ⟨nI (j + 1), nI_add _ _, ?_⟩
                have e9 : hsC f ev e (n + 1) i c [] q = hsC f ev e n (i + 1) (false, true, q) (c :: []) false := by
                  rw [hsC_S, if_neg (by omega), if_neg (by omega), if_pos ⟨by omega, by show 0 < 8; omega⟩]
                rw [e9]
                exact ih (i + 1) (false, true, q) (c :: []) false _ (bI_f (fun z : false = true => Bool.false_ne_true z)).symm (j + 1) _ _ _ (by omega) (by omega) (by show 0 + 1 ≤ 8; omega) hS
          · refine ⟨fun h39 => ?_, fun h39 => ?_⟩
            · rw [hy] at h39
              refine ⟨_, rfl, nI (i + 1), (add_n hS.1 rfl), ?_⟩
              replace hS := HS_at (j := i + 1) hS
              refine ⟨nI (j + 1), nI_add _ _, ?_⟩
              have b39 := bI_e1 h39
              have hy2 : nI 0 = bI ((!q) = true) := by
                rw [show (!q) = false by simp [b39]]
                exact (bI_f (fun z : false = true => Bool.false_ne_true z)).symm
              have e9 : hsC f ev e (n + 1) i c [] q = hsC f ev e n (i + 1) c [] (!q) := by
                rw [hsC_S, if_neg (by omega), if_pos (by omega)]
              rw [e9]
              exact ih (i + 1) c [] (!q) _ hy2 (j + 1) _ _ _ (by omega) (by omega) (by exact hr) hS
            · rw [hy] at h39
              refine ⟨_, rfl, nI (i + 1), (add_n hS.1 rfl), ?_⟩
              replace hS := HS_at (j := i + 1) hS
              refine ⟨nI (j + 1), nI_add _ _, ?_⟩
              have b39 := bI_e0 h39
              have hy2 : nI 1 = bI ((!q) = true) := by
                rw [show (!q) = true by simp [b39]]
                exact (bI_t rfl).symm
              have e9 : hsC f ev e (n + 1) i c [] q = hsC f ev e n (i + 1) c [] (!q) := by
                rw [hsC_S, if_neg (by omega), if_pos (by omega)]
              rw [e9]
              exact ih (i + 1) c [] (!q) _ hy2 (j + 1) _ _ _ (by omega) (by omega) (by exact hr) hS
    | cons x r2 =>
      have hr2 : r2.length + 1 ≤ 8 := hr
      have hl0 : (x :: r2).length = r2.length + 1 := rfl
      refine br_ge rfl rfl (by omega) (by omega) (fun h25 => ?_) (fun h25 => ?_)
      · exact absurd h25 (by omega)
      · refine br_ge hS.1 rfl (by omega) (by omega) (fun h29 => ?_) (fun h29 => ?_)
        · refine ⟨0, rfl, (by show _ < 9; omega), ?_⟩
          have p170 := (stH_bot hS.2.2).1
          refine ⟨fun h171 => ?_, fun h171 => ?_⟩
          · refine ⟨Or.inr rfl, ?_⟩
            have b171 := bI_e1 (fun z => h171 (p170.trans z))
            have e9 : hsC f ev e (n + 1) i c (x :: r2) q = botV c (x :: r2) := by rw [hsC_S, if_pos (by omega)]
            have hv : botV c (x :: r2) = true := by
              rw [botV_B]
              simp [b171]
            exact ⟨by rw [e9, hv, bI_t rfl], hS.2.1⟩
          · refine ⟨0, rfl, (by show _ < 9; omega), ?_⟩
            have p175 := (stH_bot hS.2.2).2
            refine ⟨fun h176 => ?_, fun h176 => ?_⟩
            · refine ⟨Or.inl rfl, ?_⟩
              have b171 := bI_e0 (p170.symm.trans h171)
              have b176 := bI_e0 (p175.symm.trans h176)
              have e9 : hsC f ev e (n + 1) i c (x :: r2) q = botV c (x :: r2) := by rw [hsC_S, if_pos (by omega)]
              have hv : botV c (x :: r2) = false := by
                rw [botV_B]
                simp [b171, b176]
              exact ⟨by rw [e9, hv, bI_f (fun z : false = true => Bool.false_ne_true z)], hS.2.1⟩
            · refine ⟨Or.inr rfl, ?_⟩
              have b171 := bI_e0 (p170.symm.trans h171)
              have b176 := bI_e1 (fun z => h176 (p175.trans z))
              have e9 : hsC f ev e (n + 1) i c (x :: r2) q = botV c (x :: r2) := by rw [hsC_S, if_pos (by omega)]
              have hv : botV c (x :: r2) = true := by
                rw [botV_B]
                simp [b171, b176]
              exact ⟨by rw [e9, hv, bI_t rfl], hS.2.1⟩
        · refine ⟨(show k < 10 by omega), i, hS.1, (by show _ < 40; omega), nI (f i), ((hS.2.1 14 false _ _ rfl).trans (hrow i (by omega))), ?_⟩
          have hf := hf30 i (by omega)
          refine br_ne rfl rfl (by omega) (by omega) (fun h37 => ?_) (fun h37 => ?_)
          · refine br_ne rfl rfl (by omega) (by omega) (fun h47 => ?_) (fun h47 => ?_)
            · refine br_ne rfl rfl (by omega) (by omega) (fun h61 => ?_) (fun h61 => ?_)
              · refine br_ne rfl rfl (by omega) (by omega) (fun h104 => ?_) (fun h104 => ?_)
                · refine br_eq rfl rfl (by omega) (by omega) (fun h130 => ?_) (fun h130 => ?_)
                  · refine ⟨nI (i + 1), (add_n hS.1 rfl), ?_⟩
                    replace hS := HS_at (j := i + 1) hS
                    refine ⟨nI (j + 1), nI_add _ _, ?_⟩
                    have e9 : hsC f ev e (n + 1) i c (x :: r2) q = hsC f ev e n (i + 1) c (x :: r2) q := by
                      rw [hsC_S, if_neg (by omega), if_neg (by omega), if_neg (fun z => absurd z.1 (by omega)), if_neg (fun z => absurd z.1 (by omega)), if_neg (by omega), if_pos (by omega)]
                    rw [e9]
                    exact ih (i + 1) c (x :: r2) q _ hy (j + 1) _ _ _ (by omega) (by omega) (by exact hr) hS
                  · have ev1 := cv_cm hk he hf30 (fun z hz => (hS.2.1 14 false _ _ rfl).trans (hrow z hz)) (fun z h1 h2 => (hS.2.1 36 d _ _ rfl).trans (hn z h1 h2)) (i := i) (by omega)
                    rw [aW_id hS.1] at ev1
                    replace hS := HS_at (j := (cmC f ev e i).2) hS
                    have hcl := cm_le f ev e i
                    refine ⟨_, _, ev1, ?_⟩
                    refine ⟨fun h137 => ?_, fun h137 => ?_⟩
                    · rw [hy] at h137
                      refine ⟨_, rfl, r2.length + 1, rfl, (by show _ < 9; omega), ?_⟩
                      have p148 := hS.2.2.1.2.1
                      refine ⟨fun h149 => ?_, fun h149 => ?_⟩
                      · refine ⟨r2.length + 1, rfl, (by show _ < 9; omega), nI 0, rfl, ?_⟩
                        have b137 := bI_ab h137
                        have b149 := bI_e0 (p148.symm.trans h149)
                        have hv : nI 0 = bI ((c.2.1 && ((cmC f ev e i).1 != q)) = true) := by
                          rw [show (c.2.1 && ((cmC f ev e i).1 != q)) = false by simp [b137, b149]]
                          exact (bI_f (fun z : false = true => Bool.false_ne_true z)).symm
                        replace hS := HS_all hS hv
                        refine ⟨_, rfl, nI (j + 1), nI_add _ _, ?_⟩
                        have e9 : hsC f ev e (n + 1) i c (x :: r2) q = hsC f ev e n (cmC f ev e i).2 (c.1, c.2.1 && ((cmC f ev e i).1 != q), c.2.2) (x :: r2) false := by
                          rw [hsC_S, if_neg (by omega), if_neg (by omega), if_neg (fun z => absurd z.1 (by omega)), if_neg (fun z => absurd z.1 (by omega)), if_neg (by omega), if_neg (by omega)]
                        rw [e9]
                        exact ih (cmC f ev e i).2 (c.1, c.2.1 && ((cmC f ev e i).1 != q), c.2.2) (x :: r2) false _ (bI_f (fun z : false = true => Bool.false_ne_true z)).symm (j + 1) _ _ _ (by omega) (by omega) (by exact hr) hS
                      · refine br_eq rfl rfl (by omega) (by omega) (fun h151 => ?_) (fun h151 => ?_)
                        · refine ⟨r2.length + 1, rfl, (by show _ < 9; omega), nI 0, rfl, ?_⟩
                          have b137 := bI_ab h137
                          have b149 := bI_e1 (fun z => h149 (p148.trans z))
                          have hv : nI 0 = bI ((c.2.1 && ((cmC f ev e i).1 != q)) = true) := by
                            rw [show (c.2.1 && ((cmC f ev e i).1 != q)) = false by simp [b137, b149]]
                            exact (bI_f (fun z : false = true => Bool.false_ne_true z)).symm
                          replace hS := HS_all hS hv
                          refine ⟨_, rfl, nI (j + 1), nI_add _ _, ?_⟩
                          have e9 : hsC f ev e (n + 1) i c (x :: r2) q = hsC f ev e n (cmC f ev e i).2 (c.1, c.2.1 && ((cmC f ev e i).1 != q), c.2.2) (x :: r2) false := by
                            rw [hsC_S, if_neg (by omega), if_neg (by omega), if_neg (fun z => absurd z.1 (by omega)), if_neg (fun z => absurd z.1 (by omega)), if_neg (by omega), if_neg (by omega)]
                          rw [e9]
                          exact ih (cmC f ev e i).2 (c.1, c.2.1 && ((cmC f ev e i).1 != q), c.2.2) (x :: r2) false _ (bI_f (fun z : false = true => Bool.false_ne_true z)).symm (j + 1) _ _ _ (by omega) (by omega) (by exact hr) hS
                        · exact absurd h151 (by omega)
                    · rw [hy] at h137
                      refine ⟨_, rfl, r2.length + 1, rfl, (by show _ < 9; omega), ?_⟩
                      have p148 := hS.2.2.1.2.1
                      refine ⟨fun h149 => ?_, fun h149 => ?_⟩
                      · refine ⟨r2.length + 1, rfl, (by show _ < 9; omega), nI 0, rfl, ?_⟩
                        have b137 := bI_nab h137
                        have b149 := bI_e0 (p148.symm.trans h149)
                        have hv : nI 0 = bI ((c.2.1 && ((cmC f ev e i).1 != q)) = true) := by
                          rw [show (c.2.1 && ((cmC f ev e i).1 != q)) = false by simp [b137, b149]]
                          exact (bI_f (fun z : false = true => Bool.false_ne_true z)).symm
                        replace hS := HS_all hS hv
                        refine ⟨_, rfl, nI (j + 1), nI_add _ _, ?_⟩
                        have e9 : hsC f ev e (n + 1) i c (x :: r2) q = hsC f ev e n (cmC f ev e i).2 (c.1, c.2.1 && ((cmC f ev e i).1 != q), c.2.2) (x :: r2) false := by
                          rw [hsC_S, if_neg (by omega), if_neg (by omega), if_neg (fun z => absurd z.1 (by omega)), if_neg (fun z => absurd z.1 (by omega)), if_neg (by omega), if_neg (by omega)]
                        rw [e9]
                        exact ih (cmC f ev e i).2 (c.1, c.2.1 && ((cmC f ev e i).1 != q), c.2.2) (x :: r2) false _ (bI_f (fun z : false = true => Bool.false_ne_true z)).symm (j + 1) _ _ _ (by omega) (by omega) (by exact hr) hS
                      · refine br_eq rfl rfl (by omega) (by omega) (fun h151 => ?_) (fun h151 => ?_)
                        · exact absurd h151 (by omega)
                        · refine ⟨r2.length + 1, rfl, (by show _ < 9; omega), nI 1, rfl, ?_⟩
                          have b137 := bI_nab h137
                          have b149 := bI_e1 (fun z => h149 (p148.trans z))
                          have hv : nI 1 = bI ((c.2.1 && ((cmC f ev e i).1 != q)) = true) := by
                            rw [show (c.2.1 && ((cmC f ev e i).1 != q)) = true by simp [b137, b149]]
                            exact (bI_t rfl).symm
                          replace hS := HS_all hS hv
                          refine ⟨_, rfl, nI (j + 1), nI_add _ _, ?_⟩
                          have e9 : hsC f ev e (n + 1) i c (x :: r2) q = hsC f ev e n (cmC f ev e i).2 (c.1, c.2.1 && ((cmC f ev e i).1 != q), c.2.2) (x :: r2) false := by
                            rw [hsC_S, if_neg (by omega), if_neg (by omega), if_neg (fun z => absurd z.1 (by omega)), if_neg (fun z => absurd z.1 (by omega)), if_neg (by omega), if_neg (by omega)]
                          rw [e9]
                          exact ih (cmC f ev e i).2 (c.1, c.2.1 && ((cmC f ev e i).1 != q), c.2.2) (x :: r2) false _ (bI_f (fun z : false = true => Bool.false_ne_true z)).symm (j + 1) _ _ _ (by omega) (by omega) (by exact hr) hS
                · refine ⟨r2.length + 1, rfl, (by show _ < 9; omega), ?_⟩
                  have p111 := hS.2.2.1.1
                  refine ⟨fun h112 => ?_, fun h112 => ?_⟩
                  · refine ⟨r2.length + 1, rfl, (by show _ < 9; omega), nI 1, rfl, ?_⟩
                    have b112 := bI_e1 (fun z => h112 (p111.trans z))
                    have hv : nI 1 = bI ((c.1 || c.2.1) = true) := by
                      rw [show (c.1 || c.2.1) = true by simp [b112]]
                      exact (bI_t rfl).symm
                    replace hS := HS_any hS hv
                    refine ⟨r2.length + 1, rfl, (by show _ < 9; omega), nI 1, rfl, ?_⟩
                    replace hS := HS_all (l := true) hS (bI_t rfl).symm
                    refine ⟨nI (i + 1), (add_n hS.1 rfl), ?_⟩
                    replace hS := HS_at (j := i + 1) hS
                    refine ⟨nI (j + 1), nI_add _ _, ?_⟩
                    have e9 : hsC f ev e (n + 1) i c (x :: r2) q = hsC f ev e n (i + 1) (c.1 || c.2.1, true, c.2.2) (x :: r2) q := by
                      rw [hsC_S, if_neg (by omega), if_neg (by omega), if_neg (fun z => absurd z.1 (by omega)), if_neg (fun z => absurd z.1 (by omega)), if_pos (by omega)]
                    rw [e9]
                    exact ih (i + 1) (c.1 || c.2.1, true, c.2.2) (x :: r2) q _ hy (j + 1) _ _ _ (by omega) (by omega) (by exact hr) hS
                  · refine ⟨r2.length + 1, rfl, (by show _ < 9; omega), ?_⟩
                    have p116 := hS.2.2.1.2.1
                    refine ⟨fun h117 => ?_, fun h117 => ?_⟩
                    · refine ⟨r2.length + 1, rfl, (by show _ < 9; omega), nI 0, rfl, ?_⟩
                      have b112 := bI_e0 (p111.symm.trans h112)
                      have b117 := bI_e0 (p116.symm.trans h117)
                      have hv : nI 0 = bI ((c.1 || c.2.1) = true) := by
                        rw [show (c.1 || c.2.1) = false by simp [b112, b117]]
                        exact (bI_f (fun z : false = true => Bool.false_ne_true z)).symm
                      replace hS := HS_any hS hv
                      refine ⟨r2.length + 1, rfl, (by show _ < 9; omega), nI 1, rfl, ?_⟩
                      replace hS := HS_all (l := true) hS (bI_t rfl).symm
                      refine ⟨nI (i + 1), (add_n hS.1 rfl), ?_⟩
                      replace hS := HS_at (j := i + 1) hS
                      refine ⟨nI (j + 1), nI_add _ _, ?_⟩
                      have e9 : hsC f ev e (n + 1) i c (x :: r2) q = hsC f ev e n (i + 1) (c.1 || c.2.1, true, c.2.2) (x :: r2) q := by
                        rw [hsC_S, if_neg (by omega), if_neg (by omega), if_neg (fun z => absurd z.1 (by omega)), if_neg (fun z => absurd z.1 (by omega)), if_pos (by omega)]
                      rw [e9]
                      exact ih (i + 1) (c.1 || c.2.1, true, c.2.2) (x :: r2) q _ hy (j + 1) _ _ _ (by omega) (by omega) (by exact hr) hS
                    · refine ⟨r2.length + 1, rfl, (by show _ < 9; omega), nI 1, rfl, ?_⟩
                      have b112 := bI_e0 (p111.symm.trans h112)
                      have b117 := bI_e1 (fun z => h117 (p116.trans z))
                      have hv : nI 1 = bI ((c.1 || c.2.1) = true) := by
                        rw [show (c.1 || c.2.1) = true by simp [b112, b117]]
                        exact (bI_t rfl).symm
                      replace hS := HS_any hS hv
                      refine ⟨r2.length + 1, rfl, (by show _ < 9; omega), nI 1, rfl, ?_⟩
                      replace hS := HS_all (l := true) hS (bI_t rfl).symm
                      refine ⟨nI (i + 1), (add_n hS.1 rfl), ?_⟩
                      replace hS := HS_at (j := i + 1) hS
                      refine ⟨nI (j + 1), nI_add _ _, ?_⟩
                      have e9 : hsC f ev e (n + 1) i c (x :: r2) q = hsC f ev e n (i + 1) (c.1 || c.2.1, true, c.2.2) (x :: r2) q := by
                        rw [hsC_S, if_neg (by omega), if_neg (by omega), if_neg (fun z => absurd z.1 (by omega)), if_neg (fun z => absurd z.1 (by omega)), if_pos (by omega)]
                      rw [e9]
                      exact ih (i + 1) (c.1 || c.2.1, true, c.2.2) (x :: r2) q _ hy (j + 1) _ _ _ (by omega) (by omega) (by exact hr) hS
              · refine br_le rfl rfl (by omega) (by omega) (fun h63 => ?_) (fun h63 => ?_)
                · exact absurd h63 (by omega)
                · refine ⟨r2.length + 1, rfl, (by show _ < 9; omega), ?_⟩
                  have p67 := hS.2.2.1.1
                  refine ⟨fun h68 => ?_, fun h68 => ?_⟩
                  · refine ⟨r2.length + 1, rfl, (by show _ < 9; omega), ?_⟩
                    have p80 := hS.2.2.1.2.2
                    refine ⟨fun h81 => ?_, fun h81 => ?_⟩
                    · refine ⟨_, rfl, nI (r2.length), (by show nI (r2.length + 1) + -1 = nI r2.length; rw [← nI_add]; exact nI_back _), r2.length, rfl, (by show _ < 9; omega), ?_⟩
                      have p93 := hS.2.2.2.1.2.1
                      refine ⟨fun h94 => ?_, fun h94 => ?_⟩
                      · refine ⟨r2.length, rfl, (by show _ < 9; omega), nI 0, rfl, ?_⟩
                        have b68 := bI_e1 (fun z => h68 (p67.trans z))
                        have b81 := bI_q1 (h81.trans p80)
                        have b94 := bI_e0 (p93.symm.trans h94)
                        have hv : nI 0 = bI ((x.2.1 && ((c.1 || c.2.1) != c.2.2)) = true) := by
                          rw [show (x.2.1 && ((c.1 || c.2.1) != c.2.2)) = false by simp [b68, b81, b94]]
                          exact (bI_f (fun z : false = true => Bool.false_ne_true z)).symm
                        replace hS := HS_all (HS_pop hS) hv
                        refine ⟨nI (i + 1), (add_n hS.1 rfl), ?_⟩
                        replace hS := HS_at (j := i + 1) hS
                        refine ⟨nI (j + 1), nI_add _ _, ?_⟩
                        have e9 : hsC f ev e (n + 1) i c (x :: r2) q = hsC f ev e n (i + 1) (x.1, x.2.1 && ((c.1 || c.2.1) != c.2.2), x.2.2) r2 q := by
                          rw [hsC_S, if_neg (by omega), if_neg (by omega), if_neg (fun z => absurd z.1 (by omega)), if_pos ⟨by omega, Nat.succ_pos _⟩]
                        rw [e9]
                        exact ih (i + 1) (x.1, x.2.1 && ((c.1 || c.2.1) != c.2.2), x.2.2) r2 q _ hy (j + 1) _ _ _ (by omega) (by omega) (by omega) hS
                      · refine br_eq rfl rfl (by omega) (by omega) (fun h96 => ?_) (fun h96 => ?_)
                        · refine ⟨r2.length, rfl, (by show _ < 9; omega), nI 0, rfl, ?_⟩
                          have b68 := bI_e1 (fun z => h68 (p67.trans z))
                          have b81 := bI_q1 (h81.trans p80)
                          have b94 := bI_e1 (fun z => h94 (p93.trans z))
                          have hv : nI 0 = bI ((x.2.1 && ((c.1 || c.2.1) != c.2.2)) = true) := by
                            rw [show (x.2.1 && ((c.1 || c.2.1) != c.2.2)) = false by simp [b68, b81, b94]]
                            exact (bI_f (fun z : false = true => Bool.false_ne_true z)).symm
                          replace hS := HS_all (HS_pop hS) hv
                          refine ⟨nI (i + 1), (add_n hS.1 rfl), ?_⟩
                          replace hS := HS_at (j := i + 1) hS
                          refine ⟨nI (j + 1), nI_add _ _, ?_⟩
                          have e9 : hsC f ev e (n + 1) i c (x :: r2) q = hsC f ev e n (i + 1) (x.1, x.2.1 && ((c.1 || c.2.1) != c.2.2), x.2.2) r2 q := by
                            rw [hsC_S, if_neg (by omega), if_neg (by omega), if_neg (fun z => absurd z.1 (by omega)), if_pos ⟨by omega, Nat.succ_pos _⟩]
                          rw [e9]
                          exact ih (i + 1) (x.1, x.2.1 && ((c.1 || c.2.1) != c.2.2), x.2.2) r2 q _ hy (j + 1) _ _ _ (by omega) (by omega) (by omega) hS
                        · exact absurd h96 (by omega)
                    · refine ⟨_, rfl, nI (r2.length), (by show nI (r2.length + 1) + -1 = nI r2.length; rw [← nI_add]; exact nI_back _), r2.length, rfl, (by show _ < 9; omega), ?_⟩
                      have p93 := hS.2.2.2.1.2.1
                      refine ⟨fun h94 => ?_, fun h94 => ?_⟩
                      · refine ⟨r2.length, rfl, (by show _ < 9; omega), nI 0, rfl, ?_⟩
                        have b68 := bI_e1 (fun z => h68 (p67.trans z))
                        have b81 := bI_n1 (fun z => h81 (z.trans p80.symm))
                        have b94 := bI_e0 (p93.symm.trans h94)
                        have hv : nI 0 = bI ((x.2.1 && ((c.1 || c.2.1) != c.2.2)) = true) := by
                          rw [show (x.2.1 && ((c.1 || c.2.1) != c.2.2)) = false by simp [b68, b81, b94]]
                          exact (bI_f (fun z : false = true => Bool.false_ne_true z)).symm
                        replace hS := HS_all (HS_pop hS) hv
                        refine ⟨nI (i + 1), (add_n hS.1 rfl), ?_⟩
                        replace hS := HS_at (j := i + 1) hS
                        refine ⟨nI (j + 1), nI_add _ _, ?_⟩
                        have e9 : hsC f ev e (n + 1) i c (x :: r2) q = hsC f ev e n (i + 1) (x.1, x.2.1 && ((c.1 || c.2.1) != c.2.2), x.2.2) r2 q := by
                          rw [hsC_S, if_neg (by omega), if_neg (by omega), if_neg (fun z => absurd z.1 (by omega)), if_pos ⟨by omega, Nat.succ_pos _⟩]
                        rw [e9]
                        exact ih (i + 1) (x.1, x.2.1 && ((c.1 || c.2.1) != c.2.2), x.2.2) r2 q _ hy (j + 1) _ _ _ (by omega) (by omega) (by omega) hS
                      · refine br_eq rfl rfl (by omega) (by omega) (fun h96 => ?_) (fun h96 => ?_)
                        · exact absurd h96 (by omega)
                        · refine ⟨r2.length, rfl, (by show _ < 9; omega), nI 1, rfl, ?_⟩
                          have b68 := bI_e1 (fun z => h68 (p67.trans z))
                          have b81 := bI_n1 (fun z => h81 (z.trans p80.symm))
                          have b94 := bI_e1 (fun z => h94 (p93.trans z))
                          have hv : nI 1 = bI ((x.2.1 && ((c.1 || c.2.1) != c.2.2)) = true) := by
                            rw [show (x.2.1 && ((c.1 || c.2.1) != c.2.2)) = true by simp [b68, b81, b94]]
                            exact (bI_t rfl).symm
                          replace hS := HS_all (HS_pop hS) hv
                          refine ⟨nI (i + 1), (add_n hS.1 rfl), ?_⟩
                          replace hS := HS_at (j := i + 1) hS
                          refine ⟨nI (j + 1), nI_add _ _, ?_⟩
                          have e9 : hsC f ev e (n + 1) i c (x :: r2) q = hsC f ev e n (i + 1) (x.1, x.2.1 && ((c.1 || c.2.1) != c.2.2), x.2.2) r2 q := by
                            rw [hsC_S, if_neg (by omega), if_neg (by omega), if_neg (fun z => absurd z.1 (by omega)), if_pos ⟨by omega, Nat.succ_pos _⟩]
                          rw [e9]
                          exact ih (i + 1) (x.1, x.2.1 && ((c.1 || c.2.1) != c.2.2), x.2.2) r2 q _ hy (j + 1) _ _ _ (by omega) (by omega) (by omega) hS
                  · refine ⟨r2.length + 1, rfl, (by show _ < 9; omega), ?_⟩
                    have p72 := hS.2.2.1.2.1
                    refine ⟨fun h73 => ?_, fun h73 => ?_⟩
                    · refine ⟨r2.length + 1, rfl, (by show _ < 9; omega), ?_⟩
                      have p80 := hS.2.2.1.2.2
                      refine ⟨fun h81 => ?_, fun h81 => ?_⟩
                      · refine ⟨_, rfl, nI (r2.length), (by show nI (r2.length + 1) + -1 = nI r2.length; rw [← nI_add]; exact nI_back _), r2.length, rfl, (by show _ < 9; omega), ?_⟩
                        have p93 := hS.2.2.2.1.2.1
                        refine ⟨fun h94 => ?_, fun h94 => ?_⟩
                        · refine ⟨r2.length, rfl, (by show _ < 9; omega), nI 0, rfl, ?_⟩
                          have b68 := bI_e0 (p67.symm.trans h68)
                          have b73 := bI_e0 (p72.symm.trans h73)
                          have b81 := bI_q0 (h81.trans p80)
                          have b94 := bI_e0 (p93.symm.trans h94)
                          have hv : nI 0 = bI ((x.2.1 && ((c.1 || c.2.1) != c.2.2)) = true) := by
                            rw [show (x.2.1 && ((c.1 || c.2.1) != c.2.2)) = false by simp [b68, b73, b81, b94]]
                            exact (bI_f (fun z : false = true => Bool.false_ne_true z)).symm
                          replace hS := HS_all (HS_pop hS) hv
                          refine ⟨nI (i + 1), (add_n hS.1 rfl), ?_⟩
                          replace hS := HS_at (j := i + 1) hS
                          refine ⟨nI (j + 1), nI_add _ _, ?_⟩
                          have e9 : hsC f ev e (n + 1) i c (x :: r2) q = hsC f ev e n (i + 1) (x.1, x.2.1 && ((c.1 || c.2.1) != c.2.2), x.2.2) r2 q := by
                            rw [hsC_S, if_neg (by omega), if_neg (by omega), if_neg (fun z => absurd z.1 (by omega)), if_pos ⟨by omega, Nat.succ_pos _⟩]
                          rw [e9]
                          exact ih (i + 1) (x.1, x.2.1 && ((c.1 || c.2.1) != c.2.2), x.2.2) r2 q _ hy (j + 1) _ _ _ (by omega) (by omega) (by omega) hS
                        · refine br_eq rfl rfl (by omega) (by omega) (fun h96 => ?_) (fun h96 => ?_)
                          · refine ⟨r2.length, rfl, (by show _ < 9; omega), nI 0, rfl, ?_⟩
                            have b68 := bI_e0 (p67.symm.trans h68)
                            have b73 := bI_e0 (p72.symm.trans h73)
                            have b81 := bI_q0 (h81.trans p80)
                            have b94 := bI_e1 (fun z => h94 (p93.trans z))
                            have hv : nI 0 = bI ((x.2.1 && ((c.1 || c.2.1) != c.2.2)) = true) := by
                              rw [show (x.2.1 && ((c.1 || c.2.1) != c.2.2)) = false by simp [b68, b73, b81, b94]]
                              exact (bI_f (fun z : false = true => Bool.false_ne_true z)).symm
                            replace hS := HS_all (HS_pop hS) hv
                            refine ⟨nI (i + 1), (add_n hS.1 rfl), ?_⟩
                            replace hS := HS_at (j := i + 1) hS
                            refine ⟨nI (j + 1), nI_add _ _, ?_⟩
                            have e9 : hsC f ev e (n + 1) i c (x :: r2) q = hsC f ev e n (i + 1) (x.1, x.2.1 && ((c.1 || c.2.1) != c.2.2), x.2.2) r2 q := by
                              rw [hsC_S, if_neg (by omega), if_neg (by omega), if_neg (fun z => absurd z.1 (by omega)), if_pos ⟨by omega, Nat.succ_pos _⟩]
                            rw [e9]
                            exact ih (i + 1) (x.1, x.2.1 && ((c.1 || c.2.1) != c.2.2), x.2.2) r2 q _ hy (j + 1) _ _ _ (by omega) (by omega) (by omega) hS
                          · exact absurd h96 (by omega)
                      · refine ⟨_, rfl, nI (r2.length), (by show nI (r2.length + 1) + -1 = nI r2.length; rw [← nI_add]; exact nI_back _), r2.length, rfl, (by show _ < 9; omega), ?_⟩
                        have p93 := hS.2.2.2.1.2.1
                        refine ⟨fun h94 => ?_, fun h94 => ?_⟩
                        · refine ⟨r2.length, rfl, (by show _ < 9; omega), nI 0, rfl, ?_⟩
                          have b68 := bI_e0 (p67.symm.trans h68)
                          have b73 := bI_e0 (p72.symm.trans h73)
                          have b81 := bI_n0 (fun z => h81 (z.trans p80.symm))
                          have b94 := bI_e0 (p93.symm.trans h94)
                          have hv : nI 0 = bI ((x.2.1 && ((c.1 || c.2.1) != c.2.2)) = true) := by
                            rw [show (x.2.1 && ((c.1 || c.2.1) != c.2.2)) = false by simp [b68, b73, b81, b94]]
                            exact (bI_f (fun z : false = true => Bool.false_ne_true z)).symm
                          replace hS := HS_all (HS_pop hS) hv
                          refine ⟨nI (i + 1), (add_n hS.1 rfl), ?_⟩
                          replace hS := HS_at (j := i + 1) hS
                          refine ⟨nI (j + 1), nI_add _ _, ?_⟩
                          have e9 : hsC f ev e (n + 1) i c (x :: r2) q = hsC f ev e n (i + 1) (x.1, x.2.1 && ((c.1 || c.2.1) != c.2.2), x.2.2) r2 q := by
                            rw [hsC_S, if_neg (by omega), if_neg (by omega), if_neg (fun z => absurd z.1 (by omega)), if_pos ⟨by omega, Nat.succ_pos _⟩]
                          rw [e9]
                          exact ih (i + 1) (x.1, x.2.1 && ((c.1 || c.2.1) != c.2.2), x.2.2) r2 q _ hy (j + 1) _ _ _ (by omega) (by omega) (by omega) hS
                        · refine br_eq rfl rfl (by omega) (by omega) (fun h96 => ?_) (fun h96 => ?_)
                          · exact absurd h96 (by omega)
                          · refine ⟨r2.length, rfl, (by show _ < 9; omega), nI 1, rfl, ?_⟩
                            have b68 := bI_e0 (p67.symm.trans h68)
                            have b73 := bI_e0 (p72.symm.trans h73)
                            have b81 := bI_n0 (fun z => h81 (z.trans p80.symm))
                            have b94 := bI_e1 (fun z => h94 (p93.trans z))
                            have hv : nI 1 = bI ((x.2.1 && ((c.1 || c.2.1) != c.2.2)) = true) := by
                              rw [show (x.2.1 && ((c.1 || c.2.1) != c.2.2)) = true by simp [b68, b73, b81, b94]]
                              exact (bI_t rfl).symm
                            replace hS := HS_all (HS_pop hS) hv
                            refine ⟨nI (i + 1), (add_n hS.1 rfl), ?_⟩
                            replace hS := HS_at (j := i + 1) hS
                            refine ⟨nI (j + 1), nI_add _ _, ?_⟩
                            have e9 : hsC f ev e (n + 1) i c (x :: r2) q = hsC f ev e n (i + 1) (x.1, x.2.1 && ((c.1 || c.2.1) != c.2.2), x.2.2) r2 q := by
                              rw [hsC_S, if_neg (by omega), if_neg (by omega), if_neg (fun z => absurd z.1 (by omega)), if_pos ⟨by omega, Nat.succ_pos _⟩]
                            rw [e9]
                            exact ih (i + 1) (x.1, x.2.1 && ((c.1 || c.2.1) != c.2.2), x.2.2) r2 q _ hy (j + 1) _ _ _ (by omega) (by omega) (by omega) hS
                    · refine ⟨r2.length + 1, rfl, (by show _ < 9; omega), ?_⟩
                      have p80 := hS.2.2.1.2.2
                      refine ⟨fun h81 => ?_, fun h81 => ?_⟩
                      · refine ⟨_, rfl, nI (r2.length), (by show nI (r2.length + 1) + -1 = nI r2.length; rw [← nI_add]; exact nI_back _), r2.length, rfl, (by show _ < 9; omega), ?_⟩
                        have p93 := hS.2.2.2.1.2.1
                        refine ⟨fun h94 => ?_, fun h94 => ?_⟩
                        · refine ⟨r2.length, rfl, (by show _ < 9; omega), nI 0, rfl, ?_⟩
                          have b68 := bI_e0 (p67.symm.trans h68)
                          have b73 := bI_e1 (fun z => h73 (p72.trans z))
                          have b81 := bI_q1 (h81.trans p80)
                          have b94 := bI_e0 (p93.symm.trans h94)
                          have hv : nI 0 = bI ((x.2.1 && ((c.1 || c.2.1) != c.2.2)) = true) := by
                            rw [show (x.2.1 && ((c.1 || c.2.1) != c.2.2)) = false by simp [b68, b73, b81, b94]]
                            exact (bI_f (fun z : false = true => Bool.false_ne_true z)).symm
                          replace hS := HS_all (HS_pop hS) hv
                          refine ⟨nI (i + 1), (add_n hS.1 rfl), ?_⟩
                          replace hS := HS_at (j := i + 1) hS
                          refine ⟨nI (j + 1), nI_add _ _, ?_⟩
                          have e9 : hsC f ev e (n + 1) i c (x :: r2) q = hsC f ev e n (i + 1) (x.1, x.2.1 && ((c.1 || c.2.1) != c.2.2), x.2.2) r2 q := by
                            rw [hsC_S, if_neg (by omega), if_neg (by omega), if_neg (fun z => absurd z.1 (by omega)), if_pos ⟨by omega, Nat.succ_pos _⟩]
                          rw [e9]
                          exact ih (i + 1) (x.1, x.2.1 && ((c.1 || c.2.1) != c.2.2), x.2.2) r2 q _ hy (j + 1) _ _ _ (by omega) (by omega) (by omega) hS
                        · refine br_eq rfl rfl (by omega) (by omega) (fun h96 => ?_) (fun h96 => ?_)
                          · refine ⟨r2.length, rfl, (by show _ < 9; omega), nI 0, rfl, ?_⟩
                            have b68 := bI_e0 (p67.symm.trans h68)
                            have b73 := bI_e1 (fun z => h73 (p72.trans z))
                            have b81 := bI_q1 (h81.trans p80)
                            have b94 := bI_e1 (fun z => h94 (p93.trans z))
                            have hv : nI 0 = bI ((x.2.1 && ((c.1 || c.2.1) != c.2.2)) = true) := by
                              rw [show (x.2.1 && ((c.1 || c.2.1) != c.2.2)) = false by simp [b68, b73, b81, b94]]
                              exact (bI_f (fun z : false = true => Bool.false_ne_true z)).symm
                            replace hS := HS_all (HS_pop hS) hv
                            refine ⟨nI (i + 1), (add_n hS.1 rfl), ?_⟩
                            replace hS := HS_at (j := i + 1) hS
                            refine ⟨nI (j + 1), nI_add _ _, ?_⟩
                            have e9 : hsC f ev e (n + 1) i c (x :: r2) q = hsC f ev e n (i + 1) (x.1, x.2.1 && ((c.1 || c.2.1) != c.2.2), x.2.2) r2 q := by
                              rw [hsC_S, if_neg (by omega), if_neg (by omega), if_neg (fun z => absurd z.1 (by omega)), if_pos ⟨by omega, Nat.succ_pos _⟩]
                            rw [e9]
                            exact ih (i + 1) (x.1, x.2.1 && ((c.1 || c.2.1) != c.2.2), x.2.2) r2 q _ hy (j + 1) _ _ _ (by omega) (by omega) (by omega) hS
                          · exact absurd h96 (by omega)
                      · refine ⟨_, rfl, nI (r2.length), (by show nI (r2.length + 1) + -1 = nI r2.length; rw [← nI_add]; exact nI_back _), r2.length, rfl, (by show _ < 9; omega), ?_⟩
                        have p93 := hS.2.2.2.1.2.1
                        refine ⟨fun h94 => ?_, fun h94 => ?_⟩
                        · refine ⟨r2.length, rfl, (by show _ < 9; omega), nI 0, rfl, ?_⟩
                          have b68 := bI_e0 (p67.symm.trans h68)
                          have b73 := bI_e1 (fun z => h73 (p72.trans z))
                          have b81 := bI_n1 (fun z => h81 (z.trans p80.symm))
                          have b94 := bI_e0 (p93.symm.trans h94)
                          have hv : nI 0 = bI ((x.2.1 && ((c.1 || c.2.1) != c.2.2)) = true) := by
                            rw [show (x.2.1 && ((c.1 || c.2.1) != c.2.2)) = false by simp [b68, b73, b81, b94]]
                            exact (bI_f (fun z : false = true => Bool.false_ne_true z)).symm
                          replace hS := HS_all (HS_pop hS) hv
                          refine ⟨nI (i + 1), (add_n hS.1 rfl), ?_⟩
                          replace hS := HS_at (j := i + 1) hS
                          refine ⟨nI (j + 1), nI_add _ _, ?_⟩
                          have e9 : hsC f ev e (n + 1) i c (x :: r2) q = hsC f ev e n (i + 1) (x.1, x.2.1 && ((c.1 || c.2.1) != c.2.2), x.2.2) r2 q := by
                            rw [hsC_S, if_neg (by omega), if_neg (by omega), if_neg (fun z => absurd z.1 (by omega)), if_pos ⟨by omega, Nat.succ_pos _⟩]
                          rw [e9]
                          exact ih (i + 1) (x.1, x.2.1 && ((c.1 || c.2.1) != c.2.2), x.2.2) r2 q _ hy (j + 1) _ _ _ (by omega) (by omega) (by omega) hS
                        · refine br_eq rfl rfl (by omega) (by omega) (fun h96 => ?_) (fun h96 => ?_)
                          · exact absurd h96 (by omega)
                          · refine ⟨r2.length, rfl, (by show _ < 9; omega), nI 1, rfl, ?_⟩
                            have b68 := bI_e0 (p67.symm.trans h68)
                            have b73 := bI_e1 (fun z => h73 (p72.trans z))
                            have b81 := bI_n1 (fun z => h81 (z.trans p80.symm))
                            have b94 := bI_e1 (fun z => h94 (p93.trans z))
                            have hv : nI 1 = bI ((x.2.1 && ((c.1 || c.2.1) != c.2.2)) = true) := by
                              rw [show (x.2.1 && ((c.1 || c.2.1) != c.2.2)) = true by simp [b68, b73, b81, b94]]
                              exact (bI_t rfl).symm
                            replace hS := HS_all (HS_pop hS) hv
                            refine ⟨nI (i + 1), (add_n hS.1 rfl), ?_⟩
                            replace hS := HS_at (j := i + 1) hS
                            refine ⟨nI (j + 1), nI_add _ _, ?_⟩
                            have e9 : hsC f ev e (n + 1) i c (x :: r2) q = hsC f ev e n (i + 1) (x.1, x.2.1 && ((c.1 || c.2.1) != c.2.2), x.2.2) r2 q := by
                              rw [hsC_S, if_neg (by omega), if_neg (by omega), if_neg (fun z => absurd z.1 (by omega)), if_pos ⟨by omega, Nat.succ_pos _⟩]
                            rw [e9]
                            exact ih (i + 1) (x.1, x.2.1 && ((c.1 || c.2.1) != c.2.2), x.2.2) r2 q _ hy (j + 1) _ _ _ (by omega) (by omega) (by omega) hS
            · refine br_ge rfl rfl (by omega) (by omega) (fun h50 => ?_) (fun h50 => ?_)
              · refine br_ne rfl rfl (by omega) (by omega) (fun h61 => ?_) (fun h61 => ?_)
                · refine br_ne rfl rfl (by omega) (by omega) (fun h104 => ?_) (fun h104 => ?_)
                  · refine br_eq rfl rfl (by omega) (by omega) (fun h130 => ?_) (fun h130 => ?_)
                    · exact absurd h130 (by omega)
                    · have ev1 := cv_cm hk he hf30 (fun z hz => (hS.2.1 14 false _ _ rfl).trans (hrow z hz)) (fun z h1 h2 => (hS.2.1 36 d _ _ rfl).trans (hn z h1 h2)) (i := i) (by omega)
                      rw [aW_id hS.1] at ev1
                      replace hS := HS_at (j := (cmC f ev e i).2) hS
                      have hcl := cm_le f ev e i
                      refine ⟨_, _, ev1, ?_⟩
                      refine ⟨fun h137 => ?_, fun h137 => ?_⟩
                      · rw [hy] at h137
                        refine ⟨_, rfl, r2.length + 1, rfl, (by show _ < 9; omega), ?_⟩
                        have p148 := hS.2.2.1.2.1
                        refine ⟨fun h149 => ?_, fun h149 => ?_⟩
                        · refine ⟨r2.length + 1, rfl, (by show _ < 9; omega), nI 0, rfl, ?_⟩
                          have b137 := bI_ab h137
                          have b149 := bI_e0 (p148.symm.trans h149)
                          have hv : nI 0 = bI ((c.2.1 && ((cmC f ev e i).1 != q)) = true) := by
                            rw [show (c.2.1 && ((cmC f ev e i).1 != q)) = false by simp [b137, b149]]
                            exact (bI_f (fun z : false = true => Bool.false_ne_true z)).symm
                          replace hS := HS_all hS hv
                          refine ⟨_, rfl, nI (j + 1), nI_add _ _, ?_⟩
                          have e9 : hsC f ev e (n + 1) i c (x :: r2) q = hsC f ev e n (cmC f ev e i).2 (c.1, c.2.1 && ((cmC f ev e i).1 != q), c.2.2) (x :: r2) false := by
                            rw [hsC_S, if_neg (by omega), if_neg (by omega), if_neg (fun z => absurd z.2 (by show ¬ r2.length + 1 < 8; omega)), if_neg (fun z => absurd z.1 (by omega)), if_neg (by omega), if_neg (by omega)]
                          rw [e9]
                          exact ih (cmC f ev e i).2 (c.1, c.2.1 && ((cmC f ev e i).1 != q), c.2.2) (x :: r2) false _ (bI_f (fun z : false = true => Bool.false_ne_true z)).symm (j + 1) _ _ _ (by omega) (by omega) (by exact hr) hS
                        · refine br_eq rfl rfl (by omega) (by omega) (fun h151 => ?_) (fun h151 => ?_)
                          · refine ⟨r2.length + 1, rfl, (by show _ < 9; omega), nI 0, rfl, ?_⟩
                            have b137 := bI_ab h137
                            have b149 := bI_e1 (fun z => h149 (p148.trans z))
                            have hv : nI 0 = bI ((c.2.1 && ((cmC f ev e i).1 != q)) = true) := by
                              rw [show (c.2.1 && ((cmC f ev e i).1 != q)) = false by simp [b137, b149]]
                              exact (bI_f (fun z : false = true => Bool.false_ne_true z)).symm
                            replace hS := HS_all hS hv
                            refine ⟨_, rfl, nI (j + 1), nI_add _ _, ?_⟩
                            have e9 : hsC f ev e (n + 1) i c (x :: r2) q = hsC f ev e n (cmC f ev e i).2 (c.1, c.2.1 && ((cmC f ev e i).1 != q), c.2.2) (x :: r2) false := by
                              rw [hsC_S, if_neg (by omega), if_neg (by omega), if_neg (fun z => absurd z.2 (by show ¬ r2.length + 1 < 8; omega)), if_neg (fun z => absurd z.1 (by omega)), if_neg (by omega), if_neg (by omega)]
                            rw [e9]
                            exact ih (cmC f ev e i).2 (c.1, c.2.1 && ((cmC f ev e i).1 != q), c.2.2) (x :: r2) false _ (bI_f (fun z : false = true => Bool.false_ne_true z)).symm (j + 1) _ _ _ (by omega) (by omega) (by exact hr) hS
                          · exact absurd h151 (by omega)
                      · rw [hy] at h137
                        refine ⟨_, rfl, r2.length + 1, rfl, (by show _ < 9; omega), ?_⟩
                        have p148 := hS.2.2.1.2.1
                        refine ⟨fun h149 => ?_, fun h149 => ?_⟩
                        · refine ⟨r2.length + 1, rfl, (by show _ < 9; omega), nI 0, rfl, ?_⟩
                          have b137 := bI_nab h137
                          have b149 := bI_e0 (p148.symm.trans h149)
                          have hv : nI 0 = bI ((c.2.1 && ((cmC f ev e i).1 != q)) = true) := by
                            rw [show (c.2.1 && ((cmC f ev e i).1 != q)) = false by simp [b137, b149]]
                            exact (bI_f (fun z : false = true => Bool.false_ne_true z)).symm
                          replace hS := HS_all hS hv
                          refine ⟨_, rfl, nI (j + 1), nI_add _ _, ?_⟩
                          have e9 : hsC f ev e (n + 1) i c (x :: r2) q = hsC f ev e n (cmC f ev e i).2 (c.1, c.2.1 && ((cmC f ev e i).1 != q), c.2.2) (x :: r2) false := by
                            rw [hsC_S, if_neg (by omega), if_neg (by omega), if_neg (fun z => absurd z.2 (by show ¬ r2.length + 1 < 8; omega)), if_neg (fun z => absurd z.1 (by omega)), if_neg (by omega), if_neg (by omega)]
                          rw [e9]
                          exact ih (cmC f ev e i).2 (c.1, c.2.1 && ((cmC f ev e i).1 != q), c.2.2) (x :: r2) false _ (bI_f (fun z : false = true => Bool.false_ne_true z)).symm (j + 1) _ _ _ (by omega) (by omega) (by exact hr) hS
                        · refine br_eq rfl rfl (by omega) (by omega) (fun h151 => ?_) (fun h151 => ?_)
                          · exact absurd h151 (by omega)
                          · refine ⟨r2.length + 1, rfl, (by show _ < 9; omega), nI 1, rfl, ?_⟩
                            have b137 := bI_nab h137
                            have b149 := bI_e1 (fun z => h149 (p148.trans z))
                            have hv : nI 1 = bI ((c.2.1 && ((cmC f ev e i).1 != q)) = true) := by
                              rw [show (c.2.1 && ((cmC f ev e i).1 != q)) = true by simp [b137, b149]]
                              exact (bI_t rfl).symm
                            replace hS := HS_all hS hv
                            refine ⟨_, rfl, nI (j + 1), nI_add _ _, ?_⟩
                            have e9 : hsC f ev e (n + 1) i c (x :: r2) q = hsC f ev e n (cmC f ev e i).2 (c.1, c.2.1 && ((cmC f ev e i).1 != q), c.2.2) (x :: r2) false := by
                              rw [hsC_S, if_neg (by omega), if_neg (by omega), if_neg (fun z => absurd z.2 (by show ¬ r2.length + 1 < 8; omega)), if_neg (fun z => absurd z.1 (by omega)), if_neg (by omega), if_neg (by omega)]
                            rw [e9]
                            exact ih (cmC f ev e i).2 (c.1, c.2.1 && ((cmC f ev e i).1 != q), c.2.2) (x :: r2) false _ (bI_f (fun z : false = true => Bool.false_ne_true z)).symm (j + 1) _ _ _ (by omega) (by omega) (by exact hr) hS
                  · exact absurd h104 (by omega)
                · exact absurd h61 (by omega)
              · refine ⟨nI (r2.length + 1 + 1), nI_add _ _, ?_⟩
                have ev1 := cv_begin (σ := s1) (o := r2.length + 1 + 1) (v := y) (by omega) (by rw [hy]; exact bI_01 _)
                replace hS := HS_push hS hy
                refine ⟨_, _, ev1, _, rfl, nI (i + 1), (add_n hS.1 rfl), ?_⟩
                replace hS := HS_at (j := i + 1) hS
                refine ⟨nI (j + 1), nI_add _ _, ?_⟩
                have e9 : hsC f ev e (n + 1) i c (x :: r2) q = hsC f ev e n (i + 1) (false, true, q) (c :: (x :: r2)) false := by
                  rw [hsC_S, if_neg (by omega), if_neg (by omega), if_pos ⟨by omega, by show r2.length + 1 < 8; omega⟩]
                rw [e9]
                exact ih (i + 1) (false, true, q) (c :: (x :: r2)) false _ (bI_f (fun z : false = true => Bool.false_ne_true z)).symm (j + 1) _ _ _ (by omega) (by omega) (by show r2.length + 1 + 1 ≤ 8; omega) hS
          · refine ⟨fun h39 => ?_, fun h39 => ?_⟩
            · rw [hy] at h39
              refine ⟨_, rfl, nI (i + 1), (add_n hS.1 rfl), ?_⟩
              replace hS := HS_at (j := i + 1) hS
              refine ⟨nI (j + 1), nI_add _ _, ?_⟩
              have b39 := bI_e1 h39
              have hy2 : nI 0 = bI ((!q) = true) := by
                rw [show (!q) = false by simp [b39]]
                exact (bI_f (fun z : false = true => Bool.false_ne_true z)).symm
              have e9 : hsC f ev e (n + 1) i c (x :: r2) q = hsC f ev e n (i + 1) c (x :: r2) (!q) := by
                rw [hsC_S, if_neg (by omega), if_pos (by omega)]
              rw [e9]
              exact ih (i + 1) c (x :: r2) (!q) _ hy2 (j + 1) _ _ _ (by omega) (by omega) (by exact hr) hS
            · rw [hy] at h39
              refine ⟨_, rfl, nI (i + 1), (add_n hS.1 rfl), ?_⟩
              replace hS := HS_at (j := i + 1) hS
              refine ⟨nI (j + 1), nI_add _ _, ?_⟩
              have b39 := bI_e0 h39
              have hy2 : nI 1 = bI ((!q) = true) := by
                rw [show (!q) = true by simp [b39]]
                exact (bI_t rfl).symm
              have e9 : hsC f ev e (n + 1) i c (x :: r2) q = hsC f ev e n (i + 1) c (x :: r2) (!q) := by
                rw [hsC_S, if_neg (by omega), if_pos (by omega)]
              rw [e9]
              exact ih (i + 1) c (x :: r2) (!q) _ hy2 (j + 1) _ _ _ (by omega) (by omega) (by exact hr) hS
