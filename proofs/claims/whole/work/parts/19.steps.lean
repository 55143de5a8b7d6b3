/-! A rule's test, on the model's state: the steps. -/
theorem mv_joins2 {τ : Sg} {a b c : Int32} {s x y : Nat} (ha : a = nI s) (hb : b = nI x) (hc : c = nI y) (hs : s ≤ 99) (hx : x ≤ 1) (hy : y ≤ 1) : Ev true 54 [.inl a, .inl b, .inl c] τ (some (.inl (nI (jn s x y)))) τ := by
  rw [ha, hb, hc]
  exact mv_joins hs hx hy
theorem so_r41 {t : Sg} {D : Dy} {P : Option AV → Sg → Prop} {k p i c s x y : Nat} {ss vs : List Nat} {z6 z7 z8 : Option AV} {τ : Sg} (hc : c ≤ 99) (hr : c = 17 ∨ (c = 18 ∧ s = 18)) (hs5 : s ≤ 99) (hx : x ≤ 1) (hy : y ≤ 1) (hv : vs.length ≤ 50) (hs : ss.length ≤ 50) (hS : SR t D τ i (c :: ss) (x :: y :: vs)) (hK : ∀ τ', SR t D τ' i ss (jn c y x :: vs) → G true 189 P 41 [some (.inr (.inr (69, false, 0))), some (.inl (nI k)), some (.inl (nI p)), some (.inl (nI (vs.length + 1))), some (.inl (nI ss.length)), some (.inl (nI s)), z6, z7, z8] [] τ') : G true 189 P 41 [some (.inr (.inr (69, false, 0))), some (.inl (nI k)), some (.inl (nI p)), some (.inl (nI (vs.length + 2))), some (.inl (nI (ss.length + 1))), some (.inl (nI s)), z6, z7, z8] [] τ := by
  refine G_wp 100 [41] rfl ?_
  refine br_le rfl rfl (by omega) (by omega) (fun h42 => ?_) (fun h42 => ?_)
  · exact absurd h42 (by omega)
  · refine ⟨(ss.length + 1) - 1, (sub_n rfl rfl (by omega)), (by show _ < 60; omega), ?_⟩
    refine br_eq (by exact stk_hd hS.2.2.1 (by omega)) rfl (by omega) (by omega) (fun h50 => ?_) (fun h50 => ?_)
    · refine ⟨nI (ss.length), nI_dec _, nI (vs.length + 1), nI_dec _, ss.length, rfl, (by show _ < 60; omega), (vs.length + 1) - 1, (sub_n rfl rfl (by omega)), (by show _ < 60; omega), vs.length + 1, rfl, (by show _ < 60; omega), _, _, mv_joins2 (by exact stk_hd hS.2.2.1 (by omega)) (by exact stk_hd hS.2.2.2.2 (by omega)) (by exact stk_hd hS.2.2.2 (by first | rfl | omega)) (by omega) hy hx, (vs.length + 1) - 1, (sub_n rfl rfl (by omega)), (by show _ < 60; omega), _, rfl, ?_⟩
      have e1 : vs.length + 1 - 1 = vs.length := by omega
      rw [e1]
      exact hK _ (SR_v (x := jn c y x) (SR_pv (SR_pv (SR_ps hS))))
    · refine br_ne rfl rfl (by omega) (by omega) (fun h53 => ?_) (fun h53 => ?_)
      · exact absurd h53 (by omega)
      · refine ⟨(ss.length + 1) - 1, (sub_n rfl rfl (by omega)), (by show _ < 60; omega), ?_⟩
        refine br_ne (by exact stk_hd hS.2.2.1 (by omega)) rfl (by omega) (by omega) (fun h61 => ?_) (fun h61 => ?_)
        · exact absurd h61 (by omega)
        · refine ⟨nI (ss.length), nI_dec _, nI (vs.length + 1), nI_dec _, ss.length, rfl, (by show _ < 60; omega), (vs.length + 1) - 1, (sub_n rfl rfl (by omega)), (by show _ < 60; omega), vs.length + 1, rfl, (by show _ < 60; omega), _, _, mv_joins2 (by exact stk_hd hS.2.2.1 (by omega)) (by exact stk_hd hS.2.2.2.2 (by omega)) (by exact stk_hd hS.2.2.2 (by first | rfl | omega)) (by omega) hy hx, (vs.length + 1) - 1, (sub_n rfl rfl (by omega)), (by show _ < 60; omega), _, rfl, ?_⟩
          have e1 : vs.length + 1 - 1 = vs.length := by omega
          rw [e1]
          exact hK _ (SR_v (x := jn c y x) (SR_pv (SR_pv (SR_ps hS))))
theorem so_r102 {t : Sg} {D : Dy} {P : Option AV → Sg → Prop} {k p i c x y : Nat} {ss vs : List Nat} {z5 z6 z7 z8 : Option AV} {τ : Sg} (hc : c ≤ 99) (hr : ¬ c = 15) (hx : x ≤ 1) (hy : y ≤ 1) (hv : vs.length ≤ 50) (hs : ss.length ≤ 50) (hS : SR t D τ i (c :: ss) (x :: y :: vs)) (hK : ∀ τ', SR t D τ' i ss (jn c y x :: vs) → G true 189 P 102 [some (.inr (.inr (69, false, 0))), some (.inl (nI k)), some (.inl (nI p)), some (.inl (nI (vs.length + 1))), some (.inl (nI ss.length)), z5, z6, z7, z8] [] τ') : G true 189 P 102 [some (.inr (.inr (69, false, 0))), some (.inl (nI k)), some (.inl (nI p)), some (.inl (nI (vs.length + 2))), some (.inl (nI (ss.length + 1))), z5, z6, z7, z8] [] τ := by
  refine G_wp 100 [102] rfl ?_
  refine ⟨(ss.length + 1) - 1, (sub_n rfl rfl (by omega)), (by show _ < 60; omega), ?_⟩
  refine br_eq (by exact stk_hd hS.2.2.1 (by omega)) rfl (by omega) (by omega) (fun h109 => ?_) (fun h109 => ?_)
  · exact absurd h109 (by omega)
  · refine ⟨nI (ss.length), nI_dec _, nI (vs.length + 1), nI_dec _, ss.length, rfl, (by show _ < 60; omega), (vs.length + 1) - 1, (sub_n rfl rfl (by omega)), (by show _ < 60; omega), vs.length + 1, rfl, (by show _ < 60; omega), _, _, mv_joins2 (by exact stk_hd hS.2.2.1 (by omega)) (by exact stk_hd hS.2.2.2.2 (by omega)) (by exact stk_hd hS.2.2.2 (by first | rfl | omega)) (by omega) hy hx, (vs.length + 1) - 1, (sub_n rfl rfl (by omega)), (by show _ < 60; omega), _, rfl, ?_⟩
    have e1 : vs.length + 1 - 1 = vs.length := by omega
    rw [e1]
    exact hK _ (SR_v (x := jn c y x) (SR_pv (SR_pv (SR_ps hS))))
theorem so_r199 {t : Sg} {D : Dy} {P : Option AV → Sg → Prop} {k p i c x y : Nat} {ss vs : List Nat} {z5 z6 z7 z8 : Option AV} {τ : Sg} (hc : c ≤ 99)  (hx : x ≤ 1) (hy : y ≤ 1) (hv : vs.length ≤ 50) (hs : ss.length ≤ 50) (hS : SR t D τ i (c :: ss) (x :: y :: vs)) (hK : ∀ τ', SR t D τ' i ss (jn c y x :: vs) → G true 189 P 199 [some (.inr (.inr (69, false, 0))), some (.inl (nI k)), some (.inl (nI p)), some (.inl (nI (vs.length + 1))), some (.inl (nI ss.length)), z5, z6, z7, z8] [] τ') : G true 189 P 199 [some (.inr (.inr (69, false, 0))), some (.inl (nI k)), some (.inl (nI p)), some (.inl (nI (vs.length + 2))), some (.inl (nI (ss.length + 1))), z5, z6, z7, z8] [] τ := by
  refine G_wp 100 [199] rfl ?_
  refine br_le rfl rfl (by omega) (by omega) (fun h200 => ?_) (fun h200 => ?_)
  · exact absurd h200 (by omega)
  · refine ⟨nI (ss.length), nI_dec _, nI (vs.length + 1), nI_dec _, ss.length, rfl, (by show _ < 60; omega), (vs.length + 1) - 1, (sub_n rfl rfl (by omega)), (by show _ < 60; omega), vs.length + 1, rfl, (by show _ < 60; omega), _, _, mv_joins2 (by exact stk_hd hS.2.2.1 (by omega)) (by exact stk_hd hS.2.2.2.2 (by omega)) (by exact stk_hd hS.2.2.2 (by first | rfl | omega)) (by omega) hy hx, (vs.length + 1) - 1, (sub_n rfl rfl (by omega)), (by show _ < 60; omega), _, rfl, ?_⟩
    have e1 : vs.length + 1 - 1 = vs.length := by omega
    rw [e1]
    exact hK _ (SR_v (x := jn c y x) (SR_pv (SR_pv (SR_ps hS))))
theorem so_e41 {t : Sg} {D : Dy} {P : Option AV → Sg → Prop} {k p i n c s : Nat} {ss vs : List Nat} {z6 z7 z8 : Option AV} {τ : Sg} (hK : G true 189 P 86 [some (.inr (.inr (69, false, 0))), some (.inl (nI k)), some (.inl (nI p)), some (.inl (nI n)), some (.inl (nI 0)), some (.inl (nI s)), z6, z7, z8] [] τ) : G true 189 P 41 [some (.inr (.inr (69, false, 0))), some (.inl (nI k)), some (.inl (nI p)), some (.inl (nI n)), some (.inl (nI 0)), some (.inl (nI s)), z6, z7, z8] [] τ := by
  refine G_wp 100 [86] rfl ?_
  refine br_le rfl rfl (by omega) (by omega) (fun h42 => ?_) (fun h42 => ?_)
  · exact hK
  · exact absurd h42 (by omega)
theorem so_s41 {t : Sg} {D : Dy} {P : Option AV → Sg → Prop} {k p i n c s : Nat} {ss vs : List Nat} {z6 z7 z8 : Option AV} {τ : Sg} (hc : c ≤ 99) (hs : ss.length ≤ 50) (hS : SR t D τ i (c :: ss) vs) (hs5 : s ≤ 99) (h1 : ¬ c = 17) (h2 : ¬ (c = 18 ∧ s = 18)) (hK : G true 189 P 86 [some (.inr (.inr (69, false, 0))), some (.inl (nI k)), some (.inl (nI p)), some (.inl (nI n)), some (.inl (nI (ss.length + 1))), some (.inl (nI s)), z6, z7, z8] [] τ) : G true 189 P 41 [some (.inr (.inr (69, false, 0))), some (.inl (nI k)), some (.inl (nI p)), some (.inl (nI n)), some (.inl (nI (ss.length + 1))), some (.inl (nI s)), z6, z7, z8] [] τ := by
  refine G_wp 100 [86] rfl ?_
  refine br_le rfl rfl (by omega) (by omega) (fun h42 => ?_) (fun h42 => ?_)
  · exact absurd h42 (by omega)
  · refine ⟨(ss.length + 1) - 1, (sub_n rfl rfl (by omega)), (by show _ < 60; omega), ?_⟩
    refine br_eq (by exact stk_hd hS.2.2.1 (by omega)) rfl (by omega) (by omega) (fun h50 => ?_) (fun h50 => ?_)
    · exact absurd h50 (by omega)
    · refine br_ne rfl rfl (by omega) (by omega) (fun h53 => ?_) (fun h53 => ?_)
      · exact hK
      · refine ⟨(ss.length + 1) - 1, (sub_n rfl rfl (by omega)), (by show _ < 60; omega), ?_⟩
        refine br_ne (by exact stk_hd hS.2.2.1 (by omega)) rfl (by omega) (by omega) (fun h61 => ?_) (fun h61 => ?_)
        · exact hK
        · exact absurd h61 (by omega)
theorem so_s102 {t : Sg} {D : Dy} {P : Option AV → Sg → Prop} {k p i n c : Nat} {ss vs : List Nat} {z5 z6 z7 z8 : Option AV} {τ : Sg} (hc : c ≤ 99) (hs : ss.length ≤ 50) (hS : SR t D τ i (c :: ss) vs) (h1 : c = 15) (hK : G true 189 P 134 [some (.inr (.inr (69, false, 0))), some (.inl (nI k)), some (.inl (nI p)), some (.inl (nI n)), some (.inl (nI (ss.length + 1))), z5, z6, z7, z8] [] τ) : G true 189 P 102 [some (.inr (.inr (69, false, 0))), some (.inl (nI k)), some (.inl (nI p)), some (.inl (nI n)), some (.inl (nI (ss.length + 1))), z5, z6, z7, z8] [] τ := by
  refine G_wp 100 [134] rfl ?_
  refine ⟨(ss.length + 1) - 1, (sub_n rfl rfl (by omega)), (by show _ < 60; omega), ?_⟩
  refine br_eq (by exact stk_hd hS.2.2.1 (by omega)) rfl (by omega) (by omega) (fun h109 => ?_) (fun h109 => ?_)
  · exact hK
  · exact absurd h109 (by omega)
theorem so_e199 {t : Sg} {D : Dy} {P : Option AV → Sg → Prop} {k p i n c : Nat} {ss vs : List Nat} {z5 z6 z7 z8 : Option AV} {τ : Sg} (hK : G true 189 P 225 [some (.inr (.inr (69, false, 0))), some (.inl (nI k)), some (.inl (nI p)), some (.inl (nI n)), some (.inl (nI 0)), z5, z6, z7, z8] [] τ) : G true 189 P 199 [some (.inr (.inr (69, false, 0))), some (.inl (nI k)), some (.inl (nI p)), some (.inl (nI n)), some (.inl (nI 0)), z5, z6, z7, z8] [] τ := by
  refine G_wp 100 [225] rfl ?_
  refine br_le rfl rfl (by omega) (by omega) (fun h200 => ?_) (fun h200 => ?_)
  · exact hK
  · exact absurd h200 (by omega)
