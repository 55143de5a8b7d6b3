/-! The class follows a rule. -/
theorem scc_26 {k j : Nat} (h : 26 ≤ k) : scc k j = false := by
  unfold scc
  have e1 : (k == 12) = false := by simp; omega
  have e2 : decide (k ≤ 20) = false := decide_eq_false (by omega)
  rw [e1, e2]
  simp
theorem Cg_x {d : Bool} {s t : Sg} {D : Dy} {eb er : Nat} {Z : Zt} {σ σ' : Sg} (h : Cg d s t D eb er Z σ) (e : ∀ k d x j, scc k j = false → σ' k d x j = σ k d x j) : Cg d s t D eb er Z σ' := by
  have e2 : ∀ k r i, 26 ≤ k → σ' k d r i = σ k d r i := fun k r i hk => e k d r i (scc_26 hk)
  exact ⟨h.1, fun k d' r i h1 h2 => (e k d' r i h2).trans (h.2.1 k d' r i h1 h2), Rm_c h.m (fun k r i q => e2 k r i (by omega)) (fun _ _ => rfl), Rp_c h.p (fun k r i q => e2 k r i (by omega)) (fun _ _ _ => rfl), Rc_c h.c (fun k r i q => e2 k r i (by omega)) (fun _ _ _ => rfl), Rw_c h.w (fun k r i q => e2 k r i (by omega)) (fun _ _ => rfl), Rb_c h.b (fun k r i q => e2 k r i (by omega)) (fun _ _ _ => rfl), Rr_c h.r (fun k r i q => e2 k r i (by omega)) (fun _ _ _ => rfl), Rg_c h.g (fun k r i q => e2 k r i (by omega)) (fun _ _ _ => rfl), Rz_c h.z (fun k r i q => e2 k r i (by omega)), Rl_c h.l (fun k r i q => e2 k r i (by omega)) (fun _ _ _ => rfl), Rv_c h.v (fun k r i q => e2 k r i (by omega)) (fun _ _ _ => rfl)⟩
theorem aW_x {σ : Sg} {i : Nat} : ∀ k d x j, scc k j = false → aW σ i k d x j = σ k d x j := fun k d x j e => scc_n e rfl
/-- where THEN stands, the class keeps -/
def TH (s t : Sg) : Prop := ∀ k, k < nRu t → ∃ e, e < nN (t 84 false 0 k) ∧ sy t k e = 20 ∧ s 16 false 0 k = nI e
theorem sy_row {d : Bool} {s t : Sg} {D : Dy} {eb er : Nat} {Z : Zt} {σ : Sg} (hC : Cg d s t D eb er Z σ) (hX : XT t) {k : Nat} (hk : k < 10) : (∀ i, i < nN (t 84 false 0 k) → sy t k i ≤ 30) ∧ ∀ i, i < nN (t 84 false 0 k) → σ 14 false (k + 1) i = nI (sy t k i) := by
  obtain ⟨h1, h2⟩ := hX.2 k hk
  have h40 := h1.2
  refine ⟨fun i hi => ?_, fun i hi => ?_⟩
  · unfold sy
    rw [if_pos hi]
    exact (h2 i (by omega)).2
  · unfold sy
    rw [if_pos hi, hC.c14 k hk i (by omega)]
    exact (h2 i (by omega)).1
theorem cv_shopf {d : Bool} {s t : Sg} {D : Dy} {Z : Zt} {σ : Sg} (hC : Cg d s t D 60 200 Z σ) (hT : WN t) {p : Nat} (hp : p < nP t) (h7 : Is (D 0 7) 4000) : ∃ σ', Ev false 131 [.inr (.inr (26, d, 0)), .inl (ffI t D p)] σ none σ' ∧ Cg d s t (ffx t D p) 60 200 Z σ' := by
  have hP := hT.P
  have hB := hT.B
  unfold ffI ffx
  by_cases q : ff D p (nB t) 0 < nB t
  · rw [if_pos q, if_pos q]
    obtain ⟨a1, -⟩ := (ff_le D p (nB t) 0).2.2 (by omega)
    unfold isA at a1
    obtain ⟨b1, b2⟩ := Bool.and_eq_true_iff.mp a1
    exact cv_shop hC hT q hp (of_decide_eq_true b1) (of_decide_eq_true b2) h7
  · rw [if_neg q, if_neg q]
    exact ⟨σ, cv_shop0 hC hT, hC⟩
theorem cv_rule23 {d : Bool} {s t : Sg} {D : Dy} {Z : Zt} {σ : Sg} {k p e m : Nat} (hC : Cg d s t D 60 200 Z σ) (hT : WN t) (hX : XT t) (hk : k < 10) (hp : p < nP t) (hok : okT (sy t k) (nN (t 84 false 0 k))) (he : e < nN (t 84 false 0 k)) (h20 : sy t k e = 20) (hth : s 16 false 0 k = nI e) (he1 : e + 1 < nN (t 84 false 0 k)) (hte : (tstK t D k p).2 = e) (hact : sy t k (e + 1) = 23) (hact3 : au (sy t k) (e + 3) = some (3, 0, 0)) (he3 : e + 3 < nN (t 84 false 0 k)) (h7 : Is (D 0 7) 4000) (hm : D 0 0 = nI m) (hm2 : m < 2000) (hw : D 28 p = nI (wtn t D p)) : ∃ σ', Ev false 176 [.inr (.inr (26, d, 0)), .inl (nI k), .inl (nI p)] σ none σ' ∧ Cg d s t (if (tstK t D k p).1 = true then act t D (sy t k) (envV t D p) p ((tstK t D k p).2 + 1) else D) 60 200 Z σ' := by
  have hP := hT.P
  have h40 := hok.1
  refine EvQ_wp 100 [] rfl rfl ?_
  obtain ⟨σ1, ev1, hC, hN⟩ := cv_names hC hT hp hm hm2 hw
  refine ⟨_, _, ev1, ?_⟩
  obtain ⟨hf30, hrow⟩ := sy_row hC hX hk
  obtain ⟨σ2, ev2, hx⟩ := cv_holds hk (by omega) (fun i hi => hf30 i (by omega)) (fun i hi => hrow i (by omega)) hN ((Fr_k hC.2.1 (by decide) 0 k rfl).trans hth)
  replace hC := Cg_x hC hx
  have hN2 : ∀ x, 21 ≤ x → x ≤ 27 → σ2 36 d 0 (x - 21) = envV t D p x := fun x h1 h2 => (hx 36 d 0 _ (scc_26 (by omega))).trans (hN x h1 h2)
  rw [hsV_T hok he h20] at ev2
  refine ⟨_, _, ev2, ?_⟩
  refine brb_ne (fun h9 => ?_) (fun h9 => ?_)
  · have hr2 := (sy_row hC hX hk).2 (e + 1) he1
    rw [hact] at hr2
    have ev8 := cv_act hk (by omega) ((Fr_k hC.2.1 (by decide) 0 k rfl).trans hth) hr2
    refine ⟨_, _, ev8, ?_⟩
    refine ⟨fun h15 => ?_, fun h15 => ?_, fun h15 => ?_, ?_⟩
    · have ev9 := cv_price hk h40 (by omega) (sy_row hC hX hk).1 (sy_row hC hX hk).2 hN2 ((Fr_k hC.2.1 (by decide) 0 k rfl).trans hth) ((hC.c15 k hk).trans (hX.2 k hk).1.1)
      replace hC := Cg_x hC (aW_x (i := (rs1 (sy t k) (envV t D p) (nN (t 84 false 0 k)) (e + 3)).2))
      refine ⟨_, _, ev9, p, rfl, (by show _ < 12; omega), _, rfl, ?_⟩
      replace hC : Cg d s t (up2 D 1 p ((clm (rs1 (sy t k) (envV t D p) (nN (t 84 false 0 k)) (e + 3)).1))) 60 200 Z (up4 (aW σ2 (rs1 (sy t k) (envV t D p) (nN (t 84 false 0 k)) (e + 3)).2) 27 d 0 p (clm (rs1 (sy t k) (envV t D p) (nN (t 84 false 0 k)) (e + 3)).1)) := st_price hC
      refine ⟨rfl, ?_⟩
      rw [if_pos h9, hte]
      unfold act
      rw [if_pos hact, ← price_T hok (by omega) hact3 (by omega)]
      exact hC
    · exact absurd h15 (by decide)
    · exact absurd h15 (by decide)
    · intro h15; exact absurd rfl h15.1
  · exact ⟨rfl, by rw [if_neg h9]; exact hC⟩
theorem cv_rule28 {d : Bool} {s t : Sg} {D : Dy} {Z : Zt} {σ : Sg} {k p e m : Nat} (hC : Cg d s t D 60 200 Z σ) (hT : WN t) (hX : XT t) (hk : k < 10) (hp : p < nP t) (hok : okT (sy t k) (nN (t 84 false 0 k))) (he : e < nN (t 84 false 0 k)) (h20 : sy t k e = 20) (hth : s 16 false 0 k = nI e) (he1 : e + 1 < nN (t 84 false 0 k)) (hte : (tstK t D k p).2 = e) (hact : sy t k (e + 1) = 28) (h7 : Is (D 0 7) 4000) (hm : D 0 0 = nI m) (hm2 : m < 2000) (hw : D 28 p = nI (wtn t D p)) : ∃ σ', Ev false 176 [.inr (.inr (26, d, 0)), .inl (nI k), .inl (nI p)] σ none σ' ∧ Cg d s t (if (tstK t D k p).1 = true then act t D (sy t k) (envV t D p) p ((tstK t D k p).2 + 1) else D) 60 200 Z σ' := by
  have hP := hT.P
  have h40 := hok.1
  refine EvQ_wp 100 [] rfl rfl ?_
  obtain ⟨σ1, ev1, hC, hN⟩ := cv_names hC hT hp hm hm2 hw
  refine ⟨_, _, ev1, ?_⟩
  obtain ⟨hf30, hrow⟩ := sy_row hC hX hk
  obtain ⟨σ2, ev2, hx⟩ := cv_holds hk (by omega) (fun i hi => hf30 i (by omega)) (fun i hi => hrow i (by omega)) hN ((Fr_k hC.2.1 (by decide) 0 k rfl).trans hth)
  replace hC := Cg_x hC hx
  have hN2 : ∀ x, 21 ≤ x → x ≤ 27 → σ2 36 d 0 (x - 21) = envV t D p x := fun x h1 h2 => (hx 36 d 0 _ (scc_26 (by omega))).trans (hN x h1 h2)
  rw [hsV_T hok he h20] at ev2
  refine ⟨_, _, ev2, ?_⟩
  refine brb_ne (fun h9 => ?_) (fun h9 => ?_)
  · have hr2 := (sy_row hC hX hk).2 (e + 1) he1
    rw [hact] at hr2
    have ev8 := cv_act hk (by omega) ((Fr_k hC.2.1 (by decide) 0 k rfl).trans hth) hr2
    refine ⟨_, _, ev8, ?_⟩
    refine ⟨fun h15 => ?_, fun h15 => ?_, fun h15 => ?_, ?_⟩
    · exact absurd h15 (by decide)
    · obtain ⟨σ3, ev3, hC⟩ := cv_setOpen0 hC hT (x := nI p) rfl hp h7
      refine ⟨_, _, ev3, ?_⟩
      refine ⟨rfl, ?_⟩
      rw [if_pos h9, hte]
      unfold act
      rw [if_neg (by omega), if_pos hact]
      exact hC
    · exact absurd h15 (by decide)
    · intro h15; exact absurd rfl h15.2.1
  · exact ⟨rfl, by rw [if_neg h9]; exact hC⟩
theorem cv_rule29 {d : Bool} {s t : Sg} {D : Dy} {Z : Zt} {σ : Sg} {k p e m : Nat} (hC : Cg d s t D 60 200 Z σ) (hT : WN t) (hX : XT t) (hk : k < 10) (hp : p < nP t) (hok : okT (sy t k) (nN (t 84 false 0 k))) (he : e < nN (t 84 false 0 k)) (h20 : sy t k e = 20) (hth : s 16 false 0 k = nI e) (he1 : e + 1 < nN (t 84 false 0 k)) (hte : (tstK t D k p).2 = e) (hact : sy t k (e + 1) = 29) (h7 : Is (D 0 7) 4000) (hm : D 0 0 = nI m) (hm2 : m < 2000) (hw : D 28 p = nI (wtn t D p)) : ∃ σ', Ev false 176 [.inr (.inr (26, d, 0)), .inl (nI k), .inl (nI p)] σ none σ' ∧ Cg d s t (if (tstK t D k p).1 = true then act t D (sy t k) (envV t D p) p ((tstK t D k p).2 + 1) else D) 60 200 Z σ' := by
  have hP := hT.P
  have h40 := hok.1
  refine EvQ_wp 100 [] rfl rfl ?_
  obtain ⟨σ1, ev1, hC, hN⟩ := cv_names hC hT hp hm hm2 hw
  refine ⟨_, _, ev1, ?_⟩
  obtain ⟨hf30, hrow⟩ := sy_row hC hX hk
  obtain ⟨σ2, ev2, hx⟩ := cv_holds hk (by omega) (fun i hi => hf30 i (by omega)) (fun i hi => hrow i (by omega)) hN ((Fr_k hC.2.1 (by decide) 0 k rfl).trans hth)
  replace hC := Cg_x hC hx
  have hN2 : ∀ x, 21 ≤ x → x ≤ 27 → σ2 36 d 0 (x - 21) = envV t D p x := fun x h1 h2 => (hx 36 d 0 _ (scc_26 (by omega))).trans (hN x h1 h2)
  rw [hsV_T hok he h20] at ev2
  refine ⟨_, _, ev2, ?_⟩
  refine brb_ne (fun h9 => ?_) (fun h9 => ?_)
  · have hr2 := (sy_row hC hX hk).2 (e + 1) he1
    rw [hact] at hr2
    have ev8 := cv_act hk (by omega) ((Fr_k hC.2.1 (by decide) 0 k rfl).trans hth) hr2
    refine ⟨_, _, ev8, ?_⟩
    refine ⟨fun h15 => ?_, fun h15 => ?_, fun h15 => ?_, ?_⟩
    · exact absurd h15 (by decide)
    · exact absurd h15 (by decide)
    · obtain ⟨σ3, ev3, hC⟩ := cv_setOpen1 hC hT (x := nI p) rfl hp h7
      refine ⟨_, _, ev3, ?_⟩
      refine ⟨rfl, ?_⟩
      rw [if_pos h9, hte]
      unfold act
      rw [if_neg (by omega), if_neg (by omega), if_pos hact]
      exact hC
    · intro h15; exact absurd rfl h15.2.2.1
  · exact ⟨rfl, by rw [if_neg h9]; exact hC⟩
theorem cv_rule30 {d : Bool} {s t : Sg} {D : Dy} {Z : Zt} {σ : Sg} {k p e m : Nat} (hC : Cg d s t D 60 200 Z σ) (hT : WN t) (hX : XT t) (hk : k < 10) (hp : p < nP t) (hok : okT (sy t k) (nN (t 84 false 0 k))) (he : e < nN (t 84 false 0 k)) (h20 : sy t k e = 20) (hth : s 16 false 0 k = nI e) (he1 : e + 1 < nN (t 84 false 0 k)) (hte : (tstK t D k p).2 = e) (hact : sy t k (e + 1) = 30) (h7 : Is (D 0 7) 4000) (hm : D 0 0 = nI m) (hm2 : m < 2000) (hw : D 28 p = nI (wtn t D p)) : ∃ σ', Ev false 176 [.inr (.inr (26, d, 0)), .inl (nI k), .inl (nI p)] σ none σ' ∧ Cg d s t (if (tstK t D k p).1 = true then act t D (sy t k) (envV t D p) p ((tstK t D k p).2 + 1) else D) 60 200 Z σ' := by
  have hP := hT.P
  have h40 := hok.1
  refine EvQ_wp 100 [] rfl rfl ?_
  obtain ⟨σ1, ev1, hC, hN⟩ := cv_names hC hT hp hm hm2 hw
  refine ⟨_, _, ev1, ?_⟩
  obtain ⟨hf30, hrow⟩ := sy_row hC hX hk
  obtain ⟨σ2, ev2, hx⟩ := cv_holds hk (by omega) (fun i hi => hf30 i (by omega)) (fun i hi => hrow i (by omega)) hN ((Fr_k hC.2.1 (by decide) 0 k rfl).trans hth)
  replace hC := Cg_x hC hx
  have hN2 : ∀ x, 21 ≤ x → x ≤ 27 → σ2 36 d 0 (x - 21) = envV t D p x := fun x h1 h2 => (hx 36 d 0 _ (scc_26 (by omega))).trans (hN x h1 h2)
  rw [hsV_T hok he h20] at ev2
  refine ⟨_, _, ev2, ?_⟩
  refine brb_ne (fun h9 => ?_) (fun h9 => ?_)
  · have hr2 := (sy_row hC hX hk).2 (e + 1) he1
    rw [hact] at hr2
    have ev8 := cv_act hk (by omega) ((Fr_k hC.2.1 (by decide) 0 k rfl).trans hth) hr2
    refine ⟨_, _, ev8, ?_⟩
    refine ⟨fun h15 => ?_, fun h15 => ?_, fun h15 => ?_, ?_⟩
    · exact absurd h15 (by decide)
    · exact absurd h15 (by decide)
    · exact absurd h15 (by decide)
    · intro h15
      refine ⟨_, _, cv_ff hC hT (x := nI p) rfl, ?_⟩
      obtain ⟨σ3, ev3, hC⟩ := cv_shopf hC hT hp h7
      refine ⟨_, _, ev3, ?_⟩
      refine ⟨rfl, ?_⟩
      rw [if_pos h9, hte]
      unfold act
      rw [if_neg (by omega), if_neg (by omega), if_neg (by omega)]
      exact hC
  · exact ⟨rfl, by rw [if_neg h9]; exact hC⟩
