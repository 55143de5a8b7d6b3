/-! The class names what a rule reads; a bike to the shop. -/
theorem cv_names {d : Bool} {s t : Sg} {D : Dy} {Z : Zt} {σ : Sg} (hC : Cg d s t D 60 200 Z σ) (hT : WN t) {p m : Nat} (hp : p < nP t) (hm : D 0 0 = nI m) (hm2 : m < 2000) (hw : D 28 p = nI (wtn t D p)) : ∃ σ', Ev false 75 [.inr (.inr (26, d, 0)), .inl (nI (p))] σ none σ' ∧ Cg d s t D 60 200 Z σ' ∧ ∀ x, 21 ≤ x → x ≤ 27 → σ' 36 d 0 (x - 21) = envV t D p x := by
  have hP := hT.P
  have hB := hT.B
  have hR := hT.R
  have hdv : D 0 0 / nI 60 = nI (m / 60) := by rw [hm]; exact div_n rfl rfl ⟨by omega, by omega, by omega⟩
  refine EvQ_wp 69 [] rfl rfl ?_
  refine ⟨p, rfl, (by show _ < 12; omega), ?_⟩
  rw [(hC.c p (by omega)).2]
  refine ⟨0, rfl, (by show _ < 7; omega), _, rfl, ?_⟩
  replace hC : Cg d s t D 60 200 Z (up4 σ 36 d 0 0 (nI (gdn t D p))) := st_nm hC
  refine ⟨_, _, cv_free hC hT rfl hp, 1, rfl, (by show _ < 7; omega), _, rfl, ?_⟩
  replace hC : Cg d s t D 60 200 Z (up4 (up4 σ 36 d 0 0 (nI (gdn t D p))) 36 d 0 1 (fre t D p)) := st_nm hC
  refine ⟨p, rfl, (by show _ < 12; omega), ?_⟩
  rw [(hC.p p (by omega)).1]
  refine ⟨2, rfl, (by show _ < 7; omega), _, rfl, ?_⟩
  replace hC : Cg d s t D 60 200 Z (up4 (up4 (up4 σ 36 d 0 0 (nI (gdn t D p))) 36 d 0 1 (fre t D p)) 36 d 0 2 (D 1 p)) := st_nm hC
  refine ⟨3, rfl, (by show _ < 7; omega), (D 0 0), hC.m.1, ?_⟩
  replace hC : Cg d s t D 60 200 Z (up4 (up4 (up4 (up4 σ 36 d 0 0 (nI (gdn t D p))) 36 d 0 1 (fre t D p)) 36 d 0 2 (D 1 p)) 36 d 0 3 (D 0 0)) := st_nm hC
  refine ⟨_, _, cv_hour hC hm (by omega), 4, rfl, (by show _ < 7; omega), _, rfl, ?_⟩
  replace hC : Cg d s t D 60 200 Z (up4 (up4 (up4 (up4 (up4 σ 36 d 0 0 (nI (gdn t D p))) 36 d 0 1 (fre t D p)) 36 d 0 2 (D 1 p)) 36 d 0 3 (D 0 0)) 36 d 0 4 (nI (m / 60))) := st_nm hC
  refine ⟨5, rfl, (by show _ < 7; omega), _, rfl, ?_⟩
  replace hC : Cg d s t D 60 200 Z (up4 (up4 (up4 (up4 (up4 (up4 σ 36 d 0 0 (nI (gdn t D p))) 36 d 0 1 (fre t D p)) 36 d 0 2 (D 1 p)) 36 d 0 3 (D 0 0)) 36 d 0 4 (nI (m / 60))) 36 d 0 5 (nI (p))) := st_nm hC
  refine ⟨p, rfl, (by show _ < 12; omega), ?_⟩
  rw [hC.w p (by omega)]
  refine ⟨6, rfl, (by show _ < 7; omega), _, rfl, ?_⟩
  replace hC : Cg d s t D 60 200 Z (up4 (up4 (up4 (up4 (up4 (up4 (up4 σ 36 d 0 0 (nI (gdn t D p))) 36 d 0 1 (fre t D p)) 36 d 0 2 (D 1 p)) 36 d 0 3 (D 0 0)) 36 d 0 4 (nI (m / 60))) 36 d 0 5 (nI (p))) 36 d 0 6 (nI (wtx t D 200 p))) := st_nm hC
  exact ⟨rfl, hC, fun x h1 h2 => by
    rcases (show x = 21 ∨ x = 22 ∨ x = 23 ∨ x = 24 ∨ x = 25 ∨ x = 26 ∨ x = 27 by omega) with rfl | rfl | rfl | rfl | rfl | rfl | rfl
    · simp [up4, envV]
    · simp [up4, envV]
    · simp [up4, envV]
    · simp [up4, envV]
    · simp [up4, envV, hdv]
    · simp [up4, envV]
    · simp [up4, envV, hw, wtx_n t D p hR]⟩
theorem cv_shop {d : Bool} {s t : Sg} {D : Dy} {Z : Zt} {σ : Sg} (hC : Cg d s t D 60 200 Z σ) (hT : WN t) {b p : Nat} (hb : b < nB t) (hp : p < nP t) (h11 : D 11 b = nI 0) (h12 : D 12 b = nI p) (h7 : Is (D 0 7) 4000) : ∃ σ', Ev false 131 [.inr (.inr (26, d, 0)), .inl (nI (b))] σ none σ' ∧ Cg d s t (fix t D p b) 60 200 Z σ' := by
  have hP := hT.P
  have hB := hT.B
  have hR := hT.R
  refine EvQ_wp 54 [] rfl rfl ?_
  refine ⟨_, _, cv_isBike (hC.c1_1.trans hT.2.1.1) (by omega), ?_⟩
  refine brd_ne (fun h4 => ?_) (fun h4 => ?_)
  · obtain ⟨σ1, ev1, hC, e12⟩ := cv_lift hC hT (b := b) (p := p) (q := 3) rfl hb rfl hp h11 h12 (by decide) (by decide)
    refine ⟨_, _, ev1, b, rfl, (by show _ < 60; omega), ((D 0 0) + (t 69 false 0 16)), (congr (congrArg HAdd.hAdd (hC.m.1.trans (up2_n (by omega)))) hC.c1_3), ?_⟩
    replace hC : Cg d s t (up2 (up2 D 11 b (nI 3)) 15 b (D 0 0 + t 69 false 0 16)) 60 200 Z (up4 σ1 33 d 0 b ((D 0 0) + (t 69 false 0 16))) := st_rdy hC (fun _ => by rw [up2_s, if_neg (by decide), up2_n (by omega)]; exact e12) (fun c _ q => q)
    refine ⟨1, rfl, (by show _ < 4; omega), (show 1 < 4 by omega), b, rfl, (by show _ < 60; omega), ?_⟩
    rw [hC.b1 b (by omega) ⟨by omega, by rw [up2_n (by omega), up2_s]; decide⟩]
    obtain ⟨σ2, ev2, hC⟩ := cv_add hC (v0 := (nI (7))) (v2 := ((up2 (up2 D 11 b (nI 3)) 15 b (D 0 0 + t 69 false 0 16)) 12 b)) (v3 := (-1)) (v4 := (nI (b))) (by (repeat rw [up2_n (by omega)]); exact h7) hC.m.1
    refine ⟨_, _, ev2, ?_⟩
    rw [up2_n (show ¬ (12 = 15 ∧ b = b) by omega), up2_n (show ¬ (12 = 11 ∧ b = b) by omega), h12] at hC
    exact ⟨rfl, hC⟩
  · exact absurd (show isBk t (nI b) from ⟨b, rfl, hb⟩) h4
theorem cv_shop0 {d : Bool} {s t : Sg} {D : Dy} {Z : Zt} {σ : Sg} (hC : Cg d s t D 60 200 Z σ) (hT : WN t) : Ev false 131 [.inr (.inr (26, d, 0)), .inl ((-1))] σ none σ := by
  have hP := hT.P
  have hB := hT.B
  have hR := hT.R
  refine Ev_wp 26 [] rfl rfl ?_
  refine ⟨_, _, cv_isBike (hC.c1_1.trans hT.2.1.1) (by omega), ?_⟩
  refine brd_ne (fun h4 => ?_) (fun h4 => ?_)
  · exact absurd (show ∃ c, (-1 : Int32) = nI c ∧ c < nB t from h4) (fun ⟨c, e, hc⟩ => nI_m1 (by omega) e.symm)
  · exact ⟨rfl, rfl⟩
