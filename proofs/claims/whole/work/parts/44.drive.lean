/-! The class's van drives. -/
theorem up2_id {D : Dy} {f i : Nat} {v : Int32} (h : D f i = v) : up2 D f i v = D := by
  funext g j
  unfold up2
  split
  next q => rw [q.1, q.2, h]
  next => rfl
theorem ng_le {m : Nat} (h : m < 2147483648) : -(nI m) ≤ nI 0 := by
  rw [Int32.le_iff_toInt_le, nI_neg h, nI_toInt (by omega)]
  omega
theorem cv_dsA_l {d : Bool} {s t : Sg} {D : Dy} {er : Nat} {Z : Zt} (hT : WN t) {p m : Nat} (hp : p < nP t) (hm : m ≤ 12) (hV : VI t D) : ∀ (k j : Nat) (σ : Sg), j + k = m → Cg d s t (itr (tk1 t p) j D) 60 er Z σ → G false 177 (fun r' s' => r' = none ∧ Cg d s t (itr (tk1 t p) m D) 60 er Z s') 2 [some (.inr (.inr (26, d, 0))), some (.inl (nI p)), some (.inl (nI m)), some (.inl (nI j))] [] σ := by
  have hP := hT.P
  have hB := hT.B
  intro k
  induction k with
  | zero =>
    intro j σ hj hC
    refine G_wp 60 [2] rfl ?_
    refine br_ge rfl rfl (by omega) (by omega) (fun h4 => ?_) (fun h4 => ?_)
    · refine ⟨_, rfl, ?_⟩
      refine ⟨fun h15 => ?_, fun h15 => ?_⟩
      · exact ⟨rfl, by rw [show m = j by omega]; exact hC⟩
      · exact absurd (ng_le (by omega)) h15
    · exact absurd h4 (by omega)
  | succ k ih =>
    intro j σ hj hC
    refine G_wp 60 [2] rfl ?_
    refine br_ge rfl rfl (by omega) (by omega) (fun h4 => ?_) (fun h4 => ?_)
    · exact absurd h4 (by omega)
    · obtain ⟨σ1, ev1, hC⟩ := cv_vt hC hT (x := nI p) rfl hp (itr_I (P := VI t) (fun _ => tk1_VI) j hV).1 (itr_I (P := VI t) (fun _ => tk1_VI) j hV).2.1
      refine ⟨_, _, ev1, nI (j + 1), nI_add _ _, ?_⟩
      exact ih (j + 1) _ (by omega) hC
theorem cv_dsB_l {d : Bool} {s t : Sg} {D : Dy} {er : Nat} {Z : Zt} (hT : WN t) {p m : Nat} (hp : p < nP t) (hm : m ≤ 12) (hV : VI t D) (hJ : JI t D) {y : Int32} (hy : -y = nI m) : ∀ (k j : Nat) (σ : Sg), j + k = m → Cg d s t (itr (lv1 t p) j D) 60 er Z σ → G false 177 (fun r' s' => r' = none ∧ Cg d s t (itr (lv1 t p) m D) 60 er Z s') 12 [some (.inr (.inr (26, d, 0))), some (.inl (nI p)), some (.inl (y)), some (.inl (nI j))] [] σ := by
  have hP := hT.P
  have hB := hT.B
  intro k
  induction k with
  | zero =>
    intro j σ hj hC
    refine G_wp 60 [12] rfl ?_
    refine br_ge rfl hy (by omega) (by omega) (fun h15 => ?_) (fun h15 => ?_)
    · exact ⟨rfl, by rw [show m = j by omega]; exact hC⟩
    · exact absurd h15 (by omega)
  | succ k ih =>
    intro j σ hj hC
    refine G_wp 60 [12] rfl ?_
    refine br_ge rfl hy (by omega) (by omega) (fun h15 => ?_) (fun h15 => ?_)
    · exact absurd h15 (by omega)
    · have hI := itr_I (P := fun E => VI t E ∧ JI t E) (fun E h => ⟨lv1_VI h.1, lv1_JI hT hp h.1.1 h.2⟩) j ⟨hV, hJ⟩
      obtain ⟨σ1, ev1, hC⟩ := cv_vl hC hT (x := nI p) rfl hp hI.1.1 hI.1.2.1 hI.2.2.2.2
      refine ⟨_, _, ev1, nI (j + 1), nI_add _ _, ?_⟩
      exact ih (j + 1) _ (by omega) hC
theorem cv_dsA {d : Bool} {s t : Sg} {D : Dy} {er : Nat} {Z : Zt} {σ : Sg} (hC : Cg d s t D 60 er Z σ) (hT : WN t) {x y : Int32} {p m : Nat} (hx : x = nI p) (hp : p < nP t) (hy : y = nI m) (hm : m ≤ 12) (hV : VI t D) : ∃ σ', Ev false 177 [.inr (.inr (26, d, 0)), .inl (x), .inl (y)] σ none σ' ∧ Cg d s t (itr (tk1 t p) m D) 60 er Z σ' := by
  subst hx
  subst hy
  refine EvQ_wp 22 [2] rfl rfl ?_
  refine ⟨_, rfl, ?_⟩
  exact cv_dsA_l hT hp hm hV m 0 σ (by omega) hC
theorem cv_dsB {d : Bool} {s t : Sg} {D : Dy} {er : Nat} {Z : Zt} {σ : Sg} (hC : Cg d s t D 60 er Z σ) (hT : WN t) {x y : Int32} {p m : Nat} (hx : x = nI p) (hp : p < nP t) (hy : -y = nI m) (hle : y ≤ nI 0) (hm : m ≤ 12) (hV : VI t D) (hJ : JI t D) : ∃ σ', Ev false 177 [.inr (.inr (26, d, 0)), .inl (x), .inl (y)] σ none σ' ∧ Cg d s t (itr (lv1 t p) m D) 60 er Z σ' := by
  subst hx
  refine EvQ_wp 27 [12] rfl rfl ?_
  refine ⟨_, rfl, ?_⟩
  refine ⟨fun h4 => ?_, fun h4 => ?_⟩
  · refine ⟨_, rfl, ?_⟩
    exact cv_dsB_l hT hp hm hV hJ hy m 0 σ (by omega) hC
  · exact absurd hle h4
theorem cv_stp {d : Bool} {s t : Sg} {X : Dy} {er : Nat} {Z : Zt} {σ : Sg} (hC : Cg d s t X 60 er Z σ) (hT : WN t) (hW : WI t X) (h1 : 1 ≤ nN (X 0 6)) {x y : Int32} {p : Nat} (hx : x = nI p) (hp : p < nP t) (h2 : X 0 2 = nI p) (h25 : X 25 0 = nI p) (hy : y = X 26 0) : ∃ E σ', Ev false 177 [.inr (.inr (26, d, 0)), .inl x, .inl y] σ none σ' ∧ Cg d s t E 60 er Z σ' ∧ stp t X = drp E ∧ Is (E 0 6) 20 ∧ 1 ≤ nN (E 0 6) := by
  have hP := hT.P
  obtain ⟨m, hm, e⟩ := (hW.1.2.2.2.1 0 (by omega)).2
  unfold stp
  rw [h25, nN_nI (by omega)]
  by_cases q : X 26 0 < nI 0
  · rw [if_pos q]
    have e2 : -(X 26 0) = nI m := by
      rcases e with e | e
      · rw [e, Int32.lt_iff_toInt_lt, nI_toInt (by omega), nI_toInt (by omega)] at q
        omega
      · rw [e, Int32.neg_neg]
    obtain ⟨σ1, ev1, hC1⟩ := cv_dsB (y := y) hC hT hx hp (by rw [hy]; exact e2) (by rw [hy]; exact Int32.not_lt.mp (fun z => absurd (Int32.lt_iff_toInt_lt.mp z) (by have := Int32.lt_iff_toInt_lt.mp q; omega))) hm hW.1 hW.2
    refine ⟨_, σ1, ev1, hC1, by unfold stpB; rw [up2_id h2, e2, nN_nI (by omega)], ?_, ?_⟩
    · rw [show itr (lv1 t p) m X 0 6 = X 0 6 from itr_I (P := fun E => E 0 6 = X 0 6) (fun E h => (lv1_6 E).trans h) m rfl]
      exact hW.1.2.2.1
    · rw [show itr (lv1 t p) m X 0 6 = X 0 6 from itr_I (P := fun E => E 0 6 = X 0 6) (fun E h => (lv1_6 E).trans h) m rfl]
      exact h1
  · rw [if_neg q]
    have e2 : ∃ m2, m2 ≤ 12 ∧ X 26 0 = nI m2 := by
      rcases e with e | e
      · exact ⟨m, hm, e⟩
      · refine ⟨0, by omega, ?_⟩
        rw [e, Int32.lt_iff_toInt_lt, nI_neg (by omega), nI_toInt (by omega)] at q
        have : m = 0 := by omega
        subst this
        rw [e]
        rfl
    obtain ⟨m2, hm2, e3⟩ := e2
    obtain ⟨σ1, ev1, hC1⟩ := cv_dsA (y := y) hC hT hx hp (by rw [hy]; exact e3) hm2 hW.1
    refine ⟨_, σ1, ev1, hC1, by unfold stpA; rw [up2_id h2, e3, nN_nI (by omega)], ?_, ?_⟩
    · rw [show itr (tk1 t p) m2 X 0 6 = X 0 6 from itr_I (P := fun E => E 0 6 = X 0 6) (fun E h => (tk1_6 E).trans h) m2 rfl]
      exact hW.1.2.2.1
    · rw [show itr (tk1 t p) m2 X 0 6 = X 0 6 from itr_I (P := fun E => E 0 6 = X 0 6) (fun E h => (tk1_6 E).trans h) m2 rfl]
      exact h1
theorem cv_dv_l {d : Bool} {s t : Sg} {er : Nat} {Z : Zt} (hT : WN t) : ∀ (n : Nat) (X : Dy) (σ : Sg) (i : Nat), X 0 6 = nI n → i + n ≤ 20 → WI t X → X 0 5 = -1 → Cg d s t X 60 er Z σ → G false 196 (fun r' s' => r' = none ∧ Cg d s t (drv t n X) 60 er Z s') 30 [some (.inr (.inr (26, d, 0))), some (.inl (nI i))] [] σ := by
  have hP := hT.P
  have hB := hT.B
  intro n
  induction n with
  | zero =>
    intro X σ i hn hi hWX h5 hC
    refine G_wp 100 [30] rfl ?_
    refine br_ge rfl rfl (by omega) (by omega) (fun h32 => ?_) (fun h32 => ?_)
    · refine br_le (hC.v.2.2.1.trans hn) rfl (by omega) (by omega) (fun h64 => ?_) (fun h64 => ?_)
      · exact ⟨rfl, hC⟩
      · exact absurd h64 (by omega)
    · refine br_le (hC.v.2.2.1.trans hn) rfl (by omega) (by omega) (fun h36 => ?_) (fun h36 => ?_)
      · refine br_le (hC.v.2.2.1.trans hn) rfl (by omega) (by omega) (fun h64 => ?_) (fun h64 => ?_)
        · exact ⟨rfl, hC⟩
        · exact absurd h64 (by omega)
      · exact absurd h36 (by omega)
  | succ n ih =>
    intro X σ i hn hi hWX h5 hC
    obtain ⟨a, ha0, ha⟩ := hWX.1.2.2.2.2.2
    have hn1 : 0 < nN (X 0 6) := by rw [hn, nN_nI (by omega)]; omega
    obtain ⟨b, hbp, hb⟩ := (hWX.1.2.2.2.1 0 hn1).1
    refine G_wp 100 [30] rfl ?_
    refine br_ge rfl rfl (by omega) (by omega) (fun h32 => ?_) (fun h32 => ?_)
    · exact absurd h32 (by omega)
    · refine br_le (hC.v.2.2.1.trans hn) rfl (by omega) (by omega) (fun h36 => ?_) (fun h36 => ?_)
      · exact absurd h36 (by omega)
      · refine ⟨0, rfl, (by show _ < 20; omega), ?_⟩
        rw [(hC.v.2.2.2.2.2 0 (by omega)).1]
        refine br_ne hb (hC.v.1.trans ha) (by omega) (by omega) (fun h45 => ?_) (fun h45 => ?_)
        · refine br_le (hC.v.2.2.1.trans hn) rfl (by omega) (by omega) (fun h64 => ?_) (fun h64 => ?_)
          · exact absurd h64 (by omega)
          · refine ⟨0, rfl, (by show _ < 20; omega), ?_⟩
            rw [(hC.v.2.2.2.2.2 0 (by omega)).1]
            refine ⟨_, _, cv_way hC hT (p := a) (q := b) (hC.v.1.trans ha) (by omega) hb (by omega), ((X 0 0) + (way t a b)), (congr (congrArg HAdd.hAdd hC.m.1) rfl), ?_⟩
            replace hC : Cg d s t (up2 X 0 5 (((X 0 0) + (way t a b)))) 60 er Z (up4 σ 44 d 0 3 ((X 0 0) + (way t a b))) := st_vco hC
            refine ⟨rfl, ?_⟩
            rw [drv_S, if_pos h5, if_neg (by rw [ha, hb]; exact fun q => h45 (nI_inj q (by omega) (by omega))), ha, hb, nN_nI (by omega), nN_nI (by omega)]
            exact hC
        · refine ⟨0, rfl, (by show _ < 20; omega), ?_⟩
          rw [(hC.v.2.2.2.2.2 0 (by omega)).2]
          have ha2 : X 0 2 = nI b := by rw [ha, h45]
          obtain ⟨E, σ1, ev1, hC, eE, hE6, hE1⟩ := cv_stp hC hT hWX (by rw [hn, nN_nI (by omega)]; omega) (p := b) (hC.v.1.trans ha2) hbp ha2 hb rfl
          refine ⟨_, _, ev1, ?_⟩
          obtain ⟨σ3, ev3, hC⟩ := cv_df hC hE6 hE1
          rw [← eE] at hC
          refine ⟨_, _, ev3, nI (i + 1), nI_add _ _, ?_⟩
          rw [drv_S, if_pos h5, if_pos (hb.trans ha2.symm)]
          exact ih (stp t X) _ (i + 1) (by rw [stp_6, hn, nN_nI (by omega)]; rfl) (by omega) (stp_WI hT hWX (by rw [hn, nN_nI (by omega)]; omega)) (by rw [stp_o (by omega)]; exact h5) hC
theorem vco_WI {t : Sg} {D : Dy} {v : Int32} (h : WI t D) : WI t (up2 D 0 5 v) := ⟨VI_of h.1 (fun g i q => up2_n (by omega)) (by rw [up2_n (by omega)]; exact h.1.2.1), JI_same h.2 (fun g i q => up2_n (by omega))⟩
theorem vat_WI {t : Sg} {D : Dy} {p : Nat} (hp : p < nP t) (h : WI t D) : WI t (up2 D 0 2 (nI p)) := ⟨van_VI hp h.1, JI_same h.2 (fun g i q => up2_n (by omega))⟩
theorem stp_at {t : Sg} {D : Dy} {p : Nat} (h25 : D 25 0 = nI p) (hp : p < 12) : stp t (up2 (up2 D 0 2 (nI p)) 0 5 (-1)) = stp t (up2 D 0 5 (-1)) := by
  have e : up2 (up2 (up2 D 0 2 (nI p)) 0 5 (-1)) 0 2 (nI p) = up2 (up2 D 0 5 (-1)) 0 2 (nI p) := by
    funext g i
    by_cases h : g = 0
    · by_cases h2 : i = 2
      · simp [up2, h, h2]
      · simp [up2, h, h2]
    · simp [up2, h]
  unfold stp stpA stpB
  rw [show up2 (up2 D 0 2 (nI p)) 0 5 (-1) 26 0 = D 26 0 by rw [up2_n (by omega), up2_n (by omega)], show up2 (up2 D 0 2 (nI p)) 0 5 (-1) 25 0 = nI p by rw [up2_n (by omega), up2_n (by omega)]; exact h25, show up2 D 0 5 (-1) 26 0 = D 26 0 from up2_n (by omega), show up2 D 0 5 (-1) 25 0 = nI p from (up2_n (by omega)).trans h25, nN_nI (by omega), e]
theorem cv_drive {d : Bool} {s t : Sg} {D : Dy} {er : Nat} {Z : Zt} {σ : Sg} (hC : Cg d s t D 60 er Z σ) (hT : WN t) (hW : WI t D) (h0 : Is (D 0 0) 1439) (hI : CI D) : ∃ σ', Ev false 196 [.inr (.inr (26, d, 0))] σ none σ' ∧ Cg d s t (drs t D) 60 er Z σ' := by
  have hP := hT.P
  have hB := hT.B
  obtain ⟨m, hm0⟩ : ∃ m, nN (D 0 0) = m := ⟨_, rfl⟩
  have hm : D 0 0 = nI m := by rw [← hm0]; exact h0.1
  have hm2 : m ≤ 1439 := by rw [← hm0]; exact h0.2
  have hW6 := hW.1.2.2.1
  have hW62 := hW6.2
  refine EvQ_wp 49 [30] rfl rfl ?_
  rcases hI with h5 | ⟨c, hc, h1, h2, h3⟩
  · have hm1 : (-1 : Int32) ≤ nI m := by
      rw [Int32.le_iff_toInt_le, nI_toInt (by omega)]
      have : ((-1 : Int32)).toInt = -1 := by decide
      omega
    have e : drs t D = drv t (nN (D 0 6)) D := by
      unfold drs
      rw [if_neg (by rw [h5, hm]; exact fun q => nI_m1 (by omega) q.symm)]
    rw [e]
    refine ⟨fun h5x => ?_, fun h5x => ?_⟩
    · rw [(hC.v.2.2.2.1.trans h5)] at h5x
      refine ⟨fun h11 => ?_, fun h11 => ?_⟩
      · rw [(hC.v.2.2.2.1.trans h5)] at h11
        refine ⟨_, rfl, ?_⟩
        replace hC : Cg d s t (up2 D 0 5 (-1)) 60 er Z (up4 σ 44 d 0 3 (-1)) := st_vco hC
        refine ⟨_, rfl, ?_⟩
        rw [up2_id h5] at hC
        exact cv_dv_l hT _ D _ 0 hW6.1 (by omega) hW h5 hC
      · exact absurd (hC.v.2.2.2.1.trans h5) h11
    · exact absurd (by rw [hC.v.2.2.2.1.trans h5, hC.m.1.trans hm]; exact hm1) h5x
  · rw [hm0] at h1
    obtain ⟨n, hn0⟩ : ∃ n, nN (D 0 6) = n + 1 := ⟨nN (D 0 6) - 1, by omega⟩
    have hn : D 0 6 = nI (n + 1) := by rw [← hn0]; exact hW6.1
    by_cases hcm : c = m
    · subst hcm
      obtain ⟨b, hbp, hb⟩ := (hW.1.2.2.2.1 0 (by omega)).1
      have e : drs t D = drv t n (stp t (up2 D 0 5 (-1))) := by
        unfold drs
        rw [if_pos (hc.trans hm.symm)]
        show drv t (nN (stp t (up2 D 0 5 (-1)) 0 6)) _ = _
        rw [stp_6, up2_n (by omega), hn0, nN_nI (by omega)]
        rfl
      rw [e]
      refine br_le (hC.v.2.2.2.1.trans hc) (hC.m.1.trans hm) (by omega) (by omega) (fun h5 => ?_) (fun h5 => ?_)
      · refine ⟨fun h11 => ?_, fun h11 => ?_⟩
        · exact absurd (hC.v.2.2.2.1.symm.trans h11) (by rw [hc]; exact nI_m1 (by omega))
        · refine br_le (hC.v.2.2.1.trans hn) rfl (by omega) (by omega) (fun h15 => ?_) (fun h15 => ?_)
          · exact absurd h15 (by omega)
          · refine ⟨0, rfl, (by show _ < 20; omega), ?_⟩
            rw [(hC.v.2.2.2.2.2 0 (by omega)).1]
            refine ⟨nI (b), hb, ?_⟩
            replace hC : Cg d s t (up2 D 0 2 (nI (b))) 60 er Z (up4 σ 44 d 0 0 (nI (b))) := st_vat hC
            refine ⟨_, rfl, ?_⟩
            replace hC : Cg d s t (up2 (up2 D 0 2 (nI (b))) 0 5 (-1)) 60 er Z (up4 (up4 σ 44 d 0 0 (nI (b))) 44 d 0 3 (-1)) := st_vco hC
            refine ⟨_, rfl, ?_⟩
            have hX := cv_dv_l hT (n + 1) (up2 (up2 D 0 2 (nI b)) 0 5 (-1)) _ 0 (by rw [up2_n (by omega), up2_n (by omega)]; exact hn) (by omega) (vco_WI (vat_WI hbp hW)) (up2_s _ _ _ _) hC
            rw [drv_S, if_pos (up2_s _ _ _ _), if_pos (by rw [up2_n (by omega), up2_n (by omega), up2_n (by omega), up2_s]; exact hb), stp_at hb (by omega)] at hX
            exact hX
      · exact absurd h5 (by omega)
    · have e : drs t D = D := by
        unfold drs
        rw [if_neg (by rw [hc, hm]; exact fun q => hcm (nI_inj q (by omega) (by omega)))]
        show drv t (nN (D 0 6)) D = D
        rw [hn0, drv_S, if_neg (by rw [hc]; exact nI_m1 (by omega))]
      rw [e]
      refine br_le (hC.v.2.2.2.1.trans hc) (hC.m.1.trans hm) (by omega) (by omega) (fun h5 => ?_) (fun h5 => ?_)
      · exact absurd h5 (by omega)
      · exact ⟨rfl, hC⟩
