/-! The class's minute: rides that end, bikes that are mended. -/
theorem cv_endRide {d : Bool} {s t : Sg} {D : Dy} {Z : Zt} {σ : Sg} (hC : Cg d s t D 60 200 Z σ) (hT : WN t) (hO : OI t D) {x : Int32} {r b p : Nat} (hx : x = nI r) (hr : r < nR t) (hb : b < nB t) (hp : p < nP t) (h7 : Is (D 0 7) 4000) (h16 : D 16 r = nI 2) (h11 : D 11 b = nI 1) (h17 : D 17 r = nI b) (h12 : D 12 b = nI p) : ∃ σ', Ev false 175 [.inr (.inr (26, d, 0)), .inl x] σ none σ' ∧ Cg d s t (rid t D r b p) 60 200 Z σ' := by
  subst hx
  have hP := hT.P
  have hB := hT.B
  have hR := hT.R
  refine EvQ_wp 75 [] rfl rfl ?_
  cases hnr : nrs t D p (nP t) with
  | none =>
    refine ⟨1, rfl, (by show _ < 6; omega), (show 1 < 6 by omega), r, rfl, (by show _ < 200; omega), ?_⟩
    rw [hC.r1 r (by omega)]
    refine ⟨nI (b), h17, _, _, cv_isBike (hC.c1_1.trans hT.2.1.1) (by omega), ?_⟩
    refine brd_eq (fun h11x => ?_) (fun h11x => ?_)
    · exact absurd (show isBk t (nI b) from ⟨b, rfl, hb⟩) h11x
    · refine ⟨1, rfl, (by show _ < 4; omega), (show 1 < 4 by omega), b, rfl, (by show _ < 60; omega), ?_⟩
      rw [hC.b1 b (by omega) ⟨by omega, by rw [h11]; decide⟩]
      refine ⟨nI (p), h12, _, _, cv_isPost (hC.c1_0.trans hT.1.1) (by omega), ?_⟩
      refine brd_ne (fun h25 => ?_) (fun h25 => ?_)
      · refine ⟨_, _, cv_takes hC hT rfl hp (hO p hp), ?_⟩
        refine brd_eq (fun h30 => ?_) (fun h30 => ?_)
        · have hn0 := cv_near hC hT hO (x := nI p) rfl hp
          rw [hnr] at hn0
          refine ⟨_, _, hn0, _, rfl, ?_⟩
          refine ⟨fun h48 => ?_, fun h48 => ?_⟩
          · exact absurd rfl h48
          · refine ⟨r, rfl, (by show _ < 200; omega), ((D 0 0) + (nI (1))), (congr (congrArg HAdd.hAdd hC.m.1) rfl), ?_⟩
            replace hC : Cg d s t (up2 D 22 r (((D 0 0) + (nI (1))))) 60 200 Z (up4 σ 35 d 0 r ((D 0 0) + (nI (1)))) := st_end hC
            refine ⟨fun h60 => ?_, fun h60 => ?_⟩
            · exact ⟨rfl, by unfold rid ridB; rw [if_neg h30, hnr]; exact hC⟩
            · exact absurd rfl h60
        · obtain ⟨σ1, ev1, hC⟩ := cv_leave hC hT rfl hr rfl hb rfl hp h7 h16 h11
          refine ⟨_, _, ev1, ?_⟩
          exact ⟨rfl, by unfold rid; rw [if_pos h30]; exact hC⟩
      · exact absurd (show isPo t (nI p) from ⟨p, rfl, hp⟩) h25
  | some m =>
    have hm := (nrs_lt t D p _ m hnr).1
    refine ⟨1, rfl, (by show _ < 6; omega), (show 1 < 6 by omega), r, rfl, (by show _ < 200; omega), ?_⟩
    rw [hC.r1 r (by omega)]
    refine ⟨nI (b), h17, _, _, cv_isBike (hC.c1_1.trans hT.2.1.1) (by omega), ?_⟩
    refine brd_eq (fun h11x => ?_) (fun h11x => ?_)
    · exact absurd (show isBk t (nI b) from ⟨b, rfl, hb⟩) h11x
    · refine ⟨1, rfl, (by show _ < 4; omega), (show 1 < 4 by omega), b, rfl, (by show _ < 60; omega), ?_⟩
      rw [hC.b1 b (by omega) ⟨by omega, by rw [h11]; decide⟩]
      refine ⟨nI (p), h12, _, _, cv_isPost (hC.c1_0.trans hT.1.1) (by omega), ?_⟩
      refine brd_ne (fun h25 => ?_) (fun h25 => ?_)
      · refine ⟨_, _, cv_takes hC hT rfl hp (hO p hp), ?_⟩
        refine brd_eq (fun h30 => ?_) (fun h30 => ?_)
        · have hn0 := cv_near hC hT hO (x := nI p) rfl hp
          rw [hnr] at hn0
          refine ⟨_, _, hn0, _, rfl, ?_⟩
          refine ⟨fun h48 => ?_, fun h48 => ?_⟩
          · refine ⟨_, _, cv_way hC hT rfl (by omega) rfl (by omega), r, rfl, (by show _ < 200; omega), ((D 0 0) + (way t p m)), (congr (congrArg HAdd.hAdd hC.m.1) rfl), ?_⟩
            replace hC : Cg d s t (up2 D 22 r (((D 0 0) + (way t p m)))) 60 200 Z (up4 σ 35 d 0 r ((D 0 0) + (way t p m))) := st_end hC
            refine ⟨fun h60 => ?_, fun h60 => ?_⟩
            · exact absurd h60 (nI_m1 (by omega))
            · refine ⟨1, rfl, (by show _ < 4; omega), (show 1 < 4 by omega), b, rfl, (by show _ < 60; omega), _, rfl, ?_⟩
              replace hC : Cg d s t (up2 (up2 D 22 r (((D 0 0) + (way t p m)))) 23 r (nI m)) 60 200 Z (up4 σ 35 d 0 r ((D 0 0) + (way t p m))) := st_D hC (fun f i q => up2_n (by omega))
              replace hC : Cg d s t (up2 (up2 (up2 D 22 r (((D 0 0) + (way t p m)))) 23 r (nI m)) 12 b (nI m)) 60 200 Z (up4 (up4 σ 35 d 0 r ((D 0 0) + (way t p m))) 32 d ((1) + 1) b (nI (m))) := st_pos hC (by (repeat rw [up2_n (by omega)]); rw [h11]; decide) (by (repeat rw [up2_n (by omega)]); rw [h11]; decide) (fun q => absurd q (by (repeat rw [up2_n (by omega)]); rw [h11]; decide)) (fun c hc _ => by omega)
              exact ⟨rfl, by unfold rid ridB; rw [if_neg h30, hnr]; exact hC⟩
          · exact absurd h48 (nI_m1 (by omega))
        · obtain ⟨σ1, ev1, hC⟩ := cv_leave hC hT rfl hr rfl hb rfl hp h7 h16 h11
          refine ⟨_, _, ev1, ?_⟩
          exact ⟨rfl, by unfold rid; rw [if_pos h30]; exact hC⟩
      · exact absurd (show isPo t (nI p) from ⟨p, rfl, hp⟩) h25
theorem cv_endRides_l {d : Bool} {s t : Sg} {D : Dy} {Z : Zt} (hT : WN t) (hW : WI t D) (hO : OI t D) : ∀ (k j : Nat) (σ : Sg), j + k = nR t → Cg d s t (fr (gr t) j D) 60 200 Z σ → G false 194 (fun r' s' => r' = none ∧ Cg d s t (fr (gr t) (nR t) D) 60 200 Z s') 2 [some (.inr (.inr (26, d, 0))), some (.inl (nI j))] [] σ := by
  have hP := hT.P
  have hB := hT.B
  have hR := hT.R
  intro k
  induction k with
  | zero =>
    intro j σ hj hC
    refine G_wp 200 [2] rfl ?_
    refine br_ge rfl (hC.c1_2.trans hT.eR) (by omega) (by omega) (fun h6 => ?_) (fun h6 => ?_)
    · exact ⟨rfl, by rw [show nR t = j by omega]; exact hC⟩
    · exact absurd h6 (by omega)
  | succ k ih =>
    intro j σ hj hC
    obtain ⟨X, hX⟩ : ∃ X, X = fr (gr t) j D := ⟨_, rfl⟩
    rw [← hX] at hC
    have hWX : WI t X := by rw [hX]; exact fr_I (P := WI t) (fun n E hn hE => gr_WI hT hE hn) hW j (by omega)
    have hOX : OI t X := by rw [hX]; exact OI_of hO (fun i => fr_e (fun _ _ => gr_o (by omega)) _ _)
    refine G_wp 200 [2] rfl ?_
    refine br_ge rfl (hC.c1_2.trans hT.eR) (by omega) (by omega) (fun h6 => ?_) (fun h6 => ?_)
    · exact absurd h6 (by omega)
    · refine ⟨0, rfl, (by show _ < 6; omega), (show 0 < 6 by omega), j, rfl, (by show _ < 200; omega), ?_⟩
      rw [hC.r0 j (by omega)]
      refine ⟨fun h14 => ?_, fun h14 => ?_⟩
      · refine ⟨nI (j + 1), nI_add _ _, ?_⟩
        refine ih (j + 1) _ (by omega) ?_
        rw [fr_S, ← hX]
        unfold gr
        rw [if_neg (fun q => h14 q.1)]
        exact st_D hC (fun f i q => gw_o (by omega))
      · refine ⟨j, rfl, (by show _ < 200; omega), ?_⟩
        rw [(hC.r j (by omega)).2 (by omega) h14]
        refine ⟨fun h21 => ?_, fun h21 => ?_⟩
        · rw [hC.m.1] at h21
          refine ⟨nI (j + 1), nI_add _ _, ?_⟩
          refine ih (j + 1) _ (by omega) ?_
          rw [fr_S, ← hX]
          unfold gr
          rw [if_neg (fun q => h21 q.2)]
          exact st_D hC (fun f i q => gw_o (by omega))
        · rw [hC.m.1] at h21
          obtain ⟨b, p, hb, hp, h17, h11, h23, h12⟩ := (hWX.2.2.1 j (by omega)).2 h14
          replace hC : Cg d s t (gw t j X) 60 200 Z σ := st_D hC (fun f i q => gw_o (by omega))
          obtain ⟨σ1, ev1, hC⟩ := cv_endRide hC hT (OI_of hOX (fun i => gw_o (by omega))) (x := nI j) rfl (by omega) hb hp (by rw [gw_o (by omega)]; exact hWX.1.2.1) (by rw [gw_o (by omega)]; exact h14) (by rw [gw_o (by omega)]; exact h11) (by rw [gw_o (by omega)]; exact h17) (by rw [gw_o (by omega)]; exact h12)
          refine ⟨_, _, ev1, nI (j + 1), nI_add _ _, ?_⟩
          refine ih (j + 1) _ (by omega) ?_
          rw [fr_S, ← hX]
          unfold gr
          rw [if_pos ⟨h14, h21⟩, h17, h23, nN_nI (by omega), nN_nI (by omega)]
          exact hC
theorem cv_endRides {d : Bool} {s t : Sg} {D : Dy} {Z : Zt} {σ : Sg} (hC : Cg d s t D 60 200 Z σ) (hT : WN t) (hW : WI t D) (hO : OI t D) : ∃ σ', Ev false 194 [.inr (.inr (26, d, 0))] σ none σ' ∧ Cg d s t (fr (gr t) (nR t) D) 60 200 Z σ' := by
  have hP := hT.P
  have hB := hT.B
  have hR := hT.R
  refine EvQ_wp 22 [2] rfl rfl ?_
  refine ⟨_, rfl, ?_⟩
  exact cv_endRides_l hT hW hO (nR t) 0 σ (by omega) hC
theorem cv_mendBikes_l {d : Bool} {s t : Sg} {D : Dy} {Z : Zt} (hT : WN t) (hW : WI t D) : ∀ (k j : Nat) (σ : Sg) (o0 : Option AV), j + k = nB t → Cg d s t (fr (mnd t) j D) 60 200 Z σ → G false 74 (fun r' s' => r' = none ∧ Cg d s t (fr (mnd t) (nB t) D) 60 200 Z s') 2 [some (.inr (.inr (26, d, 0))), some (.inl (nI j)), o0] [] σ := by
  have hP := hT.P
  have hB := hT.B
  have hR := hT.R
  intro k
  induction k with
  | zero =>
    intro j σ o0 hj hC
    refine G_wp 200 [2] rfl ?_
    refine br_ge rfl (hC.c1_1.trans hT.eB) (by omega) (by omega) (fun h6 => ?_) (fun h6 => ?_)
    · exact ⟨rfl, by rw [show nB t = j by omega]; exact hC⟩
    · exact absurd h6 (by omega)
  | succ k ih =>
    intro j σ o0 hj hC
    obtain ⟨X, hX⟩ : ∃ X, X = fr (mnd t) j D := ⟨_, rfl⟩
    rw [← hX] at hC
    have hWX : WI t X := by rw [hX]; exact fr_I (P := WI t) (fun n E hn hE => mnd_WI hT hE hn) hW j (by omega)
    obtain ⟨p, hp, h12⟩ := (hWX.2.1 j (by omega)).2
    refine G_wp 200 [2] rfl ?_
    refine br_ge rfl (hC.c1_1.trans hT.eB) (by omega) (by omega) (fun h6 => ?_) (fun h6 => ?_)
    · exact absurd h6 (by omega)
    · refine ⟨0, rfl, (by show _ < 4; omega), (show 0 < 4 by omega), j, rfl, (by show _ < 60; omega), ?_⟩
      rw [hC.b0 j (by omega)]
      refine ⟨fun h14 => ?_, fun h14 => ?_⟩
      · refine ⟨nI (j + 1), nI_add _ _, ?_⟩
        refine ih (j + 1) _ _ (by omega) ?_
        rw [fr_S, ← hX]
        unfold mnd
        rw [if_neg (fun q => h14 q.1)]
        exact hC
      · refine ⟨j, rfl, (by show _ < 60; omega), ?_⟩
        rw [hC.b33 j (by omega) (by omega) h14]
        refine ⟨fun h21 => ?_, fun h21 => ?_⟩
        · rw [hC.m.1] at h21
          refine ⟨1, rfl, (by show _ < 4; omega), (show 1 < 4 by omega), j, rfl, (by show _ < 60; omega), ?_⟩
          rw [hC.b1 j (by omega) ⟨by omega, by rw [h14]; decide⟩]
          refine ⟨nI (p), h12, _, _, cv_isPost (hC.c1_0.trans hT.1.1) (by omega), ?_⟩
          refine brd_eq (fun h34 => ?_) (fun h34 => ?_)
          · exact absurd (show isPo t (nI p) from ⟨p, rfl, hp⟩) h34
          · refine ⟨_, _, cv_free hC hT rfl hp, ?_⟩
            refine ⟨fun h38 => ?_, fun h38 => ?_⟩
            · refine ⟨2, rfl, (by show _ < 4; omega), (show 2 < 4 by omega), j, rfl, (by show _ < 60; omega), _, rfl, ?_⟩
              replace hC : Cg d s t (up2 X 13 j (nI (0))) 60 200 Z (up4 σ 32 d ((2) + 1) j (nI (0))) := st_wear hC
              refine ⟨3, rfl, (by show _ < 4; omega), (show 3 < 4 by omega), j, rfl, (by show _ < 60; omega), _, rfl, ?_⟩
              replace hC : Cg d s t (up2 (up2 X 13 j (nI (0))) 14 j (nI 0)) 60 200 Z (up4 (up4 σ 32 d ((2) + 1) j (nI (0))) 32 d ((3) + 1) j (nI (0))) := st_fty hC (by rw [up2_n (by omega), h14]; decide)
              obtain ⟨σ1, ev1, hC⟩ := cv_settle hC hT (b := j) (p := p) rfl (by omega) rfl hp (by (repeat rw [up2_n (by omega)]); rw [h14]; decide) (fun c hc q => by omega)
              refine ⟨_, _, ev1, ?_⟩
              obtain ⟨σ2, ev2, hC⟩ := cv_add hC (v0 := (nI (8))) (v2 := (nI (p))) (v3 := (-1)) (v4 := (nI (j))) (by (repeat rw [up2_n (by omega)]); exact hWX.1.2.1) hC.m.1
              refine ⟨_, _, ev2, nI (j + 1), nI_add _ _, ?_⟩
              refine ih (j + 1) _ _ (by omega) ?_
              rw [fr_S, ← hX]
              unfold mnd
              have e : (up2 (up2 (up2 X 11 j (nI 0)) 13 j (nI 0)) 14 j (nI 0)) = (up2 (up2 (up2 (up2 X 13 j (nI 0)) 14 j (nI 0)) 11 j (nI 0)) 12 j (nI p)) := by
                funext g i
                rcases (show g = 11 ∨ g = 12 ∨ g = 13 ∨ g = 14 ∨ (¬ g = 11 ∧ ¬ g = 12 ∧ ¬ g = 13 ∧ ¬ g = 14) by omega) with rfl | rfl | rfl | rfl | hg
                · by_cases e : i = j <;> simp [up2, e, h12]
                · by_cases e : i = j <;> simp [up2, e, h12]
                · by_cases e : i = j <;> simp [up2, e, h12]
                · by_cases e : i = j <;> simp [up2, e, h12]
                · simp [up2, hg]
              rw [if_pos ⟨h14, h21, by rw [h12, nN_nI (by omega)]; exact h38⟩, e, h12]
              exact hC
            · refine ⟨nI (j + 1), nI_add _ _, ?_⟩
              refine ih (j + 1) _ _ (by omega) ?_
              rw [fr_S, ← hX]
              unfold mnd
              rw [if_neg (fun q => absurd (by have := q.2.2; rw [h12, nN_nI (by omega)] at this; exact this) h38)]
              exact hC
        · rw [hC.m.1] at h21
          refine ⟨nI (j + 1), nI_add _ _, ?_⟩
          refine ih (j + 1) _ _ (by omega) ?_
          rw [fr_S, ← hX]
          unfold mnd
          rw [if_neg (fun q => h21 q.2.1)]
          exact hC
theorem cv_mendBikes {d : Bool} {s t : Sg} {D : Dy} {Z : Zt} {σ : Sg} (hC : Cg d s t D 60 200 Z σ) (hT : WN t) (hW : WI t D) : ∃ σ', Ev false 74 [.inr (.inr (26, d, 0))] σ none σ' ∧ Cg d s t (fr (mnd t) (nB t) D) 60 200 Z σ' := by
  have hP := hT.P
  have hB := hT.B
  have hR := hT.R
  refine EvQ_wp 22 [2] rfl rfl ?_
  refine ⟨_, rfl, ?_⟩
  exact cv_mendBikes_l hT hW (nB t) 0 σ none (by omega) hC
