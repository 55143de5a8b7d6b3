/-! The class passes a minute: gmin. -/
theorem cv_minute {d : Bool} {s t : Sg} {D : Dy} {Z : Zt} {σ : Sg} (hC : Cg d s t D 60 200 Z σ) (hTI : TI t) (hMI : MI t D) (hO : OI t D) (hH : TH s t) (hF : OF s t Z.2.2) (hB : ZB D Z) (hN : N10 D) (hlt : nN (D 0 0) < 1440) : ∃ σ', Ev false 220 [.inr (.inr (26, d, 0))] σ none σ' ∧ ∃ Z', Cg d s t (gmin t D) 60 200 Z' σ' ∧ ZB (gmin t D) Z' ∧ N10 (gmin t D) ∧ OI t (gmin t D) ∧ Z'.2.2 = Z.2.2 := by
  obtain ⟨hT, hWT, hRT, hX, hU⟩ := hTI
  obtain ⟨hW, hI, h00⟩ := hMI
  have hP := hT.P
  have hB2 := hT.B
  have hR := hT.R
  have h0 : Is (D 0 0) 1439 := ⟨h00.1, by omega⟩
  obtain ⟨m, hm0⟩ : ∃ m, nN (D 0 0) = m := ⟨_, rfl⟩
  have hm : D 0 0 = nI m := by rw [← hm0]; exact h00.1
  have hm2 : m < 1440 := by rw [← hm0]; exact hlt
  obtain ⟨hZ0, hS0⟩ := ZI_begin (t := t) (x := nN (g4 t D 0 0) / 60) hP hB hN
  have hN4 : N10 (g4 t D) := fun p y hp hy => by
    rw [g4_e (by omega), gz_o (by omega)]
    exact hN p y hp hy
  have hZ4 : ZI t (g4 t D) (Zf Z 12) (nN (g4 t D 0 0) / 60) := ZI_same hZ0 (fun i => g4_e (by omega)) (fun i => g4_e (by omega))
  have hS4 : S6 t (g4 t D) 0 := fun p hp => by
    obtain ⟨k, hk, e⟩ := hS0 p hp
    exact ⟨k, hk, by rw [g4_e (by omega)]; exact e⟩
  have e5 : g5 t D 0 0 = D 0 0 := (g5_o t D 0 (by omega)).trans (g4_o t D)
  have e6 : g6 t D 0 0 = D 0 0 := (g6_o t D 0).trans e5
  have h6m : g6 t D 0 0 = nI m := e6.trans hm
  refine EvQ_wp 66 [] rfl rfl ?_
  refine br_lt (hC.m.1.trans hm) rfl (by omega) (by omega) (fun h3 => ?_) (fun h3 => ?_)
  · obtain ⟨σ1, ev1, hC⟩ := cv_bm hC
    replace hC : Cg d s t (gz (nP t) D) 60 200 (Zf Z 12) σ1 := st_D hC (fun f i q => gz_o (by omega))
    refine ⟨_, _, ev1, ?_⟩
    obtain ⟨σ2, ev2, hC⟩ := cv_endRides hC hT (gz_WI hW) (OI_of hO (fun i => gz_o (by omega)))
    refine ⟨_, _, ev2, ?_⟩
    obtain ⟨σ3, ev3, hC⟩ := cv_mendBikes hC hT (g1_WI hT hW)
    refine ⟨_, _, ev3, ?_⟩
    obtain ⟨σ4, ev4, hC⟩ := cv_follow (D := g2 t D) hC hT hX hU hH hF (g2_WI hT hW) (m := m) ((g2_o t D 0 (by omega)).trans hm) (by omega) (fun p hp => g2_wait hRT hP hp)
    refine ⟨_, _, ev4, ?_⟩
    obtain ⟨σ5, ev5, hC⟩ := cv_drive (D := g3 t D) hC hT (g3_WI hT hW) (by rw [g3_o t D 0 (by omega)]; exact h0) (CI_of hI (fun i q => g3_o _ _ _ q))
    refine ⟨_, _, ev5, ?_⟩
    obtain ⟨σ6, ev6, Z2, hC, hZ2, hS2, hz2⟩ := cv_looks (D := g4 t D) hC hT hRT (g4_WI hT hWT hW h0 hI).1 (g4_OI hO) (by rw [g4_o, hm0]; exact hm) (by rw [g4_o]; omega) hN4 hZ4 hS4
    refine ⟨_, _, ev6, ?_⟩
    have hB6 : ZB (gmin t D) Z2 := by
      intro p y hp hy
      unfold gmin
      rw [up2_n (by omega)]
      exact ZB_end (t := t) (D := g5 t D) hP (by rw [e5]; omega) (by rw [e5, ← g4_o t D]; exact hZ2) p y hp hy
    have hN6 : N10 (gmin t D) := by
      intro p y hp hy
      unfold gmin
      rw [up2_n (by omega)]
      exact N10_end (t := t) (D := g5 t D) (by rw [e5]; omega) hR hS2 (fun p y hp hy => by rw [show g5 t D 10 (24 * p + y) = g4 t D 10 (24 * p + y) from fr_e (fun _ _ => gc_o (by omega)) _ _]; exact hN4 p y hp hy) p y hp hy
    have hO6 : OI t (gmin t D) := OI_of (g4_OI hO) (fun i => (up2_n (by omega)).trans ((fr_e (fun _ _ => ge_o (by omega)) _ _).trans (fr_e (fun _ _ => gc_o (by omega)) _ _)))
    obtain ⟨σ7, ev7, hC⟩ := cv_empty (D := g5 t D) hC hT (by rw [e5, hm0]; exact hm) (by rw [e5]; omega)
    refine ⟨_, _, ev7, nI (m + 1), (add_n (hC.m.1.trans h6m) rfl), ?_⟩
    replace hC : Cg d s t (up2 (g6 t D) 0 0 (nI (m + 1))) 60 200 Z2 (up4 σ7 26 d 0 4 (nI (m + 1))) := st_min hC
    exact ⟨rfl, Z2, by unfold gmin; rw [hm0]; exact hC, hB6, hN6, hO6, hz2⟩
  · exact absurd h3 (by omega)
