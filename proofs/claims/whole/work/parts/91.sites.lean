/-! Sites: sums, the best set. -/
theorem cv_meas {t : Sg} {D : Dy} {Z : Zt} {σ : Sg} (hC : Cg false σ t D 60 200 Z σ) {w : Nat} {x y : Int32} (hw : w < 40) : Ev false 88 [.inr (.inr (59, false, 0)), .inl (nI w), .inl x, .inl y] σ (some (.inl (mAbs (t 93 false 0 w - x) + mAbs (t 94 false 0 w - y)))) σ := by
  refine Ev_wp 40 [] rfl rfl ?_
  refine ⟨w, rfl, (by show _ < 40; omega), w, rfl, (by show _ < 40; omega), ?_⟩
  exact ⟨by rw [hC.tr.c62 w (by omega), hC.tr.c63 w (by omega)], rfl⟩
theorem cv_mo_i {t : Sg} {D : Dy} {Z : Zt} {P : Option AV → Sg → Prop} (hT : WN t) (hS : SI2 t) {w : Nat} (hw : w < 40) (hQ : ∀ σ o, CK t D Z σ → (∀ v, v < w → σ 65 false 0 v = nrP t D v (nP t)) → σ 65 false 0 w = nrP t D w (nP t) → G false 140 P 43 [some (.inr (.inr (59, false, 0))), some (.inr (.inr (1, false, 0))), some (.inr (.inr (28, false, 0))), some (.inl (nI w)), o] [] σ) : ∀ (n p : Nat) (σ : Sg), p + n = nP t → CK t D Z σ → (∀ v, v < w → σ 65 false 0 v = nrP t D v (nP t)) → σ 65 false 0 w = nrP t D w p → G false 140 P 13 [some (.inr (.inr (59, false, 0))), some (.inr (.inr (1, false, 0))), some (.inr (.inr (28, false, 0))), some (.inl (nI w)), some (.inl (nI p))] [] σ := by
  have hP := hT.P
  intro n
  induction n with
  | zero =>
    intro p σ hj hK hd h65
    have hC := hK.1.1
    have eW : σ 59 false 0 1 = nI (nWi t) := hC.tr.c59_1.trans hS.2.1
    have eP : σ 1 false 0 0 = nI (nP t) := hC.c1_0.trans hT.1.1
    refine G_wp 80 [13, 43] rfl ?_
    refine br_ge rfl eP (by omega) (by omega) (fun h16 => ?_) (fun h16 => ?_)
    · exact hQ σ _ hK hd (by rw [show nP t = p by omega]; exact h65)
    · exact absurd h16 (by omega)
  | succ n ih =>
    intro p σ hj hK hd h65
    have hC := hK.1.1
    have eW : σ 59 false 0 1 = nI (nWi t) := hC.tr.c59_1.trans hS.2.1
    have eP : σ 1 false 0 0 = nI (nP t) := hC.c1_0.trans hT.1.1
    have hO := hK.1.2.2.1
    refine G_wp 80 [13, 43] rfl ?_
    refine br_ge rfl eP (by omega) (by omega) (fun h16 => ?_) (fun h16 => ?_)
    · exact absurd h16 (by omega)
    · refine ⟨p, rfl, (by show _ < 12; omega), ?_⟩
      refine ⟨fun h20 => ?_, fun h20 => ?_⟩
      · rw [(hC.p p (by omega)).2] at h20
        refine ⟨nI (p + 1), nI_add _ _, ?_⟩
        exact ih (p + 1) σ (by omega) hK hd (by rw [nrP_S, if_neg (fun q => absurd (q.1.symm.trans h20) (by decide))]; exact h65)
      · rw [(hC.p p (by omega)).2] at h20
        refine ⟨w, rfl, (by show _ < 40; omega), p, rfl, (by show _ < 12; omega), p, rfl, (by show _ < 12; omega), ?_⟩
        have em : mAbs (t 93 false 0 w - t 72 false 0 p) + mAbs (t 94 false 0 w - t 73 false 0 p) = msP t p w := by unfold msP; rw [mAbs_sub (t 93 false 0 w), mAbs_sub (t 94 false 0 w)]
        have ev := cv_meas (σ := σ) hC (w := w) (x := σ 2 false 0 p) (y := σ 3 false 0 p) (by omega)
        rw [hC.c2 p (by omega), hC.c3 p (by omega), em, ← hC.c2 p (by omega), ← hC.c3 p (by omega)] at ev
        refine ⟨_, _, ev, w, rfl, (by show _ < 40; omega), _, rfl, ?_⟩
        replace hK := CK_u hK (k := 65) (r := 0) (i := w) (d := false) ((mMin (σ 65 false 0 w) (msP t p w))) (Or.inl rfl) (by omega)
        refine ⟨nI (p + 1), nI_add _ _, ?_⟩
        refine ih (p + 1) _ (by omega) hK (fun v hv => ?_) ?_
        · rw [u4n (by omega)]; exact hd v hv
        · rw [up4_s, nrP_S]
          show mMin (σ 65 false 0 w) (msP t p w) = _
          rw [h65]
          have h2 : D 2 p = nI 1 := by
            rcases hO p (by omega) with q | q
            · exact absurd q h20
            · exact q
          unfold mMin
          by_cases c : msP t p w < nrP t D w p
          · rw [if_pos c, if_pos ⟨h2, c⟩]
          · rw [if_neg c, if_neg (fun q => c q.2)]
theorem cv_mo_o {t : Sg} {D : Dy} {Z : Zt} (hT : WN t) (hS : SI2 t) : ∀ (n w : Nat) (σ : Sg) (o : Option AV), w + n = nWi t → CK t D Z σ → (∀ v, v < w → σ 65 false 0 v = nrP t D v (nP t)) → G false 140 (fun r' s' => r' = none ∧ CK t D Z s' ∧ (∀ v, v < nWi t → s' 65 false 0 v = nrP t D v (nP t))) 2 [some (.inr (.inr (59, false, 0))), some (.inr (.inr (1, false, 0))), some (.inr (.inr (28, false, 0))), some (.inl (nI w)), o] [] σ := by
  have hP := hT.P
  have hW2 : nWi t ≤ 40 := hS.2.2
  intro n
  induction n with
  | zero =>
    intro w σ o hj hK hd
    have hC := hK.1.1
    have eW : σ 59 false 0 1 = nI (nWi t) := hC.tr.c59_1.trans hS.2.1
    have eP : σ 1 false 0 0 = nI (nP t) := hC.c1_0.trans hT.1.1
    refine G_wp 80 [2, 13] rfl ?_
    refine br_ge rfl eW (by omega) (by omega) (fun h5 => ?_) (fun h5 => ?_)
    · exact ⟨rfl, hK, fun v hv => hd v (by omega)⟩
    · exact absurd h5 (by omega)
  | succ n ih =>
    intro w σ o hj hK hd
    have hC := hK.1.1
    have eW : σ 59 false 0 1 = nI (nWi t) := hC.tr.c59_1.trans hS.2.1
    have eP : σ 1 false 0 0 = nI (nP t) := hC.c1_0.trans hT.1.1
    refine G_wp 80 [2, 13] rfl ?_
    refine br_ge rfl eW (by omega) (by omega) (fun h5 => ?_) (fun h5 => ?_)
    · exact absurd h5 (by omega)
    · refine ⟨w, rfl, (by show _ < 40; omega), _, rfl, ?_⟩
      replace hK := CK_u hK (k := 65) (r := 0) (i := w) (d := false) (nI (1000)) (Or.inl rfl) (by omega)
      refine ⟨_, rfl, ?_⟩
      refine cv_mo_i hT hS (w := w) (by omega) (fun σ2 o2 hK2 hd2 h2 => ?_) (nP t) 0 _ (by omega) hK (fun v hv => by rw [u4n (by omega)]; exact hd v hv) (up4_s _ _ _ _ _ _)
      refine G_wp 40 [2] rfl ?_
      refine ⟨nI (w + 1), nI_add _ _, ?_⟩
      exact ih (w + 1) σ2 o2 (by omega) hK2 (fun v hv => by
                by_cases e : v = w
                · subst e; exact h2
                · exact hd2 v (by omega))
theorem cv_mo {t : Sg} {D : Dy} {Z : Zt} {σ : Sg} (hK : CK t D Z σ) (hT : WN t) (hS : SI2 t) : ∃ σ', Ev false 140 [.inr (.inr (59, false, 0)), .inr (.inr (1, false, 0)), .inr (.inr (28, false, 0))] σ none σ' ∧ CK t D Z σ' ∧ (∀ v, v < nWi t → σ' 65 false 0 v = nrP t D v (nP t)) := by
  refine EvQ_wp 40 [2] rfl rfl ?_
  refine ⟨_, rfl, ?_⟩
  exact cv_mo_o hT hS (nWi t) 0 σ none (by omega) hK (fun v hv => absurd hv (Nat.not_lt_zero _))
theorem cv_sf_i {t : Sg} {D : Dy} {Z : Zt} {σ : Sg} (hC : Cg false σ t D 60 200 Z σ) (hS : SI2 t) (hF : (∀ v, v < nWi t → σ 65 false 0 v = nrP t D v (nP t))) {set : Nat} (hs : set < 4096) {P : Option AV → Sg → Prop} {c : Int32} {w : Nat} (hw : w < nWi t) (hQ : ∀ o, G false 141 P 41 [some (.inr (.inr (59, false, 0))), some (.inl (nI set)), some (.inl c), some (.inl (nI w)), some (.inl (nea t D set w)), o] [] σ) : ∀ (n i : Nat) (z : Int32), i + n = nSi t → z = nrS t (nrP t D w (nP t)) set w i → G false 141 P 15 [some (.inr (.inr (59, false, 0))), some (.inl (nI set)), some (.inl c), some (.inl (nI w)), some (.inl z), some (.inl (nI i))] [] σ := by
  have eW : σ 59 false 0 1 = nI (nWi t) := hC.tr.c59_1.trans hS.2.1
  have eS : σ 59 false 0 0 = nI (nSi t) := hC.tr.c59_0.trans hS.1.1
  have hW2 : nWi t ≤ 40 := hS.2.2
  have hS2 : nSi t ≤ 12 := hS.1.2
  intro n
  induction n with
  | zero =>
    intro i z hj hz
    refine G_wp 80 [15, 41] rfl ?_
    refine br_ge rfl eS (by omega) (by omega) (fun h18 => ?_) (fun h18 => ?_)
    · rw [hz, show nrS t (nrP t D w (nP t)) set w i = nea t D set w by unfold nea; rw [show nSi t = i by omega]]
      exact hQ _
    · exact absurd h18 (by omega)
  | succ n ih =>
    intro i z hj hz
    refine G_wp 80 [15, 41] rfl ?_
    refine br_ge rfl eS (by omega) (by omega) (fun h18 => ?_) (fun h18 => ?_)
    · exact absurd h18 (by omega)
    · refine br_eq (b_and1 (b_shr rfl rfl (by omega) (by omega)) (Nat.lt_of_le_of_lt (Nat.div_le_self _ _) (by omega))) rfl (by omega) (by omega) (fun h24 => ?_) (fun h24 => ?_)
      · refine ⟨nI (i + 1), nI_add _ _, ?_⟩
        exact ih (i + 1) z (by omega) (by rw [nrS_S, if_neg (fun q => absurd q.1 (by omega))]; exact hz)
      · refine ⟨i, rfl, (by show _ < 12; omega), i, rfl, (by show _ < 12; omega), ?_⟩
        have em : mAbs (t 93 false 0 w - t 91 false 0 i) + mAbs (t 94 false 0 w - t 92 false 0 i) = msS t i w := by unfold msS; rw [mAbs_sub (t 93 false 0 w), mAbs_sub (t 94 false 0 w)]
        have ev := cv_meas (σ := σ) hC (w := w) (x := σ 60 false 0 i) (y := σ 61 false 0 i) (by omega)
        rw [hC.tr.c60 i (by omega), hC.tr.c61 i (by omega), em, ← hC.tr.c60 i (by omega), ← hC.tr.c61 i (by omega)] at ev
        refine ⟨_, _, ev, _, rfl, nI (i + 1), nI_add _ _, ?_⟩
        refine ih (i + 1) _ (by omega) ?_
        rw [nrS_S, ← hz]
        unfold mMin
        by_cases c : msS t i w < z
        · rw [if_pos c, if_pos ⟨by omega, c⟩]
        · rw [if_neg c, if_neg (fun q => c q.2)]
theorem cv_sf_o {t : Sg} {D : Dy} {Z : Zt} {σ : Sg} (hC : Cg false σ t D 60 200 Z σ) (hS : SI2 t) (hF : (∀ v, v < nWi t → σ 65 false 0 v = nrP t D v (nP t))) {set : Nat} (hs : set < 4096) : ∀ (n w : Nat) (c : Int32) (o4 o5 : Option AV), w + n = nWi t → c = smW t D set w → G false 141 (fun r' s' => r' = some (.inl (smW t D set (nWi t))) ∧ s' = σ) 4 [some (.inr (.inr (59, false, 0))), some (.inl (nI set)), some (.inl c), some (.inl (nI w)), o4, o5] [] σ := by
  have eW : σ 59 false 0 1 = nI (nWi t) := hC.tr.c59_1.trans hS.2.1
  have eS : σ 59 false 0 0 = nI (nSi t) := hC.tr.c59_0.trans hS.1.1
  have hW2 : nWi t ≤ 40 := hS.2.2
  have hS2 : nSi t ≤ 12 := hS.1.2
  intro n
  induction n with
  | zero =>
    intro w c o4 o5 hj hc
    refine G_wp 80 [4, 15] rfl ?_
    refine br_ge rfl eW (by omega) (by omega) (fun h7 => ?_) (fun h7 => ?_)
    · exact ⟨by rw [hc, show nWi t = w by omega], rfl⟩
    · exact absurd h7 (by omega)
  | succ n ih =>
    intro w c o4 o5 hj hc
    refine G_wp 80 [4, 15] rfl ?_
    refine br_ge rfl eW (by omega) (by omega) (fun h7 => ?_) (fun h7 => ?_)
    · exact absurd h7 (by omega)
    · refine ⟨w, rfl, (by show _ < 40; omega), (nrP t D w (nP t)), (hF w (by omega)), _, rfl, ?_⟩
      refine cv_sf_i hC hS hF hs (w := w) (by omega) (fun o2 => ?_) (nSi t) 0 _ (by omega) rfl
      refine G_wp 40 [4] rfl ?_
      refine ⟨w, rfl, (by show _ < 40; omega), _, rfl, nI (w + 1), nI_add _ _, ?_⟩
      exact ih (w + 1) _ _ _ (by omega) (by rw [hc, smW_S, hC.tr.c64 w (by omega)])
theorem cv_sf {t : Sg} {D : Dy} {Z : Zt} {σ : Sg} (hC : Cg false σ t D 60 200 Z σ) (hS : SI2 t) (hF : (∀ v, v < nWi t → σ 65 false 0 v = nrP t D v (nP t))) {set : Nat} (hs : set < 4096) : Ev false 141 [.inr (.inr (59, false, 0)), .inl (nI set)] σ (some (.inl (smW t D set (nWi t)))) σ := by
  refine Ev_wp 40 [4] rfl rfl ?_
  refine ⟨_, rfl, _, rfl, ?_⟩
  exact cv_sf_o hC hS hF hs (nWi t) 0 (nI 0) none none (by omega) rfl
