/-! The same day gone through again: the class. -/
theorem scc_hi {k i : Nat} (h : 26 ≤ k) : scc k i = false := by
  unfold scc
  have h1 : (k == 12) = false := beq_false_of_ne (by omega)
  have h2 : decide (k ≤ 20) = false := decide_eq_false (by omega)
  rw [h1, h2, Bool.false_and, Bool.and_false, Bool.or_false]
theorem CK_again {t : Sg} {D : Dy} {Z : Zt} {σ σ' : Sg} (h : CK t D Z σ) (hF : Fr true σ σ') (h37 : σ' 37 true 0 0 = nI 0) : CK t D Z σ' := by
  obtain ⟨⟨⟨hT, _, hD⟩, hM, hO, hOF, hZ⟩, hH, hz, _⟩ := h
  exact ⟨⟨⟨TR_base hT hF, Fr_rf _ _, RD_t hD ⟨⟨rfl, rfl, rfl⟩, fun _ => rfl⟩ (fun k r i h1 h2 => hF k false r i (fun q => absurd q.2.2 (by decide)) (scc_hi h1))⟩, hM, hO, OF_base hOF hF, hZ⟩, TH_base hH hF, hz, h37⟩
/-- what was done by hand stands in its order -/
def HSo (t : Sg) : Prop := ∀ i j, i ≤ j → j < nH t → nN (t 82 false 0 (4 * i)) ≤ nN (t 82 false 0 (4 * j))
theorem S3_hdo {t : Sg} : ∀ (n i : Nat) (X : Dy), S3 X → S3 (hdo t n i X).2
  | 0, _, _, h => h
  | n + 1, i, X, h => by
    rw [hdo_S]
    split
    · refine S3_hdo n (i + 1) _ ?_
      unfold hd1
      by_cases q : canB t X (hW t i) (hAa t i) (hBb t i)
      · rw [ifC_t q]; exact S3_dos h
      · rw [ifC_f q]; exact h
    · exact h
theorem cv_redo_l {s t : Sg} {Z : Zt} {x : Int32} {m : Nat} (hT : WN t) (hV : HV t) (hs : HSo t) (hm2 : m ≤ 1440) : ∀ (n i : Nat) (X : Dy) (σ : Sg) (o4 o5 o6 : Option AV), i + n = nH t → DK true s t X Z σ → X 0 0 = nI m → (i < nH t → m ≤ nN (t 82 false 0 (4 * i))) → G false 174 (fun r' s' => r' = some (.inl (nI (hdo t n i X).1)) ∧ DK true s t (hdo t n i X).2 Z s' ∧ ((hdo t n i X).1 < nH t → m < nN (t 82 false 0 (4 * (hdo t n i X).1)))) 2 [some (.inr (.inr (26, true, 0))), some (.inr (.inr (21, false, 0))), some (.inl x), some (.inl (nI i)), o4, o5, o6] [] σ := by
  have hH2 : nH t ≤ 200 := hV.1.2
  intro n
  induction n with
  | zero =>
    intro i X σ o4 o5 o6 hi hK hm hge
    have hC := hK.1
    have eH : σ 21 false 0 0 = nI (nH t) := hC.c21_0.trans hV.1.1
    refine G_wp 80 [2] rfl ?_
    refine br_ge rfl eH (by omega) (by omega) (fun h5 => ?_) (fun h5 => ?_)
    · exact ⟨rfl, hK, fun q => absurd q (by show ¬ i < nH t; omega)⟩
    · exact absurd h5 (by omega)
  | succ n ih =>
    intro i X σ o4 o5 o6 hi hK hm hge
    have hC := hK.1
    have eH : σ 21 false 0 0 = nI (nH t) := hC.c21_0.trans hV.1.1
    obtain ⟨v1, v2, v3, hk, hn⟩ := hV.2 i (by omega)
    have hge2 := hge (by omega)
    obtain ⟨a, ha⟩ : ∃ a, nN (t 82 false 0 (4 * i)) = a := ⟨_, rfl⟩
    have ea0 : t 82 false 0 (4 * i) = nI a := by rw [← ha]; exact v1.1
    have ha2 : a ≤ 1440 := by rw [← ha]; exact v1.2
    rw [ha] at hge2
    have ea : σ 22 false 0 i = nI a := (hC.c22 i (by omega)).trans ea0
    have e1 : σ 23 false 0 i = nI (hW t i) := (hC.c23 i (by omega)).trans v2
    have e2 : σ 24 false 0 i = nI (hAa t i) := (hC.c24 i (by omega)).trans v3
    refine G_wp 120 [2] rfl ?_
    refine br_ge rfl eH (by omega) (by omega) (fun h5 => ?_) (fun h5 => ?_)
    · exact absurd h5 (by omega)
    · refine ⟨i, rfl, (by show _ < 200; omega), ?_⟩
      refine br_gt ea (hC.m.1.trans hm) (by omega) (by omega) (fun h12 => ?_) (fun h12 => ?_)
      · have e : hdo t (n + 1) i X = (i, X) := by rw [hdo_S, if_neg (fun q => absurd (nI_inj (ea0.symm.trans (q.2.trans hm)) (by omega) (by omega)) (by omega))]
        rw [e]
        exact ⟨rfl, hK, fun _ => by show m < nN (t 82 false 0 (4 * i)); omega⟩
      · refine ⟨i, rfl, (by show _ < 200; omega), nI (hW t i), e1, i, rfl, (by show _ < 200; omega), nI (hAa t i), e2, i, rfl, (by show _ < 200; omega), (hBb t i), (hC.c25 i (by omega)), _, _, cv_can hC hT hK.2.2.1 hK.2.1.1.1.2.2.1 hk, ?_⟩
        refine brd_eq (fun h33 => ?_) (fun h33 => ?_)
        · refine ⟨nI (i + 1), nI_add _ _, ?_⟩
          have e : hdo t (n + 1) i X = hdo t n (i + 1) (hd1 t i X) := by rw [hdo_S, if_pos ⟨by omega, ea0.trans ((congrArg nI (show a = m by omega)).trans hm.symm)⟩]
          rw [e]
          rw [show hd1 t i X = X from ifC_f h33]
          exact ih (i + 1) X σ _ _ _ (by omega) hK hm (fun q => by have := hs i (i + 1) (by omega) q; omega)
        · obtain ⟨σ1, ev1, hC1⟩ := cv_do hC hT hK.2.1.1 hk h33
          refine ⟨_, _, ev1, nI (i + 1), nI_add _ _, ?_⟩
          have e : hdo t (n + 1) i X = hdo t n (i + 1) (hd1 t i X) := by rw [hdo_S, if_pos ⟨by omega, ea0.trans ((congrArg nI (show a = m by omega)).trans hm.symm)⟩]
          rw [e]
          rw [show hd1 t i X = dos X (hW t i) (hAa t i) (hBb t i) from ifC_t h33]
          exact ih (i + 1) _ σ1 _ _ _ (by omega) (dos_DK hK hT hk hn h33 hC1) ((dos_o (Or.inl rfl |> fun q => ⟨rfl, q⟩)).trans hm) (fun q => by have := hs i (i + 1) (by omega) q; omega)
theorem cv_redo {s t : Sg} {X : Dy} {Z : Zt} {σ : Sg} {m i : Nat} (hT : WN t) (hV : HV t) (hs : HSo t) (hm2 : m ≤ 1440) (hi : i ≤ nH t) (hK : DK true s t X Z σ) (hm : X 0 0 = nI m) (hge : i < nH t → m ≤ nN (t 82 false 0 (4 * i))) : ∃ σ', Ev false 174 [.inr (.inr (26, true, 0)), .inr (.inr (21, false, 0)), .inl (nI i)] σ (some (.inl (nI (hdo t (nH t - i) i X).1))) σ' ∧ DK true s t (hdo t (nH t - i) i X).2 Z σ' ∧ ((hdo t (nH t - i) i X).1 < nH t → m < nN (t 82 false 0 (4 * (hdo t (nH t - i) i X).1))) := by
  refine EvQ_wp 40 [2] rfl rfl ?_
  refine ⟨nI i, rfl, ?_⟩
  exact cv_redo_l hT hV hs hm2 (nH t - i) i X σ none none none (by omega) hK hm hge
theorem cv_so3_l {s t : Sg} {X : Dy} {Z : Zt} {σ : Sg} (hC : Cg true s t X 60 200 Z σ) (hT : WN t) (hS : S3 X) : ∀ (n j : Nat) (c : Int32), j + n = nP t → c = smP X 3 j → G false 101 (fun r' s' => r' = some (.inl (smP X 3 (nP t))) ∧ s' = σ) 4 [some (.inr (.inr (0, false, 0))), some (.inr (.inr (39, true, 0))), some (.inl c), some (.inl (nI j))] [] σ := by
  have hP := hT.P
  intro n
  induction n with
  | zero =>
    intro j c hj hc
    refine G_wp 60 [4] rfl ?_
    refine br_ge rfl (hC.c1_0.trans hT.eP) (by omega) (by omega) (fun h8 => ?_) (fun h8 => ?_)
    · exact ⟨by rw [hc, show nP t = j by omega], rfl⟩
    · exact absurd h8 (by omega)
  | succ n ih =>
    intro j c hj hc
    refine G_wp 60 [4] rfl ?_
    refine br_ge rfl (hC.c1_0.trans hT.eP) (by omega) (by omega) (fun h8 => ?_) (fun h8 => ?_)
    · exact absurd h8 (by omega)
    · refine ⟨j, rfl, (by show _ < 12; omega), ?_⟩
      have es : sI (fun y => X 7 (24 * j + y)) 24 = X 3 j := ((hS j (by omega)).1).symm
      have ev := cv_sum39 (d := true) (σ := σ) (p := j) (g := fun y => X 7 (24 * j + y)) (by omega) (fun y hy => (hC.g j y (by omega) hy).1)
      rw [es] at ev
      refine ⟨_, _, ev, _, rfl, nI (j + 1), nI_add _ _, ?_⟩
      exact ih (j + 1) _ (by omega) (by rw [hc]; rfl)
theorem cv_so3 {s t : Sg} {X : Dy} {Z : Zt} {σ : Sg} (hC : Cg true s t X 60 200 Z σ) (hT : WN t) (hS : S3 X) : Ev false 101 [.inr (.inr (0, false, 0)), .inr (.inr (39, true, 0))] σ (some (.inl (smP X 3 (nP t)))) σ := by
  refine Ev_wp 60 [4] rfl rfl ?_
  refine ⟨_, rfl, _, rfl, ?_⟩
  exact cv_so3_l hC hT hS (nP t) 0 (nI 0) (by omega) rfl
theorem cv_so4_l {s t : Sg} {X : Dy} {Z : Zt} {σ : Sg} (hC : Cg true s t X 60 200 Z σ) (hT : WN t) (hS : S3 X) : ∀ (n j : Nat) (c : Int32), j + n = nP t → c = smP X 4 j → G false 101 (fun r' s' => r' = some (.inl (smP X 4 (nP t))) ∧ s' = σ) 4 [some (.inr (.inr (0, false, 0))), some (.inr (.inr (40, true, 0))), some (.inl c), some (.inl (nI j))] [] σ := by
  have hP := hT.P
  intro n
  induction n with
  | zero =>
    intro j c hj hc
    refine G_wp 60 [4] rfl ?_
    refine br_ge rfl (hC.c1_0.trans hT.eP) (by omega) (by omega) (fun h8 => ?_) (fun h8 => ?_)
    · exact ⟨by rw [hc, show nP t = j by omega], rfl⟩
    · exact absurd h8 (by omega)
  | succ n ih =>
    intro j c hj hc
    refine G_wp 60 [4] rfl ?_
    refine br_ge rfl (hC.c1_0.trans hT.eP) (by omega) (by omega) (fun h8 => ?_) (fun h8 => ?_)
    · exact absurd h8 (by omega)
    · refine ⟨j, rfl, (by show _ < 12; omega), ?_⟩
      have es : sI (fun y => X 8 (24 * j + y)) 24 = X 4 j := ((hS j (by omega)).2.1).symm
      have ev := cv_sum40 (d := true) (σ := σ) (p := j) (g := fun y => X 8 (24 * j + y)) (by omega) (fun y hy => (hC.g j y (by omega) hy).2.1)
      rw [es] at ev
      refine ⟨_, _, ev, _, rfl, nI (j + 1), nI_add _ _, ?_⟩
      exact ih (j + 1) _ (by omega) (by rw [hc]; rfl)
theorem cv_so4 {s t : Sg} {X : Dy} {Z : Zt} {σ : Sg} (hC : Cg true s t X 60 200 Z σ) (hT : WN t) (hS : S3 X) : Ev false 101 [.inr (.inr (0, false, 0)), .inr (.inr (40, true, 0))] σ (some (.inl (smP X 4 (nP t)))) σ := by
  refine Ev_wp 60 [4] rfl rfl ?_
  refine ⟨_, rfl, _, rfl, ?_⟩
  exact cv_so4_l hC hT hS (nP t) 0 (nI 0) (by omega) rfl
theorem cv_so5_l {s t : Sg} {X : Dy} {Z : Zt} {σ : Sg} (hC : Cg true s t X 60 200 Z σ) (hT : WN t) (hS : S3 X) : ∀ (n j : Nat) (c : Int32), j + n = nP t → c = smP X 5 j → G false 101 (fun r' s' => r' = some (.inl (smP X 5 (nP t))) ∧ s' = σ) 4 [some (.inr (.inr (0, false, 0))), some (.inr (.inr (41, true, 0))), some (.inl c), some (.inl (nI j))] [] σ := by
  have hP := hT.P
  intro n
  induction n with
  | zero =>
    intro j c hj hc
    refine G_wp 60 [4] rfl ?_
    refine br_ge rfl (hC.c1_0.trans hT.eP) (by omega) (by omega) (fun h8 => ?_) (fun h8 => ?_)
    · exact ⟨by rw [hc, show nP t = j by omega], rfl⟩
    · exact absurd h8 (by omega)
  | succ n ih =>
    intro j c hj hc
    refine G_wp 60 [4] rfl ?_
    refine br_ge rfl (hC.c1_0.trans hT.eP) (by omega) (by omega) (fun h8 => ?_) (fun h8 => ?_)
    · exact absurd h8 (by omega)
    · refine ⟨j, rfl, (by show _ < 12; omega), ?_⟩
      have es : sI (fun y => X 9 (24 * j + y)) 24 = X 5 j := ((hS j (by omega)).2.2).symm
      have ev := cv_sum41 (d := true) (σ := σ) (p := j) (g := fun y => X 9 (24 * j + y)) (by omega) (fun y hy => (hC.g j y (by omega) hy).2.2)
      rw [es] at ev
      refine ⟨_, _, ev, _, rfl, nI (j + 1), nI_add _ _, ?_⟩
      exact ih (j + 1) _ (by omega) (by rw [hc]; rfl)
theorem cv_so5 {s t : Sg} {X : Dy} {Z : Zt} {σ : Sg} (hC : Cg true s t X 60 200 Z σ) (hT : WN t) (hS : S3 X) : Ev false 101 [.inr (.inr (0, false, 0)), .inr (.inr (41, true, 0))] σ (some (.inl (smP X 5 (nP t)))) σ := by
  refine Ev_wp 60 [4] rfl rfl ?_
  refine ⟨_, rfl, _, rfl, ?_⟩
  exact cv_so5_l hC hT hS (nP t) 0 (nI 0) (by omega) rfl
theorem cv_wi_l {s t : Sg} {X0 : Dy} {x w z : Int32} {M : Nat} {P : Option AV → Sg → Prop} (hP : ∀ s', Fr true s s' → s' 37 true 0 0 = nI 0 → P (some (.inl (wiV t (wday t M (0, X0)).2 w))) s') (hI : TI t) (hV : HV t) (hs : HSo t) (hH : TH s t) (hM2 : M ≤ 1440) (hsm : s 26 false 0 4 = nI M) : ∀ (n j i : Nat) (X : Dy) (σ1 : Sg) (Z : Zt), j + n = M → (i, X) = wday t j (0, X0) → DK true s t X Z σ1 → Z.2.2 = z → X 0 0 = nI j → S3 X → (i < nH t → j ≤ nN (t 82 false 0 (4 * i))) → i ≤ nH t → G false 228 P 24 [some (.inr (.inr (0, false, 0))), some (.inl x), some (.inl w), some (.inl (nI i)), some (.inl (nI j))] [] σ1 := by
  have hT := hI.1
  intro n
  induction n with
  | zero =>
    intro j i X σ1 Z hj hq hK hz hm hS hge hle
    have hC := hK.1
    have eM : σ1 26 false 0 4 = nI M := (hC.2.1 26 false 0 4 (fun q => absurd q.2.2 (by decide)) rfl).trans hsm
    refine G_wp 120 [24] rfl ?_
    refine br_ge rfl eM (by omega) (by omega) (fun h28 => ?_) (fun h28 => ?_)
    · refine ⟨fun h42 => ?_, fun h42 => ?_, fun h42 => ?_, ?_⟩
      · refine ⟨_, _, cv_so3 hC hT hS, ?_⟩
        have hp := hP σ1 hK.1.2.1 (hC.m.2.2.2.1.trans rfl)
        rw [show M = j by omega, ← hq] at hp
        have e : wiV t X w = (smP X 3 (nP t)) := by unfold wiV; rw [h42, ifC_t rfl]
        have hp2 : P (some (.inl (smP X 3 (nP t)))) σ1 := by rw [← e]; exact hp
        exact hp2
      · refine ⟨_, _, cv_so4 hC hT hS, ?_⟩
        have hp := hP σ1 hK.1.2.1 (hC.m.2.2.2.1.trans rfl)
        rw [show M = j by omega, ← hq] at hp
        have e : wiV t X w = (smP X 4 (nP t)) := by unfold wiV; rw [h42, ifC_f (by decide), ifC_t rfl]
        have hp2 : P (some (.inl (smP X 4 (nP t)))) σ1 := by rw [← e]; exact hp
        exact hp2
      · have hp := hP σ1 hK.1.2.1 (hC.m.2.2.2.1.trans rfl)
        rw [show M = j by omega, ← hq] at hp
        have e : wiV t X w = (X 0 1) := by unfold wiV; rw [h42, ifC_f (by decide), ifC_f (by decide), ifC_t rfl]
        have hp2 : P (some (.inl (X 0 1))) σ1 := by rw [← e]; exact hp
        exact Eq.mpr (congrArg (fun z => P (some (Sum.inl z)) σ1) hC.m.2.2.1) hp2
      · intro h42
        refine ⟨_, _, cv_so5 hC hT hS, ?_⟩
        have hp := hP σ1 hK.1.2.1 (hC.m.2.2.2.1.trans rfl)
        rw [show M = j by omega, ← hq] at hp
        have e : wiV t X w = (smP X 5 (nP t)) := by unfold wiV; rw [ifC_f h42.1, ifC_f h42.2.1, ifC_f h42.2.2.1]
        have hp2 : P (some (.inl (smP X 5 (nP t)))) σ1 := by rw [← e]; exact hp
        exact hp2
    · exact absurd h28 (by omega)
  | succ n ih =>
    intro j i X σ1 Z hj hq hK hz hm hS hge hle
    have hC := hK.1
    have eM : σ1 26 false 0 4 = nI M := (hC.2.1 26 false 0 4 (fun q => absurd q.2.2 (by decide)) rfl).trans hsm
    obtain ⟨σ2, ev2, hK2, hgt⟩ := cv_redo hT hV hs (by omega) hle hK hm hge
    obtain ⟨m1, m2, m3, m4⟩ := hdo_MI hT hV (nH t - i) i X (by omega) hK.2.1
    have hS2 := S3_hdo (t := t) (nH t - i) i X hS
    have hq2 : ((hdo t (nH t - i) i X).1, gmin t (hdo t (nH t - i) i X).2) = wday t (j + 1) (0, X0) := by rw [wday_S, ← hq]
    obtain ⟨i2, hi2⟩ : ∃ i2, i2 = (hdo t (nH t - i) i X).1 := ⟨_, rfl⟩
    obtain ⟨X2, hX2⟩ : ∃ X2, X2 = (hdo t (nH t - i) i X).2 := ⟨_, rfl⟩
    rw [← hi2, ← hX2] at hq2
    rw [← hi2] at ev2 hgt m3 m4
    rw [← hX2] at hK2 m1 m2 hS2
    have hm4 : X2 0 0 = nI j := m2.trans hm
    have hm5 : nN (X2 0 0) = j := by rw [hm4]; exact nN_nI (by omega)
    obtain ⟨σ3, Z3, ev3, hK3, hz3⟩ := cv_minute_k hK2 hI hH (by omega)
    have hm3 : gmin t X2 0 0 = nI (j + 1) := by rw [gmin_0, hm5]
    have hS3 := S3_gmin (t := t) hS2 (by omega)
    have hge3 : i2 < nH t → j + 1 ≤ nN (t 82 false 0 (4 * i2)) := fun q => hgt q
    have hle2 := m4
    refine G_wp 120 [24] rfl ?_
    refine br_ge rfl eM (by omega) (by omega) (fun h28 => ?_) (fun h28 => ?_)
    · exact absurd h28 (by omega)
    · refine ⟨_, _, ev2, _, rfl, _, _, ev3, nI (j + 1), nI_add _ _, ?_⟩
      exact ih (j + 1) i2 _ σ3 Z3 (by omega) hq2 hK3 (hz3.trans hz) hm3 hS3 hge3 hle2
theorem OF_turn {σ t t2 : Sg} {k : Nat} (h : OF σ t (-1)) (hk : k < nRu t) (h10 : nRu t ≤ 10) (hB : B86 t) (h2 : t2 86 false 0 k = if t 86 false 0 k = nI 0 then nI 1 else nI 0) (h3 : ∀ j, ¬ j = k → t2 86 false 0 j = t 86 false 0 j) (hn : nRu t2 = nRu t) : OF σ t2 (nI k) := fun j hj => by
  have hj2 : j < nRu t := by omega
  have h1 := h j hj2
  rw [if_neg (nI_m1 (by omega))] at h1
  by_cases e : j = k
  · subst e
    refine ⟨?_, h1.2⟩
    rw [if_pos rfl, h2]
    by_cases q : t 86 false 0 j = nI 0
    · rw [if_pos q, h1.1.mpr q]
      exact ⟨fun c => absurd c (by decide), fun c => absurd c (by decide)⟩
    · rw [if_neg q]
      refine ⟨fun _ => rfl, fun _ => ?_⟩
      rcases h1.2 with c | c
      · exact absurd (h1.1.mp c) q
      · exact c
  · rw [if_neg (fun c => e (nI_inj c (by omega) (by omega))), h3 j e]
    exact h1
theorem cv_whatIf {t : Sg} {D : Dy} {Z : Zt} {σ : Sg} (hK : CK t D Z σ) (hX : XT t) (hB86 : B86 t) (hI2 : ∀ k, k < nRu t → TI (wiT t D k)) (hV2 : ∀ k, HV (wiT t D k)) (hs2 : ∀ k, HSo (wiT t D k)) (hM2 : ∀ k, HM (wiT t D k)) {x w : Int32} : ∃ σ', Ev false 228 [.inr (.inr (0, false, 0)), .inl x, .inl w] σ (some (.inl (wiR t D x w))) σ' ∧ CK t D Z σ' := by
  have hC := hK.1.1
  have hN : nRu t ≤ 10 := hX.1.2
  refine EvQ_wp 80 [24] rfl rfl ?_
  refine ⟨_, _, cv_in3 (congrArg (fun z => z - nI 1) hC.c12_2), ?_⟩
  refine brd_eq (fun h8 => ?_) (fun h8 => ?_)
  · exact ⟨by unfold wiR; rw [ifC_f (fun q => h8 q.1)], hK⟩
  · refine ⟨_, _, cv_in, ?_⟩
    refine brd_ne (fun h13 => ?_) (fun h13 => ?_)
    · refine ⟨_, rfl, ?_⟩
      have hk := off_k hX h8
      have hT2 := (hI2 (nN x) hk.2).1
      have hTR2 : TR σ (wiT t D (nN x)) := TR_t hC.1 (fun k j q => wiT_o (by omega) (by omega))
      obtain ⟨σ1, ev1, hC1⟩ := cv_bgn (d := true) (D := D) (z := x) hTR2 hT2 (hM2 (nN x)) (Fr_rf true σ) hK.2.2.2
      refine ⟨_, _, ev1, _, rfl, ?_⟩
      have hOF2 : OF σ (wiT t D (nN x)) x := by
        have q := hK.1.2.2.2.1
        rw [hK.2.2.1] at q
        have q2 := OF_turn (t2 := wiT t D (nN x)) q hk.2 hX.1.2 hB86 wiT_86 (fun j e => wiT_o (by omega) (fun c => e c.2)) (congrArg nN (wiT_o (by omega) (by omega)))
        rw [← hk.1] at q2
        exact q2
      have hH2 : TH σ (wiT t D (nN x)) := TH_w hK.2.1 (fun _ => rfl) (fun _ => wiT_o (by omega) (by omega)) (fun _ => wiT_o (by omega) (by omega)) (congrArg nN (wiT_o (by omega) (by omega)))
      have h0 : Is (D 0 0) 1440 := hK.1.2.1.2.2
      refine cv_wi_l (x := x) (w := w) (z := x) (M := nN (D 0 0)) (X0 := bgn (wiT t D (nN x)) D) (fun s' q2 q3 => ⟨?_, CK_again hK q2 q3⟩) (hI2 (nN x) hk.2) (hV2 (nN x)) (hs2 (nN x)) hH2 h0.2 (hC.m.1.trans h0.1) (nN (D 0 0)) 0 0 _ σ1 _ (by omega) rfl (bgn_DK hT2 (hM2 (nN x)) hOF2 hC1) rfl (by rw [bgn_0 (by omega), if_neg (by omega)]) S3_bgn (fun _ => Nat.zero_le _) (Nat.zero_le _)
      unfold wiR wiX
      rw [ifC_t ⟨h8, h13⟩]
      unfold wiV
      rw [wiT_nP]
    · exact ⟨by unfold wiR; rw [ifC_f (fun q => h13 q.2)], hK⟩
