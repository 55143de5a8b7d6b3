/-! What stays true of the model's day. -/
def BI (t : Sg) (D : Dy) : Prop := ∀ b, b < nB t → Is (D 11 b) 4 ∧ ∃ p, p < nP t ∧ D 12 b = nI p
def RI (t : Sg) (D : Dy) : Prop := ∀ r, r < nR t → Is (D 16 r) 5 ∧ (D 16 r = nI 2 → ∃ b p, b < nB t ∧ p < nP t ∧ D 17 r = nI b ∧ D 11 b = nI 1 ∧ D 23 r = nI p ∧ D 12 b = nI p)
def DI (t : Sg) (D : Dy) : Prop := ∀ r s, r < nR t → s < nR t → D 16 r = nI 2 → D 16 s = nI 2 → D 17 r = D 17 s → r = s
def KI (t : Sg) (D : Dy) : Prop := ∀ i, i < nN (D 0 3) → ∃ b, b < nB t ∧ D 24 i = nI b ∧ D 11 b = nI 2 ∧ ∀ j, j < nN (D 0 3) → D 24 j = nI b → j = i
def JI (t : Sg) (D : Dy) : Prop := BI t D ∧ RI t D ∧ DI t D ∧ KI t D
theorem JI_bike {t : Sg} {D E : Dy} {b s p : Nat} (hJ : JI t D) (h1 : ∀ r, r < nR t → D 16 r = nI 2 → ¬ D 17 r = nI b) (h2 : ∀ i, i < nN (D 0 3) → ¬ D 24 i = nI b) (hs : s ≤ 4) (hp : p < nP t) (e1 : E 11 b = nI s) (e2 : E 12 b = nI p) (e3 : ∀ c, ¬ c = b → E 11 c = D 11 c ∧ E 12 c = D 12 c) (e4 : ∀ g i, (g = 16 ∨ g = 17 ∨ g = 23 ∨ g = 24 ∨ (g = 0 ∧ i = 3)) → E g i = D g i) : JI t E := by
  refine ⟨fun c hc => ?_, fun r hr => ?_, fun r s hr hs => ?_, fun i hi => ?_⟩
  · by_cases e : c = b
    · subst e
      rw [e1, e2]
      exact ⟨Is_of hs (by omega), p, hp, rfl⟩
    · rw [(e3 c e).1, (e3 c e).2]
      exact hJ.1 c hc
  · rw [e4 16 r (by omega)]
    refine ⟨(hJ.2.1 r hr).1, fun h => ?_⟩
    obtain ⟨c, q, hc, hq, a1, a2, a3, a4⟩ := (hJ.2.1 r hr).2 h
    have hcb : ¬ c = b := by
      rintro rfl
      exact h1 r hr h a1
    exact ⟨c, q, hc, hq, by rw [e4 17 r (by omega)]; exact a1, by rw [(e3 c hcb).1]; exact a2, by rw [e4 23 r (by omega)]; exact a3, by rw [(e3 c hcb).2]; exact a4⟩
  · rw [e4 16 r (by omega), e4 16 s (by omega), e4 17 r (by omega), e4 17 s (by omega)]
    exact hJ.2.2.1 r s hr hs
  · rw [e4 0 3 (by omega)] at hi ⊢
    obtain ⟨c, hc, k1, k2, k3⟩ := hJ.2.2.2 i hi
    have hcb : ¬ c = b := by
      rintro rfl
      exact h2 i hi k1
    refine ⟨c, hc, by rw [e4 24 i (by omega)]; exact k1, by rw [(e3 c hcb).1]; exact k2, fun j hj h => k3 j hj ?_⟩
    rwa [e4 24 j (by omega)] at h
theorem JI.nr {t : Sg} {D : Dy} {b : Nat} (hT : WN t) (hJ : JI t D) (hb : b < nB t) (h : ¬ D 11 b = nI 1) : ∀ r, r < nR t → D 16 r = nI 2 → ¬ D 17 r = nI b := by
  intro r hr h2 q
  obtain ⟨c, p, hc, hp, a1, a2, a3, a4⟩ := (hJ.2.1 r hr).2 h2
  have hB := hT.B
  have : c = b := nI_inj (a1.symm.trans q) (by omega) (by omega)
  exact h (this ▸ a2)
theorem JI.nk {t : Sg} {D : Dy} {b : Nat} (hT : WN t) (hJ : JI t D) (hb : b < nB t) (h : ¬ D 11 b = nI 2) : ∀ i, i < nN (D 0 3) → ¬ D 24 i = nI b := by
  intro i hi q
  obtain ⟨c, hc, k1, k2, k3⟩ := hJ.2.2.2 i hi
  have hB := hT.B
  have : c = b := nI_inj (k1.symm.trans q) (by omega) (by omega)
  exact h (this ▸ k2)
theorem JI_same {t : Sg} {D E : Dy} (hJ : JI t D) (e : ∀ g i, (g = 11 ∨ g = 12 ∨ g = 16 ∨ g = 17 ∨ g = 23 ∨ g = 24 ∨ (g = 0 ∧ i = 3)) → E g i = D g i) : JI t E := by
  refine ⟨fun c hc => ?_, fun r hr => ?_, fun r s hr hs => ?_, fun i hi => ?_⟩
  · rw [e 11 c (by omega), e 12 c (by omega)]
    exact hJ.1 c hc
  · rw [e 16 r (by omega)]
    refine ⟨(hJ.2.1 r hr).1, fun h => ?_⟩
    obtain ⟨c, q, hc, hq, a1, a2, a3, a4⟩ := (hJ.2.1 r hr).2 h
    exact ⟨c, q, hc, hq, by rw [e 17 r (by omega)]; exact a1, by rw [e 11 c (by omega)]; exact a2, by rw [e 23 r (by omega)]; exact a3, by rw [e 12 c (by omega)]; exact a4⟩
  · rw [e 16 r (by omega), e 16 s (by omega), e 17 r (by omega), e 17 s (by omega)]
    exact hJ.2.2.1 r s hr hs
  · rw [e 0 3 (by omega)] at hi ⊢
    obtain ⟨c, hc, k1, k2, k3⟩ := hJ.2.2.2 i hi
    refine ⟨c, hc, by rw [e 24 i (by omega)]; exact k1, by rw [e 11 c (by omega)]; exact k2, fun j hj h => k3 j hj ?_⟩
    rwa [e 24 j (by omega)] at h
theorem JI_rider {t : Sg} {D E : Dy} {r s : Nat} (hJ : JI t D) (hs : s ≤ 5) (hs2 : ¬ s = 2) (e1 : E 16 r = nI s) (e2 : ∀ c, ¬ c = r → E 16 c = D 16 c) (e : ∀ g i, (g = 11 ∨ g = 12 ∨ g = 17 ∨ g = 23 ∨ g = 24 ∨ (g = 0 ∧ i = 3)) → E g i = D g i) : JI t E := by
  have n2 : ¬ E 16 r = nI 2 := by
    rw [e1]
    intro q
    exact hs2 (nI_inj q (by omega) (by omega))
  refine ⟨fun c hc => ?_, fun c hc => ?_, fun c d hc hd h1 h2 => ?_, fun i hi => ?_⟩
  · rw [e 11 c (by omega), e 12 c (by omega)]
    exact hJ.1 c hc
  · by_cases q : c = r
    · subst q
      exact ⟨by rw [e1]; exact Is_of hs (by omega), fun h => absurd h n2⟩
    · rw [e2 c q]
      refine ⟨(hJ.2.1 c hc).1, fun h => ?_⟩
      obtain ⟨b, p, hb, hp, a1, a2, a3, a4⟩ := (hJ.2.1 c hc).2 h
      exact ⟨b, p, hb, hp, by rw [e 17 c (by omega)]; exact a1, by rw [e 11 b (by omega)]; exact a2, by rw [e 23 c (by omega)]; exact a3, by rw [e 12 b (by omega)]; exact a4⟩
  · have q1 : ¬ c = r := by
      rintro rfl
      exact n2 h1
    have q2 : ¬ d = r := by
      rintro rfl
      exact n2 h2
    rw [e2 c q1] at h1
    rw [e2 d q2] at h2
    rw [e 17 c (by omega), e 17 d (by omega)]
    exact hJ.2.2.1 c d hc hd h1 h2
  · rw [e 0 3 (by omega)] at hi ⊢
    obtain ⟨c, hc, k1, k2, k3⟩ := hJ.2.2.2 i hi
    refine ⟨c, hc, by rw [e 24 i (by omega)]; exact k1, by rw [e 11 c (by omega)]; exact k2, fun j hj h => k3 j hj ?_⟩
    rwa [e 24 j (by omega)] at h
/-- a rider sets out, or is sent on -/
theorem JI_go {t : Sg} {D E : Dy} {r b q : Nat} (hT : WN t) (hJ : JI t D) (hb : b < nB t) (hq : q < nP t) (h1 : ∀ c, c < nR t → ¬ c = r → D 16 c = nI 2 → ¬ D 17 c = nI b) (h2 : ∀ i, i < nN (D 0 3) → ¬ D 24 i = nI b) (e1 : E 16 r = nI 2) (e2 : E 17 r = nI b) (e3 : E 23 r = nI q) (e4 : E 11 b = nI 1) (e5 : E 12 b = nI q) (er : ∀ c, ¬ c = r → E 16 c = D 16 c ∧ E 17 c = D 17 c ∧ E 23 c = D 23 c) (eb : ∀ c, ¬ c = b → E 11 c = D 11 c ∧ E 12 c = D 12 c) (e : ∀ g i, (g = 24 ∨ (g = 0 ∧ i = 3)) → E g i = D g i) : JI t E := by
  have hB := hT.B
  refine ⟨fun c hc => ?_, fun c hc => ?_, fun c d hc hd c1 d1 => ?_, fun i hi => ?_⟩
  · by_cases y : c = b
    · subst y
      rw [e4, e5]
      exact ⟨Is_of (by omega) (by omega), q, hq, rfl⟩
    · rw [(eb c y).1, (eb c y).2]
      exact hJ.1 c hc
  · by_cases y : c = r
    · subst y
      rw [e1]
      exact ⟨Is_of (by omega) (by omega), fun _ => ⟨b, q, hb, hq, e2, e4, e3, e5⟩⟩
    · rw [(er c y).1, (er c y).2.1, (er c y).2.2]
      refine ⟨(hJ.2.1 c hc).1, fun h => ?_⟩
      obtain ⟨x, p, hx, hp, a1, a2, a3, a4⟩ := (hJ.2.1 c hc).2 h
      have hxb : ¬ x = b := by
        rintro rfl
        exact h1 c hc y h a1
      exact ⟨x, p, hx, hp, a1, by rw [(eb x hxb).1]; exact a2, a3, by rw [(eb x hxb).2]; exact a4⟩
  · by_cases y : c = r
    · by_cases z : d = r
      · omega
      · intro h
        subst y
        rw [e2, (er d z).2.1] at h
        rw [(er d z).1] at d1
        exact absurd h.symm (h1 d hd z d1)
    · rw [(er c y).1] at c1
      rw [(er c y).2.1]
      by_cases z : d = r
      · intro h
        subst z
        rw [e2] at h
        exact absurd h (h1 c hc y c1)
      · rw [(er d z).1] at d1
        rw [(er d z).2.1]
        exact hJ.2.2.1 c d hc hd c1 d1
  · rw [e 0 3 (by omega)] at hi ⊢
    obtain ⟨c, hc, k1, k2, k3⟩ := hJ.2.2.2 i hi
    have hcb : ¬ c = b := by
      rintro rfl
      exact h2 i hi k1
    refine ⟨c, hc, by rw [e 24 i (by omega)]; exact k1, by rw [(eb c hcb).1]; exact k2, fun j hj h => k3 j hj ?_⟩
    rwa [e 24 j (by omega)] at h
theorem pik_at {t : Sg} {D : Dy} {p b : Nat} (h : pik D p (nB t) = some b) : b < nB t ∧ D 11 b = nI 0 ∧ D 12 b = nI p ∧ D 14 b = nI 0 := by
  obtain ⟨h1, h2⟩ := pik_lt D p (nB t) b h
  simp only [isG, isA, Bool.and_eq_true, decide_eq_true_eq] at h2
  exact ⟨h1, h2.1.1, h2.1.2, h2.2⟩
theorem tk1_JI {t : Sg} {p : Nat} {D : Dy} (hT : WN t) (hp : p < nP t) (h3 : Is (D 0 3) 12) (hJ : JI t D) : JI t (tk1 t p D) := by
  have hB := hT.B
  unfold tk1
  split
  next hc =>
    cases hb : pik D p (nB t) with
    | none => exact hJ
    | some b =>
      obtain ⟨b1, b2, b3, -⟩ := pik_at hb
      have n1 : ¬ D 11 b = nI 1 := by rw [b2]; decide
      have n2 : ¬ D 11 b = nI 2 := by rw [b2]; decide
      have hK := hJ.nk hT b1 n2
      have hJ2 : JI t (up2 D 11 b (nI 2)) := JI_bike (b := b) (s := 2) (p := p) hJ (hJ.nr hT b1 n1) hK (by omega) hp (up2_s _ _ _ _) (by rw [up2_n (by omega)]; exact b3) (fun c hc => ⟨up2_n (by omega), up2_n (by omega)⟩) (fun g i h => up2_n (by omega))
      show JI t (lgs _ _ _ _ _)
      have q : ∀ g i, (g = 11 ∨ g = 12 ∨ g = 16 ∨ g = 17 ∨ g = 23) → lgs (up2 (up2 (up2 D 11 b (nI 2)) 24 (nN (D 0 3)) (nI b)) 0 3 (nI (nN (D 0 3) + 1))) (nI 5) (nI p) (-1) (nI b) g i = up2 D 11 b (nI 2) g i := fun g i h => by rw [lgs_o (by omega) (by omega), up2_n (by omega), up2_n (by omega)]
      have q3 : lgs (up2 (up2 (up2 D 11 b (nI 2)) 24 (nN (D 0 3)) (nI b)) 0 3 (nI (nN (D 0 3) + 1))) (nI 5) (nI p) (-1) (nI b) 0 3 = nI (nN (D 0 3) + 1) := by rw [lgs_o (by omega) (by omega), up2_s]
      have q4 : ∀ i, lgs (up2 (up2 (up2 D 11 b (nI 2)) 24 (nN (D 0 3)) (nI b)) 0 3 (nI (nN (D 0 3) + 1))) (nI 5) (nI p) (-1) (nI b) 24 i = if i = nN (D 0 3) then nI b else D 24 i := by
        intro i
        rw [lgs_o (by omega) (by omega), up2_n (by omega)]
        split
        next e => rw [e, up2_s]
        next e => rw [up2_n (by omega), up2_n (by omega)]
      refine ⟨fun c hc => ?_, fun r hr => ?_, fun r s hr hs => ?_, fun i hi => ?_⟩
      · rw [q 11 c (by omega), q 12 c (by omega)]
        exact hJ2.1 c hc
      · rw [q 16 r (by omega), q 17 r (by omega), q 23 r (by omega)]
        refine ⟨(hJ2.2.1 r hr).1, fun h => ?_⟩
        obtain ⟨c, y, hc, hy, a1, a2, a3, a4⟩ := (hJ2.2.1 r hr).2 h
        exact ⟨c, y, hc, hy, a1, by rw [q 11 c (by omega)]; exact a2, a3, by rw [q 12 c (by omega)]; exact a4⟩
      · rw [q 16 r (by omega), q 16 s (by omega), q 17 r (by omega), q 17 s (by omega)]
        exact hJ2.2.2.1 r s hr hs
      · rw [q3, nN_nI (by omega)] at hi ⊢
        rw [q4]
        by_cases e : i = nN (D 0 3)
        · rw [if_pos e]
          refine ⟨b, b1, rfl, by rw [q 11 b (by omega), up2_s], fun j hj h => ?_⟩
          rw [q4] at h
          by_cases e2 : j = nN (D 0 3)
          · omega
          · rw [if_neg e2] at h
            exact absurd h (hK j (by omega))
        · rw [if_neg e]
          obtain ⟨c, hc2, k1, k2, k3⟩ := hJ.2.2.2 i (by omega)
          have hcb : ¬ c = b := by
            rintro rfl
            exact n2 k2
          refine ⟨c, hc2, k1, by rw [q 11 c (by omega), up2_n (by omega)]; exact k2, fun j hj h => ?_⟩
          rw [q4] at h
          by_cases e2 : j = nN (D 0 3)
          · rw [if_pos e2] at h
            exact absurd (nI_inj h (by omega) (by omega)).symm hcb
          · rw [if_neg e2] at h
            exact k3 j (by omega) h
  next => exact hJ
theorem lv1_JI {t : Sg} {p : Nat} {D : Dy} (hT : WN t) (hp : p < nP t) (h3 : Is (D 0 3) 12) (hJ : JI t D) : JI t (lv1 t p D) := by
  have hB := hT.B
  have h32 := h3.2
  unfold lv1
  split
  next hc =>
    obtain ⟨b, b1, b2, b3, b4⟩ := hJ.2.2.2 0 hc.1
    rw [b2, nN_nI (by omega)]
    have q3 : shf (up2 D 0 3 (nI (nN (D 0 3) - 1))) 24 (nN (D 0 3) - 1) 0 3 = nI (nN (D 0 3) - 1) := by rw [shf_o (by omega), up2_s]
    have q4 : ∀ i, i < nN (D 0 3) - 1 → shf (up2 D 0 3 (nI (nN (D 0 3) - 1))) 24 (nN (D 0 3) - 1) 24 i = D 24 (i + 1) := by
      intro i hi
      unfold shf
      rw [if_pos ⟨rfl, hi⟩, up2_n (by omega)]
    have q : ∀ g i, (g = 11 ∨ g = 12 ∨ g = 16 ∨ g = 17 ∨ g = 23) → shf (up2 D 0 3 (nI (nN (D 0 3) - 1))) 24 (nN (D 0 3) - 1) g i = D g i := fun g i h => by rw [shf_o (by omega), up2_n (by omega)]
    have hJ2 : JI t (shf (up2 D 0 3 (nI (nN (D 0 3) - 1))) 24 (nN (D 0 3) - 1)) := by
      refine ⟨fun c hc => ?_, fun r hr => ?_, fun r s hr hs => ?_, fun i hi => ?_⟩
      · rw [q 11 c (by omega), q 12 c (by omega)]
        exact hJ.1 c hc
      · rw [q 16 r (by omega), q 17 r (by omega), q 23 r (by omega)]
        refine ⟨(hJ.2.1 r hr).1, fun h => ?_⟩
        obtain ⟨c, y, hc, hy, a1, a2, a3, a4⟩ := (hJ.2.1 r hr).2 h
        exact ⟨c, y, hc, hy, a1, by rw [q 11 c (by omega)]; exact a2, a3, by rw [q 12 c (by omega)]; exact a4⟩
      · rw [q 16 r (by omega), q 16 s (by omega), q 17 r (by omega), q 17 s (by omega)]
        exact hJ.2.2.1 r s hr hs
      · rw [q3, nN_nI (by omega)] at hi ⊢
        obtain ⟨c, hc2, k1, k2, k3⟩ := hJ.2.2.2 (i + 1) (by omega)
        refine ⟨c, hc2, by rw [q4 i hi]; exact k1, by rw [q 11 c (by omega)]; exact k2, fun j hj h => ?_⟩
        rw [q4 j hj] at h
        have := k3 (j + 1) (by omega) h
        omega
    refine JI_bike (b := b) (s := 0) (p := p) hJ2 ?_ ?_ (by omega) hp (by rw [lgs_o (by omega) (by omega), up2_n (by omega), up2_s]) (by rw [lgs_o (by omega) (by omega), up2_s]) (fun c hc => ⟨by rw [lgs_o (by omega) (by omega), up2_n (by omega), up2_n (by omega)], by rw [lgs_o (by omega) (by omega), up2_n (by omega), up2_n (by omega)]⟩) (fun g i h => by rw [lgs_o (by omega) (by omega), up2_n (by omega), up2_n (by omega)])
    · refine hJ2.nr hT b1 ?_
      rw [q 11 b (by omega), b3]
      decide
    · intro i hi h
      rw [q3, nN_nI (by omega)] at hi
      rw [q4 i hi] at h
      have := b4 (i + 1) (by omega) h
      omega
  next => exact hJ
theorem drp_JI {t : Sg} {D : Dy} (hJ : JI t D) : JI t (drp D) := JI_same hJ (fun g i h => drp_o (by omega))
def WI (t : Sg) (D : Dy) : Prop := VI t D ∧ JI t D
theorem stp_WI {t : Sg} {D : Dy} (hT : WN t) (h : WI t D) (h1 : 1 ≤ nN (D 0 6)) : WI t (stp t D) := by
  obtain ⟨p, hp, e⟩ := (h.1.2.2.2.1 0 (by omega)).1
  have hP := hT.P
  have e2 : nN (D 25 0) < nP t := by rw [e, nN_nI (by omega)]; exact hp
  have h0 : WI t (up2 D 0 2 (nI (nN (D 25 0)))) := ⟨van_VI e2 h.1, JI_same h.2 (fun g i q => up2_n (by omega))⟩
  unfold stp
  split
  · have := itr_I (P := WI t) (f := lv1 t (nN (D 25 0))) (fun X hX => ⟨lv1_VI hX.1, lv1_JI hT e2 hX.1.1 hX.2⟩) (nN (-(D 26 0))) h0
    exact ⟨drp_VI this.1, drp_JI this.2⟩
  · have := itr_I (P := WI t) (f := tk1 t (nN (D 25 0))) (fun X hX => ⟨tk1_VI hX.1, tk1_JI hT e2 hX.1.1 hX.2⟩) (nN (D 26 0)) h0
    exact ⟨drp_VI this.1, drp_JI this.2⟩
theorem VI_of {t : Sg} {D E : Dy} (h : VI t D) (e : ∀ g i, (g = 24 ∨ g = 25 ∨ g = 26 ∨ (g = 0 ∧ (i = 2 ∨ i = 3 ∨ i = 6))) → E g i = D g i) (h7 : Is (E 0 7) 4000) : VI t E := by
  obtain ⟨h3, -, h6, hS, hC, hv⟩ := h
  refine ⟨by rw [e 0 3 (by omega)]; exact h3, h7, by rw [e 0 6 (by omega)]; exact h6, SI_of hS (e 0 6 (by omega)) (fun i => e 25 i (by omega)) (fun i => e 26 i (by omega)), ?_, by rw [e 0 2 (by omega)]; exact hv⟩
  intro i hi
  rw [e 0 3 (by omega)] at hi
  rw [e 24 i (by omega)]
  exact hC i hi
/-- where the van goes to and when -/
def CI (D : Dy) : Prop := D 0 5 = -1 ∨ ∃ c, D 0 5 = nI c ∧ nN (D 0 0) ≤ c ∧ c ≤ 1480 ∧ 1 ≤ nN (D 0 6)
theorem drv_WI {t : Sg} (hT : WN t) (hW : WT t) : ∀ (n : Nat) (D : Dy), WI t D → nN (D 0 6) = n → Is (D 0 0) 1439 → (D 0 5 = -1 ∨ ∃ c, D 0 5 = nI c ∧ nN (D 0 0) < c ∧ c ≤ 1480 ∧ 1 ≤ nN (D 0 6)) → WI t (drv t n D) ∧ (drv t n D 0 5 = -1 ∨ ∃ c, drv t n D 0 5 = nI c ∧ nN (drv t n D 0 0) < c ∧ c ≤ 1480 ∧ 1 ≤ nN (drv t n D 0 6))
  | 0, D, h, _, _, hc => ⟨h, hc⟩
  | n + 1, D, h, hn, hm, hc => by
    have hP := hT.P
    have h6 := h.1.2.2.1.2
    rw [drv_S]
    split
    next h5 =>
      obtain ⟨p, hp, hp0⟩ := (h.1.2.2.2.1 0 (by omega)).1
      obtain ⟨v, hv, hv0⟩ := h.1.2.2.2.2.2
      have hv' : v < nP t := hv.elim (fun q => by omega) (fun q => q)
      split
      next => exact drv_WI hT hW n (stp t D) (stp_WI hT h (by omega)) (by rw [stp_6, nN_nI (by omega)]; omega) (by rw [stp_o (by omega)]; exact hm) (Or.inl (by rw [stp_o (by omega)]; exact h5))
      next =>
        refine ⟨⟨VI_of h.1 (fun g i q => up2_n (by omega)) (by rw [up2_n (by omega)]; exact h.1.2.1), JI_same h.2 (fun g i q => up2_n (by omega))⟩, Or.inr ?_⟩
        have hw := wayN_le hW (p := v) (q := p) hv' hp
        have hm2 := hm.2
        refine ⟨nN (D 0 0) + wayN t v p, ?_, ?_, ?_, ?_⟩
        · rw [up2_s, hp0, hv0, nN_nI (by omega), nN_nI (by omega), way_n hW hv' hp, ← nI_add, ← hm.1]
        · rw [up2_n (by omega)]; omega
        · omega
        · rw [up2_n (by omega)]; omega
    next => exact ⟨h, hc⟩
