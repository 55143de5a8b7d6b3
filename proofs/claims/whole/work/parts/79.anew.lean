/-! The class's new day is the model's. -/
def hmC (t : Sg) (n p : Nat) : Nat := ct (fun b => decide (t 75 false 0 b = nI p)) n
def BG (d : Bool) (s t : Sg) (z : Int32) (j1 j2 j3 : Nat) (σ : Sg) : Prop := Fr d s σ ∧ (σ 26 d 0 4 = nI 0 ∧ σ 26 d 0 5 = z ∧ σ 37 d 0 0 = (if d = true then nI 0 else nI 4000)) ∧ (∀ p, p < j1 → σ 27 d 0 p = nI 10 ∧ σ 28 d 0 p = nI 1 ∧ σ 29 d 0 p = nI (hmC t j2 p) ∧ σ 30 d 0 p = nI (hmC t j2 p) ∧ σ 31 d 0 p = nI 0) ∧ (∀ b, b < j2 → σ 32 d 1 b = nI 0 ∧ σ 32 d 2 b = t 75 false 0 b ∧ σ 32 d 3 b = nI 0 ∧ σ 32 d 4 b = nI 0) ∧ ∀ r w, r < j3 → w < 6 → σ 34 d (w + 1) r = (if w = 0 ∨ w = 5 then nI 0 else -1)
/-- what was told of bikes: where they begin -/
def HM (t : Sg) : Prop := ∀ b, b < nB t → ∃ p, p < nP t ∧ t 75 false 0 b = nI p
theorem BG_p {d : Bool} {s t σ : Sg} {z : Int32} {p : Nat} (h : BG d s t z p 0 0 σ) : BG d s t z (p + 1) 0 0 (up4 (up4 (up4 (up4 (up4 σ 27 d 0 p (nI (10))) 28 d 0 p (nI (1))) 29 d 0 p (nI (0))) 30 d 0 p (nI (0))) 31 d 0 p (nI (0))) := by
  obtain ⟨hF, hm, hp, _, _⟩ := h
  refine ⟨Fr_w (Fr_w (Fr_w (Fr_w (Fr_w hF _ (by omega)) _ (by omega)) _ (by omega)) _ (by omega)) _ (by omega), ⟨?_, ?_, ?_⟩, fun q hq => ?_, fun b hb => absurd hb (Nat.not_lt_zero _), fun r w hr => absurd hr (Nat.not_lt_zero _)⟩
  · rw [u4n (by omega), u4n (by omega), u4n (by omega), u4n (by omega), u4n (by omega)]; exact hm.1
  · rw [u4n (by omega), u4n (by omega), u4n (by omega), u4n (by omega), u4n (by omega)]; exact hm.2.1
  · rw [u4n (by omega), u4n (by omega), u4n (by omega), u4n (by omega), u4n (by omega)]; exact hm.2.2
  · by_cases e : q = p
    · subst e
      refine ⟨?_, ?_, ?_, ?_, ?_⟩
      · rw [u4n (by omega), u4n (by omega), u4n (by omega), u4n (by omega), up4_s]
      · rw [u4n (by omega), u4n (by omega), u4n (by omega), up4_s]
      · rw [u4n (by omega), u4n (by omega), up4_s]; rfl
      · rw [u4n (by omega), up4_s]; rfl
      · rw [up4_s]
    · have h1 := hp q (by omega)
      refine ⟨?_, ?_, ?_, ?_, ?_⟩
      · rw [u4n (by omega), u4n (by omega), u4n (by omega), u4n (by omega), u4n (by omega)]; exact h1.1
      · rw [u4n (by omega), u4n (by omega), u4n (by omega), u4n (by omega), u4n (by omega)]; exact h1.2.1
      · rw [u4n (by omega), u4n (by omega), u4n (by omega), u4n (by omega), u4n (by omega)]; exact h1.2.2.1
      · rw [u4n (by omega), u4n (by omega), u4n (by omega), u4n (by omega), u4n (by omega)]; exact h1.2.2.2.1
      · rw [u4n (by omega), u4n (by omega), u4n (by omega), u4n (by omega), u4n (by omega)]; exact h1.2.2.2.2
theorem hmC_S (t : Sg) (n p : Nat) : hmC t (n + 1) p = hmC t n p + (if decide (t 75 false 0 n = nI p) = true then 1 else 0) := rfl
theorem BG_b {d : Bool} {s t σ : Sg} {z : Int32} {b p : Nat} (h : BG d s t z (nP t) b 0 σ) (hT : WN t) (hp : p < nP t) (hh : t 75 false 0 b = nI p) : BG d s t z (nP t) (b + 1) 0 (up4 (up4 (up4 (up4 (up4 (up4 σ 32 d ((2) + 1) b (nI (0))) 32 d ((3) + 1) b (nI (0))) 32 d ((0) + 1) b (nI (0))) 32 d ((1) + 1) b (nI (p))) 29 d 0 p (((up4 (up4 (up4 (up4 σ 32 d ((2) + 1) b (nI (0))) 32 d ((3) + 1) b (nI (0))) 32 d ((0) + 1) b (nI (0))) 32 d ((1) + 1) b (nI (p))) 29 d 0 p) + (nI (1)))) 30 d 0 p (((up4 (up4 (up4 (up4 (up4 σ 32 d ((2) + 1) b (nI (0))) 32 d ((3) + 1) b (nI (0))) 32 d ((0) + 1) b (nI (0))) 32 d ((1) + 1) b (nI (p))) 29 d 0 p (((up4 (up4 (up4 (up4 σ 32 d ((2) + 1) b (nI (0))) 32 d ((3) + 1) b (nI (0))) 32 d ((0) + 1) b (nI (0))) 32 d ((1) + 1) b (nI (p))) 29 d 0 p) + (nI (1)))) 30 d 0 p) + (nI (1)))) := by
  obtain ⟨hF, hm, hq, hb, _⟩ := h
  have hP := hT.P
  have e1 : hmC t (b + 1) p = hmC t b p + 1 := by rw [hmC_S, if_pos (decide_eq_true hh)]
  have e2 : ∀ q, ¬ q = p → q < nP t → hmC t (b + 1) q = hmC t b q := fun q n hq2 => by rw [hmC_S, if_neg (fun c => n ((nI_inj (hh.symm.trans (of_decide_eq_true c)) (by omega) (by omega)).symm)), Nat.add_zero]
  have a29 : (((up4 (up4 (up4 (up4 σ 32 d ((2) + 1) b (nI (0))) 32 d ((3) + 1) b (nI (0))) 32 d ((0) + 1) b (nI (0))) 32 d ((1) + 1) b (nI (p))) 29 d 0 p) + (nI (1))) = nI (hmC t (b + 1) p) := by rw [u4n (by omega), u4n (by omega), u4n (by omega), u4n (by omega), (hq p hp).2.2.1, nI_add, e1]
  rw [a29]
  have a30 : (((up4 (up4 (up4 (up4 (up4 σ 32 d ((2) + 1) b (nI (0))) 32 d ((3) + 1) b (nI (0))) 32 d ((0) + 1) b (nI (0))) 32 d ((1) + 1) b (nI (p))) 29 d 0 p (nI (hmC t (b + 1) p))) 30 d 0 p) + (nI (1))) = nI (hmC t (b + 1) p) := by rw [u4n (by omega), u4n (by omega), u4n (by omega), u4n (by omega), u4n (by omega), (hq p hp).2.2.2.1, nI_add, e1]
  rw [a30]
  refine ⟨Fr_w (Fr_w (Fr_w (Fr_w (Fr_w (Fr_w hF _ (by omega)) _ (by omega)) _ (by omega)) _ (by omega)) _ (by omega)) _ (by omega), ⟨?_, ?_, ?_⟩, fun q hq2 => ?_, fun c hc => ?_, fun r w hr => absurd hr (Nat.not_lt_zero _)⟩
  · rw [u4n (by omega), u4n (by omega), u4n (by omega), u4n (by omega), u4n (by omega), u4n (by omega)]; exact hm.1
  · rw [u4n (by omega), u4n (by omega), u4n (by omega), u4n (by omega), u4n (by omega), u4n (by omega)]; exact hm.2.1
  · rw [u4n (by omega), u4n (by omega), u4n (by omega), u4n (by omega), u4n (by omega), u4n (by omega)]; exact hm.2.2
  · have h1 := hq q hq2
    by_cases e : q = p
    · subst e
      refine ⟨?_, ?_, ?_, ?_, ?_⟩
      · rw [u4n (by omega), u4n (by omega), u4n (by omega), u4n (by omega), u4n (by omega), u4n (by omega)]; exact h1.1
      · rw [u4n (by omega), u4n (by omega), u4n (by omega), u4n (by omega), u4n (by omega), u4n (by omega)]; exact h1.2.1
      · rw [u4n (by omega), up4_s]
      · rw [up4_s]
      · rw [u4n (by omega), u4n (by omega), u4n (by omega), u4n (by omega), u4n (by omega), u4n (by omega)]; exact h1.2.2.2.2
    · rw [e2 q e hq2]
      refine ⟨?_, ?_, ?_, ?_, ?_⟩
      · rw [u4n (by omega), u4n (by omega), u4n (by omega), u4n (by omega), u4n (by omega), u4n (by omega)]; exact h1.1
      · rw [u4n (by omega), u4n (by omega), u4n (by omega), u4n (by omega), u4n (by omega), u4n (by omega)]; exact h1.2.1
      · rw [u4n (by omega), u4n (by omega), u4n (by omega), u4n (by omega), u4n (by omega), u4n (by omega)]; exact h1.2.2.1
      · rw [u4n (by omega), u4n (by omega), u4n (by omega), u4n (by omega), u4n (by omega), u4n (by omega)]; exact h1.2.2.2.1
      · rw [u4n (by omega), u4n (by omega), u4n (by omega), u4n (by omega), u4n (by omega), u4n (by omega)]; exact h1.2.2.2.2
  · by_cases e : c = b
    · subst e
      refine ⟨?_, ?_, ?_, ?_⟩
      · rw [u4n (by omega), u4n (by omega), u4n (by omega), up4_s]
      · rw [u4n (by omega), u4n (by omega), up4_s]; exact hh.symm
      · rw [u4n (by omega), u4n (by omega), u4n (by omega), u4n (by omega), u4n (by omega), up4_s]
      · rw [u4n (by omega), u4n (by omega), u4n (by omega), u4n (by omega), up4_s]
    · have h1 := hb c (by omega)
      refine ⟨?_, ?_, ?_, ?_⟩
      · rw [u4n (by omega), u4n (by omega), u4n (by omega), u4n (by omega), u4n (by omega), u4n (by omega)]; exact h1.1
      · rw [u4n (by omega), u4n (by omega), u4n (by omega), u4n (by omega), u4n (by omega), u4n (by omega)]; exact h1.2.1
      · rw [u4n (by omega), u4n (by omega), u4n (by omega), u4n (by omega), u4n (by omega), u4n (by omega)]; exact h1.2.2.1
      · rw [u4n (by omega), u4n (by omega), u4n (by omega), u4n (by omega), u4n (by omega), u4n (by omega)]; exact h1.2.2.2
theorem BG_r {d : Bool} {s t σ : Sg} {z : Int32} {r j1 j2 : Nat} (h : BG d s t z j1 j2 r σ) : BG d s t z j1 j2 (r + 1) (up4 (up4 (up4 (up4 (up4 (up4 σ 34 d ((0) + 1) r (nI (0))) 34 d ((1) + 1) r (-1)) 34 d ((2) + 1) r (-1)) 34 d ((3) + 1) r (-1)) 34 d ((4) + 1) r (-1)) 34 d ((5) + 1) r (nI (0))) := by
  obtain ⟨hF, hm, hp, hb, hr⟩ := h
  refine ⟨Fr_w (Fr_w (Fr_w (Fr_w (Fr_w (Fr_w hF _ (by omega)) _ (by omega)) _ (by omega)) _ (by omega)) _ (by omega)) _ (by omega), ⟨?_, ?_, ?_⟩, fun q hq => ?_, fun c hc => ?_, fun q w hq hw => ?_⟩
  · rw [u4n (by omega), u4n (by omega), u4n (by omega), u4n (by omega), u4n (by omega), u4n (by omega)]; exact hm.1
  · rw [u4n (by omega), u4n (by omega), u4n (by omega), u4n (by omega), u4n (by omega), u4n (by omega)]; exact hm.2.1
  · rw [u4n (by omega), u4n (by omega), u4n (by omega), u4n (by omega), u4n (by omega), u4n (by omega)]; exact hm.2.2
  · have h1 := hp q hq
    refine ⟨?_, ?_, ?_, ?_, ?_⟩
    · rw [u4n (by omega), u4n (by omega), u4n (by omega), u4n (by omega), u4n (by omega), u4n (by omega)]; exact h1.1
    · rw [u4n (by omega), u4n (by omega), u4n (by omega), u4n (by omega), u4n (by omega), u4n (by omega)]; exact h1.2.1
    · rw [u4n (by omega), u4n (by omega), u4n (by omega), u4n (by omega), u4n (by omega), u4n (by omega)]; exact h1.2.2.1
    · rw [u4n (by omega), u4n (by omega), u4n (by omega), u4n (by omega), u4n (by omega), u4n (by omega)]; exact h1.2.2.2.1
    · rw [u4n (by omega), u4n (by omega), u4n (by omega), u4n (by omega), u4n (by omega), u4n (by omega)]; exact h1.2.2.2.2
  · have h1 := hb c hc
    refine ⟨?_, ?_, ?_, ?_⟩
    · rw [u4n (by omega), u4n (by omega), u4n (by omega), u4n (by omega), u4n (by omega), u4n (by omega)]; exact h1.1
    · rw [u4n (by omega), u4n (by omega), u4n (by omega), u4n (by omega), u4n (by omega), u4n (by omega)]; exact h1.2.1
    · rw [u4n (by omega), u4n (by omega), u4n (by omega), u4n (by omega), u4n (by omega), u4n (by omega)]; exact h1.2.2.1
    · rw [u4n (by omega), u4n (by omega), u4n (by omega), u4n (by omega), u4n (by omega), u4n (by omega)]; exact h1.2.2.2
  · by_cases e : q = r
    · subst e
      rcases (show w = 0 ∨ w = 1 ∨ w = 2 ∨ w = 3 ∨ w = 4 ∨ w = 5 by omega) with rfl | rfl | rfl | rfl | rfl | rfl
      · rw [u4n (by omega), u4n (by omega), u4n (by omega), u4n (by omega), u4n (by omega), up4_s]; rfl
      · rw [u4n (by omega), u4n (by omega), u4n (by omega), u4n (by omega), up4_s]; rfl
      · rw [u4n (by omega), u4n (by omega), u4n (by omega), up4_s]; rfl
      · rw [u4n (by omega), u4n (by omega), up4_s]; rfl
      · rw [u4n (by omega), up4_s]; rfl
      · rw [up4_s]; rfl
    · rw [u4n (by omega), u4n (by omega), u4n (by omega), u4n (by omega), u4n (by omega), u4n (by omega)]; exact hr q w (by omega) hw
theorem BG_o {d : Bool} {s t σ σ' : Sg} {z : Int32} {j1 j2 j3 : Nat} (h : BG d s t z j1 j2 j3 σ) (hF : ∀ k d' r i, ¬ (26 ≤ k ∧ k ≤ 47 ∧ d' = d) → scc k i = false → σ' k d' r i = σ k d' r i) (e : ∀ k r i, (k = 26 ∨ (27 ≤ k ∧ k ≤ 34) ∨ (k = 37 ∧ i = 0)) → σ' k d r i = σ k d r i) : BG d s t z j1 j2 j3 σ' := by
  obtain ⟨h1, h2, h3, h4, h5⟩ := h
  refine ⟨fun k d' r i q1 q2 => (hF k d' r i q1 q2).trans (h1 k d' r i q1 q2), ⟨?_, ?_, ?_⟩, fun p hp => ?_, fun b hb => ?_, fun r w hr hw => ?_⟩
  · rw [e _ _ _ (by omega)]; exact h2.1
  · rw [e _ _ _ (by omega)]; exact h2.2.1
  · rw [e _ _ _ (by omega)]; exact h2.2.2
  · rw [e _ _ _ (by omega), e _ _ _ (by omega), e _ _ _ (by omega), e _ _ _ (by omega), e _ _ _ (by omega)]; exact h3 p hp
  · rw [e _ _ _ (by omega), e _ _ _ (by omega), e _ _ _ (by omega), e _ _ _ (by omega)]; exact h4 b hb
  · rw [e _ _ _ (by omega)]; exact h5 r w hr hw
theorem wt0 {t : Sg} {D : Dy} {er p : Nat} (h : ∀ r, r < nR t → D 16 r = nI 0) : wtx t D er p = 0 := ct_none (fun r hr => by rw [h r hr, decide_eq_false (show ¬ nI 0 = nI 1 by decide), Bool.false_and, Bool.and_false])
/-- where all begins anew -/
theorem Cg_bgn {d : Bool} {s t σ : Sg} {D : Dy} {z : Int32} (hTR : TR s t) (hT : WN t) (h : BG d s t z (nP t) (nB t) (nR t) σ) (hv : σ 44 d 0 0 = nI 0 ∧ σ 44 d 0 1 = nI 0 ∧ σ 44 d 0 2 = nI 0 ∧ σ 44 d 0 3 = -1) (hl : σ 37 d 0 1 = nI 0 ∧ σ 37 d 0 2 = nI 0) (hg : ∀ p y, p < 12 → y < 24 → σ 39 d (p + 1) y = nI 0 ∧ σ 40 d (p + 1) y = nI 0 ∧ σ 41 d (p + 1) y = nI 0 ∧ σ 42 d (p + 1) y = nI 0) (h43 : ∀ p, p < 12 → σ 43 d 0 p = nI 0) : Cg d s t (bgn t D) 60 200 (fun _ _ => nI 0, fun _ => nI 0, z) σ := by
  obtain ⟨hF, hm, hp, hb, hr⟩ := h
  have hP := hT.P
  have hB := hT.B
  have hR := hT.R
  have b0 : ∀ i, i < 8 → ¬ i = 5 → bgn t D 0 i = nI 0 := fun i hi h5 => by rw [bgn_0 hi, if_neg h5]
  have b11 : ∀ b, b < nB t → bgn t D 11 b = nI 0 := fun b hb => bgn_z (by omega) (by show b < 60; omega)
  have b14 : ∀ b, b < nB t → bgn t D 14 b = nI 0 := fun b hb => bgn_z (by omega) (by show b < 60; omega)
  have b16 : ∀ r, r < nR t → bgn t D 16 r = nI 0 := fun r hr => by rw [bgn_r (by omega) hr, if_pos (Or.inl rfl)]
  have eA : ∀ p, thr t (bgn t D) p = hmC t (nB t) p := fun p => ct_cong (fun b hb => by
    show (decide (bgn t D 11 b = nI 0) && decide (bgn t D 12 b = nI p)) = _
    rw [b11 b hb, bgn_12 hb]
    simp)
  have eG : ∀ p, gdn t (bgn t D) p = hmC t (nB t) p := fun p => ct_cong (fun b hb => by
    show ((decide (bgn t D 11 b = nI 0) && decide (bgn t D 12 b = nI p)) && decide (bgn t D 14 b = nI 0)) = _
    rw [b11 b hb, b14 b hb, bgn_12 hb]
    simp)
  refine ⟨hTR, hF, ⟨?_, ?_, ?_, ?_, ?_⟩, fun p h1 => ?_, fun p h1 => ?_, fun p h1 => ?_, fun b h1 => ?_, fun r h1 => ?_, fun p y h1 h2 => ?_, ⟨fun p y h1 h2 => (hg p y h1 h2).2.2.2, h43⟩, fun hd i w hi hw => ?_, ?_, ?_, ?_, ?_, fun i hi => ?_, fun i hi => ?_⟩
  · rw [b0 0 (by omega) (by omega)]; exact hm.1
  · exact hm.2.1
  · rw [b0 1 (by omega) (by omega)]; exact hl.2
  · exact hm.2.2
  · rw [b0 7 (by omega) (by omega)]; rw [hl.1]; split <;> rfl
  · rw [(bgn_p (by omega)).1, (bgn_p (by omega)).2]; exact ⟨(hp p h1).1, (hp p h1).2.1⟩
  · rw [eA, eG]; exact ⟨(hp p h1).2.2.1, (hp p h1).2.2.2.1⟩
  · rw [wt0 b16]; exact (hp p h1).2.2.2.2
  · have q := hb b h1
    rw [b11 b h1, b14 b h1, bgn_12 h1, show bgn t D 13 b = nI 0 from bgn_z (by omega) (by show b < 60; omega)]
    exact ⟨⟨q.1, q.2.2.1, q.2.2.2⟩, fun _ => ⟨by rw [if_neg (by decide)]; exact q.2.1, fun z => absurd z (by decide)⟩⟩
  · refine ⟨fun w hw => ?_, fun _ q => absurd ((b16 r h1).symm.trans q) (by decide)⟩
    rw [hr r w h1 hw, bgn_r (by omega) h1]
    by_cases e : w = 0 ∨ w = 5
    · rw [if_pos e, if_pos (by omega)]
    · rw [if_neg e, if_neg (by omega)]
  · have q := hg p y h1 h2
    rw [show bgn t D 7 (24 * p + y) = nI 0 from bgn_z (by omega) (by show 24 * p + y < 288; omega), show bgn t D 8 (24 * p + y) = nI 0 from bgn_z (by omega) (by show 24 * p + y < 288; omega), show bgn t D 9 (24 * p + y) = nI 0 from bgn_z (by omega) (by show 24 * p + y < 288; omega)]
    exact ⟨q.1, q.2.1, q.2.2.1⟩
  · rw [b0 7 (by omega) (by omega)] at hi
    exact absurd hi (Nat.not_lt_zero _)
  · rw [b0 2 (by omega) (by omega)]; exact hv.1
  · rw [b0 3 (by omega) (by omega)]; exact hv.2.1
  · rw [b0 6 (by omega) (by omega)]; exact hv.2.2.1
  · rw [bgn_0 (by omega), if_pos rfl]; exact hv.2.2.2
  · rw [b0 3 (by omega) (by omega)] at hi
    exact absurd hi (Nat.not_lt_zero _)
  · rw [b0 6 (by omega) (by omega)] at hi
    exact absurd hi (Nat.not_lt_zero _)
theorem cv_bgR {d : Bool} {s t : Sg} {D : Dy} {z : Int32} (hTR : TR s t) (hT : WN t) (hM : HM t) : ∀ (n j : Nat) (σ : Sg), j + n = nR t → BG d s t z (nP t) (nB t) j σ → G false 173 (fun r' s' => r' = none ∧ Cg d s t (bgn t D) 60 200 (fun _ _ => nI 0, fun _ => nI 0, z) s') 32 [some (.inr (.inr (26, d, 0))), some (.inl z), some (.inl (nI j))] [] σ := by
  have hP := hT.P
  have hB := hT.B
  have hR := hT.R
  intro n
  induction n with
  | zero =>
    intro j σ hj hG
    have eP : σ 1 false 0 0 = nI (nP t) := (Fr_k hG.1 (by decide) 0 0 rfl).trans (hTR.c1_0.trans hT.1.1)
    have eB : σ 1 false 0 1 = nI (nB t) := (Fr_k hG.1 (by decide) 0 1 rfl).trans (hTR.c1_1.trans hT.2.1.1)
    have eR : σ 1 false 0 2 = nI (nR t) := (Fr_k hG.1 (by decide) 0 2 rfl).trans (hTR.c1_2.trans hT.2.2.1)
    refine G_wp 60 [32] rfl ?_
    refine br_ge rfl eR (by omega) (by omega) (fun h36 => ?_) (fun h36 => ?_)
    · refine ⟨_, _, cv_sVan, ?_⟩
      obtain ⟨σ9, ev9, σ8, hq8, e9⟩ := cv_clear (d := d) (σ := (up4 (up4 (up4 (up4 σ 44 d 0 0 (nI (0))) 44 d 0 1 (nI (0))) 44 d 0 2 (nI (0))) 44 d 0 3 (-1)))
      refine ⟨_, _, ev9, ?_⟩
      refine ⟨rfl, ?_⟩
      subst e9
      have f8 : ∀ k d' r i, ¬ (39 ≤ k ∧ k ≤ 43 ∧ d' = d) → flW 43 d 0 12 σ8 k d' r i = (up4 (up4 (up4 (up4 (up4 (up4 σ 44 d 0 0 (nI (0))) 44 d 0 1 (nI (0))) 44 d 0 2 (nI (0))) 44 d 0 3 (-1)) 37 d 0 1 (nI 0)) 37 d 0 2 (nI 0)) k d' r i := fun k d' r i q => (if_neg (fun c => q ⟨by omega, by omega, c.2.1⟩)).trans (hq8.1 k d' r i (fun c => q ⟨by omega, by omega, c.2.2⟩))
      refine Cg_bgn hTR hT (BG_o (σ := σ) ?_ (fun k d' r i q1 q2 => ?_) (fun k r i q => ?_)) ⟨?_, ?_, ?_, ?_⟩ ⟨?_, ?_⟩ (fun p y hp hy => ?_) (fun p hp => if_pos ⟨rfl, rfl, rfl, hp⟩)
      · rw [show nR t = j by omega]; exact hG
      · rw [f8 k d' r i (fun c => q1 ⟨by omega, by omega, c.2.2⟩), u4n (fun c => q1 ⟨by omega, by omega, c.2.1⟩), u4n (fun c => q1 ⟨by omega, by omega, c.2.1⟩), u4n (fun c => q1 ⟨by omega, by omega, c.2.1⟩), u4n (fun c => q1 ⟨by omega, by omega, c.2.1⟩), u4n (fun c => q1 ⟨by omega, by omega, c.2.1⟩), u4n (fun c => q1 ⟨by omega, by omega, c.2.1⟩)]
      · rw [f8 k d r i (by omega), u4n (by omega), u4n (by omega), u4n (by omega), u4n (by omega), u4n (by omega), u4n (by omega)]
      · rw [f8 _ _ _ _ (by omega), u4n (by omega), u4n (by omega), u4n (by omega), u4n (by omega), u4n (by omega), up4_s]
      · rw [f8 _ _ _ _ (by omega), u4n (by omega), u4n (by omega), u4n (by omega), u4n (by omega), up4_s]
      · rw [f8 _ _ _ _ (by omega), u4n (by omega), u4n (by omega), u4n (by omega), up4_s]
      · rw [f8 _ _ _ _ (by omega), u4n (by omega), u4n (by omega), up4_s]
      · rw [f8 _ _ _ _ (by omega), u4n (by omega), up4_s]
      · rw [f8 _ _ _ _ (by omega), up4_s]
      · have q := hq8.2 p y hp hy
        unfold flW
        rw [if_neg (fun c => absurd c.1 (by decide)), if_neg (fun c => absurd c.1 (by decide)), if_neg (fun c => absurd c.1 (by decide)), if_neg (fun c => absurd c.1 (by decide))]
        exact q
    · exact absurd h36 (by omega)
  | succ n ih =>
    intro j σ hj hG
    have eP : σ 1 false 0 0 = nI (nP t) := (Fr_k hG.1 (by decide) 0 0 rfl).trans (hTR.c1_0.trans hT.1.1)
    have eB : σ 1 false 0 1 = nI (nB t) := (Fr_k hG.1 (by decide) 0 1 rfl).trans (hTR.c1_1.trans hT.2.1.1)
    have eR : σ 1 false 0 2 = nI (nR t) := (Fr_k hG.1 (by decide) 0 2 rfl).trans (hTR.c1_2.trans hT.2.2.1)
    refine G_wp 60 [32] rfl ?_
    refine br_ge rfl eR (by omega) (by omega) (fun h36 => ?_) (fun h36 => ?_)
    · exact absurd h36 (by omega)
    · refine ⟨_, _, cv_sRid (by omega), nI (j + 1), nI_add _ _, ?_⟩
      exact ih (j + 1) _ (by omega) (BG_r hG)
theorem cv_bgB {d : Bool} {s t : Sg} {D : Dy} {z : Int32} (hTR : TR s t) (hT : WN t) (hM : HM t) : ∀ (n j : Nat) (σ : Sg), j + n = nB t → BG d s t z (nP t) j 0 σ → G false 173 (fun r' s' => r' = none ∧ Cg d s t (bgn t D) 60 200 (fun _ _ => nI 0, fun _ => nI 0, z) s') 20 [some (.inr (.inr (26, d, 0))), some (.inl z), some (.inl (nI j))] [] σ := by
  have hP := hT.P
  have hB := hT.B
  have hR := hT.R
  intro n
  induction n with
  | zero =>
    intro j σ hj hG
    have eP : σ 1 false 0 0 = nI (nP t) := (Fr_k hG.1 (by decide) 0 0 rfl).trans (hTR.c1_0.trans hT.1.1)
    have eB : σ 1 false 0 1 = nI (nB t) := (Fr_k hG.1 (by decide) 0 1 rfl).trans (hTR.c1_1.trans hT.2.1.1)
    have eR : σ 1 false 0 2 = nI (nR t) := (Fr_k hG.1 (by decide) 0 2 rfl).trans (hTR.c1_2.trans hT.2.2.1)
    refine G_wp 60 [20, 32] rfl ?_
    refine br_ge rfl eB (by omega) (by omega) (fun h24 => ?_) (fun h24 => ?_)
    · refine ⟨_, rfl, ?_⟩
      exact cv_bgR hTR hT hM (nR t) 0 σ (by omega) (by rw [show nB t = j by omega]; exact hG)
    · exact absurd h24 (by omega)
  | succ n ih =>
    intro j σ hj hG
    have eP : σ 1 false 0 0 = nI (nP t) := (Fr_k hG.1 (by decide) 0 0 rfl).trans (hTR.c1_0.trans hT.1.1)
    have eB : σ 1 false 0 1 = nI (nB t) := (Fr_k hG.1 (by decide) 0 1 rfl).trans (hTR.c1_1.trans hT.2.1.1)
    have eR : σ 1 false 0 2 = nI (nR t) := (Fr_k hG.1 (by decide) 0 2 rfl).trans (hTR.c1_2.trans hT.2.2.1)
    refine G_wp 60 [20, 32] rfl ?_
    refine br_ge rfl eB (by omega) (by omega) (fun h24 => ?_) (fun h24 => ?_)
    · exact absurd h24 (by omega)
    · obtain ⟨p, hp, hh⟩ := hM j (by omega)
      have h5 : σ 5 false 0 j = nI p := (Fr_k hG.1 (by decide) 0 j rfl).trans ((hTR.c5 j (by omega)).trans hh)
      refine ⟨_, _, cv_sBike (by omega) (by omega) h5, nI (j + 1), nI_add _ _, ?_⟩
      exact ih (j + 1) _ (by omega) (BG_b hG hT hp hh)
theorem cv_bgP {d : Bool} {s t : Sg} {D : Dy} {z : Int32} (hTR : TR s t) (hT : WN t) (hM : HM t) : ∀ (n j : Nat) (σ : Sg), j + n = nP t → BG d s t z j 0 0 σ → G false 173 (fun r' s' => r' = none ∧ Cg d s t (bgn t D) 60 200 (fun _ _ => nI 0, fun _ => nI 0, z) s') 8 [some (.inr (.inr (26, d, 0))), some (.inl z), some (.inl (nI j))] [] σ := by
  have hP := hT.P
  have hB := hT.B
  have hR := hT.R
  intro n
  induction n with
  | zero =>
    intro j σ hj hG
    have eP : σ 1 false 0 0 = nI (nP t) := (Fr_k hG.1 (by decide) 0 0 rfl).trans (hTR.c1_0.trans hT.1.1)
    have eB : σ 1 false 0 1 = nI (nB t) := (Fr_k hG.1 (by decide) 0 1 rfl).trans (hTR.c1_1.trans hT.2.1.1)
    have eR : σ 1 false 0 2 = nI (nR t) := (Fr_k hG.1 (by decide) 0 2 rfl).trans (hTR.c1_2.trans hT.2.2.1)
    refine G_wp 60 [8, 20] rfl ?_
    refine br_ge rfl eP (by omega) (by omega) (fun h12 => ?_) (fun h12 => ?_)
    · refine ⟨_, rfl, ?_⟩
      exact cv_bgB hTR hT hM (nB t) 0 σ (by omega) (by rw [show nP t = j by omega]; exact hG)
    · exact absurd h12 (by omega)
  | succ n ih =>
    intro j σ hj hG
    have eP : σ 1 false 0 0 = nI (nP t) := (Fr_k hG.1 (by decide) 0 0 rfl).trans (hTR.c1_0.trans hT.1.1)
    have eB : σ 1 false 0 1 = nI (nB t) := (Fr_k hG.1 (by decide) 0 1 rfl).trans (hTR.c1_1.trans hT.2.1.1)
    have eR : σ 1 false 0 2 = nI (nR t) := (Fr_k hG.1 (by decide) 0 2 rfl).trans (hTR.c1_2.trans hT.2.2.1)
    refine G_wp 60 [8, 20] rfl ?_
    refine br_ge rfl eP (by omega) (by omega) (fun h12 => ?_) (fun h12 => ?_)
    · exact absurd h12 (by omega)
    · refine ⟨_, _, cv_sPost (by omega), nI (j + 1), nI_add _ _, ?_⟩
      exact ih (j + 1) _ (by omega) (BG_p hG)
theorem cv_bgn {d : Bool} {s t : Sg} {D : Dy} {z : Int32} (hTR : TR s t) (hT : WN t) (hM : HM t) {σ : Sg} (hF : Fr d s σ) (h37 : σ 37 d 0 0 = (if d = true then nI 0 else nI 4000)) : ∃ σ', Ev false 173 [.inr (.inr (26, d, 0)), .inl z] σ none σ' ∧ Cg d s t (bgn t D) 60 200 (fun _ _ => nI 0, fun _ => nI 0, z) σ' := by
  refine EvQ_wp 60 [8] rfl rfl ?_
  refine ⟨_, rfl, _, rfl, _, rfl, ?_⟩
  exact cv_bgP hTR hT hM (nP t) 0 _ (by omega) ⟨Fr_w (Fr_w hF _ (by omega)) _ (by omega), ⟨by rw [u4n (by omega), up4_s], up4_s _ _ _ _ _ _, by rw [u4n (by omega), u4n (by omega)]; exact h37⟩, fun p hp => absurd hp (Nat.not_lt_zero _), fun b hb => absurd hb (Nat.not_lt_zero _), fun r w hr => absurd hr (Nat.not_lt_zero _)⟩
