/-! What is told keeps to its kind. -/
def ND (t : Sg) : Prop := Is (t 69 false 0 26) 20
def TE (t : Sg) : Prop := Is (t 69 false 0 38) 60 ∧ ∀ k, k < nTe t → Is (t 96 false 0 k) 100
def RW (t : Sg) : Prop := ∀ p, p < 12 → ¬ t 89 false 0 p = nI 0 → p < nP t
def HL (t : Sg) (D : Dy) : Prop := ∀ i, i < nH t → nN (t 82 false 0 (4 * i)) ≤ nN (D 0 0)
/-- all that is asked of what was told, and of the day beside it -/
def KV (t : Sg) (D : Dy) : Prop := TI t ∧ TX t ∧ (HM t ∧ HR t) ∧ B86 t ∧ (HV t ∧ HSo t ∧ HL t D) ∧ (ND t ∧ SI2 t ∧ TE t ∧ RW t) ∧ B0 t D ∧ S3 D
theorem TI_of {t t' : Sg} (h : TI t) (e : ∀ k j, (k = 69 ∧ (j = 3 ∨ j = 7 ∨ j = 9 ∨ j = 22)) ∨ (72 ≤ k ∧ k ≤ 73) ∨ (76 ≤ k ∧ k ≤ 79) ∨ (84 ≤ k ∧ k ≤ 85) → t' k false 0 j = t k false 0 j) : TI t' := by
  obtain ⟨h1, h2, h3, h4, h5⟩ := h
  have eP : nP t' = nP t := congrArg nN (e 69 3 (by omega))
  have eR : nR t' = nR t := congrArg nN (e 69 9 (by omega))
  have eK : nRu t' = nRu t := congrArg nN (e 69 22 (by omega))
  refine ⟨?_, fun p hp => ?_, fun r hr => ?_, ⟨?_, fun k hk => ⟨?_, fun i hi => ?_⟩⟩, fun k hk => ?_⟩
  · unfold WN
    rw [e 69 3 (by omega), e 69 7 (by omega), e 69 9 (by omega)]
    exact h1
  · rw [e 72 p (by omega), e 73 p (by omega)]
    exact h2 p (by omega)
  · rw [e 76 r (by omega), e 77 r (by omega), e 78 r (by omega), e 79 r (by omega), eP]
    exact h3 r (by omega)
  · rw [e 69 22 (by omega)]; exact h4.1
  · rw [e 84 k (by omega)]; exact (h4.2 k hk).1
  · rw [e 85 _ (by omega)]; exact (h4.2 k hk).2 i hi
  · have es : sy t' k = sy t k := by
      funext i
      unfold sy
      rw [e 84 k (by omega), e 85 _ (by omega)]
    rw [es, e 84 k (by omega)]
    exact h5 k (by omega)
theorem TX_of {t t' : Sg} (h : TX t) (e : ∀ k j, (k = 69 ∧ j = 20) ∨ k = 83 → t' k false 0 j = t k false 0 j) : TX t' :=
  ⟨by rw [e 69 20 (by omega)]; exact h.1, fun i hi => by rw [e 83 i (by omega)]; exact h.2 i hi⟩
theorem hmC_of {t t' : Sg} (e : ∀ j, t' 75 false 0 j = t 75 false 0 j) (n p : Nat) : hmC t' n p = hmC t n p := ct_cong (fun b _ => by rw [e])
theorem HM_of {t t' : Sg} (h : HM t) (e : ∀ k j, (k = 69 ∧ (j = 3 ∨ j = 7)) ∨ k = 75 → t' k false 0 j = t k false 0 j) : HM t' := fun b hb => by
  have eP : nP t' = nP t := congrArg nN (e 69 3 (by omega))
  have eB : nB t' = nB t := congrArg nN (e 69 7 (by omega))
  rw [eP, e 75 b (by omega)]
  exact h b (by omega)
theorem HR_of {t t' : Sg} (h : HR t) (e : ∀ k j, (k = 69 ∧ (j = 3 ∨ j = 7)) ∨ k = 74 ∨ k = 75 → t' k false 0 j = t k false 0 j) : HR t' := fun p hp => by
  have eP : nP t' = nP t := congrArg nN (e 69 3 (by omega))
  have eB : nB t' = nB t := congrArg nN (e 69 7 (by omega))
  rw [e 74 p (by omega), eB, hmC_of (fun j => e 75 j (by omega))]
  exact h p (by omega)
theorem B86_of {t t' : Sg} (h : B86 t) (e : ∀ k j, (k = 69 ∧ j = 22) ∨ k = 86 → t' k false 0 j = t k false 0 j) : B86 t' := fun k hk => by
  have eK : nRu t' = nRu t := congrArg nN (e 69 22 (by omega))
  rw [e 86 k (by omega)]
  exact h k (by omega)
theorem hOk_m {t t' : Sg} (hP : nP t ≤ nP t') (hB : nB t ≤ nB t') : ∀ {w a : Nat} {b : Int32}, hOk t w a b → hOk t' w a b
  | 0, _, _, h => Nat.lt_of_lt_of_le h hP
  | 1, _, _, h => ⟨Nat.lt_of_lt_of_le h.1 hP, h.2⟩
  | 2, _, _, h => Nat.lt_of_lt_of_le h hB
  | 3, _, _, h => Nat.lt_of_lt_of_le h hB
  | 4, _, _, ⟨h1, p, h2, h3⟩ => ⟨Nat.lt_of_lt_of_le h1 hB, p, h2, Nat.lt_of_lt_of_le h3 hP⟩
  | 5, _, _, h => Nat.lt_of_lt_of_le h hP
  | _ + 6, _, _, h => h.elim
/-- what was done by hand, all of it -/
def HA (t : Sg) (D : Dy) : Prop := HV t ∧ HSo t ∧ HL t D
theorem HA_of {t t' : Sg} {D D' : Dy} (h : HA t D) (e : ∀ k j, (k = 69 ∧ j = 18) ∨ k = 82 → t' k false 0 j = t k false 0 j) (hP : nP t ≤ nP t') (hB : nB t ≤ nB t') (hD : nN (D 0 0) ≤ nN (D' 0 0)) : HA t' D' := by
  obtain ⟨⟨h1, h2⟩, h3, h4⟩ := h
  have eH : nH t' = nH t := congrArg nN (e 69 18 (by omega))
  have e82 : ∀ j, t' 82 false 0 j = t 82 false 0 j := fun j => e 82 j (by omega)
  have w1 : ∀ i, hW t' i = hW t i := fun i => by unfold hW; rw [e82]
  have w2 : ∀ i, hAa t' i = hAa t i := fun i => by unfold hAa; rw [e82]
  have w3 : ∀ i, hBb t' i = hBb t i := fun i => by unfold hBb; rw [e82]
  refine ⟨⟨by rw [e 69 18 (by omega)]; exact h1, fun i hi => ?_⟩, fun i j hij hj => ?_, fun i hi => ?_⟩
  · obtain ⟨q1, q2, q3, q4, q5⟩ := h2 i (by omega)
    rw [w1, w2, w3, e82, e82, e82]
    exact ⟨q1, q2, q3, hOk_m hP hB q4, q5⟩
  · rw [e82, e82]
    exact h3 i j hij (by omega)
  · rw [e82]
    exact Nat.le_trans (h4 i (by omega)) hD
theorem HA_0 {t : Sg} {D : Dy} (h : t 69 false 0 18 = nI 0) : HA t D := by
  have eH : nH t = 0 := by show nN (t 69 false 0 18) = 0; rw [h]; rfl
  refine ⟨⟨by rw [h]; exact ⟨rfl, by decide⟩, fun i hi => absurd hi (by omega)⟩, fun i j _ hj => absurd hj (by omega), fun i hi => absurd hi (by omega)⟩
theorem ND_of {t t' : Sg} (h : ND t) (e : t' 69 false 0 26 = t 69 false 0 26) : ND t' := by
  unfold ND
  rw [e]
  exact h
theorem SI2_of {t t' : Sg} (h : SI2 t) (e : ∀ j, j = 31 ∨ j = 34 → t' 69 false 0 j = t 69 false 0 j) : SI2 t' := by
  unfold SI2
  rw [e 31 (by omega), e 34 (by omega)]
  exact h
theorem TE_of {t t' : Sg} (h : TE t) (e : ∀ k j, (k = 69 ∧ j = 38) ∨ k = 96 → t' k false 0 j = t k false 0 j) : TE t' := by
  have eT : nTe t' = nTe t := congrArg nN (e 69 38 (by omega))
  refine ⟨by rw [e 69 38 (by omega)]; exact h.1, fun k hk => by rw [e 96 k (by omega)]; exact h.2 k (by omega)⟩
theorem RW_of {t t' : Sg} (h : RW t) (hP : nP t ≤ nP t') (e : ∀ j, t' 89 false 0 j = t 89 false 0 j) : RW t' := fun p hp q => Nat.lt_of_lt_of_le (h p hp (by rw [← e]; exact q)) hP
theorem B0_of {t t' : Sg} {D : Dy} (h : B0 t D) (e : ∀ k j, (k = 69 ∧ (j = 7 ∨ j = 18)) ∨ k = 75 → t' k false 0 j = t k false 0 j) : B0 t' D := fun q => by
  have eB : nB t' = nB t := congrArg nN (e 69 7 (by omega))
  have eH : nH t' = nH t := congrArg nN (e 69 18 (by omega))
  obtain ⟨h1, h2⟩ := h ⟨q.1, by omega⟩
  exact ⟨h1, fun b hb => by rw [e 75 b (by omega)]; exact h2 b (by omega)⟩
theorem B0_no {t : Sg} {D : Dy} (h : ¬ (nN (D 0 0) = 0 ∧ nH t = 0)) : B0 t D := fun q => absurd q h
/-- a change that none of it looks at -/
theorem KV_of {t t' : Sg} {D : Dy} (h : KV t D) (e : ∀ k j, (k = 69 ∧ ¬ (16 ≤ j ∧ j ≤ 17)) ∨ (72 ≤ k ∧ k ≤ 79) ∨ (82 ≤ k ∧ k ≤ 86) ∨ k = 89 ∨ k = 96 → t' k false 0 j = t k false 0 j) : KV t' D := by
  obtain ⟨h1, h2, ⟨h3, h4⟩, h5, h6, ⟨h7, h8, h9, h10⟩, h11, h12⟩ := h
  have eP : nP t' = nP t := congrArg nN (e 69 3 (by omega))
  have eB : nB t' = nB t := congrArg nN (e 69 7 (by omega))
  exact ⟨TI_of h1 (fun k j q => e k j (by omega)), TX_of h2 (fun k j q => e k j (by omega)), ⟨HM_of h3 (fun k j q => e k j (by omega)), HR_of h4 (fun k j q => e k j (by omega))⟩, B86_of h5 (fun k j q => e k j (by omega)), HA_of h6 (fun k j q => e k j (by omega)) (by omega) (by omega) (Nat.le_refl _), ⟨ND_of h7 (e 69 26 (by omega)), SI2_of h8 (fun j q => e 69 j (by omega)), TE_of h9 (fun k j q => e k j (by omega)), RW_of h10 (by omega) (fun j => e 89 j (by omega))⟩, B0_of h11 (fun k j q => e k j (by omega)), h12⟩
