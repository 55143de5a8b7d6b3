/-! The class's step, whole. -/
theorem mMin_n {a b : Nat} (ha : a < 2147483648) (hb : b < 2147483648) : mMin (nI a) (nI b) = nI (min a b) := by
  unfold mMin
  by_cases h : b < a
  · rw [if_pos (by rw [Int32.lt_iff_toInt_lt, nI_toInt ha, nI_toInt hb]; omega), Nat.min_def, if_neg (by omega)]
  · rw [if_neg (by rw [Int32.lt_iff_toInt_lt, nI_toInt ha, nI_toInt hb]; omega), Nat.min_def, if_pos (by omega)]
theorem cv_in {σ : Sg} {v a b : Int32} : Ev false 39 [.inl v, .inl a, .inl b] σ (some (.inl (bD (inI a v b)))) σ := by
  refine Ev_wp 30 [] rfl rfl ?_
  refine ⟨fun h2 => ?_, fun h2 => ?_⟩
  · refine ⟨Or.inl rfl, ?_⟩
    exact ⟨by rw [bD_f (fun q => absurd h2 (Int32.not_lt.mpr q.1))], rfl⟩
  · refine ⟨fun h5 => ?_, fun h5 => ?_⟩
    · refine ⟨Or.inl rfl, ?_⟩
      exact ⟨by rw [bD_f (fun q => absurd h5 (Int32.not_lt.mpr q.2))], rfl⟩
    · refine ⟨Or.inr rfl, ?_⟩
      exact ⟨by rw [bD_t ⟨i_nlt h2, i_nlt h5⟩], rfl⟩
theorem cv_step {s t : Sg} {D : Dy} {Z : Zt} {σ : Sg} (hK : DK false s t D Z σ) (hI : TI t) (hH : TH s t) {x : Int32} : ∃ σ', Ev false 227 [.inr (.inr (0, false, 0)), .inl x] σ (some (.inl (stpR D x))) σ' ∧ ∃ Z', DK false s t (stpD t D x) Z' σ' ∧ Z'.2.2 = Z.2.2 := by
  have hC := hK.1
  obtain ⟨m, hm0⟩ : ∃ m, nN (D 0 0) = m := ⟨_, rfl⟩
  have hm : D 0 0 = nI m := by rw [← hm0]; exact hK.2.1.2.2.1
  have hm2 : m ≤ 1440 := by rw [← hm0]; exact hK.2.1.2.2.2
  refine EvQ_wp 60 [24] rfl rfl ?_
  refine ⟨_, _, cv_in, ?_⟩
  refine brd_ne (fun h4 => ?_) (fun h4 => ?_)
  · obtain ⟨e1, e2, e3⟩ := inI_n (by omega) (by omega) h4
    refine br_lt (hC.m.1.trans hm) rfl (by omega) (by omega) (fun h11 => ?_) (fun h11 => ?_)
    · refine ⟨nI (min (nN x) (1440 - m)), (by rw [show σ 26 false 0 4 = nI m from hC.m.1.trans hm, show nI 1440 - nI m = nI (1440 - m) from sub_n rfl rfl (by omega), ← mMin_n (by omega) (by omega), ← e1]), _, rfl, ?_⟩
      have eR : stpR D x = nI (min (nN x) (1440 - m)) := by unfold stpR stpN; rw [ifC_t h4, ifC_f (by omega), hm0]
      have eD : stpD t D x = itr (gmin t) (min (nN x) (1440 - m)) D := by unfold stpD stpN; rw [ifC_t h4, ifC_f (by omega), hm0]
      rw [eR, eD]
      exact cv_step_l hI hH (by omega) (min (nN x) (1440 - m)) 0 σ Z (by omega) hK rfl (by show nN (D 0 0) = _; omega)
    · have eR : stpR D x = (-3) := by unfold stpR; rw [ifC_t h4, ifC_t (by omega)]
      have eD : stpD t D x = D := by unfold stpD; rw [ifC_t h4, ifC_t (by omega)]
      rw [eR, eD]
      exact ⟨rfl, Z, hK, rfl⟩
  · have eR : stpR D x = (-2) := by unfold stpR; rw [ifC_f h4]
    have eD : stpD t D x = D := by unfold stpD; rw [ifC_f h4]
    rw [eR, eD]
    exact ⟨rfl, Z, hK, rfl⟩
