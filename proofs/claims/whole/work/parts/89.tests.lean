/-! Tests of bikes: the class. -/
theorem cv_cf_l {t : Sg} {D : Dy} {Z : Zt} {σ : Sg} (hC : Cg false σ t D 60 200 Z σ) (hS : Is (t 69 false 0 38) 60) {c v : Int32} : ∀ (n j m : Nat), j + n = nTe t → m = ct (fun k => decide (c ≤ t 96 false 0 k) && decide (t 97 false 0 k = v)) j → G false 32 (fun r' s' => r' = some (.inl (nI (rwN t c v))) ∧ s' = σ) 4 [some (.inr (.inr (66, false, 0))), some (.inl c), some (.inl v), some (.inl (nI m)), some (.inl (nI j))] [] σ := by
  have hN : nTe t ≤ 60 := hS.2
  have eN : σ 66 false 0 0 = nI (nTe t) := hC.tr.c66_0.trans hS.1
  intro n
  induction n with
  | zero =>
    intro j m hj hn
    refine G_wp 60 [4] rfl ?_
    refine br_ge rfl eN (by omega) (by omega) (fun h7 => ?_) (fun h7 => ?_)
    · exact ⟨by rw [hn]; unfold rwN; rw [show nTe t = j by omega], rfl⟩
    · exact absurd h7 (by omega)
  | succ n ih =>
    intro j m hj hn
    refine G_wp 60 [4] rfl ?_
    refine br_ge rfl eN (by omega) (by omega) (fun h7 => ?_) (fun h7 => ?_)
    · exact absurd h7 (by omega)
    · refine ⟨j, rfl, (by show _ < 60; omega), ?_⟩
      refine ⟨fun h13 => ?_, fun h13 => ?_⟩
      · rw [(hC.tr.c67 j (by omega))] at h13
        refine ⟨nI (j + 1), nI_add _ _, ?_⟩
        exact ih (j + 1) m (by omega) (by rw [ct_S, if_neg (by rw [decide_eq_false (Int32.not_le.mpr h13), Bool.false_and]; decide), hn, Nat.add_zero])
      · rw [(hC.tr.c67 j (by omega))] at h13
        refine ⟨j, rfl, (by show _ < 60; omega), ?_⟩
        refine ⟨fun h19 => ?_, fun h19 => ?_⟩
        · rw [(hC.tr.c68 j (by omega))] at h19
          refine ⟨nI (j + 1), nI_add _ _, ?_⟩
          exact ih (j + 1) m (by omega) (by rw [ct_S, if_neg (by rw [decide_eq_false h19, Bool.and_false]; decide), hn, Nat.add_zero])
        · rw [(hC.tr.c68 j (by omega))] at h19
          refine ⟨nI (m + 1), nI_add _ _, nI (j + 1), nI_add _ _, ?_⟩
          exact ih (j + 1) (m + 1) (by omega) (by rw [ct_S, if_pos (by rw [decide_eq_true (Int32.not_lt.mp h13), decide_eq_true h19]; rfl), hn])
theorem cv_cf {t : Sg} {D : Dy} {Z : Zt} {σ : Sg} (hC : Cg false σ t D 60 200 Z σ) (hS : Is (t 69 false 0 38) 60) {c v : Int32} : Ev false 32 [.inr (.inr (66, false, 0)), .inl c, .inl v] σ (some (.inl (nI (rwN t c v)))) σ := by
  refine Ev_wp 60 [4] rfl rfl ?_
  refine ⟨_, rfl, _, rfl, ?_⟩
  exact cv_cf_l hC hS (nTe t) 0 0 (by omega) rfl
theorem cv_lsc_l {t : Sg} {D : Dy} {Z : Zt} {σ : Sg} (hC : Cg false σ t D 60 200 Z σ) (hS : Is (t 69 false 0 38) 60) {x : Int32} {s : Nat} (hx : x = nI s) (hs : s ≤ 1000) : ∀ (n j : Nat), j + n = 101 → G false 90 (fun r' s' => r' = some (.inl (nI (lnW t s n j))) ∧ s' = σ) 7 [some (.inr (.inr (66, false, 0))), some (.inl x), some (.inl (nI (rwN t (nI 0) (nI 0)))), some (.inl (nI j))] [] σ := by
  have hN : nTe t ≤ 60 := hS.2
  have eN : σ 66 false 0 0 = nI (nTe t) := hC.tr.c66_0.trans hS.1
  have hb : s * rwN t (nI 0) (nI 0) ≤ 1000 * 60 := Nat.mul_le_mul hs (rwN_le t _ _ hS)
  intro n
  induction n with
  | zero =>
    intro j hj
    refine G_wp 60 [7] rfl ?_
    refine br_ge rfl rfl (by omega) (by omega) (fun h9 => ?_) (fun h9 => ?_)
    · exact ⟨by rw [show j = 101 by omega]; rfl, rfl⟩
    · exact absurd h9 (by omega)
  | succ n ih =>
    intro j hj
    have hb2 : rwN t (nI j) (nI 0) ≤ 60 := rwN_le t _ _ hS
    refine G_wp 60 [7] rfl ?_
    refine br_ge rfl rfl (by omega) (by omega) (fun h9 => ?_) (fun h9 => ?_)
    · exact absurd h9 (by omega)
    · refine ⟨_, _, cv_cf hC hS, ?_⟩
      refine br_gt (mul_n rfl rfl) (mul_n hx rfl) (by omega) (by omega) (fun h19 => ?_) (fun h19 => ?_)
      · refine ⟨nI (j + 1), nI_add _ _, ?_⟩
        rw [lnW_S, if_neg (by omega)]
        exact ih (j + 1) (by omega)
      · exact ⟨by rw [lnW_S, if_pos (by omega)], rfl⟩
theorem cv_lsc {t : Sg} {D : Dy} {Z : Zt} {σ : Sg} (hC : Cg false σ t D 60 200 Z σ) (hS : Is (t 69 false 0 38) 60) {x : Int32} {s : Nat} (hx : x = nI s) (hs : s ≤ 1000) : Ev false 90 [.inr (.inr (66, false, 0)), .inl x] σ (some (.inl (nI (lnW t s 101 0)))) σ := by
  refine Ev_wp 60 [7] rfl rfl ?_
  refine ⟨_, _, cv_cf hC hS, _, rfl, _, rfl, ?_⟩
  exact cv_lsc_l hC hS hx hs 101 0 (by omega)
theorem cv_line {t : Sg} {D : Dy} {Z : Zt} {σ : Sg} (hK : CK t D Z σ) (hT : WN t) (hS : Is (t 69 false 0 38) 60) {x w : Int32} : Ev false 147 [.inr (.inr (0, false, 0)), .inl (x), .inl (w)] σ (some (.inl (lineR t x w))) σ := by
  have hC := hK.1.1
  have hP := hT.P
  have hB := hT.B
  have hR := hT.R
  refine Ev_wp 57 [] rfl rfl ?_
  refine ⟨_, _, cv_in, ?_⟩
  refine brd_eq (fun h4 => ?_) (fun h4 => ?_)
  · exact ⟨by unfold lineR; rw [ifC_f (fun q => h4 q.1)], rfl⟩
  · refine ⟨_, _, cv_in, ?_⟩
    refine brd_ne (fun h9 => ?_) (fun h9 => ?_)
    · have hx := inI_n (by omega) (by omega) h4
      refine ⟨_, _, cv_lsc hC hS hx.1 hx.2.2, _, rfl, ?_⟩
      refine ⟨fun h18 => ?_, fun h18 => ?_⟩
      · refine ⟨fun h26 => ?_, fun h26 => ?_⟩
        · refine ⟨_, _, cv_cf hC hS, ?_⟩
          exact ⟨by unfold lineR; rw [ifC_t ⟨h4, h9⟩, ifC_f h18, ifC_f h26], rfl⟩
        · refine ⟨_, _, cv_cf hC hS, ?_⟩
          exact ⟨by unfold lineR; rw [ifC_t ⟨h4, h9⟩, ifC_f h18, ifC_t h26], rfl⟩
      · exact ⟨by unfold lineR; rw [ifC_t ⟨h4, h9⟩, ifC_t h18], rfl⟩
    · exact ⟨by unfold lineR; rw [ifC_f (fun q => h9 q.2)], rfl⟩
