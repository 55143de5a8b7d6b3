/-! Tests of bikes, and the two houses, on the model's state; bits. -/
/-! (fa_or: from the kit's starting texts) -/
theorem fa_or (a b : Nat) : nI a ||| nI b = nI (a ||| b) := by
  apply Int32.toBitVec_inj.1
  show BitVec.ofNat 32 a ||| BitVec.ofNat 32 b = BitVec.ofNat 32 (a ||| b)
  apply BitVec.eq_of_getLsbD_eq
  intro i hi
  simp [hi]
theorem sh_ok : ∀ k, k < 32 → ((nI k &&& nI 31).toBitVec.smod 32).toNat = k := by decide +kernel
theorem b_shr {x y : Int32} {n k : Nat} (hx : x = nI n) (hy : y = nI k) (h : n < 2147483648) (hk : k < 32) : x >>> (y &&& 31) = nI (n / 2 ^ k) := by
  rw [hx, hy]
  exact pk_shrN h _ k (sh_ok k hk)
theorem b_shl {x y : Int32} {n k : Nat} (hx : x = nI n) (hy : y = nI k) (hk : k < 32) (h : n * 2 ^ k < 4294967296) : x <<< (y &&& 31) = nI (n * 2 ^ k) := by
  rw [hx, hy]
  exact pk_shlN _ k (sh_ok k hk) h
theorem b_and1 {x : Int32} {n : Nat} (hx : x = nI n) (h : n < 4294967296) : x &&& nI 1 = nI (n % 2) := by
  rw [hx]
  exact pk_andN h 1 (by decide)
theorem b_or {x y : Int32} {a b : Nat} (hx : x = nI a) (hy : y = nI b) : x ||| y = nI (a ||| b) := by rw [hx, hy, fa_or]
def rwN (t : Sg) (c v : Int32) : Nat := ct (fun k => decide (c ≤ t 96 false 0 k) && decide (t 97 false 0 k = v)) (nTe t)
theorem mv_rows_l {t : Sg} {D : Dy} {τ : Sg} (hA : Ag t D τ) (hS : Is (t 69 false 0 38) 60) {c v : Int32} : ∀ (j k : Nat), k + j = nTe t → ∀ n, n = ct (fun k => decide (c ≤ t 96 false 0 k) && decide (t 97 false 0 k = v)) k → G true 60 (fun r' s' => r' = some (.inl (nI (rwN t c v))) ∧ s' = τ) 4 [some (.inr (.inr (69, false, 0))), some (.inl c), some (.inl v), some (.inl (nI n)), some (.inl (nI k))] [] τ := by
  have eTe : τ 69 false 0 38 = nI (nTe t) := (hA.2 69 _ _ _ (by decide) rfl).trans hS.1
  have hS2 : nTe t ≤ 60 := hS.2
  intro j
  induction j with
  | zero =>
    intro k hk n hn
    refine G_wp 60 [4] rfl ?_
    refine br_ge rfl eTe (by omega) (by omega) (fun h7 => ?_) (fun h7 => ?_)
    · exact ⟨by rw [hn, show k = nTe t by omega]; rfl, rfl⟩
    · exact absurd h7 (by omega)
  | succ j ih =>
    intro k hk n hn
    refine G_wp 60 [4] rfl ?_
    refine br_ge rfl eTe (by omega) (by omega) (fun h7 => ?_) (fun h7 => ?_)
    · exact absurd h7 (by omega)
    · refine ⟨k, rfl, (by show _ < 60; omega), ?_⟩
      rw [hA.2 96 _ _ _ (by decide) rfl]
      refine ⟨fun h14 => ?_, fun h14 => ?_⟩
      · refine ⟨nI (n + 0), (add_n rfl rfl), nI (k + 1), nI_add _ _, ?_⟩
        refine ih (k + 1) (by omega) _ ?_
        rw [ct_S, hn]
        rw [if_neg (by simp [Int32.not_le.mpr h14])]
      · refine ⟨k, rfl, (by show _ < 60; omega), ?_⟩
        rw [hA.2 97 _ _ _ (by decide) rfl]
        refine ⟨fun h20 => ?_, fun h20 => ?_⟩
        · refine ⟨nI (n + 0), (add_n rfl rfl), nI (k + 1), nI_add _ _, ?_⟩
          refine ih (k + 1) (by omega) _ ?_
          rw [ct_S, hn]
          rw [if_neg (by simp [h20])]
        · refine ⟨nI (n + 1), (add_n rfl rfl), nI (k + 1), nI_add _ _, ?_⟩
          refine ih (k + 1) (by omega) _ ?_
          rw [ct_S, hn]
          rw [if_pos (by simp [Int32.not_lt.mp h14, h20])]
theorem mv_rows {t : Sg} {D : Dy} {τ : Sg} (hA : Ag t D τ) (hS : Is (t 69 false 0 38) 60) {c v : Int32} : Ev true 60 [.inr (.inr (69, false, 0)), .inl (c), .inl (v)] τ (some (.inl (nI (rwN t c v)))) τ := by
  refine Ev_wp 24 [4] rfl rfl ?_
  refine ⟨_, rfl, _, rfl, ?_⟩
  exact mv_rows_l hA hS (nTe t) 0 (by omega) 0 rfl
theorem rwN_le (t : Sg) (c v : Int32) (hS : Is (t 69 false 0 38) 60) : rwN t c v ≤ 60 := Nat.le_trans (ct_le _ _) hS.2
theorem ct_none {p : Nat → Bool} : ∀ {n : Nat}, (∀ k, k < n → p k = false) → ct p n = 0
  | 0, _ => rfl
  | n + 1, h => by rw [ct_S, ct_none (fun k hk => h k (by omega)), h n (by omega)]; rfl
theorem rwN_101 {t : Sg} {v : Int32} (hS : ∀ k, k < nTe t → Is (t 96 false 0 k) 100) : rwN t (nI 101) v = 0 := by
  refine ct_none (fun k hk => ?_)
  have h := hS k hk
  have h1 : ¬ nI 101 ≤ t 96 false 0 k := by
    rw [h.1, nI_leI (by omega) (by have := h.2; omega)]
    have := h.2
    omega
  simp [h1]
def lnW (t : Sg) (s : Nat) : Nat → Nat → Nat
  | 0, c => c
  | m + 1, c => if rwN t (nI c) (nI 0) * 1000 ≤ s * rwN t (nI 0) (nI 0) then c else lnW t s m (c + 1)
theorem lnW_S (t : Sg) (s m c : Nat) : lnW t s (m + 1) c = if rwN t (nI c) (nI 0) * 1000 ≤ s * rwN t (nI 0) (nI 0) then c else lnW t s m (c + 1) := rfl
theorem lnW_le (t : Sg) (s : Nat) : ∀ m c, lnW t s m c ≤ c + m
  | 0, c => Nat.le_refl _
  | m + 1, c => by
    rw [lnW_S]
    split
    · omega
    · have := lnW_le t s m (c + 1)
      omega
noncomputable def lineR (t : Sg) (x w : Int32) : Int32 := ifC (inI (nI 0) x (nI 1000) ∧ inI (nI 0) w (nI 2)) (ifC (w = nI 0) (nI (lnW t (nN x) 101 0)) (ifC (w = nI 1) (nI (rwN t (nI (lnW t (nN x) 101 0)) (nI 1))) (nI (rwN t (nI (lnW t (nN x) 101 0)) (nI 0))))) (-2)
theorem mv_line_e {t : Sg} {D : Dy} {τ : Sg} (hA : Ag t D τ) (hS : Is (t 69 false 0 38) 60) {x w : Int32} (hx0 : inI (nI 0) x (nI 1000)) (hw0 : inI (nI 0) w (nI 2)) {c : Nat} (hc : c = lnW t (nN x) 101 0) : G true 128 (fun r' s' => r' = some (.inl (lineR t x w)) ∧ Ag t D s') 32 [some (.inr (.inr (69, false, 0))), some (.inl x), some (.inl w), some (.inl (nI c))] [] τ := by
  refine G_wp 60 [] rfl ?_
  refine ⟨fun h33 => ?_, fun h33 => ?_⟩
  · refine ⟨fun h40 => ?_, fun h40 => ?_⟩
    · refine ⟨_, _, mv_rows hA hS, ?_⟩
      have eR : lineR t x w = nI (rwN t (nI c) (nI 0)) := by
        rw [hc]
        simp only [lineR, h33, h40, hx0, hw0, eq_self, ifC_T, ifC_F, and_true, true_and, and_false, false_and, or_true, true_or, or_false, false_or, not_true_eq_false, not_false_eq_true, and_self, or_self, if_true, if_false, reduceIte, reduceCtorEq, Nat.add_sub_cancel]
      exact ⟨by rw [eR], hA⟩
    · refine ⟨_, _, mv_rows hA hS, ?_⟩
      have eR : lineR t x w = nI (rwN t (nI c) (nI 1)) := by
        rw [hc]
        simp only [lineR, h33, eq_true h40, hx0, hw0, eq_self, ifC_T, ifC_F, and_true, true_and, and_false, false_and, or_true, true_or, or_false, false_or, not_true_eq_false, not_false_eq_true, and_self, or_self, if_true, if_false, reduceIte, reduceCtorEq, Nat.add_sub_cancel]
      exact ⟨by rw [eR], hA⟩
  · have eR : lineR t x w = nI (c) := by
      rw [hc]
      simp only [lineR, eq_true h33, hx0, hw0, eq_self, ifC_T, ifC_F, and_true, true_and, and_false, false_and, or_true, true_or, or_false, false_or, not_true_eq_false, not_false_eq_true, and_self, or_self, if_true, if_false, reduceIte, reduceCtorEq, Nat.add_sub_cancel]
    exact ⟨by rw [eR], hA⟩
theorem mv_line_l {t : Sg} {D : Dy} {τ : Sg} (hA : Ag t D τ) (hS : Is (t 69 false 0 38) 60) (hS2 : ∀ k, k < nTe t → Is (t 96 false 0 k) 100) {x w : Int32} (hx0 : inI (nI 0) x (nI 1000)) (hw0 : inI (nI 0) w (nI 2)) : ∀ (j c : Nat), c + j = 101 → lnW t (nN x) j c = lnW t (nN x) 101 0 → G true 128 (fun r' s' => r' = some (.inl (lineR t x w)) ∧ Ag t D s') 17 [some (.inr (.inr (69, false, 0))), some (.inl x), some (.inl w), some (.inl (nI c))] [] τ := by
  have hx := inI_n (by omega) (by omega) hx0
  intro j
  induction j with
  | zero =>
    intro c hc hf
    rw [show c = 101 by omega] at hf ⊢
    have b1 := rwN_le t (nI 101) (nI 0) hS
    have b2 := rwN_le t (nI 0) (nI 0) hS
    have b3 := Nat.mul_le_mul hx.2.2 b2
    refine G_wp 60 [17, 32] rfl ?_
    refine ⟨_, _, mv_rows hA hS, _, _, mv_rows hA hS, ?_⟩
    refine br_le (mul_n rfl rfl) (mul_n hx.1 rfl) (by omega) (by omega) (fun h29 => ?_) (fun h29 => ?_)
    · exact mv_line_e hA hS hx0 hw0 (by rw [← hf]; rfl)
    · exact absurd h29 (by rw [rwN_101 hS2] at h29; omega)
  | succ j ih =>
    intro c hc hf
    have b1 := rwN_le t (nI c) (nI 0) hS
    have b2 := rwN_le t (nI 0) (nI 0) hS
    have b3 := Nat.mul_le_mul hx.2.2 b2
    refine G_wp 60 [17, 32] rfl ?_
    refine ⟨_, _, mv_rows hA hS, _, _, mv_rows hA hS, ?_⟩
    refine br_le (mul_n rfl rfl) (mul_n hx.1 rfl) (by omega) (by omega) (fun h29 => ?_) (fun h29 => ?_)
    · rw [lnW_S, if_pos h29] at hf
      exact mv_line_e hA hS hx0 hw0 hf
    · refine ⟨nI (c + 1), nI_add _ _, ?_⟩
      rw [lnW_S, if_neg (by omega)] at hf
      exact ih (c + 1) (by omega) hf
theorem mp_line {t : Sg} {D : Dy} {τ : Sg} (hA : Ag t D τ) (hT : WN t) {x w : Int32} (hS : Is (t 69 false 0 38) 60) (hS2 : ∀ k, k < nTe t → Is (t 96 false 0 k) 100) : ∃ τ', Ev true 128 [.inr (.inr (69, false, 0)), .inl (x), .inl (w)] τ (some (.inl (lineR t x w))) τ' ∧ Ag (t) (D) τ' := by
  refine EvQ_wp 39 [17] rfl rfl ?_
  refine ⟨_, rfl, ?_⟩
  replace hA := Ag_scr hA (k := 69) (d := false) (i := 0) (j := 0) (v := (nI (0))) (by decide) rfl
  refine ⟨_, _, mv_in2, ?_⟩
  refine brd_eq (fun h7 => ?_) (fun h7 => ?_)
  · have eR : lineR t x w = (-2) := by
      simp only [lineR, h7, eq_self, ifC_T, ifC_F, and_true, true_and, and_false, false_and, or_true, true_or, or_false, false_or, not_true_eq_false, not_false_eq_true, and_self, or_self, if_true, if_false, reduceIte, reduceCtorEq, Nat.add_sub_cancel]
    refine ⟨congrArg (fun z => some (Sum.inl z)) (Eq.trans rfl eR.symm), ?_⟩
    exact hA
  · refine ⟨_, _, mv_in2, ?_⟩
    refine brd_ne (fun h12 => ?_) (fun h12 => ?_)
    · refine ⟨_, rfl, ?_⟩
      exact mv_line_l hA hS hS2 h7 h12 101 0 (by omega) rfl
    · have eR : lineR t x w = (-2) := by
        simp only [lineR, h7, h12, eq_self, ifC_T, ifC_F, and_true, true_and, and_false, false_and, or_true, true_or, or_false, false_or, not_true_eq_false, not_false_eq_true, and_self, or_self, if_true, if_false, reduceIte, reduceCtorEq, Nat.add_sub_cancel]
      refine ⟨congrArg (fun z => some (Sum.inl z)) (Eq.trans rfl eR.symm), ?_⟩
      exact hA
abbrev gns (t : Sg) : Nat → Int32 := fun k => t 90 false 0 k
def gv (g : Nat → Int32) (who a b l : Nat) : Int32 := if who = 0 then g (5 * l + b) else g (25 + (5 * a + l))
def ansL (g : Nat → Int32) (who a b : Nat) : Nat → Nat × Int32
  | 0 => (if who = 0 then a else b, g (25 * who + 5 * a + b))
  | l + 1 => if (ansL g who a b l).2 < gv g who a b l then (l, gv g who a b l) else ansL g who a b l
theorem ansL_S (g : Nat → Int32) (who a b l : Nat) : ansL g who a b (l + 1) = if (ansL g who a b l).2 < gv g who a b l then (l, gv g who a b l) else ansL g who a b l := rfl
def ans (g : Nat → Int32) (who a b : Nat) : Nat := (ansL g who a b 5).1
theorem ansL_le {g : Nat → Int32} {who a b : Nat} (ha : a < 5) (hb : b < 5) : ∀ l, l ≤ 5 → (ansL g who a b l).1 < 5
  | 0, _ => by
    unfold ansL
    split <;> assumption
  | l + 1, h => by
    rw [ansL_S]
    split
    · show l < 5; omega
    · exact ansL_le ha hb l (by omega)
theorem ans_lt {g : Nat → Int32} {who a b : Nat} (ha : a < 5) (hb : b < 5) : ans g who a b < 5 := ansL_le ha hb 5 (Nat.le_refl _)
def isS (g : Nat → Int32) (a b : Nat) : Prop := ans g 0 a b = a ∧ ans g 1 a b = b
theorem mv_ans0_l {t : Sg} {D : Dy} {τ : Sg} (hA : Ag t D τ) {a b u : Nat} (ha : a < 5) (hb : b < 5) : ∀ (j l : Nat), l + j = 5 → G true 59 (fun r' s' => r' = some (.inl (nI (ans (gns t) 0 a b))) ∧ s' = τ) 23 [some (.inr (.inr (69, false, 0))), some (.inl (nI 0)), some (.inl (nI a)), some (.inl (nI b)), some (.inl (nI u)), some (.inl (nI (ansL (gns t) 0 a b l).1)), some (.inl (ansL (gns t) 0 a b l).2), some (.inl (nI l)), none] [] τ := by
  intro j
  induction j with
  | zero =>
    intro l hl
    refine G_wp 60 [23] rfl ?_
    refine br_ge rfl rfl (by omega) (by omega) (fun h25 => ?_) (fun h25 => ?_)
    · exact ⟨by rw [show l = 5 by omega]; rfl, rfl⟩
    · exact absurd h25 (by omega)
  | succ j ih =>
    intro l hl
    refine G_wp 60 [23] rfl ?_
    refine br_ge rfl rfl (by omega) (by omega) (fun h25 => ?_) (fun h25 => ?_)
    · exact absurd h25 (by omega)
    · refine br_ne rfl rfl (by omega) (by omega) (fun h27 => ?_) (fun h27 => ?_)
      · exact absurd h27 (by omega)
      · refine ⟨(5 * l) + b, (add_n (mul_n rfl rfl) rfl), (by show _ < 50; omega), ?_⟩
        rw [hA.2 90 _ _ _ (by decide) rfl]
        refine ⟨_, rfl, ?_⟩
        refine ⟨fun h50 => ?_, fun h50 => ?_⟩
        · refine ⟨nI (l + 1), nI_add _ _, ?_⟩
          have e : gv (gns t) 0 a b l = t 90 false 0 (5 * l + b) := rfl
          have e2 : ansL (gns t) 0 a b (l + 1) = ansL (gns t) 0 a b l := by rw [ansL_S, if_neg (Int32.not_lt.mpr (by rw [e]; exact h50))]
          have h9 := ih (l + 1) (by omega)
          rw [e2] at h9
          exact G_fg 8 h9
        · refine ⟨_, rfl, _, rfl, nI (l + 1), nI_add _ _, ?_⟩
          have e : gv (gns t) 0 a b l = t 90 false 0 (5 * l + b) := rfl
          have e2 : ansL (gns t) 0 a b (l + 1) = (l, t 90 false 0 (5 * l + b)) := by rw [ansL_S, if_pos (by rw [e]; exact Int32.not_le.mp h50)]; rfl
          have h9 := ih (l + 1) (by omega)
          rw [e2] at h9
          exact G_fg 8 h9
theorem mv_ans0 {t : Sg} {D : Dy} {τ : Sg} (hA : Ag t D τ) {a b : Nat} {x y : Int32} (hx : x = nI a) (hy : y = nI b) (ha : a < 5) (hb : b < 5) : Ev true 59 [.inr (.inr (69, false, 0)), .inl (nI 0), .inl x, .inl y] τ (some (.inl (nI (ans (gns t) 0 a b)))) τ := by
  subst hx
  subst hy
  refine Ev_wp 60 [23] rfl rfl ?_
  refine br_ne rfl rfl (by omega) (by omega) (fun h1 => ?_) (fun h1 => ?_)
  · exact absurd h1 (by omega)
  · refine ⟨nI (a), rfl, _, rfl, ((25 * 0) + (5 * a)) + b, (add_n (add_n (mul_n rfl rfl) (mul_n rfl rfl)) rfl), (by show _ < 50; omega), ?_⟩
    rw [hA.2 90 _ _ _ (by decide) rfl]
    refine ⟨_, rfl, _, rfl, ?_⟩
    exact mv_ans0_l hA ha hb 5 0 (by omega)
theorem mv_ans1_l {t : Sg} {D : Dy} {τ : Sg} (hA : Ag t D τ) {a b u : Nat} (ha : a < 5) (hb : b < 5) : ∀ (j l : Nat), l + j = 5 → G true 59 (fun r' s' => r' = some (.inl (nI (ans (gns t) 1 a b))) ∧ s' = τ) 23 [some (.inr (.inr (69, false, 0))), some (.inl (nI 1)), some (.inl (nI a)), some (.inl (nI b)), some (.inl (nI u)), some (.inl (nI (ansL (gns t) 1 a b l).1)), some (.inl (ansL (gns t) 1 a b l).2), some (.inl (nI l)), none] [] τ := by
  intro j
  induction j with
  | zero =>
    intro l hl
    refine G_wp 60 [23] rfl ?_
    refine br_ge rfl rfl (by omega) (by omega) (fun h25 => ?_) (fun h25 => ?_)
    · exact ⟨by rw [show l = 5 by omega]; rfl, rfl⟩
    · exact absurd h25 (by omega)
  | succ j ih =>
    intro l hl
    refine G_wp 60 [23] rfl ?_
    refine br_ge rfl rfl (by omega) (by omega) (fun h25 => ?_) (fun h25 => ?_)
    · exact absurd h25 (by omega)
    · refine br_ne rfl rfl (by omega) (by omega) (fun h27 => ?_) (fun h27 => ?_)
      · refine ⟨25 + ((5 * a) + l), (add_nr (add_n rfl (mul_n rfl rfl)) rfl), (by show _ < 50; omega), ?_⟩
        rw [hA.2 90 _ _ _ (by decide) rfl]
        refine ⟨_, rfl, ?_⟩
        refine ⟨fun h50 => ?_, fun h50 => ?_⟩
        · refine ⟨nI (l + 1), nI_add _ _, ?_⟩
          have e : gv (gns t) 1 a b l = t 90 false 0 (25 + (5 * a + l)) := rfl
          have e2 : ansL (gns t) 1 a b (l + 1) = ansL (gns t) 1 a b l := by rw [ansL_S, if_neg (Int32.not_lt.mpr (by rw [e]; exact h50))]
          have h9 := ih (l + 1) (by omega)
          rw [e2] at h9
          exact G_fg 8 h9
        · refine ⟨_, rfl, _, rfl, nI (l + 1), nI_add _ _, ?_⟩
          have e : gv (gns t) 1 a b l = t 90 false 0 (25 + (5 * a + l)) := rfl
          have e2 : ansL (gns t) 1 a b (l + 1) = (l, t 90 false 0 (25 + (5 * a + l))) := by rw [ansL_S, if_pos (by rw [e]; exact Int32.not_le.mp h50)]; rfl
          have h9 := ih (l + 1) (by omega)
          rw [e2] at h9
          exact G_fg 8 h9
      · exact absurd h27 (by omega)
theorem mv_ans1 {t : Sg} {D : Dy} {τ : Sg} (hA : Ag t D τ) {a b : Nat} {x y : Int32} (hx : x = nI a) (hy : y = nI b) (ha : a < 5) (hb : b < 5) : Ev true 59 [.inr (.inr (69, false, 0)), .inl (nI 1), .inl x, .inl y] τ (some (.inl (nI (ans (gns t) 1 a b)))) τ := by
  subst hx
  subst hy
  refine Ev_wp 60 [23] rfl rfl ?_
  refine br_ne rfl rfl (by omega) (by omega) (fun h1 => ?_) (fun h1 => ?_)
  · refine ⟨nI (b), rfl, _, rfl, ((25 * 1) + (5 * a)) + b, (add_n (add_n (mul_n rfl rfl) (mul_n rfl rfl)) rfl), (by show _ < 50; omega), ?_⟩
    rw [hA.2 90 _ _ _ (by decide) rfl]
    refine ⟨_, rfl, _, rfl, ?_⟩
    exact mv_ans1_l hA ha hb 5 0 (by omega)
  · exact absurd h1 (by omega)
theorem mv_isStill {t : Sg} {D : Dy} {τ : Sg} (hA : Ag t D τ) {a b : Nat} {x y : Int32} (hx : x = nI a) (hy : y = nI b) (ha : a < 5) (hb : b < 5) : Ev true 123 [.inr (.inr (69, false, 0)), .inl (x), .inl (y)] τ (some (.inl (bD (isS (gns t) a b)))) τ := by
  have l0 := ans_lt (g := gns t) (who := 0) ha hb
  have l1 := ans_lt (g := gns t) (who := 1) ha hb
  refine Ev_wp 41 [] rfl rfl ?_
  refine ⟨_, _, mv_ans0 hA hx hy ha hb, ?_⟩
  refine br_ne rfl hx (by omega) (by omega) (fun h6 => ?_) (fun h6 => ?_)
  · refine ⟨Or.inl rfl, ?_⟩
    exact ⟨by rw [bD_f (fun q => h6 q.1)], rfl⟩
  · refine ⟨_, _, mv_ans1 hA hx hy ha hb, ?_⟩
    refine br_ne rfl hy (by omega) (by omega) (fun h13 => ?_) (fun h13 => ?_)
    · refine ⟨Or.inl rfl, ?_⟩
      exact ⟨by rw [bD_f (fun q => h13 q.2)], rfl⟩
    · refine ⟨Or.inr rfl, ?_⟩
      exact ⟨by rw [bD_t ⟨h6, h13⟩], rfl⟩
theorem isS_dec (g : Nat → Int32) (a b : Nat) : (decide (ans g 0 a b = a) && decide (ans g 1 a b = b)) = true ↔ isS g a b := by
  unfold isS
  simp
def isB (g : Nat → Int32) (k : Nat) : Bool := decide (ans g 0 (k / 5) (k % 5) = k / 5) && decide (ans g 1 (k / 5) (k % 5) = k % 5)
theorem isB_iff (g : Nat → Int32) (k : Nat) : isB g k = true ↔ isS g (k / 5) (k % 5) := isS_dec g _ _
theorem mv_still_l {t : Sg} {D : Dy} {τ : Sg} (hA : Ag t D τ) : ∀ (j k : Nat), k + j = 25 → ∀ n, n = ct (isB (gns t)) k → G true 169 (fun r' s' => r' = some (.inl (nI (ct (isB (gns t)) 25))) ∧ Ag t D s') 7 [some (.inr (.inr (69, false, 0))), some (.inl (nI n)), some (.inl (nI k))] [] τ := by
  intro j
  induction j with
  | zero =>
    intro k hk n hn
    refine G_wp 60 [7] rfl ?_
    refine br_ge rfl rfl (by omega) (by omega) (fun h9 => ?_) (fun h9 => ?_)
    · exact ⟨by rw [hn, show k = 25 by omega], hA⟩
    · exact absurd h9 (by omega)
  | succ j ih =>
    intro k hk n hn
    refine G_wp 60 [7] rfl ?_
    refine br_ge rfl rfl (by omega) (by omega) (fun h9 => ?_) (fun h9 => ?_)
    · exact absurd h9 (by omega)
    · refine ⟨(by decide), (by decide), _, _, mv_isStill hA (div_n rfl rfl ⟨by omega, by omega, by omega⟩) (rem_n rfl rfl ⟨by omega, by omega, by omega⟩) (by omega) (by omega), ?_⟩
      refine brd_eq (fun h19 => ?_) (fun h19 => ?_)
      · refine ⟨nI (n + 0), (add_n rfl rfl), nI (k + 1), nI_add _ _, ?_⟩
        refine ih (k + 1) (by omega) _ ?_
        rw [ct_S, hn, if_neg (fun q => h19 ((isB_iff _ _).mp q))]
      · refine ⟨nI (n + 1), (add_n rfl rfl), nI (k + 1), nI_add _ _, ?_⟩
        refine ih (k + 1) (by omega) _ ?_
        rw [ct_S, hn, if_pos ((isB_iff _ _).mpr h19)]
theorem mp_still {t : Sg} {D : Dy} {τ : Sg} (hA : Ag t D τ) (hT : WN t)  : ∃ τ', Ev true 169 [.inr (.inr (69, false, 0))] τ (some (.inl (nI (ct (isB (gns t)) 25)))) τ' ∧ Ag (t) (D) τ' := by
  refine EvQ_wp 27 [7] rfl rfl ?_
  refine ⟨_, rfl, ?_⟩
  replace hA := Ag_scr hA (k := 69) (d := false) (i := 0) (j := 0) (v := (nI (0))) (by decide) rfl
  refine ⟨_, rfl, _, rfl, ?_⟩
  exact mv_still_l hA 25 0 (by omega) 0 rfl
def stA (g : Nat → Int32) (x : Int32) : Nat → Nat → Nat → Int32
  | 0, _, _ => -1
  | m + 1, k, n => if isB g k = true then (if nI n = x then nI (10 * (k / 5) + k % 5) else stA g x m (k + 1) (n + 1)) else stA g x m (k + 1) n
theorem stA_S (g : Nat → Int32) (x : Int32) (m k n : Nat) : stA g x (m + 1) k n = if isB g k = true then (if nI n = x then nI (10 * (k / 5) + k % 5) else stA g x m (k + 1) (n + 1)) else stA g x m (k + 1) n := rfl
theorem mv_stillAt_l {t : Sg} {D : Dy} {τ : Sg} (hA : Ag t D τ) {x : Int32} : ∀ (j k n : Nat), k + j = 25 → n ≤ k → G true 170 (fun r' s' => r' = some (.inl (stA (gns t) x j k n)) ∧ Ag t D s') 11 [some (.inr (.inr (69, false, 0))), some (.inl x), some (.inl (nI n)), some (.inl (nI k))] [] τ := by
  intro j
  induction j with
  | zero =>
    intro k n hk hn
    refine G_wp 60 [11] rfl ?_
    refine br_ge rfl rfl (by omega) (by omega) (fun h13 => ?_) (fun h13 => ?_)
    · exact ⟨rfl, hA⟩
    · exact absurd h13 (by omega)
  | succ j ih =>
    intro k n hk hn
    refine G_wp 60 [11] rfl ?_
    refine br_ge rfl rfl (by omega) (by omega) (fun h13 => ?_) (fun h13 => ?_)
    · exact absurd h13 (by omega)
    · refine ⟨(by decide), (by decide), _, _, mv_isStill hA (div_n rfl rfl ⟨by omega, by omega, by omega⟩) (rem_n rfl rfl ⟨by omega, by omega, by omega⟩) (by omega) (by omega), ?_⟩
      refine brd_eq (fun h22 => ?_) (fun h22 => ?_)
      · refine ⟨nI (k + 1), nI_add _ _, ?_⟩
        rw [stA_S, if_neg (fun q => h22 ((isB_iff _ _).mp q))]
        exact ih (k + 1) n (by omega) (by omega)
      · refine ⟨fun h25 => ?_, fun h25 => ?_⟩
        · refine ⟨nI (n + 1), nI_add _ _, nI (k + 1), nI_add _ _, ?_⟩
          rw [stA_S, if_pos ((isB_iff _ _).mpr h22), if_neg h25]
          exact ih (k + 1) (n + 1) (by omega) (by omega)
        · refine ⟨(by decide), (by decide), ?_⟩
          exact ⟨by rw [stA_S, if_pos ((isB_iff _ _).mpr h22), if_pos h25, (add_n (mul_n rfl (div_n rfl rfl ⟨by omega, by omega, by omega⟩)) (rem_n rfl rfl ⟨by omega, by omega, by omega⟩))], hA⟩
noncomputable def stAR (t : Sg) (x : Int32) : Int32 := ifC (nI 0 ≤ x) (stA (gns t) x 25 0 0) (-2)
theorem mp_stillAt {t : Sg} {D : Dy} {τ : Sg} (hA : Ag t D τ) (hT : WN t) {x : Int32}  : ∃ τ', Ev true 170 [.inr (.inr (69, false, 0)), .inl (x)] τ (some (.inl (stAR t x))) τ' ∧ Ag (t) (D) τ' := by
  refine EvQ_wp 31 [11] rfl rfl ?_
  refine ⟨_, rfl, ?_⟩
  replace hA := Ag_scr hA (k := 69) (d := false) (i := 0) (j := 0) (v := (nI (0))) (by decide) rfl
  refine ⟨fun h4 => ?_, fun h4 => ?_⟩
  · refine ⟨_, rfl, _, rfl, ?_⟩
    have eR : stAR t x = stA (gns t) x 25 0 0 := by simp only [stAR, h4, eq_self, ifC_T, ifC_F, and_true, true_and, and_false, false_and, or_true, true_or, or_false, false_or, not_true_eq_false, not_false_eq_true, and_self, or_self, if_true, if_false, reduceIte, reduceCtorEq, Nat.add_sub_cancel]
    rw [eR]
    exact mv_stillAt_l hA 25 0 0 (by omega) (by omega)
  · have eR : stAR t x = (-2) := by
      simp only [stAR, h4, eq_self, ifC_T, ifC_F, and_true, true_and, and_false, false_and, or_true, true_or, or_false, false_or, not_true_eq_false, not_false_eq_true, and_self, or_self, if_true, if_false, reduceIte, reduceCtorEq, Nat.add_sub_cancel]
    refine ⟨congrArg (fun z => some (Sum.inl z)) (Eq.trans rfl eR.symm), ?_⟩
    exact hA
def uS (s : Nat → Bool) (k : Nat) : Nat → Bool := fun j => if j = k then true else s j
noncomputable def anW (g : Nat → Int32) : Nat → (Nat → Bool) → Nat → Nat → Nat → Int32
  | 0, _, _, _, _ => -1
  | m + 1, s, a, b, n => ifC (isS g a b) (nI n) (if s (25 * (n % 2) + 5 * a + b) = true then (-10) - nI n else anW g m (uS s (25 * (n % 2) + 5 * a + b)) (if n % 2 = 0 then ans g 0 a b else a) (if n % 2 = 0 then b else ans g 1 a b) (n + 1))
theorem anW_S (g : Nat → Int32) (m : Nat) (s : Nat → Bool) (a b n : Nat) : anW g (m + 1) s a b n = ifC (isS g a b) (nI n) (if s (25 * (n % 2) + 5 * a + b) = true then (-10) - nI n else anW g m (uS s (25 * (n % 2) + 5 * a + b)) (if n % 2 = 0 then ans g 0 a b else a) (if n % 2 = 0 then b else ans g 1 a b) (n + 1)) := rfl
theorem ct_uS {s : Nat → Bool} {k : Nat} (hk : k < 50) (h : s k = false) : ct (fun j => !(uS s k j)) 50 + 1 = ct (fun j => !(s j)) 50 := by
  have h1 := ct_one (p := fun j => !(uS s k j)) (q := fun j => !(s j)) (i := k) (n := 50) hk (fun j _ hj => by show (!(uS s k j)) = !(s j); unfold uS; rw [if_neg hj])
  have h2 : uS s k k = true := if_pos rfl
  rw [h, h2] at h1
  simpa using h1
def bN (b : Bool) : Int32 := if b = true then nI 1 else nI 0
theorem bN_1 {b : Bool} (h : ¬ bN b = nI 0) : b = true := by
  cases b
  · exact absurd rfl h
  · rfl
theorem bN_f {b : Bool} (h : bN b = nI 0) : b = false := by
  cases b
  · rfl
  · exact absurd h (by decide)
theorem bN_0 {b : Bool} (h : bN b = nI 0) : ¬ b = true := by rw [bN_f h]; exact fun q => by cases q
theorem mv_answers_0 {t : Sg} {D : Dy} {z1 z2 : Int32} {m : Nat} (ih : ∀ (s : Nat → Bool) (a b n : Nat), ct (fun j => !(s j)) 50 < m → a < 5 → b < 5 → n + m = 51 → ∀ {τ : Sg}, (∀ j, j < 50 → τ 103 false 0 j = bN (s j)) → Ag t D τ → G true 171 (fun r' s' => r' = some (.inl (anW (gns t) m s a b n)) ∧ Ag t D s') 29 [some (.inr (.inr (69, false, 0))), some (.inl z1), some (.inl z2), some (.inl (nI a)), some (.inl (nI b)), some (.inl (nI n)), none, none, none] [] τ) (s : Nat → Bool) (a b n : Nat) (hc0 : ct (fun j => !(s j)) 50 < m + 1) (ha : a < 5) (hb : b < 5) (hn : n + (m + 1) = 51) (hn2 : n % 2 = 0) {τ : Sg} (hs : ∀ j, j < 50 → τ 103 false 0 j = bN (s j)) (hA : Ag t D τ) : G true 171 (fun r' s' => r' = some (.inl (anW (gns t) (m + 1) s a b n)) ∧ Ag t D s') 29 [some (.inr (.inr (69, false, 0))), some (.inl z1), some (.inl z2), some (.inl (nI a)), some (.inl (nI b)), some (.inl (nI n)), none, none, none] [] τ := by
  refine G_wp 90 [29] rfl ?_
  refine ⟨_, _, mv_isStill hA rfl rfl ha hb, ?_⟩
  refine brd_ne (fun h33 => ?_) (fun h33 => ?_)
  · exact ⟨by rw [anW_S, ifC_t h33], hA⟩
  · refine ⟨(by decide), nI 0, (by rw [(rem_n rfl rfl ⟨by omega, by omega, by omega⟩), hn2]), nI (((25 * 0) + (5 * a)) + b), (add_n (add_n (mul_n rfl rfl) (mul_n rfl rfl)) rfl), ((25 * 0) + (5 * a)) + b, rfl, (by show _ < 50; omega), ?_⟩
    rw [show τ 103 false 0 (25 * 0 + 5 * a + b) = bN (s (25 * 0 + 5 * a + b)) from hs _ (by omega)]
    refine ⟨fun h52 => ?_, fun h52 => ?_⟩
    · refine ⟨((25 * 0) + (5 * a)) + b, rfl, (by show _ < 50; omega), nI 1, rfl, _, _, mv_ans0 (Ag_scr hA (k := 103) (d := false) (i := 0) (j := 25 * 0 + 5 * a + b) (v := nI 1) (by decide) rfl) rfl rfl ha hb, _, rfl, ?_⟩
      refine br_ne rfl rfl (by omega) (by omega) (fun h69 => ?_) (fun h69 => ?_)
      · exact absurd h69 (by omega)
      · refine ⟨_, rfl, ?_⟩
        refine br_ne rfl rfl (by omega) (by omega) (fun h76 => ?_) (fun h76 => ?_)
        · refine ⟨_, rfl, nI (n + 1), nI_add _ _, ?_⟩
          rw [anW_S, ifC_f h33, hn2, if_neg (bN_0 h52)]
          have hs0 := bN_f h52
          have hc := ct_uS (show 25 * 0 + 5 * a + b < 50 by omega) hs0
          refine G_fg 6 (G_fg 7 (G_fg 8 (ih _ _ _ _ (by omega) ?_ ?_ (by omega) ?_ (Ag_scr hA (by decide) rfl))))
          · exact ans_lt ha hb
          · exact hb
          · intro j hj
            show up4 τ 103 false 0 _ (nI 1) 103 false 0 j = bN (uS s _ j)
            unfold up4 uS
            by_cases e : j = 25 * 0 + 5 * a + b
            · rw [if_pos ⟨rfl, rfl, rfl, e⟩, if_pos e]; rfl
            · rw [if_neg (fun q => e q.2.2.2), if_neg e]; exact hs j hj
        · exact absurd h76 (by omega)
    · exact ⟨by rw [anW_S, ifC_f h33, hn2, if_pos (bN_1 h52)], hA⟩
theorem mv_answers_1 {t : Sg} {D : Dy} {z1 z2 : Int32} {m : Nat} (ih : ∀ (s : Nat → Bool) (a b n : Nat), ct (fun j => !(s j)) 50 < m → a < 5 → b < 5 → n + m = 51 → ∀ {τ : Sg}, (∀ j, j < 50 → τ 103 false 0 j = bN (s j)) → Ag t D τ → G true 171 (fun r' s' => r' = some (.inl (anW (gns t) m s a b n)) ∧ Ag t D s') 29 [some (.inr (.inr (69, false, 0))), some (.inl z1), some (.inl z2), some (.inl (nI a)), some (.inl (nI b)), some (.inl (nI n)), none, none, none] [] τ) (s : Nat → Bool) (a b n : Nat) (hc0 : ct (fun j => !(s j)) 50 < m + 1) (ha : a < 5) (hb : b < 5) (hn : n + (m + 1) = 51) (hn2 : n % 2 = 1) {τ : Sg} (hs : ∀ j, j < 50 → τ 103 false 0 j = bN (s j)) (hA : Ag t D τ) : G true 171 (fun r' s' => r' = some (.inl (anW (gns t) (m + 1) s a b n)) ∧ Ag t D s') 29 [some (.inr (.inr (69, false, 0))), some (.inl z1), some (.inl z2), some (.inl (nI a)), some (.inl (nI b)), some (.inl (nI n)), none, none, none] [] τ := by
  refine G_wp 90 [29] rfl ?_
  refine ⟨_, _, mv_isStill hA rfl rfl ha hb, ?_⟩
  refine brd_ne (fun h33 => ?_) (fun h33 => ?_)
  · exact ⟨by rw [anW_S, ifC_t h33], hA⟩
  · refine ⟨(by decide), nI 1, (by rw [(rem_n rfl rfl ⟨by omega, by omega, by omega⟩), hn2]), nI (((25 * 1) + (5 * a)) + b), (add_n (add_n (mul_n rfl rfl) (mul_n rfl rfl)) rfl), ((25 * 1) + (5 * a)) + b, rfl, (by show _ < 50; omega), ?_⟩
    rw [show τ 103 false 0 (25 * 1 + 5 * a + b) = bN (s (25 * 1 + 5 * a + b)) from hs _ (by omega)]
    refine ⟨fun h52 => ?_, fun h52 => ?_⟩
    · refine ⟨((25 * 1) + (5 * a)) + b, rfl, (by show _ < 50; omega), nI 1, rfl, _, _, mv_ans1 (Ag_scr hA (k := 103) (d := false) (i := 0) (j := 25 * 1 + 5 * a + b) (v := nI 1) (by decide) rfl) rfl rfl ha hb, _, rfl, ?_⟩
      refine br_ne rfl rfl (by omega) (by omega) (fun h69 => ?_) (fun h69 => ?_)
      · refine ⟨_, rfl, ?_⟩
        refine br_ne rfl rfl (by omega) (by omega) (fun h76 => ?_) (fun h76 => ?_)
        · exact absurd h76 (by omega)
        · refine ⟨_, rfl, nI (n + 1), nI_add _ _, ?_⟩
          rw [anW_S, ifC_f h33, hn2, if_neg (bN_0 h52)]
          have hs0 := bN_f h52
          have hc := ct_uS (show 25 * 1 + 5 * a + b < 50 by omega) hs0
          refine G_fg 6 (G_fg 7 (G_fg 8 (ih _ _ _ _ (by omega) ?_ ?_ (by omega) ?_ (Ag_scr hA (by decide) rfl))))
          · exact ha
          · exact ans_lt ha hb
          · intro j hj
            show up4 τ 103 false 0 _ (nI 1) 103 false 0 j = bN (uS s _ j)
            unfold up4 uS
            by_cases e : j = 25 * 1 + 5 * a + b
            · rw [if_pos ⟨rfl, rfl, rfl, e⟩, if_pos e]; rfl
            · rw [if_neg (fun q => e q.2.2.2), if_neg e]; exact hs j hj
      · exact absurd h69 (by omega)
    · exact ⟨by rw [anW_S, ifC_f h33, hn2, if_pos (bN_1 h52)], hA⟩
theorem mv_answers_l {t : Sg} {D : Dy} {z1 z2 : Int32} : ∀ (m : Nat), ∀ (s : Nat → Bool) (a b n : Nat), ct (fun j => !(s j)) 50 < m → a < 5 → b < 5 → n + m = 51 → ∀ {τ : Sg}, (∀ j, j < 50 → τ 103 false 0 j = bN (s j)) → Ag t D τ → G true 171 (fun r' s' => r' = some (.inl (anW (gns t) m s a b n)) ∧ Ag t D s') 29 [some (.inr (.inr (69, false, 0))), some (.inl z1), some (.inl z2), some (.inl (nI a)), some (.inl (nI b)), some (.inl (nI n)), none, none, none] [] τ := by
  intro m
  induction m with
  | zero =>
    intro s a b n h1
    omega
  | succ m ih =>
    intro s a b n h1 ha hb hn τ hs hA
    rcases (show n % 2 = 0 ∨ n % 2 = 1 by omega) with q | q
    · exact mv_answers_0 ih s a b n h1 ha hb hn q hs hA
    · exact mv_answers_1 ih s a b n h1 ha hb hn q hs hA
theorem mv_answers_z {t : Sg} {D : Dy} {z1 z2 : Int32} {P : Option AV → Sg → Prop} (hK : ∀ τ, Ag t D τ → (∀ j, j < 50 → τ 103 false 0 j = nI 0) → G true 171 P 23 [some (.inr (.inr (69, false, 0))), some (.inl z1), some (.inl z2), none, none, none, none, none, none] [] τ) : ∀ (j k : Nat), k + j = 50 → ∀ (τ : Sg), (∀ j, j < k → τ 103 false 0 j = nI 0) → Ag t D τ → G true 171 P 13 [some (.inr (.inr (69, false, 0))), some (.inl z1), some (.inl z2), some (.inl (nI k)), none, none, none, none, none] [] τ := by
  intro j
  induction j with
  | zero =>
    intro k hk τ hz hA
    refine G_wp 60 [13, 23] rfl ?_
    refine br_ge rfl rfl (by omega) (by omega) (fun h15 => ?_) (fun h15 => ?_)
    · refine G_fg 3 (hK _ hA (fun j hj => hz j (by omega)))
    · exact absurd h15 (by omega)
  | succ j ih =>
    intro k hk τ hz hA
    refine G_wp 60 [13, 23] rfl ?_
    refine br_ge rfl rfl (by omega) (by omega) (fun h15 => ?_) (fun h15 => ?_)
    · exact absurd h15 (by omega)
    · refine ⟨k, rfl, (by show _ < 50; omega), nI 0, rfl, ?_⟩
      replace hA := Ag_scr hA (k := 103) (d := false) (i := 0) (j := k) (v := (nI (0))) (by decide) rfl
      refine ⟨nI (k + 1), nI_add _ _, ?_⟩
      refine ih (k + 1) (by omega) _ (fun j hj => ?_) hA
      unfold up4
      by_cases e : j = k
      · rw [if_pos ⟨rfl, rfl, rfl, e⟩]
      · rw [if_neg (fun q => e q.2.2.2)]
        exact hz j (by omega)
noncomputable def anwR (t : Sg) (x y : Int32) : Int32 := ifC (inI (nI 0) x (nI 4) ∧ inI (nI 0) y (nI 4)) (anW (gns t) 51 (fun _ => false) (nN x) (nN y) 0) (-2)
theorem mp_answers {t : Sg} {D : Dy} {τ : Sg} (hA : Ag t D τ) (hT : WN t) {x y : Int32}  : ∃ τ', Ev true 171 [.inr (.inr (69, false, 0)), .inl (x), .inl (y)] τ (some (.inl (anwR t x y))) τ' ∧ Ag (t) (D) τ' := by
  refine EvQ_wp 35 [13] rfl rfl ?_
  refine ⟨_, rfl, ?_⟩
  replace hA := Ag_scr hA (k := 69) (d := false) (i := 0) (j := 0) (v := (nI (0))) (by decide) rfl
  refine ⟨_, _, mv_isLevel, ?_⟩
  refine brd_eq (fun h5 => ?_) (fun h5 => ?_)
  · have eR : anwR t x y = (-2) := by
      simp only [anwR, h5, eq_self, ifC_T, ifC_F, and_true, true_and, and_false, false_and, or_true, true_or, or_false, false_or, not_true_eq_false, not_false_eq_true, and_self, or_self, if_true, if_false, reduceIte, reduceCtorEq, Nat.add_sub_cancel]
    refine ⟨congrArg (fun z => some (Sum.inl z)) (Eq.trans rfl eR.symm), ?_⟩
    exact hA
  · refine ⟨_, _, mv_isLevel, ?_⟩
    refine brd_ne (fun h8 => ?_) (fun h8 => ?_)
    · refine ⟨_, rfl, ?_⟩
      have hx := inI_n (by omega) (by omega) h5
      have hy := inI_n (by omega) (by omega) h8
      have eR : anwR t x y = anW (gns t) 51 (fun _ => false) (nN x) (nN y) 0 := by simp only [anwR, h5, h8, eq_self, ifC_T, ifC_F, and_true, true_and, and_false, false_and, or_true, true_or, or_false, false_or, not_true_eq_false, not_false_eq_true, and_self, or_self, if_true, if_false, reduceIte, reduceCtorEq, Nat.add_sub_cancel]
      rw [eR]
      refine mv_answers_z (fun τ1 hA1 hz1 => ?_) 50 0 (by omega) _ (fun j hj => absurd hj (Nat.not_lt_zero _)) hA
      refine G_wp 30 [29] rfl ?_
      refine ⟨nI (nN x), hx.1, nI (nN y), hy.1, _, rfl, ?_⟩
      exact mv_answers_l 51 (fun _ => false) (nN x) (nN y) 0 (by decide) (by omega) (by omega) (by omega) hz1 hA1
    · have eR : anwR t x y = (-2) := by
        simp only [anwR, h5, h8, eq_self, ifC_T, ifC_F, and_true, true_and, and_false, false_and, or_true, true_or, or_false, false_or, not_true_eq_false, not_false_eq_true, and_self, or_self, if_true, if_false, reduceIte, reduceCtorEq, Nat.add_sub_cancel]
      refine ⟨congrArg (fun z => some (Sum.inl z)) (Eq.trans rfl eR.symm), ?_⟩
      exact hA
