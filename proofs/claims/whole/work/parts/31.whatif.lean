/-! What if, on the model's state. -/
def fld (j : Nat) : Nat := ((List.range 28).find? (fun f => Nat.ble (fo f) j && Nat.blt j (fo f + fl f))).getD 0
def flD (D : Dy) (j : Nat) : Int32 := D (fld j) (j - fo (fld j))
theorem flD_at {D : Dy} {f i : Nat} (hf : f < 28) (hi : i < fl f) : flD D (fo f + i) = D f i := by
  have h1 : (List.range 28).find? (fun f' => Nat.ble (fo f') (fo f + i) && Nat.blt (fo f + i) (fo f' + fl f')) = some f := by
    cases h : (List.range 28).find? (fun f' => Nat.ble (fo f') (fo f + i) && Nat.blt (fo f + i) (fo f' + fl f')) with
    | none =>
      have := List.find?_eq_none.mp h f (List.mem_range.mpr hf)
      simp only [Bool.and_eq_true, Nat.ble_eq, Nat.blt_eq] at this
      omega
    | some g =>
      have h2 := List.find?_some h
      have h3 := List.mem_range.mp (List.mem_of_find?_eq_some h)
      simp only [Bool.and_eq_true, Nat.ble_eq, Nat.blt_eq] at h2
      have h4 := fo_ap (f := f) (g := g) (i := i) (j := fo f + i - fo g) hi (by omega) (by unfold fk; rw [if_neg (by omega), if_neg (by omega)]) (by omega)
      rw [h4.1]
  unfold flD fld
  rw [h1]
  show D f (fo f + i - fo f) = D f i
  congr 1
  omega
theorem flD_r {t : Sg} {D : Dy} {τ : Sg} (hA : Ag t D τ) {j : Nat} (hj : j < 23184) : τ 70 false 0 j = flD D j := by
  have h0 : (List.range 28).all (fun f => f == 27 || fo (f + 1) == fo f + fl f) = true := by decide +kernel
  have h1 : ∀ n, n < 28 → fo n ≤ j → ∃ f, f < 28 ∧ fo f ≤ j ∧ j < fo f + fl f := by
    intro n hn hj2
    obtain ⟨m, hm⟩ : ∃ m, m + n = 27 := ⟨27 - n, by omega⟩
    induction m generalizing n with
    | zero =>
      rw [show n = 27 by omega] at hj2
      exact ⟨27, by omega, hj2, by have e : fo 27 + fl 27 = 23184 := by decide
                                   omega⟩
    | succ m ih =>
      by_cases q : j < fo n + fl n
      · exact ⟨n, hn, hj2, q⟩
      · have h2 := List.all_eq_true.mp h0 n (List.mem_range.mpr hn)
        simp only [Bool.or_eq_true, beq_iff_eq] at h2
        exact ih (n + 1) (by omega) (by omega) (by omega)
  obtain ⟨f, h2, h3, h4⟩ := h1 0 (by omega) (by have e : fo 0 = 0 := by decide
                                                omega)
  have h5 := hA.1 f (j - fo f) (by omega)
  rw [show fk f = 70 by unfold fk; rw [if_neg (by omega)], show fo f + (j - fo f) = j by omega] at h5
  rw [h5, ← flD_at (D := D) h2 (by omega), show fo f + (j - fo f) = j by omega]
/-- the told with the day kept, its first n cells -/
def kpD (t : Sg) (D : Dy) (n : Nat) : Sg := fun k d i j => if k = 71 ∧ d = false ∧ i = 0 ∧ j < n then flD D j else t k d i j
theorem kpD_0 (t : Sg) (D : Dy) : kpD t D 0 = t := by
  funext k d i j
  unfold kpD
  rw [if_neg (by omega)]
theorem kpD_o {t : Sg} {D : Dy} {n k : Nat} {d : Bool} {i j : Nat} (h : ¬ k = 71) : kpD t D n k d i j = t k d i j := if_neg (fun q => h q.1)
theorem kpD_v {t : Sg} {D : Dy} {n j : Nat} (h : j < n) : kpD t D n 71 false 0 j = flD D j := if_pos ⟨rfl, rfl, rfl, h⟩
theorem kpD_S (t : Sg) (D : Dy) (n : Nat) : kpD t D (n + 1) = up4 (kpD t D n) 71 false 0 n (flD D n) := by
  funext k d i j
  show (if k = 71 ∧ d = false ∧ i = 0 ∧ j < n + 1 then flD D j else t k d i j) = (if k = 71 ∧ d = false ∧ i = 0 ∧ j = n then flD D n else if k = 71 ∧ d = false ∧ i = 0 ∧ j < n then flD D j else t k d i j)
  by_cases h : k = 71 ∧ d = false ∧ i = 0
  · obtain ⟨rfl, rfl, rfl⟩ := h
    by_cases e : j = n
    · subst e
      rw [if_pos ⟨rfl, rfl, rfl, by omega⟩, if_pos ⟨rfl, rfl, rfl, rfl⟩]
    · rw [if_neg (c := _ ∧ _ ∧ _ ∧ j = _) (fun q => e q.2.2.2)]
      by_cases e2 : j < n
      · rw [if_pos ⟨rfl, rfl, rfl, by omega⟩, if_pos ⟨rfl, rfl, rfl, e2⟩]
      · rw [if_neg (fun q => e2 (by omega)), if_neg (fun q => e2 q.2.2.2)]
  · rw [if_neg (fun q => h ⟨q.1, q.2.1, q.2.2.1⟩), if_neg (fun q => h ⟨q.1, q.2.1, q.2.2.1⟩), if_neg (fun q => h ⟨q.1, q.2.1, q.2.2.1⟩)]
theorem wi_keep {t : Sg} {D : Dy} {P : Option AV → Sg → Prop} {x w : Int32} (hK : ∀ τ, Ag (kpD t D 23184) D τ → G true 226 P 33 [some (.inr (.inr (69, false, 0))), some (.inl x), some (.inl w), none, none, none, none, none, none, none] [] τ) : ∀ (j n : Nat), n + j = 23184 → ∀ τ, Ag (kpD t D n) D τ → G true 226 P 20 [some (.inr (.inr (69, false, 0))), some (.inl x), some (.inl w), some (.inl (nI n)), none, none, none, none, none, none] [] τ := by
  intro j
  induction j with
  | zero =>
    intro n hn τ hA
    refine G_wp 60 [20, 33] rfl ?_
    refine br_ge rfl rfl (by omega) (by omega) (fun h22 => ?_) (fun h22 => ?_)
    · rw [show n = 23184 by omega] at hA
      exact G_fg 3 (hK _ hA)
    · exact absurd h22 (by omega)
  | succ j ih =>
    intro n hn τ hA
    refine G_wp 60 [20, 33] rfl ?_
    refine br_ge rfl rfl (by omega) (by omega) (fun h22 => ?_) (fun h22 => ?_)
    · exact absurd h22 (by omega)
    · refine ⟨n, rfl, (by show _ < 23184; omega), n, rfl, (by show _ < 23184; omega), _, rfl, ?_⟩
      rw [flD_r hA (show n < 23184 by omega)]
      replace hA := Ag_t hA 71 false 0 n (flD D n) (by decide)
      refine ⟨nI (n + 1), nI_add _ _, ?_⟩
      rw [← kpD_S] at hA
      exact ih (n + 1) (by omega) _ hA
def rsD (D X : Dy) (n : Nat) : Dy := fun f i => if fk f = 70 ∧ fo f + i < n ∧ i < fl f then D f i else X f i
theorem rsD_S {t : Sg} {D X : Dy} {τ : Sg} {n : Nat} (h : Ag t (rsD D X n) τ) : Ag t (rsD D X (n + 1)) (up4 τ 70 false 0 n (flD D n)) := by
  refine ⟨fun f i hi => ?_, fun k' d i' j hk hs => (up4_nk hk).trans (h.2 k' d i' j hk hs)⟩
  have h1 := h.1 f i hi
  unfold up4
  unfold rsD at h1 ⊢
  by_cases q : fk f = 70
  · by_cases e : fo f + i = n
    · have hf : f < 28 := by
        rcases Nat.lt_or_ge f 28 with z | z
        · exact z
        · by_cases z2 : f = 28
          · rw [z2] at q; exact absurd q (by decide)
          · rw [fl_big (by omega)] at hi; omega
      rw [if_pos ⟨q, rfl, rfl, e⟩, if_pos ⟨q, by omega, hi⟩, ← e, flD_at hf hi]
    · rw [if_neg (fun z => e z.2.2.2), h1]
      by_cases e2 : fo f + i < n
      · rw [if_pos ⟨q, e2, hi⟩, if_pos ⟨q, by omega, hi⟩]
      · rw [if_neg (fun z => e2 z.2.1), if_neg (by omega)]
  · rw [if_neg (fun z => q z.1), h1, if_neg (fun z => q z.1), if_neg (fun z => q z.1)]
/-- the day as it was, but for the row of those who wait -/
def rsE (D X : Dy) : Dy := fun f i => if f = 28 then X f i else D f i
theorem rsD_E {t : Sg} {D X : Dy} {τ : Sg} (h : Ag t (rsD D X 23184) τ) : Ag t (rsE D X) τ := by
  refine ⟨fun f i hi => ?_, h.2⟩
  rw [h.1 f i hi]
  unfold rsD rsE
  by_cases e : f = 28
  · rw [if_pos e, if_neg (by rw [e]; exact fun z => absurd z.1 (by decide))]
  · have hf : f < 28 := by
      rcases Nat.lt_or_ge f 28 with z | z
      · exact z
      · rw [fl_big (by omega)] at hi; omega
    have h2 : (List.range 28).all (fun f => Nat.ble (fo f + fl f) 23184) = true := by decide +kernel
    have h3 := Nat.le_of_ble_eq_true (List.all_eq_true.mp h2 f (List.mem_range.mpr hf))
    rw [if_neg e, if_pos ⟨by unfold fk; rw [if_neg e], by omega, hi⟩]
theorem wi_back {t : Sg} {D X : Dy} {P : Option AV → Sg → Prop} (hq : ∀ n, n < 23184 → t 71 false 0 n = flD D n) {x w z3 z5 z6 z7 z8 : Int32} (hK : ∀ τ, Ag t (rsD D X 23184) τ → G true 226 P 206 [some (.inr (.inr (69, false, 0))), some (.inl x), some (.inl w), some (.inl z3), none, some (.inl z5), some (.inl z6), some (.inl z7), some (.inl z8), none] [] τ) : ∀ (j n : Nat), n + j = 23184 → ∀ τ, Ag t (rsD D X n) τ → G true 226 P 193 [some (.inr (.inr (69, false, 0))), some (.inl x), some (.inl w), some (.inl z3), none, some (.inl z5), some (.inl z6), some (.inl z7), some (.inl z8), some (.inl (nI n))] [] τ := by
  intro j
  induction j with
  | zero =>
    intro n hn τ hA
    refine G_wp 60 [193, 206] rfl ?_
    refine br_ge rfl rfl (by omega) (by omega) (fun h195 => ?_) (fun h195 => ?_)
    · rw [show n = 23184 by omega] at hA
      exact G_fg 9 (hK _ hA)
    · exact absurd h195 (by omega)
  | succ j ih =>
    intro n hn τ hA
    refine G_wp 60 [193, 206] rfl ?_
    refine br_ge rfl rfl (by omega) (by omega) (fun h195 => ?_) (fun h195 => ?_)
    · exact absurd h195 (by omega)
    · refine ⟨n, rfl, (by show _ < 23184; omega), n, rfl, (by show _ < 23184; omega), _, rfl, ?_⟩
      have e9 : τ 71 false 0 n = flD D n := (hA.2 71 _ _ _ (by decide) rfl).trans (hq n (by omega))
      rw [e9]
      refine ⟨nI (n + 1), nI_add _ _, ?_⟩
      exact ih (n + 1) (by omega) _ (rsD_S hA)
def hW (t : Sg) (i : Nat) : Nat := nN (t 82 false 0 (4 * i + 1))
def hAa (t : Sg) (i : Nat) : Nat := nN (t 82 false 0 (4 * i + 2))
def hBb (t : Sg) (i : Nat) : Int32 := t 82 false 0 (4 * i + 3)
/-- what was done by hand is told well -/
def HV (t : Sg) : Prop := Is (t 69 false 0 18) 200 ∧ ∀ i, i < nH t → Is (t 82 false 0 (4 * i)) 1440 ∧ t 82 false 0 (4 * i + 1) = nI (hW t i) ∧ t 82 false 0 (4 * i + 2) = nI (hAa t i) ∧ hOk t (hW t i) (hAa t i) (hBb t i) ∧ nOk (hW t i) (hBb t i)
noncomputable def hd1 (t : Sg) (i : Nat) (X : Dy) : Dy := ifC (canB t X (hW t i) (hAa t i) (hBb t i)) (dos X (hW t i) (hAa t i) (hBb t i)) X
noncomputable def hdo (t : Sg) : Nat → Nat → Dy → Nat × Dy
  | 0, i, X => (i, X)
  | n + 1, i, X => if i < nH t ∧ t 82 false 0 (4 * i) = X 0 0 then hdo t n (i + 1) (hd1 t i X) else (i, X)
theorem hdo_S (t : Sg) (n i : Nat) (X : Dy) : hdo t (n + 1) i X = if i < nH t ∧ t 82 false 0 (4 * i) = X 0 0 then hdo t n (i + 1) (hd1 t i X) else (i, X) := rfl
noncomputable def wday (t : Sg) : Nat → Nat × Dy → Nat × Dy
  | 0, q => q
  | n + 1, q => ((hdo t (nH t - (wday t n q).1) (wday t n q).1 (wday t n q).2).1, gmin t (hdo t (nH t - (wday t n q).1) (wday t n q).1 (wday t n q).2).2)
theorem wday_S (t : Sg) (n : Nat) (q : Nat × Dy) : wday t (n + 1) q = ((hdo t (nH t - (wday t n q).1) (wday t n q).1 (wday t n q).2).1, gmin t (hdo t (nH t - (wday t n q).1) (wday t n q).1 (wday t n q).2).2) := rfl
theorem dos_6 {t : Sg} {D : Dy} {w a : Nat} {b : Int32} (hc : canB t D w a b) : nN (D 0 6) ≤ nN (dos D w a b 0 6) := by
  unfold dos
  split
  · rw [up2_n (by omega)]; exact Nat.le_refl _
  · rw [lgs_o (by omega) (by omega), up2_n (by omega)]; exact Nat.le_refl _
  · rw [up2_n (by omega)]; exact Nat.le_refl _
  · rw [lgs_o (by omega) (by omega), up2_n (by omega)]; exact Nat.le_refl _
  · rw [lgs_o (by omega) (by omega), up2_n (by omega), up2_n (by omega)]; exact Nat.le_refl _
  next h0 h1 h2 h3 h4 =>
    rw [up2_s]
    have h5 : nN (D 0 6) < 20 := by
      unfold canB at hc
      split at hc
      · exact absurd rfl h0
      · exact absurd rfl h1
      · exact absurd rfl h2
      · exact absurd rfl h3
      · exact absurd rfl h4
      · exact hc
    rw [nN_nI (by omega)]
    omega
theorem dos_MI {t : Sg} {D : Dy} {w a : Nat} {b : Int32} (hT : WN t) (h : MI t D) (hk : hOk t w a b) (hn : nOk w b) (hc : canB t D w a b) : MI t (dos D w a b) := by
  refine ⟨dos_WI hT h.1 hk hn hc, ?_, by rw [dos_o (by omega)]; exact h.2.2⟩
  have h6 := dos_6 hc
  unfold CI
  rw [dos_o (by omega), dos_o (by omega)]
  rcases h.2.1 with c | ⟨c, c1, c2, c3, c4⟩
  · exact Or.inl c
  · exact Or.inr ⟨c, c1, c2, c3, by omega⟩
theorem hd1_MI {t : Sg} {X : Dy} {i : Nat} (hT : WN t) (hV : HV t) (hi : i < nH t) (h : MI t X) : MI t (hd1 t i X) := by
  unfold hd1
  obtain ⟨-, -, -, h1, h2⟩ := hV.2 i hi
  by_cases hc : canB t X (hW t i) (hAa t i) (hBb t i)
  · rw [ifC_t hc]
    exact dos_MI hT h h1 h2 hc
  · rw [ifC_f hc]
    exact h
theorem hd1_0 {t : Sg} {X : Dy} {i : Nat} : hd1 t i X 0 0 = X 0 0 := by
  unfold hd1
  by_cases hc : canB t X (hW t i) (hAa t i) (hBb t i)
  · rw [ifC_t hc]
    exact dos_o (by omega)
  · rw [ifC_f hc]
theorem hdo_MI {t : Sg} (hT : WN t) (hV : HV t) : ∀ (n i : Nat) (X : Dy), i + n = nH t → MI t X → MI t (hdo t n i X).2 ∧ (hdo t n i X).2 0 0 = X 0 0 ∧ i ≤ (hdo t n i X).1 ∧ (hdo t n i X).1 ≤ nH t
  | 0, i, X, hi, h => ⟨h, rfl, Nat.le_refl _, by show i ≤ nH t; omega⟩
  | n + 1, i, X, hi, h => by
    rw [hdo_S]
    by_cases q : i < nH t ∧ t 82 false 0 (4 * i) = X 0 0
    · rw [if_pos q]
      obtain ⟨a, b, c, d⟩ := hdo_MI hT hV n (i + 1) _ (by omega) (hd1_MI hT hV q.1 h)
      exact ⟨a, b.trans hd1_0, by omega, d⟩
    · rw [if_neg q]
      exact ⟨h, rfl, Nat.le_refl _, by show i ≤ nH t; omega⟩
theorem wday_MI {t : Sg} (hI : TI t) (hV : HV t) {X : Dy} (h : MI t X) (h0 : nN (X 0 0) = 0) : ∀ n, n ≤ 1440 → MI t (wday t n (0, X)).2 ∧ nN ((wday t n (0, X)).2 0 0) = n ∧ (wday t n (0, X)).1 ≤ nH t
  | 0, _ => ⟨h, h0, Nat.zero_le _⟩
  | n + 1, hn => by
    obtain ⟨a, b, c⟩ := wday_MI hI hV h h0 n (by omega)
    obtain ⟨a2, b2, c2, d2⟩ := hdo_MI hI.1 hV (nH t - (wday t n (0, X)).1) (wday t n (0, X)).1 (wday t n (0, X)).2 (by omega) a
    rw [wday_S]
    exact ⟨gmin_MI hI a2 (by rw [b2, b]; omega), by show nN (gmin t _ 0 0) = n + 1; rw [gmin_0, b2, b, nN_nI (by omega)], d2⟩
theorem wi_hands {t : Sg} {P : Option AV → Sg → Prop} (hT : WN t) (hV : HV t) {x w : Int32} {u : Nat} : ∀ (n i : Nat), i + n = nH t → ∀ (X : Dy), MI t X → (∀ i' X', (i', X') = hdo t n i X → ∀ τ, Ag t X' τ → G true 226 P 130 [some (.inr (.inr (69, false, 0))), some (.inl x), some (.inl w), some (.inl (nI u)), some (.inl (nI i')), none, none, none, none, none] [] τ) → ∀ τ, Ag t X τ → G true 226 P 60 [some (.inr (.inr (69, false, 0))), some (.inl x), some (.inl w), some (.inl (nI u)), some (.inl (nI i)), none, none, none, none, none] [] τ := by
  intro n
  induction n with
  | zero =>
    intro i hi X hM hK τ hA
    have h0 := hM.2.2.2
    have eH : τ 69 false 0 18 = nI (nH t) := (hA.2 69 _ _ _ (by decide) rfl).trans hV.1.1
    have hH : nH t ≤ 200 := hV.1.2
    refine G_wp 160 [60, 130] rfl ?_
    refine br_ge rfl eH (by omega) (by omega) (fun h63 => ?_) (fun h63 => ?_)
    · have e9 : i = nH t := by omega
      refine hK i X rfl _ hA
    · exact absurd h63 (by omega)
  | succ n ih =>
    intro i hi X hM hK τ hA
    have h0 := hM.2.2.2
    have eH : τ 69 false 0 18 = nI (nH t) := (hA.2 69 _ _ _ (by decide) rfl).trans hV.1.1
    have hH : nH t ≤ 200 := hV.1.2
    obtain ⟨⟨eM0, hm⟩, v1, v2, v3, v4⟩ := hV.2 i (by omega)
    have eM : τ 82 false 0 (4 * i) = nI (nN (t 82 false 0 (4 * i))) := (hA.2 82 _ _ _ (by decide) rfl).trans eM0
    refine G_wp 160 [60, 130] rfl ?_
    refine br_ge rfl eH (by omega) (by omega) (fun h63 => ?_) (fun h63 => ?_)
    · exact absurd h63 (by omega)
    · refine ⟨4 * i, (mul_n rfl rfl), (by show _ < 800; omega), 0, rfl, (by show _ < 23184; omega), ?_⟩
      rw [hA.r0 0 (by decide)]
      refine br_ne eM hM.2.2.1 (by omega) (by omega) (fun h74 => ?_) (fun h74 => ?_)
      · rw [hdo_S, if_neg (fun q => h74 (by have := q.2; rw [eM0, hM.2.2.1] at this; exact nI_inj this (by omega) (by omega)))] at hK
        exact hK i X rfl _ hA
      · refine ⟨(4 * i) + 1, (add_n (mul_n rfl rfl) rfl), (by show _ < 800; omega), ?_⟩
        rw [hA.2 82 _ _ _ (by decide) rfl]
        refine ⟨(4 * i) + 2, (add_n (mul_n rfl rfl) rfl), (by show _ < 800; omega), ?_⟩
        rw [hA.2 82 _ _ _ (by decide) rfl]
        refine ⟨(4 * i) + 3, (add_n (mul_n rfl rfl) rfl), (by show _ < 800; omega), ?_⟩
        rw [hA.2 82 _ _ _ (by decide) rfl]
        have e1 : τ 82 false 0 (4 * i + 1) = nI (hW t i) := (hA.2 82 _ _ _ (by decide) rfl).trans v1
        have e2 : τ 82 false 0 (4 * i + 2) = nI (hAa t i) := (hA.2 82 _ _ _ (by decide) rfl).trans v2
        have e3 : τ 82 false 0 (4 * i + 3) = hBb t i := hA.2 82 _ _ _ (by decide) rfl
        refine ⟨_, _, (by have h := mv_can hA hT hM.1.1.2.2.1 v1 v2 v3; exact h), ?_⟩
        refine brd_eq (fun h101 => ?_) (fun h101 => ?_)
        · refine ⟨nI (i + 1), nI_add _ _, ?_⟩
          have hq : i < nH t ∧ t 82 false 0 (4 * i) = X 0 0 := ⟨by omega, by rw [eM0, hM.2.2.1, h74]⟩
          rw [hdo_S, if_pos hq] at hK
          have e : hd1 t i X = X := ifC_f h101
          refine ih (i + 1) (by omega) (hd1 t i X) (hd1_MI hT hV (by omega) hM) hK _ ?_
          rw [e]
          exact hA
        · refine ⟨(4 * i) + 1, (add_n (mul_n rfl rfl) rfl), (by show _ < 800; omega), ?_⟩
          rw [hA.2 82 _ _ _ (by decide) rfl]
          refine ⟨(4 * i) + 2, (add_n (mul_n rfl rfl) rfl), (by show _ < 800; omega), ?_⟩
          rw [hA.2 82 _ _ _ (by decide) rfl]
          refine ⟨(4 * i) + 3, (add_n (mul_n rfl rfl) rfl), (by show _ < 800; omega), ?_⟩
          rw [hA.2 82 _ _ _ (by decide) rfl]
          obtain ⟨τ1, ev1, hA⟩ := mv_does hA hT hM.1.1.2.2.1 hM.1.1.2.1 v1 v2 v3 h101
          refine ⟨_, _, ev1, nI (i + 1), nI_add _ _, ?_⟩
          have hq : i < nH t ∧ t 82 false 0 (4 * i) = X 0 0 := ⟨by omega, by rw [eM0, hM.2.2.1, h74]⟩
          rw [hdo_S, if_pos hq] at hK
          have e : hd1 t i X = dos X (hW t i) (hAa t i) (hBb t i) := ifC_t h101
          refine ih (i + 1) (by omega) (hd1 t i X) (hd1_MI hT hV (by omega) hM) hK _ ?_
          rw [e]
          exact hA
theorem wi_day {t : Sg} {Y : Dy} {P : Option AV → Sg → Prop} (hI : TI t) (hV : HV t) (hY : MI t Y) (hY0 : nN (Y 0 0) = 0) {x w : Int32} {u : Nat} (hu : u ≤ 1440) (hK : ∀ τ (i : Nat), Ag t (wday t u (0, Y)).2 τ → G true 226 P 133 [some (.inr (.inr (69, false, 0))), some (.inl x), some (.inl w), some (.inl (nI u)), some (.inl (nI i)), none, none, none, none, none] [] τ) : ∀ (j n : Nat), n + j = u → ∀ τ, Ag t (wday t n (0, Y)).2 τ → G true 226 P 54 [some (.inr (.inr (69, false, 0))), some (.inl x), some (.inl w), some (.inl (nI u)), some (.inl (nI (wday t n (0, Y)).1)), none, none, none, none, none] [] τ := by
  intro j
  induction j with
  | zero =>
    intro n hn τ hA
    obtain ⟨a1, a2, a3⟩ := wday_MI hI hV hY hY0 n (by omega)
    have e0 : (wday t n (0, Y)).2 0 0 = nI n := by rw [a1.2.2.1, a2]
    refine G_wp 30 [60, 133] rfl ?_
    refine ⟨0, rfl, (by show _ < 23184; omega), ?_⟩
    rw [hA.r0 0 (by decide)]
    refine br_ge e0 rfl (by omega) (by omega) (fun h59 => ?_) (fun h59 => ?_)
    · rw [show n = u by omega] at hA
      exact hK _ _ hA
    · exact absurd h59 (by omega)
  | succ j ih =>
    intro n hn τ hA
    obtain ⟨a1, a2, a3⟩ := wday_MI hI hV hY hY0 n (by omega)
    have e0 : (wday t n (0, Y)).2 0 0 = nI n := by rw [a1.2.2.1, a2]
    refine G_wp 30 [60, 133] rfl ?_
    refine ⟨0, rfl, (by show _ < 23184; omega), ?_⟩
    rw [hA.r0 0 (by decide)]
    refine br_ge e0 rfl (by omega) (by omega) (fun h59 => ?_) (fun h59 => ?_)
    · exact absurd h59 (by omega)
    · obtain ⟨b1, b2, b3, b4⟩ := hdo_MI hI.1 hV (nH t - (wday t n (0, Y)).1) (wday t n (0, Y)).1 (wday t n (0, Y)).2 (by omega) a1
      refine wi_hands hI.1 hV (nH t - (wday t n (0, Y)).1) _ (by omega) _ a1 (fun i' X' hX1 τ1 hA1 => ?_) _ hA
      rw [← hX1] at b1 b2 b3 b4
      refine G_wp 30 [54] rfl ?_
      obtain ⟨τ2, ev2, hA2⟩ := mv_gmin hA1 hI b1 (by have b22 : X' 0 0 = _ := b2; rw [b22, a2]; omega)
      refine ⟨_, _, ev2, ?_⟩
      have e9 : wday t (n + 1) (0, Y) = (i', gmin t X') := by rw [wday_S, ← hX1]
      have h9 := ih (n + 1) (by omega) τ2
      rw [e9] at h9
      exact h9 hA2
def smP (X : Dy) (f : Nat) : Nat → Int32
  | 0 => nI 0
  | n + 1 => smP X f n + X f n
theorem smP_S (X : Dy) (f n : Nat) : smP X f (n + 1) = smP X f n + X f n := rfl
theorem wi_sums {t : Sg} {X : Dy} {τ : Sg} {P : Option AV → Sg → Prop} (hT : WN t) (hA : Ag t X τ) {x w : Int32} {u : Nat} (hK : G true 226 P 174 [some (.inr (.inr (69, false, 0))), some (.inl x), some (.inl w), some (.inl (nI u)), none, some (.inl (smP X 3 (nP t))), some (.inl (smP X 4 (nP t))), some (.inl (smP X 5 (nP t))), none, none] [] τ) : ∀ (j p : Nat), p + j = nP t → G true 226 P 141 [some (.inr (.inr (69, false, 0))), some (.inl x), some (.inl w), some (.inl (nI u)), none, some (.inl (smP X 3 p)), some (.inl (smP X 4 p)), some (.inl (smP X 5 p)), some (.inl (nI p)), none] [] τ := by
  have eP := hA.P hT
  have hP := hT.P
  intro j
  induction j with
  | zero =>
    intro p hp
    refine G_wp 60 [141, 174] rfl ?_
    refine br_ge rfl eP (by omega) (by omega) (fun h144 => ?_) (fun h144 => ?_)
    · rw [show p = nP t by omega]
      exact G_fg 8 hK
    · exact absurd h144 (by omega)
  | succ j ih =>
    intro p hp
    refine G_wp 60 [141, 174] rfl ?_
    refine br_ge rfl eP (by omega) (by omega) (fun h144 => ?_) (fun h144 => ?_)
    · exact absurd h144 (by omega)
    · refine ⟨32 + p, (add_n rfl rfl), (by show _ < 23184; omega), ?_⟩
      rw [hA.r3 p (by omega)]
      refine ⟨_, rfl, 44 + p, (add_n rfl rfl), (by show _ < 23184; omega), ?_⟩
      rw [hA.r4 p (by omega)]
      refine ⟨_, rfl, 56 + p, (add_n rfl rfl), (by show _ < 23184; omega), ?_⟩
      rw [hA.r5 p (by omega)]
      refine ⟨_, rfl, nI (p + 1), nI_add _ _, ?_⟩
      exact ih (p + 1) (by omega)
/-- the told of what if: the day kept, one rule turned -/
def wiT (t : Sg) (D : Dy) (k : Nat) : Sg := up4 (kpD t D 23184) 86 false 0 k (if t 86 false 0 k = nI 0 then nI 1 else nI 0)
noncomputable def wiX (t : Sg) (D : Dy) (k : Nat) : Dy := (wday (wiT t D k) (nN (D 0 0)) (0, bgn (wiT t D k) D)).2
noncomputable def wiV (t : Sg) (X : Dy) (w : Int32) : Int32 := ifC (w = nI 0) (smP X 3 (nP t)) (ifC (w = nI 1) (smP X 4 (nP t)) (ifC (w = nI 2) (X 0 1) (smP X 5 (nP t))))
noncomputable def wiR (t : Sg) (D : Dy) (k w : Int32) : Int32 := ifC (inI (nI 0) k (t 69 false 0 22 - nI 1) ∧ inI (nI 0) w (nI 3)) (wiV t (wiX t D (nN k)) w) (-2)
theorem wi_206 {t t2 : Sg} {D D2 X : Dy} {τ : Sg} (hA : Ag t2 D2 τ) (h1 : ∀ k d i j, ¬ k = 71 → t2 k d i j = t k d i j) (h2 : ∀ f i, ¬ f = 28 → D2 f i = D f i) {x w z3 : Int32} : G true 226 (fun r' s' => r' = some (.inl (wiV t X w)) ∧ ∃ t2 D2, Ag t2 D2 s' ∧ (∀ k d i j, ¬ k = 71 → t2 k d i j = t k d i j) ∧ ∀ f i, ¬ f = 28 → D2 f i = D f i) 206 [some (.inr (.inr (69, false, 0))), some (.inl x), some (.inl w), some (.inl z3), none, some (.inl (smP X 3 (nP t))), some (.inl (smP X 4 (nP t))), some (.inl (smP X 5 (nP t))), some (.inl (X 0 1)), none] [] τ := by
  refine G_wp 60 [] rfl ?_
  refine ⟨fun h207 => ?_, fun h207 => ?_⟩
  · refine ⟨fun h212 => ?_, fun h212 => ?_⟩
    · refine ⟨fun h217 => ?_, fun h217 => ?_⟩
      · have eR : wiV t X w = (smP X 5 (nP t)) := by simp only [wiV, h207, h212, h217, eq_self, ifC_T, ifC_F, and_true, true_and, and_false, false_and, or_true, true_or, or_false, false_or, not_true_eq_false, not_false_eq_true, and_self, or_self, if_true, if_false, reduceIte, reduceCtorEq, Nat.add_sub_cancel]
        exact ⟨by rw [eR], t2, D2, hA, h1, h2⟩
      · have eR : wiV t X w = (X 0 1) := by simp only [wiV, h207, h212, eq_true h217, eq_self, ifC_T, ifC_F, and_true, true_and, and_false, false_and, or_true, true_or, or_false, false_or, not_true_eq_false, not_false_eq_true, and_self, or_self, if_true, if_false, reduceIte, reduceCtorEq, Nat.add_sub_cancel]
        exact ⟨by rw [eR], t2, D2, hA, h1, h2⟩
    · have eR : wiV t X w = (smP X 4 (nP t)) := by simp only [wiV, h207, eq_true h212, eq_self, ifC_T, ifC_F, and_true, true_and, and_false, false_and, or_true, true_or, or_false, false_or, not_true_eq_false, not_false_eq_true, and_self, or_self, if_true, if_false, reduceIte, reduceCtorEq, Nat.add_sub_cancel]
      exact ⟨by rw [eR], t2, D2, hA, h1, h2⟩
  · have eR : wiV t X w = (smP X 3 (nP t)) := by simp only [wiV, eq_true h207, eq_self, ifC_T, ifC_F, and_true, true_and, and_false, false_and, or_true, true_or, or_false, false_or, not_true_eq_false, not_false_eq_true, and_self, or_self, if_true, if_false, reduceIte, reduceCtorEq, Nat.add_sub_cancel]
    exact ⟨by rw [eR], t2, D2, hA, h1, h2⟩
theorem wiT_86 {t : Sg} {D : Dy} {k : Nat} : wiT t D k 86 false 0 k = if t 86 false 0 k = nI 0 then nI 1 else nI 0 := up4_s _ _ _ _ _ _
theorem wiT_o {t : Sg} {D : Dy} {k l : Nat} {d : Bool} {i j : Nat} (h : ¬ l = 71) (h2 : ¬ (l = 86 ∧ j = k)) : wiT t D k l d i j = t l d i j := by
  unfold wiT up4
  rw [if_neg (fun q => h2 ⟨q.1, q.2.2.2⟩)]
  exact kpD_o h
theorem wi_174z {t : Sg} {D X : Dy} {τ : Sg} (hX : XT t) {x w : Int32} {u : Nat} (hx : x = nI (nN x) ∧ nN x < nRu t) (h86 : t 86 false 0 (nN x) = nI 0) (hA : Ag (wiT t D (nN x)) X τ) : G true 226 (fun r' s' => r' = some (.inl (wiV t X w)) ∧ ∃ t2 D2, Ag t2 D2 s' ∧ (∀ k d i j, ¬ k = 71 → t2 k d i j = t k d i j) ∧ ∀ f i, ¬ f = 28 → D2 f i = D f i) 174 [some (.inr (.inr (69, false, 0))), some (.inl x), some (.inl w), some (.inl (nI u)), none, some (.inl (smP X 3 (nP t))), some (.inl (smP X 4 (nP t))), some (.inl (smP X 5 (nP t))), none, none] [] τ := by
  have hN : nRu t ≤ 10 := hX.1.2
  have e8 : τ 86 false 0 (nN x) = nI 1 := (hA.2 86 _ _ _ (by decide) rfl).trans (by rw [wiT_86, h86]; rfl)
  have HT : ∀ k d i j, ¬ k = 71 → up4 (wiT t D (nN x)) 86 false 0 (nN x) (nI 0) k d i j = t k d i j := by
    intro k d i j hk
    unfold up4
    by_cases q : k = 86 ∧ d = false ∧ i = 0 ∧ j = nN x
    · rw [if_pos q, q.1, q.2.1, q.2.2.1, q.2.2.2, h86]
    · rw [if_neg q]
      unfold wiT up4
      rw [if_neg q]
      exact kpD_o hk
  refine G_wp 90 [193] rfl ?_
  refine ⟨1, rfl, (by show _ < 23184; omega), ?_⟩
  rw [hA.r0 1 (by decide)]
  refine ⟨_, rfl, nN x, hx.1, (by show _ < 10; omega), ?_⟩
  refine br_ne e8 rfl (by omega) (by omega) (fun h186 => ?_) (fun h186 => ?_)
  · refine ⟨nN x, hx.1, (by show _ < 10; omega), nI 0, rfl, ?_⟩
    replace hA := Ag_t hA 86 false 0 (nN x) (nI (0)) (by decide)
    refine ⟨_, rfl, ?_⟩
    refine wi_back (t := up4 (wiT t D (nN x)) 86 false 0 (nN x) (nI 0)) (D := D) (X := X) ?_ (fun τ2 hA2 => ?_) 23184 0 (by omega) _ ?_
    · intro n hn
      rw [up4_nk (by decide)]
      unfold wiT
      rw [up4_nk (by decide)]
      exact kpD_v hn
    · exact wi_206 (rsD_E hA2) HT (fun f i hf => if_neg hf)
    · have e7 : rsD D X 0 = X := by
        funext f i
        unfold rsD
        rw [if_neg (by omega)]
      rw [e7]
      exact hA
  · exact absurd h186 (by omega)
theorem wi_174o {t : Sg} {D X : Dy} {τ : Sg} (hX : XT t) {x w : Int32} {u : Nat} (hx : x = nI (nN x) ∧ nN x < nRu t) (h86 : t 86 false 0 (nN x) = nI 1) (hA : Ag (wiT t D (nN x)) X τ) : G true 226 (fun r' s' => r' = some (.inl (wiV t X w)) ∧ ∃ t2 D2, Ag t2 D2 s' ∧ (∀ k d i j, ¬ k = 71 → t2 k d i j = t k d i j) ∧ ∀ f i, ¬ f = 28 → D2 f i = D f i) 174 [some (.inr (.inr (69, false, 0))), some (.inl x), some (.inl w), some (.inl (nI u)), none, some (.inl (smP X 3 (nP t))), some (.inl (smP X 4 (nP t))), some (.inl (smP X 5 (nP t))), none, none] [] τ := by
  have hN : nRu t ≤ 10 := hX.1.2
  have e8 : τ 86 false 0 (nN x) = nI 0 := (hA.2 86 _ _ _ (by decide) rfl).trans (by rw [wiT_86, h86]; rfl)
  have HT : ∀ k d i j, ¬ k = 71 → up4 (wiT t D (nN x)) 86 false 0 (nN x) (nI 1) k d i j = t k d i j := by
    intro k d i j hk
    unfold up4
    by_cases q : k = 86 ∧ d = false ∧ i = 0 ∧ j = nN x
    · rw [if_pos q, q.1, q.2.1, q.2.2.1, q.2.2.2, h86]
    · rw [if_neg q]
      unfold wiT up4
      rw [if_neg q]
      exact kpD_o hk
  refine G_wp 90 [193] rfl ?_
  refine ⟨1, rfl, (by show _ < 23184; omega), ?_⟩
  rw [hA.r0 1 (by decide)]
  refine ⟨_, rfl, nN x, hx.1, (by show _ < 10; omega), ?_⟩
  refine br_ne e8 rfl (by omega) (by omega) (fun h186 => ?_) (fun h186 => ?_)
  · exact absurd h186 (by omega)
  · refine ⟨nN x, hx.1, (by show _ < 10; omega), nI 1, rfl, ?_⟩
    replace hA := Ag_t hA 86 false 0 (nN x) (nI (1)) (by decide)
    refine ⟨_, rfl, ?_⟩
    refine wi_back (t := up4 (wiT t D (nN x)) 86 false 0 (nN x) (nI 1)) (D := D) (X := X) ?_ (fun τ2 hA2 => ?_) 23184 0 (by omega) _ ?_
    · intro n hn
      rw [up4_nk (by decide)]
      unfold wiT
      rw [up4_nk (by decide)]
      exact kpD_v hn
    · exact wi_206 (rsD_E hA2) HT (fun f i hf => if_neg hf)
    · have e7 : rsD D X 0 = X := by
        funext f i
        unfold rsD
        rw [if_neg (by omega)]
      rw [e7]
      exact hA
theorem wiT_WN {t : Sg} {D : Dy} {k : Nat} (h : WN t) : WN (wiT t D k) := by
  unfold WN at h ⊢
  rw [wiT_o (by decide) (by omega), wiT_o (by decide) (by omega), wiT_o (by decide) (by omega)]
  exact h
theorem wiT_nP {t : Sg} {D : Dy} {k : Nat} : nP (wiT t D k) = nP t := by
  unfold nP
  rw [wiT_o (by decide) (by omega)]
theorem wi_133 {t : Sg} {D X : Dy} {τ : Sg} (hT : WN t) (hX : XT t) {x w : Int32} {u i : Nat} (hx : x = nI (nN x) ∧ nN x < nRu t) (h86 : t 86 false 0 (nN x) = nI 0 ∨ t 86 false 0 (nN x) = nI 1) (hA : Ag (wiT t D (nN x)) X τ) : G true 226 (fun r' s' => r' = some (.inl (wiV t X w)) ∧ ∃ t2 D2, Ag t2 D2 s' ∧ (∀ k d i j, ¬ k = 71 → t2 k d i j = t k d i j) ∧ ∀ f i, ¬ f = 28 → D2 f i = D f i) 133 [some (.inr (.inr (69, false, 0))), some (.inl x), some (.inl w), some (.inl (nI u)), some (.inl (nI i)), none, none, none, none, none] [] τ := by
  have hT1 := wiT_WN (D := D) (k := nN x) hT
  have hK : G true 226 (fun r' s' => r' = some (.inl (wiV t X w)) ∧ ∃ t2 D2, Ag t2 D2 s' ∧ (∀ k d i j, ¬ k = 71 → t2 k d i j = t k d i j) ∧ ∀ f i, ¬ f = 28 → D2 f i = D f i) 174 [some (.inr (.inr (69, false, 0))), some (.inl x), some (.inl w), some (.inl (nI u)), none, some (.inl (smP X 3 (nP (wiT t D (nN x))))), some (.inl (smP X 4 (nP (wiT t D (nN x))))), some (.inl (smP X 5 (nP (wiT t D (nN x))))), none, none] [] τ := by
    rw [wiT_nP]
    rcases h86 with h | h
    · exact wi_174z hX hx h hA
    · exact wi_174o hX hx h hA
  refine G_wp 30 [141] rfl ?_
  refine ⟨_, rfl, _, rfl, _, rfl, _, rfl, ?_⟩
  have hs := wi_sums (x := x) (w := w) (u := u) hT1 hA hK (nP (wiT t D (nN x))) 0 (by omega)
  exact G_fg 4 hs
theorem wi_33z {t : Sg} {D : Dy} {τ : Sg} (hT : WN t) (hX : XT t) (h0 : Is (D 0 0) 1440) {x w : Int32} (hx : x = nI (nN x) ∧ nN x < nRu t) (h86 : t 86 false 0 (nN x) = nI 0) (hI2 : TI (wiT t D (nN x))) (hV2 : HV (wiT t D (nN x))) (hB : MI (wiT t D (nN x)) (bgn (wiT t D (nN x)) D)) (hB0 : nN (bgn (wiT t D (nN x)) D 0 0) = 0) (hA : Ag (kpD t D 23184) D τ) : G true 226 (fun r' s' => r' = some (.inl (wiV t (wiX t D (nN x)) w)) ∧ ∃ t2 D2, Ag t2 D2 s' ∧ (∀ k d i j, ¬ k = 71 → t2 k d i j = t k d i j) ∧ ∀ f i, ¬ f = 28 → D2 f i = D f i) 33 [some (.inr (.inr (69, false, 0))), some (.inl x), some (.inl w), none, none, none, none, none, none, none] [] τ := by
  have hN : nRu t ≤ 10 := hX.1.2
  have h01 : t 86 false 0 (nN x) = nI 0 ∨ t 86 false 0 (nN x) = nI 1 := Or.inl h86
  have e8 : τ 86 false 0 (nN x) = nI 0 := (hA.2 86 _ _ _ (by decide) rfl).trans ((kpD_o (by decide)).trans h86)
  refine G_wp 90 [54] rfl ?_
  refine ⟨nN x, hx.1, (by show _ < 10; omega), ?_⟩
  refine br_ne e8 rfl (by omega) (by omega) (fun h40 => ?_) (fun h40 => ?_)
  · exact absurd h40 (by omega)
  · refine ⟨nN x, hx.1, (by show _ < 10; omega), nI 1, rfl, ?_⟩
    replace hA := Ag_t hA 86 false 0 (nN x) (nI (1)) (by decide)
    refine ⟨0, rfl, (by show _ < 23184; omega), ?_⟩
    rw [hA.r0 0 (by decide)]
    refine ⟨nI (nN (D 0 0)), h0.1, ?_⟩
    have eW : up4 (kpD t D 23184) 86 false 0 (nN x) (nI 1) = wiT t D (nN x) := by unfold wiT; rw [h86]; rfl
    rw [eW] at hA
    obtain ⟨τ1, ev1, hA⟩ := mv_begins hA (wiT_WN hT)
    refine ⟨_, _, ev1, _, rfl, ?_⟩
    exact wi_day hI2 hV2 hB hB0 h0.2 (fun τ2 i hA2 => wi_133 hT hX hx h01 hA2) (nN (D 0 0)) 0 (by omega) _ hA
theorem wi_33o {t : Sg} {D : Dy} {τ : Sg} (hT : WN t) (hX : XT t) (h0 : Is (D 0 0) 1440) {x w : Int32} (hx : x = nI (nN x) ∧ nN x < nRu t) (h86 : t 86 false 0 (nN x) = nI 1) (hI2 : TI (wiT t D (nN x))) (hV2 : HV (wiT t D (nN x))) (hB : MI (wiT t D (nN x)) (bgn (wiT t D (nN x)) D)) (hB0 : nN (bgn (wiT t D (nN x)) D 0 0) = 0) (hA : Ag (kpD t D 23184) D τ) : G true 226 (fun r' s' => r' = some (.inl (wiV t (wiX t D (nN x)) w)) ∧ ∃ t2 D2, Ag t2 D2 s' ∧ (∀ k d i j, ¬ k = 71 → t2 k d i j = t k d i j) ∧ ∀ f i, ¬ f = 28 → D2 f i = D f i) 33 [some (.inr (.inr (69, false, 0))), some (.inl x), some (.inl w), none, none, none, none, none, none, none] [] τ := by
  have hN : nRu t ≤ 10 := hX.1.2
  have h01 : t 86 false 0 (nN x) = nI 0 ∨ t 86 false 0 (nN x) = nI 1 := Or.inr h86
  have e8 : τ 86 false 0 (nN x) = nI 1 := (hA.2 86 _ _ _ (by decide) rfl).trans ((kpD_o (by decide)).trans h86)
  refine G_wp 90 [54] rfl ?_
  refine ⟨nN x, hx.1, (by show _ < 10; omega), ?_⟩
  refine br_ne e8 rfl (by omega) (by omega) (fun h40 => ?_) (fun h40 => ?_)
  · refine ⟨nN x, hx.1, (by show _ < 10; omega), nI 0, rfl, ?_⟩
    replace hA := Ag_t hA 86 false 0 (nN x) (nI (0)) (by decide)
    refine ⟨0, rfl, (by show _ < 23184; omega), ?_⟩
    rw [hA.r0 0 (by decide)]
    refine ⟨nI (nN (D 0 0)), h0.1, ?_⟩
    have eW : up4 (kpD t D 23184) 86 false 0 (nN x) (nI 0) = wiT t D (nN x) := by unfold wiT; rw [h86]; rfl
    rw [eW] at hA
    obtain ⟨τ1, ev1, hA⟩ := mv_begins hA (wiT_WN hT)
    refine ⟨_, _, ev1, _, rfl, ?_⟩
    exact wi_day hI2 hV2 hB hB0 h0.2 (fun τ2 i hA2 => wi_133 hT hX hx h01 hA2) (nN (D 0 0)) 0 (by omega) _ hA
  · exact absurd h40 (by omega)
theorem mp_whatIf {t : Sg} {D : Dy} {τ : Sg} (hA : Ag t D τ) (hT : WN t) (hX : XT t) (h0 : Is (D 0 0) 1440) {x w : Int32} (h86 : ∀ k, k < nRu t → t 86 false 0 k = nI 0 ∨ t 86 false 0 k = nI 1) (hI2 : ∀ k, k < nRu t → TI (wiT t D k)) (hV2 : ∀ k, HV (wiT t D k)) (hB : ∀ k, MI (wiT t D k) (bgn (wiT t D k) D)) (hB0 : ∀ k, nN (bgn (wiT t D k) D 0 0) = 0) : ∃ τ', Ev true 226 [.inr (.inr (69, false, 0)), .inl (x), .inl (w)] τ (some (.inl (wiR t D x w))) τ' ∧ ∃ t2 D2, Ag t2 D2 τ' ∧ (∀ k d i j, ¬ k = 71 → t2 k d i j = t k d i j) ∧ ∀ f i, ¬ f = 28 → D2 f i = D f i := by
  refine EvQ_wp 42 [20] rfl rfl ?_
  refine ⟨_, rfl, ?_⟩
  replace hA := Ag_scr hA (k := 69) (d := false) (i := 0) (j := 0) (v := (nI (0))) (by decide) rfl
  refine ⟨_, _, mv_in3 (congrArg (fun z => z - nI 1) (hA.2 69 false 0 22 (by decide) rfl)), ?_⟩
  refine brd_eq (fun h10 => ?_) (fun h10 => ?_)
  · have eR : wiR t D x w = -2 := by simp only [wiR, h10, eq_self, ifC_T, ifC_F, and_true, true_and, and_false, false_and, or_true, true_or, or_false, false_or, not_true_eq_false, not_false_eq_true, and_self, or_self, if_true, if_false, reduceIte, reduceCtorEq, Nat.add_sub_cancel]
    exact ⟨by rw [eR], t, D, hA, fun _ _ _ _ _ => rfl, fun _ _ _ => rfl⟩
  · refine ⟨_, _, mv_in2, ?_⟩
    refine brd_ne (fun h15 => ?_) (fun h15 => ?_)
    · refine ⟨_, rfl, ?_⟩
      have eR : wiR t D x w = wiV t (wiX t D (nN x)) w := by simp only [wiR, h10, h15, eq_self, ifC_T, ifC_F, and_true, true_and, and_false, false_and, or_true, true_or, or_false, false_or, not_true_eq_false, not_false_eq_true, and_self, or_self, if_true, if_false, reduceIte, reduceCtorEq, Nat.add_sub_cancel]
      rw [eR]
      have hx := off_k hX h10
      refine wi_keep (D := D) (fun τ1 hA1 => ?_) 23184 0 (by omega) _ (by rw [kpD_0]; exact hA)
      rcases h86 (nN x) hx.2 with h | h
      · exact wi_33z hT hX h0 hx h (hI2 _ hx.2) (hV2 _) (hB _) (hB0 _) hA1
      · exact wi_33o hT hX h0 hx h (hI2 _ hx.2) (hV2 _) (hB _) (hB0 _) hA1
    · have eR : wiR t D x w = -2 := by simp only [wiR, h10, h15, eq_self, ifC_T, ifC_F, and_true, true_and, and_false, false_and, or_true, true_or, or_false, false_or, not_true_eq_false, not_false_eq_true, and_self, or_self, if_true, if_false, reduceIte, reduceCtorEq, Nat.add_sub_cancel]
      exact ⟨by rw [eR], t, D, hA, fun _ _ _ _ _ => rfl, fun _ _ _ => rfl⟩
