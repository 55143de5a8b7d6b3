/-! The model's day begins, goes on, ends. -/
def zr (k : Nat) (D : Dy) : Dy := fun f i => if fk f = 70 ∧ fo f + i < k then nI 0 else D f i
theorem zr_0 (D : Dy) : zr 0 D = D := by
  funext f i
  unfold zr
  rw [if_neg (by omega)]
theorem zr_S {t : Sg} {D : Dy} {τ : Sg} {k : Nat} (h : Ag t (zr k D) τ) : Ag t (zr (k + 1) D) (up4 τ 70 false 0 k (nI 0)) := by
  refine ⟨fun f i hi => ?_, fun k' d i' j hk hs => (up4_nk hk).trans (h.2 k' d i' j hk hs)⟩
  have h1 := h.1 f i hi
  unfold up4
  unfold zr at h1 ⊢
  by_cases q : fk f = 70
  · by_cases e : fo f + i = k
    · rw [if_pos ⟨q, rfl, rfl, e⟩, if_pos ⟨q, by omega⟩]
    · rw [if_neg (fun z => e z.2.2.2), h1]
      by_cases e2 : fo f + i < k
      · rw [if_pos ⟨q, e2⟩, if_pos ⟨q, by omega⟩]
      · rw [if_neg (fun z => e2 z.2), if_neg (by omega)]
  · rw [if_neg (fun z => q z.1), h1, if_neg (fun z => q z.1), if_neg (fun z => q z.1)]
def bgA (p : Nat) (X : Dy) : Dy := up2 (up2 X 1 p (nI 10)) 2 p (nI 1)
def bgB (t : Sg) (b : Nat) (X : Dy) : Dy := up2 X 12 b (t 75 false 0 b)
def bgC (r : Nat) (X : Dy) : Dy := tls X r
def bg1 (D : Dy) : Dy := up2 (zr 3184 D) 0 5 (-1)
def bg2 (D : Dy) : Dy := fr bgA 12 (bg1 D)
def bg3 (t : Sg) (D : Dy) : Dy := fr (bgB t) (nB t) (bg2 D)
def bgn (t : Sg) (D : Dy) : Dy := fr bgC (nR t) (bg3 t D)
theorem fr_n {f : Nat → Dy → Dy} {g i : Nat} (h : ∀ k X, ¬ k = i → f k X g i = X g i) (D : Dy) : ∀ n, fr f n D g i = if i < n then f i (fr f i D) g i else D g i
  | 0 => by rw [if_neg (Nat.not_lt_zero _)]; rfl
  | n + 1 => by
    rw [fr_S]
    by_cases e : n = i
    · subst e
      rw [if_pos (Nat.lt_succ_self _)]
    · rw [h n _ e, fr_n h D n]
      by_cases q : i < n
      · rw [if_pos q, if_pos (by omega)]
      · rw [if_neg q, if_neg (by omega)]
theorem mb_zero {t : Sg} {D : Dy} {P : Option AV → Sg → Prop}  (hK : ∀ τ, Ag t (zr 3184 D) τ → G true 107 P 12 [some (.inr (.inr (69, false, 0))), none] [] τ) : ∀ (j k : Nat), k + j = 3184 → ∀ (τ : Sg), Ag t (zr k D) τ → G true 107 P 2 [some (.inr (.inr (69, false, 0))), some (.inl (nI k))] [] τ := by
  intro j
  induction j with
  | zero =>
    intro k hj τ hA
    refine G_wp 300 [2, 12] rfl ?_
    refine br_ge rfl rfl (by omega) (by omega) (fun h4 => ?_) (fun h4 => ?_)
    · rw [show k = 3184 by omega] at hA
      exact G_fg 1 (hK _ hA)
    · exact absurd h4 (by omega)
  | succ j ih =>
    intro k hj τ hA
    refine G_wp 300 [2, 12] rfl ?_
    refine br_ge rfl rfl (by omega) (by omega) (fun h4 => ?_) (fun h4 => ?_)
    · exact absurd h4 (by omega)
    · refine ⟨k, rfl, (by show _ < 23184; omega), _, rfl, nI (k + 1), nI_add _ _, ?_⟩
      exact ih (k + 1) (by omega) _ (zr_S hA)
theorem mb_posts {t : Sg} {D : Dy} {P : Option AV → Sg → Prop}  (hK : ∀ τ, Ag t (fr bgA 12 D) τ → G true 107 P 38 [some (.inr (.inr (69, false, 0))), none] [] τ) : ∀ (j p : Nat), p + j = 12 → ∀ (τ : Sg), Ag t (fr bgA p D) τ → G true 107 P 19 [some (.inr (.inr (69, false, 0))), some (.inl (nI p))] [] τ := by
  intro j
  induction j with
  | zero =>
    intro p hj τ hA
    refine G_wp 300 [19, 38] rfl ?_
    refine br_ge rfl rfl (by omega) (by omega) (fun h21 => ?_) (fun h21 => ?_)
    · rw [show p = 12 by omega] at hA
      exact G_fg 1 (hK _ hA)
    · exact absurd h21 (by omega)
  | succ j ih =>
    intro p hj τ hA
    refine G_wp 300 [19, 38] rfl ?_
    refine br_ge rfl rfl (by omega) (by omega) (fun h21 => ?_) (fun h21 => ?_)
    · exact absurd h21 (by omega)
    · refine ⟨8 + p, (add_n rfl rfl), (by show _ < 23184; omega), _, rfl, ?_⟩
      replace hA := hA.w1 p (by omega) (nI (10))
      refine ⟨20 + p, (add_n rfl rfl), (by show _ < 23184; omega), _, rfl, ?_⟩
      replace hA := hA.w2 p (by omega) (nI (1))
      refine ⟨nI (p + 1), nI_add _ _, ?_⟩
      exact ih (p + 1) (by omega) _ hA
theorem mb_bikes {t : Sg} {D : Dy} {P : Option AV → Sg → Prop} (hT : WN t) (hK : ∀ τ, Ag t (fr (bgB t) (nB t) D) τ → G true 107 P 56 [some (.inr (.inr (69, false, 0))), none] [] τ) : ∀ (j b : Nat), b + j = nB t → ∀ (τ : Sg), Ag t (fr (bgB t) b D) τ → G true 107 P 40 [some (.inr (.inr (69, false, 0))), some (.inl (nI b))] [] τ := by
  intro j
  induction j with
  | zero =>
    intro b hj τ hA
    have eB := hA.B hT
    have hB := hT.B
    refine G_wp 300 [40, 56] rfl ?_
    refine br_ge rfl eB (by omega) (by omega) (fun h43 => ?_) (fun h43 => ?_)
    · rw [show b = nB t by omega] at hA
      exact G_fg 1 (hK _ hA)
    · exact absurd h43 (by omega)
  | succ j ih =>
    intro b hj τ hA
    have eB := hA.B hT
    have hB := hT.B
    refine G_wp 300 [40, 56] rfl ?_
    refine br_ge rfl eB (by omega) (by omega) (fun h43 => ?_) (fun h43 => ?_)
    · exact absurd h43 (by omega)
    · refine ⟨b, rfl, (by show _ < 60; omega), ?_⟩
      rw [hA.2 75 _ _ _ (by decide) rfl]
      refine ⟨1292 + b, (add_n rfl rfl), (by show _ < 23184; omega), _, rfl, ?_⟩
      replace hA := hA.w12 b (by omega) (t 75 false 0 b)
      refine ⟨nI (b + 1), nI_add _ _, ?_⟩
      exact ih (b + 1) (by omega) _ hA
theorem mb_riders {t : Sg} {D : Dy} {P : Option AV → Sg → Prop} (hT : WN t) (hK : ∀ τ, Ag t (fr bgC (nR t) D) τ → G true 107 P 67 [some (.inr (.inr (69, false, 0))), none] [] τ) : ∀ (j r : Nat), r + j = nR t → ∀ (τ : Sg), Ag t (fr bgC r D) τ → G true 107 P 58 [some (.inr (.inr (69, false, 0))), some (.inl (nI r))] [] τ := by
  intro j
  induction j with
  | zero =>
    intro r hj τ hA
    have eR := hA.R hT
    have hR := hT.R
    refine G_wp 300 [58, 67] rfl ?_
    refine br_ge rfl eR (by omega) (by omega) (fun h61 => ?_) (fun h61 => ?_)
    · rw [show r = nR t by omega] at hA
      exact G_fg 1 (hK _ hA)
    · exact absurd h61 (by omega)
  | succ j ih =>
    intro r hj τ hA
    have eR := hA.R hT
    have hR := hT.R
    refine G_wp 300 [58, 67] rfl ?_
    refine br_ge rfl eR (by omega) (by omega) (fun h61 => ?_) (fun h61 => ?_)
    · exact absurd h61 (by omega)
    · obtain ⟨τ1, ev1, hA⟩ := mv_tells hA (x := nI r) rfl (by omega)
      refine ⟨_, _, ev1, nI (r + 1), nI_add _ _, ?_⟩
      exact ih (r + 1) (by omega) _ hA
theorem mv_begins {t : Sg} {D : Dy} {τ : Sg} (hA : Ag t D τ) (hT : WN t) : ∃ τ', Ev true 107 [.inr (.inr (69, false, 0))] τ none τ' ∧ Ag t (bgn t D) τ' := by
  refine EvQ_wp 60 [2] rfl rfl ?_
  refine ⟨_, rfl, ?_⟩
  refine mb_zero (fun τ hA => ?_) 3184 0 (by omega) _ (by rw [zr_0]; exact hA)
  refine G_wp 30 [19] rfl ?_
  refine ⟨5, rfl, (by show _ < 23184; omega), _, rfl, ?_⟩
  replace hA := hA.w0 5 (by decide) (-1)
  refine ⟨_, rfl, ?_⟩
  refine mb_posts (fun τ hA => ?_) 12 0 (by omega) _ hA
  refine G_wp 30 [40] rfl ?_
  refine ⟨_, rfl, ?_⟩
  refine mb_bikes hT (fun τ hA => ?_) (nB t) 0 (by omega) _ hA
  refine G_wp 30 [58] rfl ?_
  refine ⟨_, rfl, ?_⟩
  refine mb_riders hT (fun τ hA => ?_) (nR t) 0 (by omega) _ hA
  refine G_wp 30 [] rfl ?_
  exact ⟨rfl, hA⟩
theorem bg1_v {D : Dy} {f i : Nat} (hf : f < 27) (hi : i < fl f) : bg1 D f i = if f = 0 ∧ i = 5 then -1 else nI 0 := by
  unfold bg1 up2
  by_cases q : f = 0 ∧ i = 5
  · rw [if_pos q, if_pos q]
  · rw [if_neg q, if_neg q]
    unfold zr
    rw [if_pos]
    refine ⟨by unfold fk; rw [if_neg (by omega)], ?_⟩
    have := (show (List.range 27).all (fun f => Nat.ble (fo f + fl f) 3184) = true by decide +kernel)
    have h1 := List.all_eq_true.mp this f (List.mem_range.mpr hf)
    have h2 := Nat.le_of_ble_eq_true h1
    omega
theorem bg2_p {D : Dy} {i : Nat} (hi : i < 12) : bg2 D 1 i = nI 10 ∧ bg2 D 2 i = nI 1 := by
  unfold bg2
  rw [fr_n (fun k X h => by unfold bgA; rw [up2_n (by omega), up2_n (by omega)]), if_pos hi, fr_n (fun k X h => by unfold bgA; rw [up2_n (by omega), up2_n (by omega)]), if_pos hi]
  unfold bgA
  exact ⟨by rw [up2_n (by omega), up2_s], up2_s _ _ _ _⟩
theorem bg2_o {D : Dy} {f i : Nat} (h : ¬ f = 1 ∧ ¬ f = 2) : bg2 D f i = bg1 D f i := fr_e (fun n X => by unfold bgA; rw [up2_n (by omega), up2_n (by omega)]) _ _
theorem bg3_12 {t : Sg} {D : Dy} {i : Nat} (hi : i < nB t) : bg3 t D 12 i = t 75 false 0 i := by
  unfold bg3
  rw [fr_n (f := bgB t) (fun k X h => up2_n (by omega)), if_pos hi]
  exact up2_s _ _ _ _
theorem bg3_o {t : Sg} {D : Dy} {f i : Nat} (h : ¬ f = 12) : bg3 t D f i = bg2 D f i := fr_e (fun n X => up2_n (by omega)) _ _
theorem tls_o {D : Dy} {r f i : Nat} (h : ¬ (16 ≤ f ∧ f ≤ 21 ∧ i = r)) : tls D r f i = D f i := by
  unfold tls
  repeat rw [up2_n (by omega)]
theorem tls_v {D : Dy} {r f : Nat} (h : 16 ≤ f ∧ f ≤ 21) : tls D r f r = if f = 16 ∨ f = 21 then nI 0 else -1 := by
  unfold tls
  rcases (show f = 16 ∨ f = 17 ∨ f = 18 ∨ f = 19 ∨ f = 20 ∨ f = 21 by omega) with rfl | rfl | rfl | rfl | rfl | rfl <;> simp [up2]
theorem bgn_r {t : Sg} {D : Dy} {f i : Nat} (hf : 16 ≤ f ∧ f ≤ 21) (hi : i < nR t) : bgn t D f i = if f = 16 ∨ f = 21 then nI 0 else -1 := by
  unfold bgn
  rw [fr_n (f := bgC) (fun k X h => tls_o (by omega)), if_pos hi]
  exact tls_v hf
theorem bgn_o {t : Sg} {D : Dy} {f i : Nat} (h : ¬ (16 ≤ f ∧ f ≤ 21)) : bgn t D f i = bg3 t D f i := fr_e (fun n X => tls_o (by omega)) _ _
theorem bgn_0 {t : Sg} {D : Dy} {i : Nat} (hi : i < 8) : bgn t D 0 i = if i = 5 then -1 else nI 0 := by
  rw [bgn_o (by omega), bg3_o (by omega), bg2_o (by omega), bg1_v (by omega) hi]
  by_cases q : i = 5
  · rw [if_pos q, if_pos ⟨rfl, q⟩]
  · rw [if_neg q, if_neg (fun z => q z.2)]
theorem bgn_p {t : Sg} {D : Dy} {i : Nat} (hi : i < 12) : bgn t D 1 i = nI 10 ∧ bgn t D 2 i = nI 1 := by
  rw [bgn_o (by omega), bgn_o (by omega), bg3_o (by omega), bg3_o (by omega)]
  exact bg2_p hi
theorem bgn_12 {t : Sg} {D : Dy} {i : Nat} (hi : i < nB t) : bgn t D 12 i = t 75 false 0 i := by
  rw [bgn_o (by omega)]
  exact bg3_12 hi
theorem bgn_z {t : Sg} {D : Dy} {f i : Nat} (hf : (3 ≤ f ∧ f ≤ 11) ∨ (13 ≤ f ∧ f ≤ 15) ∨ (22 ≤ f ∧ f ≤ 26)) (hi : i < fl f) : bgn t D f i = nI 0 := by
  rw [bgn_o (by omega), bg3_o (by omega), bg2_o (by omega), bg1_v (by omega) hi, if_neg (by omega)]
/-- what the told keeps to, for a minute -/
def TI (t : Sg) : Prop := WN t ∧ WT t ∧ RT t ∧ XT t ∧ RU t
/-- what the day keeps to, between minutes -/
def MI (t : Sg) (D : Dy) : Prop := WI t D ∧ CI D ∧ Is (D 0 0) 1440
theorem gmin_MI {t : Sg} {D : Dy} (hI : TI t) (h : MI t D) (h0 : nN (D 0 0) < 1440) : MI t (gmin t D) := by
  obtain ⟨hT, hW, hR, hX, hU⟩ := hI
  obtain ⟨h1, h2, h3⟩ := h
  have h4 : Is (D 0 0) 1439 := ⟨h3.1, by omega⟩
  obtain ⟨a, b⟩ := gmin_WI hT hW hR h1 h4 h2
  exact ⟨a, b, by rw [gmin_0]; exact Is_of (by omega) (by omega)⟩
theorem mv_gmin {t : Sg} {D : Dy} {τ : Sg} (hA : Ag t D τ) (hI : TI t) (h : MI t D) (h0 : nN (D 0 0) < 1440) : ∃ τ', Ev true 217 [.inr (.inr (69, false, 0))] τ none τ' ∧ Ag t (gmin t D) τ' :=
  mv_goes hA hI.1 hI.2.1 hI.2.2.1 hI.2.2.2.1 hI.2.2.2.2 ⟨h.2.2.1, by omega⟩ h.1 h.2.1
theorem itm_MI {t : Sg} {D : Dy} (hI : TI t) (h : MI t D) : ∀ n, n + nN (D 0 0) ≤ 1440 → MI t (itr (gmin t) n D) ∧ nN (itr (gmin t) n D 0 0) = n + nN (D 0 0)
  | 0, _ => ⟨h, (Nat.zero_add _).symm⟩
  | n + 1, hn => by
    obtain ⟨h1, h2⟩ := itm_MI hI h n (by omega)
    rw [itr_S]
    exact ⟨gmin_MI hI h1 (by omega), by rw [gmin_0, nN_nI (by omega), h2]; omega⟩
noncomputable def stpN (D : Dy) (n : Int32) : Nat := min (nN n) (1440 - nN (D 0 0))
noncomputable def stpR (D : Dy) (n : Int32) : Int32 := ifC (inI (nI 1) n (nI 1440)) (ifC (nN (D 0 0) = 1440) (-3) (nI (stpN D n))) (-2)
noncomputable def stpD (t : Sg) (D : Dy) (n : Int32) : Dy := ifC (inI (nI 1) n (nI 1440)) (ifC (nN (D 0 0) = 1440) D (itr (gmin t) (stpN D n) D)) D
theorem mv_step_l {t : Sg} {D : Dy} (hI : TI t) (h : MI t D) {x : Int32} (hx : x = nI (nN x)) (hx2 : nN x ≤ 1440) : ∀ (j k : Nat), k + j = stpN D x → ∀ (τ : Sg), Ag t (itr (gmin t) k D) τ → G true 225 (fun r' s' => r' = some (.inl (nI (stpN D x))) ∧ Ag t (itr (gmin t) (stpN D x) D) s') 20 [some (.inr (.inr (69, false, 0))), some (.inl x), some (.inl (nI k))] [] τ := by
  have hN : stpN D x = min (nN x) (1440 - nN (D 0 0)) := rfl
  have h0 := h.2.2.2
  intro j
  induction j with
  | zero =>
    intro k hk τ hA
    obtain ⟨h1, h2⟩ := itm_MI hI h k (by omega)
    have e0 : itr (gmin t) k D 0 0 = nI (k + nN (D 0 0)) := by rw [← h2]; exact h1.2.2.1
    refine G_wp 60 [20] rfl ?_
    refine br_ge rfl hx (by omega) (by omega) (fun h22 => ?_) (fun h22 => ?_)
    · rw [show k = stpN D x by omega] at hA ⊢
      exact ⟨rfl, hA⟩
    · refine ⟨0, rfl, (by show _ < 23184; omega), ?_⟩
      rw [hA.r0 0 (by decide)]
      refine br_ge e0 rfl (by omega) (by omega) (fun h28 => ?_) (fun h28 => ?_)
      · rw [show k = stpN D x by omega] at hA ⊢
        exact ⟨rfl, hA⟩
      · exact absurd h28 (by omega)
  | succ j ih =>
    intro k hk τ hA
    obtain ⟨h1, h2⟩ := itm_MI hI h k (by omega)
    have e0 : itr (gmin t) k D 0 0 = nI (k + nN (D 0 0)) := by rw [← h2]; exact h1.2.2.1
    refine G_wp 60 [20] rfl ?_
    refine br_ge rfl hx (by omega) (by omega) (fun h22 => ?_) (fun h22 => ?_)
    · exact absurd h22 (by omega)
    · refine ⟨0, rfl, (by show _ < 23184; omega), ?_⟩
      rw [hA.r0 0 (by decide)]
      refine br_ge e0 rfl (by omega) (by omega) (fun h28 => ?_) (fun h28 => ?_)
      · exact absurd h28 (by omega)
      · obtain ⟨τ1, ev1, hA⟩ := mv_gmin hA hI h1 (by omega)
        refine ⟨_, _, ev1, nI (k + 1), nI_add _ _, ?_⟩
        exact ih (k + 1) (by omega) _ hA
theorem mp_step {t : Sg} {D : Dy} {τ : Sg} (hA : Ag t D τ) (hT : WN t) {x : Int32} (hI : TI t) (h : MI t D) : ∃ τ', Ev true 225 [.inr (.inr (69, false, 0)), .inl (x)] τ (some (.inl (stpR D x))) τ' ∧ Ag (t) (stpD t D x) τ' := by
  have h0 := h.2.2.2
  refine EvQ_wp 40 [20] rfl rfl ?_
  refine ⟨_, rfl, ?_⟩
  replace hA := Ag_scr hA (k := 69) (d := false) (i := 0) (j := 0) (v := (nI (0))) (by decide) rfl
  refine ⟨_, _, mv_in2, ?_⟩
  refine brd_ne (fun h7 => ?_) (fun h7 => ?_)
  · refine ⟨0, rfl, (by show _ < 23184; omega), ?_⟩
    rw [hA.r0 0 (by decide)]
    refine br_ne h.2.2.1 rfl (by omega) (by omega) (fun h15 => ?_) (fun h15 => ?_)
    · refine ⟨_, rfl, ?_⟩
      have hx := inI_n (by omega) (by omega) h7
      have eR : stpR D x = nI (stpN D x) := by simp only [stpR, stpD, h7, h15, eq_self, ifC_T, ifC_F, and_true, true_and, and_false, false_and, or_true, true_or, or_false, false_or, not_true_eq_false, not_false_eq_true, and_self, or_self, if_true, if_false, reduceIte, reduceCtorEq, Nat.add_sub_cancel]
      have eD : stpD t D x = itr (gmin t) (stpN D x) D := by simp only [stpR, stpD, h7, h15, eq_self, ifC_T, ifC_F, and_true, true_and, and_false, false_and, or_true, true_or, or_false, false_or, not_true_eq_false, not_false_eq_true, and_self, or_self, if_true, if_false, reduceIte, reduceCtorEq, Nat.add_sub_cancel]
      rw [eR, eD]
      exact mv_step_l hI h hx.1 hx.2.2 (stpN D x) 0 (by omega) _ hA
    · have eR : stpR D x = (-3) := by
        simp only [stpR, stpD, h7, eq_true h15, eq_self, ifC_T, ifC_F, and_true, true_and, and_false, false_and, or_true, true_or, or_false, false_or, not_true_eq_false, not_false_eq_true, and_self, or_self, if_true, if_false, reduceIte, reduceCtorEq, Nat.add_sub_cancel]
      have eD : stpD t D x = D := by simp only [stpR, stpD, h7, eq_true h15, eq_self, ifC_T, ifC_F, and_true, true_and, and_false, false_and, or_true, true_or, or_false, false_or, not_true_eq_false, not_false_eq_true, and_self, or_self, if_true, if_false, reduceIte, reduceCtorEq, Nat.add_sub_cancel]
      refine ⟨congrArg (fun z => some (Sum.inl z)) (Eq.trans rfl eR.symm), ?_⟩
      rw [eD]
      exact hA
  · have eR : stpR D x = (-2) := by
      simp only [stpR, stpD, h7, eq_self, ifC_T, ifC_F, and_true, true_and, and_false, false_and, or_true, true_or, or_false, false_or, not_true_eq_false, not_false_eq_true, and_self, or_self, if_true, if_false, reduceIte, reduceCtorEq, Nat.add_sub_cancel]
    have eD : stpD t D x = D := by simp only [stpR, stpD, h7, eq_self, ifC_T, ifC_F, and_true, true_and, and_false, false_and, or_true, true_or, or_false, false_or, not_true_eq_false, not_false_eq_true, and_self, or_self, if_true, if_false, reduceIte, reduceCtorEq, Nat.add_sub_cancel]
    refine ⟨congrArg (fun z => some (Sum.inl z)) (Eq.trans rfl eR.symm), ?_⟩
    rw [eD]
    exact hA
def edC (t : Sg) (D : Dy) (n : Nat) : Sg := fun k d i j => if k = 88 ∧ d = false ∧ i = 0 ∧ 288 * nD t ≤ j ∧ j < 288 * nD t + n then D 7 (j - 288 * nD t) else t k d i j
theorem edC_0 (t : Sg) (D : Dy) : edC t D 0 = t := by
  funext k d i j
  unfold edC
  rw [if_neg (by omega)]
theorem edC_o {t : Sg} {D : Dy} {n k : Nat} {d : Bool} {i j : Nat} (h : ¬ k = 88) : edC t D n k d i j = t k d i j := if_neg (fun q => h q.1)
theorem edC_S (t : Sg) (D : Dy) (n : Nat) : edC t D (n + 1) = up4 (edC t D n) 88 false 0 (288 * nD t + n) (D 7 n) := by
  funext k d i j
  show (if k = 88 ∧ d = false ∧ i = 0 ∧ 288 * nD t ≤ j ∧ j < 288 * nD t + (n + 1) then D 7 (j - 288 * nD t) else t k d i j) = (if k = 88 ∧ d = false ∧ i = 0 ∧ j = 288 * nD t + n then D 7 n else if k = 88 ∧ d = false ∧ i = 0 ∧ 288 * nD t ≤ j ∧ j < 288 * nD t + n then D 7 (j - 288 * nD t) else t k d i j)
  by_cases h : k = 88 ∧ d = false ∧ i = 0
  · obtain ⟨rfl, rfl, rfl⟩ := h
    by_cases e : j = 288 * nD t + n
    · subst e
      rw [if_pos ⟨rfl, rfl, rfl, by omega, by omega⟩, if_pos ⟨rfl, rfl, rfl, rfl⟩]
      congr 1
      omega
    · rw [if_neg (c := _ ∧ _ ∧ _ ∧ j = _) (fun q => e q.2.2.2)]
      by_cases e2 : 288 * nD t ≤ j ∧ j < 288 * nD t + n
      · rw [if_pos ⟨rfl, rfl, rfl, by omega, by omega⟩, if_pos ⟨rfl, rfl, rfl, e2⟩]
      · rw [if_neg (fun q => e2 ⟨q.2.2.2.1, by omega⟩), if_neg (fun q => e2 q.2.2.2)]
  · rw [if_neg (fun q => h ⟨q.1, q.2.1, q.2.2.1⟩), if_neg (fun q => h ⟨q.1, q.2.1, q.2.2.1⟩), if_neg (fun q => h ⟨q.1, q.2.1, q.2.2.1⟩)]
/-- the told as a day is kept -/
def kpT (t : Sg) (D : Dy) (w : Int32) : Sg := up4 (up4 (edC (up4 t 87 false 0 (nD t) w) D 288) 69 false 0 26 (nI (nD t + 1))) 69 false 0 18 (nI 0)
theorem mv_keep_l {t : Sg} {D : Dy} {P : Option AV → Sg → Prop} (hN : Is (t 69 false 0 26) 20) (h20 : nD t < 20) {x : Int32} (hK : ∀ τ, Ag (edC t D 288) D τ → G true 159 P 51 [some (.inr (.inr (69, false, 0))), none, none] [] τ) : ∀ (j k : Nat), k + j = 288 → ∀ τ, Ag (edC t D k) D τ → G true 159 P 31 [some (.inr (.inr (69, false, 0))), some (.inl x), some (.inl (nI k))] [] τ := by
  intro j
  induction j with
  | zero =>
    intro k hk τ hA
    have eD : τ 69 false 0 26 = nI (nD t) := (hA.2 69 _ _ _ (by decide) rfl).trans ((edC_o (by decide)).trans hN.1)
    refine G_wp 60 [31, 51] rfl ?_
    refine br_ge rfl rfl (by omega) (by omega) (fun h33 => ?_) (fun h33 => ?_)
    · rw [show k = 288 by omega] at hA
      exact G_fg 1 (G_fg 2 (hK _ hA))
    · exact absurd h33 (by omega)
  | succ j ih =>
    intro k hk τ hA
    have eD : τ 69 false 0 26 = nI (nD t) := (hA.2 69 _ _ _ (by decide) rfl).trans ((edC_o (by decide)).trans hN.1)
    refine G_wp 60 [31, 51] rfl ?_
    refine br_ge rfl rfl (by omega) (by omega) (fun h33 => ?_) (fun h33 => ?_)
    · exact absurd h33 (by omega)
    · refine ⟨80 + k, (add_n rfl rfl), (by show _ < 23184; omega), ?_⟩
      rw [hA.r7 k (by omega)]
      refine ⟨(288 * (nD t)) + k, (add_n (mul_n rfl eD) rfl), (by show _ < 5760; omega), _, rfl, ?_⟩
      replace hA := Ag_t hA 88 false 0 ((288 * (nD t)) + k) (D 7 k) (by decide)
      refine ⟨nI (k + 1), nI_add _ _, ?_⟩
      rw [← edC_S] at hA
      exact ih (k + 1) (by omega) _ hA
theorem mv_keep_e {t : Sg} {D : Dy} {τ : Sg} {w : Int32} (hN : Is (t 69 false 0 26) 20) (hT2 : WN (up4 (up4 (edC t D 288) 69 false 0 26 (nI (nD t + 1))) 69 false 0 18 (nI 0))) (hA : Ag (edC t D 288) D τ) : G true 159 (fun r' s' => r' = some (.inl (nI (nD t + 1))) ∧ Ag (up4 (up4 (edC t D 288) 69 false 0 26 (nI (nD t + 1))) 69 false 0 18 (nI 0)) (bgn (up4 (up4 (edC t D 288) 69 false 0 26 (nI (nD t + 1))) 69 false 0 18 (nI 0)) D) s') 51 [some (.inr (.inr (69, false, 0))), none, none] [] τ := by
  have eD : τ 69 false 0 26 = nI (nD t) := (hA.2 69 _ _ _ (by decide) rfl).trans ((edC_o (by decide)).trans hN.1)
  refine G_wp 60 [] rfl ?_
  refine ⟨nI ((nD t) + 1), (add_n eD rfl), ?_⟩
  replace hA := Ag_t hA 69 false 0 26 (nI ((nD t) + 1)) (by decide)
  refine ⟨_, rfl, ?_⟩
  replace hA := Ag_t hA 69 false 0 18 (nI (0)) (by decide)
  obtain ⟨τ1, ev1, hA⟩ := mv_begins hA hT2
  refine ⟨_, _, ev1, ?_⟩
  exact ⟨congrArg (fun z => some (Sum.inl z)) (hA.2 69 false 0 26 (by decide) rfl), hA⟩
theorem up4_nj {σ : Sg} {k : Nat} {d : Bool} {i j : Nat} {v : Int32} {k' : Nat} {d' : Bool} {i' j' : Nat} (h : ¬ j' = j) : up4 σ k d i j v k' d' i' j' = σ k' d' i' j' := by
  unfold up4
  rw [if_neg (fun q => h q.2.2.2)]
theorem kpT_WN {t : Sg} {D : Dy} {w : Int32} (h : WN t) : WN (kpT t D w) := by
  unfold WN at h ⊢
  have e : ∀ j, ¬ j = 26 → ¬ j = 18 → kpT t D w 69 false 0 j = t 69 false 0 j := fun j h1 h2 => by
    unfold kpT
    rw [up4_nj h2, up4_nj h1, edC_o (by decide), up4_nk (by decide)]
  rw [e 3 (by decide) (by decide), e 7 (by decide) (by decide), e 9 (by decide) (by decide)]
  exact h
noncomputable def edR (t : Sg) (D : Dy) (x : Int32) : Int32 := ifC (inI (nI 0) x (nI 6)) (ifC (nN (D 0 0) = 0) (-3) (ifC (nD t = 20) (-4) (nI (nD t + 1)))) (-2)
noncomputable def edT (t : Sg) (D : Dy) (x : Int32) : Sg := ifC (inI (nI 0) x (nI 6)) (ifC (nN (D 0 0) = 0) t (ifC (nD t = 20) t (kpT t D x))) t
noncomputable def edD (t : Sg) (D : Dy) (x : Int32) : Dy := ifC (inI (nI 0) x (nI 6)) (ifC (nN (D 0 0) = 0) D (ifC (nD t = 20) D (bgn (kpT t D x) D))) D
theorem mp_endDay {t : Sg} {D : Dy} {τ : Sg} (hA : Ag t D τ) (hT : WN t) {x : Int32} (hN : Is (t 69 false 0 26) 20) (h0 : Is (D 0 0) 1440) : ∃ τ', Ev true 159 [.inr (.inr (69, false, 0)), .inl (x)] τ (some (.inl (edR t D x))) τ' ∧ Ag (edT t D x) (edD t D x) τ' := by
  have eD : τ 69 false 0 26 = nI (nD t) := (hA.2 69 _ _ _ (by decide) rfl).trans hN.1
  have hN1 : nD t ≤ 20 := hN.2
  have h01 := h0.2
  refine EvQ_wp 51 [31] rfl rfl ?_
  refine ⟨_, rfl, ?_⟩
  replace hA := Ag_scr hA (k := 69) (d := false) (i := 0) (j := 0) (v := (nI (0))) (by decide) rfl
  refine ⟨_, _, mv_in2, ?_⟩
  refine brd_ne (fun h7 => ?_) (fun h7 => ?_)
  · refine ⟨0, rfl, (by show _ < 23184; omega), ?_⟩
    rw [hA.r0 0 (by decide)]
    refine br_ne h0.1 rfl (by omega) (by omega) (fun h14 => ?_) (fun h14 => ?_)
    · refine br_ne eD rfl (by omega) (by omega) (fun h20 => ?_) (fun h20 => ?_)
      · refine ⟨nD t, eD, (by show _ < 20; omega), _, rfl, ?_⟩
        replace hA := Ag_t hA 87 false 0 (nD t) x (by decide)
        refine ⟨_, rfl, ?_⟩
        have eR : edR t D x = nI (nD t + 1) := by simp only [edR, edT, edD, h7, h14, h20, eq_self, ifC_T, ifC_F, and_true, true_and, and_false, false_and, or_true, true_or, or_false, false_or, not_true_eq_false, not_false_eq_true, and_self, or_self, if_true, if_false, reduceIte, reduceCtorEq, Nat.add_sub_cancel]
        have eT : edT t D x = kpT t D x := by simp only [edR, edT, edD, h7, h14, h20, eq_self, ifC_T, ifC_F, and_true, true_and, and_false, false_and, or_true, true_or, or_false, false_or, not_true_eq_false, not_false_eq_true, and_self, or_self, if_true, if_false, reduceIte, reduceCtorEq, Nat.add_sub_cancel]
        have eD2 : edD t D x = bgn (kpT t D x) D := by simp only [edR, edT, edD, h7, h14, h20, eq_self, ifC_T, ifC_F, and_true, true_and, and_false, false_and, or_true, true_or, or_false, false_or, not_true_eq_false, not_false_eq_true, and_self, or_self, if_true, if_false, reduceIte, reduceCtorEq, Nat.add_sub_cancel]
        rw [eR, eT, eD2]
        have en : nD (up4 t 87 false 0 (nD t) x) = nD t := by unfold nD; rw [up4_nk (by decide)]
        have hN2 : Is (up4 t 87 false 0 (nD t) x 69 false 0 26) 20 := by rw [up4_nk (by decide)]; exact hN
        refine mv_keep_l (D := D) hN2 (by rw [en]; omega) (fun τ1 hA1 => ?_) 288 0 (by omega) _ ?_
        · have hk := mv_keep_e (w := x) hN2 (by rw [en]; exact kpT_WN hT) hA1
          rw [en] at hk
          exact hk
        · rw [edC_0]
          exact hA
      · have eR : edR t D x = (-4) := by
          simp only [edR, edT, edD, h7, h14, eq_true h20, eq_self, ifC_T, ifC_F, and_true, true_and, and_false, false_and, or_true, true_or, or_false, false_or, not_true_eq_false, not_false_eq_true, and_self, or_self, if_true, if_false, reduceIte, reduceCtorEq, Nat.add_sub_cancel]
        have eT : edT t D x = t := by simp only [edR, edT, edD, h7, h14, eq_true h20, eq_self, ifC_T, ifC_F, and_true, true_and, and_false, false_and, or_true, true_or, or_false, false_or, not_true_eq_false, not_false_eq_true, and_self, or_self, if_true, if_false, reduceIte, reduceCtorEq, Nat.add_sub_cancel]
        have eD : edD t D x = D := by simp only [edR, edT, edD, h7, h14, eq_true h20, eq_self, ifC_T, ifC_F, and_true, true_and, and_false, false_and, or_true, true_or, or_false, false_or, not_true_eq_false, not_false_eq_true, and_self, or_self, if_true, if_false, reduceIte, reduceCtorEq, Nat.add_sub_cancel]
        refine ⟨congrArg (fun z => some (Sum.inl z)) (Eq.trans rfl eR.symm), ?_⟩
        rw [eT, eD]
        exact hA
    · have eR : edR t D x = (-3) := by
        simp only [edR, edT, edD, h7, eq_true h14, eq_self, ifC_T, ifC_F, and_true, true_and, and_false, false_and, or_true, true_or, or_false, false_or, not_true_eq_false, not_false_eq_true, and_self, or_self, if_true, if_false, reduceIte, reduceCtorEq, Nat.add_sub_cancel]
      have eT : edT t D x = t := by simp only [edR, edT, edD, h7, eq_true h14, eq_self, ifC_T, ifC_F, and_true, true_and, and_false, false_and, or_true, true_or, or_false, false_or, not_true_eq_false, not_false_eq_true, and_self, or_self, if_true, if_false, reduceIte, reduceCtorEq, Nat.add_sub_cancel]
      have eD : edD t D x = D := by simp only [edR, edT, edD, h7, eq_true h14, eq_self, ifC_T, ifC_F, and_true, true_and, and_false, false_and, or_true, true_or, or_false, false_or, not_true_eq_false, not_false_eq_true, and_self, or_self, if_true, if_false, reduceIte, reduceCtorEq, Nat.add_sub_cancel]
      refine ⟨congrArg (fun z => some (Sum.inl z)) (Eq.trans rfl eR.symm), ?_⟩
      rw [eT, eD]
      exact hA
  · have eR : edR t D x = (-2) := by
      simp only [edR, edT, edD, h7, eq_self, ifC_T, ifC_F, and_true, true_and, and_false, false_and, or_true, true_or, or_false, false_or, not_true_eq_false, not_false_eq_true, and_self, or_self, if_true, if_false, reduceIte, reduceCtorEq, Nat.add_sub_cancel]
    have eT : edT t D x = t := by simp only [edR, edT, edD, h7, eq_self, ifC_T, ifC_F, and_true, true_and, and_false, false_and, or_true, true_or, or_false, false_or, not_true_eq_false, not_false_eq_true, and_self, or_self, if_true, if_false, reduceIte, reduceCtorEq, Nat.add_sub_cancel]
    have eD : edD t D x = D := by simp only [edR, edT, edD, h7, eq_self, ifC_T, ifC_F, and_true, true_and, and_false, false_and, or_true, true_or, or_false, false_or, not_true_eq_false, not_false_eq_true, and_self, or_self, if_true, if_false, reduceIte, reduceCtorEq, Nat.add_sub_cancel]
    refine ⟨congrArg (fun z => some (Sum.inl z)) (Eq.trans rfl eR.symm), ?_⟩
    rw [eT, eD]
    exact hA
