/-! The class's rule: whether it holds, its act, its price. -/
def hsV (f : Nat → Nat) (ev : Nat → Int32) (e : Nat) : Bool := hsC f ev e 40 0 (false, true, false) [] false
theorem HS_b {σ s1 : Sg} {i j : Nat} {c : B3} {r : List B3} (h : HS (up4 σ 12 false 0 7 (nI j)) s1 i c r) : HS σ s1 i c r :=
  ⟨h.1, fun k d x y e => (h.2.1 k d x y e).trans (scc_n e rfl), h.2.2⟩
theorem clm_m (x : Int32) : mMax (nI 0) (mMin (nI 99) x) = clm x := by
  have e0 : (nI 0).toInt = 0 := nI_toInt (by omega)
  have e9 : (nI 99).toInt = 99 := nI_toInt (by omega)
  unfold mMax mMin clm
  by_cases h1 : x < nI 99
  · rw [if_pos h1]
    by_cases h2 : nI 0 < x
    · rw [if_pos h2, if_neg, if_neg]
      · rw [Int32.lt_iff_toInt_lt] at h1 h2 ⊢
        omega
      · rw [Int32.lt_iff_toInt_lt] at h1 h2 ⊢
        omega
    · rw [if_neg h2]
      by_cases h3 : x < nI 0
      · rw [if_pos h3]
      · rw [if_neg h3, if_neg]
        · rw [Int32.lt_iff_toInt_lt] at h2 h3
          exact Int32.toInt_inj.mp (by omega)
        · rw [Int32.lt_iff_toInt_lt] at h1 h2 h3 ⊢
          omega
  · rw [if_neg h1, if_pos (by decide), if_neg]
    · split
      next => rfl
      next h4 =>
        rw [Int32.lt_iff_toInt_lt] at h1 h4
        exact Int32.toInt_inj.mp (by omega)
    · rw [Int32.lt_iff_toInt_lt] at h1 ⊢
      omega
theorem cv_holds {d : Bool} {σ : Sg} {f : Nat → Nat} {ev : Nat → Int32} {k e : Nat} (hk : k < 10) (he : e ≤ 40) (hf30 : ∀ i, i < e → f i ≤ 30) (hrow : ∀ i, i < e → σ 14 false (k + 1) i = nI (f i)) (hn : ∀ s, 21 ≤ s → s ≤ 27 → σ 36 d 0 (s - 21) = ev s) (hth : σ 16 false 0 k = nI e) : ∃ σ', Ev false 139 [.inr (.inr (12, false, 0)), .inl (nI k), .inr (.inr (36, d, 0))] σ (some (.inl (bI (hsV f ev e = true)))) σ' ∧ ∀ k d x j, scc k j = false → σ' k d x j = σ k d x j := by
  refine EvQ_wp 43 [23] rfl rfl ?_
  refine ⟨k, rfl, (by show _ < 10; omega), k, rfl, (by show _ < 10; omega), nI (e), hth, _, rfl, _, rfl, _, rfl, ?_⟩
  have ev1 := cv_begin (σ := (up4 σ 12 false 0 7 (nI (0)))) (o := 0) (v := nI 0) (by omega) (Or.inl rfl)
  refine ⟨_, _, ev1, _, rfl, ?_⟩
  exact cv_hs_l hk he hf30 hrow hn 40 0 (false, true, false) [] false (nI 0) (bI_f (fun z : false = true => Bool.false_ne_true z)).symm 0 none none _ (by omega) (by omega) (by decide) (HS_b (HS_0 (up4_s _ _ _ _ _ _) (bI_f (fun z : false = true => Bool.false_ne_true z)).symm))
theorem cv_act {σ : Sg} {k e a : Nat} (hk : k < 10) (he : e + 1 < 40) (hth : σ 16 false 0 k = nI e) (ha : σ 14 false (k + 1) (e + 1) = nI a) : Ev false 22 [.inr (.inr (12, false, 0)), .inl (nI k)] σ (some (.inl (nI a))) σ := by
  refine Ev_wp 40 [] rfl rfl ?_
  refine ⟨k, rfl, (by show _ < 10; omega), nI (e + 1), (add_n hth rfl), ?_⟩
  refine br_ge rfl rfl (by omega) (by omega) (fun h9 => ?_) (fun h9 => ?_)
  · exact absurd h9 (by omega)
  · refine ⟨k, rfl, (by show _ < 10; omega), (show k < 10 by omega), e + 1, rfl, (by show _ < 40; omega), ?_⟩
    exact ⟨congrArg (fun z => some (Sum.inl z)) ha, rfl⟩
theorem cv_price {d : Bool} {σ : Sg} {f : Nat → Nat} {ev : Nat → Int32} {k e n : Nat} (hk : k < 10) (hn40 : n ≤ 40) (he : e < 40) (hf30 : ∀ i, i < n → f i ≤ 30) (hrow : ∀ i, i < n → σ 14 false (k + 1) i = nI (f i)) (hn : ∀ s, 21 ≤ s → s ≤ 27 → σ 36 d 0 (s - 21) = ev s) (hth : σ 16 false 0 k = nI e) (hlen : σ 15 false 0 k = nI n) : Ev false 87 [.inr (.inr (12, false, 0)), .inl (nI k), .inr (.inr (36, d, 0))] σ (some (.inl (clm (rs1 f ev n (e + 3)).1))) (aW σ (rs1 f ev n (e + 3)).2) := by
  refine Ev_wp 60 [] rfl rfl ?_
  refine ⟨k, rfl, (by show _ < 10; omega), nI (e + 3), (add_n hth rfl), k, rfl, (by show _ < 10; omega), k, rfl, (by show _ < 10; omega), ?_⟩
  have ev1 := cv_rs hk hn40 hf30 hrow hn (i := e + 3) (by omega)
  change Ev false _ _ _ (some (.inl (rs1 f ev n (e + 3)).1)) (aW σ (rs1 f ev n (e + 3)).2) at ev1
  rw [← (show up4 σ 12 false 0 7 (nI (e + 3)) 15 false 0 k = nI n from (aW_o (by decide)).trans hlen)] at ev1
  refine ⟨_, _, ev1, _, rfl, ?_⟩
  exact ⟨by rw [← clm_m], rfl⟩
