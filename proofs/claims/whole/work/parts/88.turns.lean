/-! The class's turns of two houses. -/
theorem cv_tz_l {t : Sg} {D : Dy} {Z : Zt} {x y : Int32} {a b : Nat} {P : Option AV → Sg → Prop} (hQ : ∀ σ, CK t D Z σ → (∀ i, i < 50 → σ 58 false 0 i = nI 0) → G false 180 P 24 [some (.inr (.inr (56, false, 0))), some (.inl x), some (.inl y), some (.inl (nI a)), some (.inl (nI b)), some (.inl (nI 0)), some (.inl (nI 0)), some (.inl (nI 0)), none, none] [] σ) : ∀ (n j : Nat) (σ : Sg), j + n = 50 → CK t D Z σ → (∀ i, i < j → σ 58 false 0 i = nI 0) → G false 180 P 10 [some (.inr (.inr (56, false, 0))), some (.inl x), some (.inl y), some (.inl (nI a)), some (.inl (nI b)), some (.inl (nI 0)), some (.inl (nI 0)), some (.inl (nI j)), none, none] [] σ := by
  intro n
  induction n with
  | zero =>
    intro j σ hj hK hz
    refine G_wp 60 [10, 24] rfl ?_
    refine br_ge rfl (show _ = nI 50 from rfl) (by omega) (by omega) (fun h14 => ?_) (fun h14 => ?_)
    · refine ⟨_, rfl, ?_⟩
      exact hQ _ hK (fun i hi => hz i (by omega))
    · exact absurd h14 (by omega)
  | succ n ih =>
    intro j σ hj hK hz
    refine G_wp 60 [10, 24] rfl ?_
    refine br_ge rfl (show _ = nI 50 from rfl) (by omega) (by omega) (fun h14 => ?_) (fun h14 => ?_)
    · exact absurd h14 (by omega)
    · refine ⟨j, rfl, (by show _ < 50; omega), nI 0, rfl, ?_⟩
      replace hK := CK_u hK (k := 58) (r := 0) (i := j) (d := false) (nI (0)) (Or.inl rfl) (by omega)
      refine ⟨nI (j + 1), nI_add _ _, ?_⟩
      exact ih (j + 1) _ (by omega) hK (fun i hi => by
            by_cases e : i = j
            · subst e; exact up4_s _ _ _ _ _ _
            · rw [u4n (by omega)]; exact hz i (by omega))
theorem cv_tl0 {t : Sg} {D : Dy} {Z : Zt} {σ : Sg} {x y : Int32} {a b n : Nat} {o8 o9 : Option AV} (hK : CK t D Z σ) (ha : a < 5) (hb : b < 5) (hn : n < 50) (hst : isS (gns t) a b) (h58 : σ 58 false 0 (2 * (5 * a + b) + 0) = nI 0) : G false 180 (fun r' s' => r' = some (.inl (nI n)) ∧ CK t D Z s') 24 [some (.inr (.inr (56, false, 0))), some (.inl x), some (.inl y), some (.inl (nI a)), some (.inl (nI b)), some (.inl (nI 0)), some (.inl (nI 1)), some (.inl (nI (n + 1))), o8, o9] [] σ := by
  refine G_wp 120 [24] rfl ?_
  refine br_gt rfl (show _ = nI 50 from rfl) (by omega) (by omega) (fun h28 => ?_) (fun h28 => ?_)
  · exact absurd h28 (by omega)
  · refine ⟨_, _, cv_pair, nI ((2 * (5 * a + b)) + 0), (add_n (mul_n rfl (add_n (mul_n rfl rfl) rfl)) rfl), (2 * (5 * a + b)) + 0, rfl, (by show _ < 50; omega), ?_⟩
    refine ⟨fun h41 => ?_, fun h41 => ?_⟩
    · rw [h58] at h41
      refine ⟨(2 * (5 * a + b)) + 0, rfl, (by show _ < 50; omega), nI 1, rfl, ?_⟩
      replace hK := CK_u hK (k := 58) (r := 0) (i := (2 * (5 * a + b)) + 0) (d := false) (nI (1)) (Or.inl rfl) (by omega)
      refine ⟨_, _, cv_bl0 hK.1.1 ha hb, nI (a), (congrArg nI hst.1), ?_⟩
      refine br_ne rfl rfl (by omega) (by omega) (fun h59 => ?_) (fun h59 => ?_)
      · exact absurd h59 (by omega)
      · refine br_ne rfl rfl (by omega) (by omega) (fun h63 => ?_) (fun h63 => ?_)
        · exact absurd h63 (by omega)
        · refine ⟨nI (1 + 1), (add_n rfl rfl), ?_⟩
          refine br_ne rfl rfl (by omega) (by omega) (fun h72 => ?_) (fun h72 => ?_)
          · exact absurd h72 (by omega)
          · exact ⟨congrArg (fun z => some (Sum.inl z)) ((sub_n rfl rfl (by omega)).trans (by rw [Nat.add_sub_cancel])), hK⟩
    · exact absurd h58 h41
theorem cv_tl1 {t : Sg} {D : Dy} {Z : Zt} {σ : Sg} {x y : Int32} {a b n : Nat} {o8 o9 : Option AV} (hK : CK t D Z σ) (ha : a < 5) (hb : b < 5) (hn : n < 50) (hst : isS (gns t) a b) (h58 : σ 58 false 0 (2 * (5 * a + b) + 1) = nI 0) : G false 180 (fun r' s' => r' = some (.inl (nI n)) ∧ CK t D Z s') 24 [some (.inr (.inr (56, false, 0))), some (.inl x), some (.inl y), some (.inl (nI a)), some (.inl (nI b)), some (.inl (nI 1)), some (.inl (nI 1)), some (.inl (nI (n + 1))), o8, o9] [] σ := by
  refine G_wp 120 [24] rfl ?_
  refine br_gt rfl (show _ = nI 50 from rfl) (by omega) (by omega) (fun h28 => ?_) (fun h28 => ?_)
  · exact absurd h28 (by omega)
  · refine ⟨_, _, cv_pair, nI ((2 * (5 * a + b)) + 1), (add_n (mul_n rfl (add_n (mul_n rfl rfl) rfl)) rfl), (2 * (5 * a + b)) + 1, rfl, (by show _ < 50; omega), ?_⟩
    refine ⟨fun h41 => ?_, fun h41 => ?_⟩
    · rw [h58] at h41
      refine ⟨(2 * (5 * a + b)) + 1, rfl, (by show _ < 50; omega), nI 1, rfl, ?_⟩
      replace hK := CK_u hK (k := 58) (r := 0) (i := (2 * (5 * a + b)) + 1) (d := false) (nI (1)) (Or.inl rfl) (by omega)
      refine ⟨_, _, cv_bl1 hK.1.1 ha hb, nI (b), (congrArg nI hst.2), ?_⟩
      refine br_ne rfl rfl (by omega) (by omega) (fun h59 => ?_) (fun h59 => ?_)
      · refine br_ne rfl rfl (by omega) (by omega) (fun h63 => ?_) (fun h63 => ?_)
        · exact absurd h63 (by omega)
        · refine ⟨nI (1 + 1), (add_n rfl rfl), ?_⟩
          refine br_ne rfl rfl (by omega) (by omega) (fun h72 => ?_) (fun h72 => ?_)
          · exact absurd h72 (by omega)
          · exact ⟨congrArg (fun z => some (Sum.inl z)) ((sub_n rfl rfl (by omega)).trans (by rw [Nat.add_sub_cancel])), hK⟩
      · exact absurd h59 (by omega)
    · exact absurd h58 h41
theorem cv_tn0 {t : Sg} {D : Dy} {Z : Zt} {x y : Int32} {m n a b sy : Nat} {s s2 : Nat → Bool} {σ : Sg} {o8 o9 : Option AV} (hs2 : s2 = uS s (25 * 0 + 5 * a + b)) (ih10 : s (25 * 0 + 5 * a + b) = false → ∀ (a b sy : Nat) (σ : Sg) (o8 o9 : Option AV), a < 5 → b < 5 → CK t D Z σ → (∀ k p q, k < 2 → p < 5 → q < 5 → σ 58 false 0 (2 * (5 * p + q) + k) = bN (s2 (25 * k + 5 * p + q))) → (∀ k p q, k < 2 → p < 5 → q < 5 → s2 (25 * k + 5 * p + q) = true → ¬ isS (gns t) p q) → sy ≤ 1 → (sy = 1 → s2 (25 * 0 + 5 * a + b) = true ∧ ans (gns t) 0 a b = a) → G false 180 (fun r' s' => r' = some (.inl (anW (gns t) m s2 a b (n + 1))) ∧ CK t D Z s') 24 [some (.inr (.inr (56, false, 0))), some (.inl x), some (.inl y), some (.inl (nI a)), some (.inl (nI b)), some (.inl (nI 1)), some (.inl (nI sy)), some (.inl (nI (n + 1))), o8, o9] [] σ) (hnm : n + (m + 1) = 51) (hn2 : n % 2 = 0) (hct : ct (fun j => !(s j)) 50 < m + 1) (ha : a < 5) (hb : b < 5) (hK : CK t D Z σ) (hse : (∀ k p q, k < 2 → p < 5 → q < 5 → σ 58 false 0 (2 * (5 * p + q) + k) = bN (s (25 * k + 5 * p + q)))) (hno : (∀ k p q, k < 2 → p < 5 → q < 5 → s (25 * k + 5 * p + q) = true → ¬ isS (gns t) p q)) (hsy : sy ≤ 1) (hsy1 : (sy = 1 → s (25 * 1 + 5 * a + b) = true ∧ ans (gns t) 1 a b = b)) : G false 180 (fun r' s' => r' = some (.inl (anW (gns t) (m + 1) s a b n)) ∧ CK t D Z s') 24 [some (.inr (.inr (56, false, 0))), some (.inl x), some (.inl y), some (.inl (nI a)), some (.inl (nI b)), some (.inl (nI 0)), some (.inl (nI sy)), some (.inl (nI n)), o8, o9] [] σ := by
  have l0 := ans_lt (g := gns t) (who := 0) ha hb
  have l1 := ans_lt (g := gns t) (who := 1) ha hb
  have h58 := hse 0 a b (by omega) ha hb
  have hoth := hse 1 a b (by omega) ha hb
  rw [anW_S, hn2]
  by_cases hst : isS (gns t) a b
  · rw [ifC_t hst]
    have k0 : s (25 * 0 + 5 * a + b) = false := by
      cases q : s (25 * 0 + 5 * a + b) with
      | false => rfl
      | true => exact absurd hst (hno 0 a b (by omega) ha hb q)
    have k1 : s (25 * 1 + 5 * a + b) = false := by
      cases q : s (25 * 1 + 5 * a + b) with
      | false => rfl
      | true => exact absurd hst (hno 1 a b (by omega) ha hb q)
    rw [k0] at h58
    rw [k1] at hoth
    have h48 : n ≤ 48 := by
      have e1 := ct_uS (s := s) (k := 25 * 0 + 5 * a + b) (by omega) k0
      have e2 := ct_uS (s := uS s (25 * 0 + 5 * a + b)) (k := 25 * 1 + 5 * a + b) (by omega) (by unfold uS; rw [if_neg (by omega)]; exact k1)
      omega
    have hsy0 : sy = 0 := by
      by_cases q : sy = 0
      · exact q
      · exact absurd (hsy1 (by omega)).1 (by rw [k1]; decide)
    subst hsy0
    refine G_wp 200 [24] rfl ?_
    refine br_gt rfl (show _ = nI 50 from rfl) (by omega) (by omega) (fun h28 => ?_) (fun h28 => ?_)
    · exact absurd h28 (by omega)
    · refine ⟨_, _, cv_pair, nI ((2 * (5 * a + b)) + 0), (add_n (mul_n rfl (add_n (mul_n rfl rfl) rfl)) rfl), (2 * (5 * a + b)) + 0, rfl, (by show _ < 50; omega), ?_⟩
      refine ⟨fun h41 => ?_, fun h41 => ?_⟩
      · rw [h58] at h41
        refine ⟨(2 * (5 * a + b)) + 0, rfl, (by show _ < 50; omega), nI 1, rfl, ?_⟩
        replace hK := CK_u hK (k := 58) (r := 0) (i := (2 * (5 * a + b)) + 0) (d := false) (nI (1)) (Or.inl rfl) (by omega)
        refine ⟨_, _, cv_bl0 hK.1.1 ha hb, nI (a), (congrArg nI hst.1), ?_⟩
        refine br_ne rfl rfl (by omega) (by omega) (fun h59 => ?_) (fun h59 => ?_)
        · exact absurd h59 (by omega)
        · refine br_ne rfl rfl (by omega) (by omega) (fun h63 => ?_) (fun h63 => ?_)
          · exact absurd h63 (by omega)
          · refine ⟨nI (0 + 1), (add_n rfl rfl), ?_⟩
            refine br_ne rfl rfl (by omega) (by omega) (fun h72 => ?_) (fun h72 => ?_)
            · refine br_ne rfl rfl (by omega) (by omega) (fun h78 => ?_) (fun h78 => ?_)
              · exact absurd h78 (by omega)
              · refine ⟨_, rfl, nI (1 - 0), (sub_n rfl rfl (by omega)), nI (n + 1), nI_add _ _, ?_⟩
                exact cv_tl1 (n := n) hK ha hb (by omega) hst (by rw [u4n (by omega)]; exact hoth)
            · exact absurd h72 (by omega)
      · exact absurd h58 h41
  · rw [ifC_f hst]
    by_cases k0 : s (25 * 0 + 5 * a + b) = true
    · rw [if_pos k0]
      rw [k0] at h58
      refine G_wp 200 [24] rfl ?_
      refine br_gt rfl (show _ = nI 50 from rfl) (by omega) (by omega) (fun h28 => ?_) (fun h28 => ?_)
      · exact absurd h28 (by omega)
      · refine ⟨_, _, cv_pair, nI ((2 * (5 * a + b)) + 0), (add_n (mul_n rfl (add_n (mul_n rfl rfl) rfl)) rfl), (2 * (5 * a + b)) + 0, rfl, (by show _ < 50; omega), ?_⟩
        refine ⟨fun h41 => ?_, fun h41 => ?_⟩
        · exact absurd (h58.symm.trans h41) (by decide)
        · rw [h58] at h41
          exact ⟨rfl, hK⟩
    · rw [if_neg k0]
      have k2 : s (25 * 0 + 5 * a + b) = false := by
        cases q : s (25 * 0 + 5 * a + b) with
        | false => rfl
        | true => exact absurd q k0
      rw [k2] at h58
      rw [← hs2]
      have ih1 := ih10 k2
      have hns : ∀ k p q, k < 2 → p < 5 → q < 5 → up4 σ 58 false 0 (2 * (5 * a + b) + 0) (nI 1) 58 false 0 (2 * (5 * p + q) + k) = bN (s2 (25 * k + 5 * p + q)) := fun k p q e1 e2 e3 => by
        rw [hs2]
        unfold uS
        by_cases c : 25 * k + 5 * p + q = 25 * 0 + 5 * a + b
        · rw [if_pos c, show 2 * (5 * p + q) + k = 2 * (5 * a + b) + 0 by omega, up4_s]
          rfl
        · rw [if_neg c, u4n (by omega)]
          exact hse k p q e1 e2 e3
      have hnd : ∀ k p q, k < 2 → p < 5 → q < 5 → s2 (25 * k + 5 * p + q) = true → ¬ isS (gns t) p q := fun k p q e1 e2 e3 e4 => by
        rw [hs2] at e4
        unfold uS at e4
        by_cases c : 25 * k + 5 * p + q = 25 * 0 + 5 * a + b
        · rw [show p = a by omega, show q = b by omega]
          exact hst
        · rw [if_neg c] at e4
          exact hno k p q e1 e2 e3 e4
      rw [if_pos rfl, if_pos rfl]
      refine G_wp 200 [24] rfl ?_
      refine br_gt rfl (show _ = nI 50 from rfl) (by omega) (by omega) (fun h28 => ?_) (fun h28 => ?_)
      · exact absurd h28 (by omega)
      · refine ⟨_, _, cv_pair, nI ((2 * (5 * a + b)) + 0), (add_n (mul_n rfl (add_n (mul_n rfl rfl) rfl)) rfl), (2 * (5 * a + b)) + 0, rfl, (by show _ < 50; omega), ?_⟩
        refine ⟨fun h41 => ?_, fun h41 => ?_⟩
        · rw [h58] at h41
          refine ⟨(2 * (5 * a + b)) + 0, rfl, (by show _ < 50; omega), nI 1, rfl, ?_⟩
          replace hK := CK_u hK (k := 58) (r := 0) (i := (2 * (5 * a + b)) + 0) (d := false) (nI (1)) (Or.inl rfl) (by omega)
          refine ⟨_, _, cv_bl0 hK.1.1 ha hb, _, rfl, ?_⟩
          refine br_ne rfl rfl (by omega) (by omega) (fun h59 => ?_) (fun h59 => ?_)
          · exact absurd h59 (by omega)
          · refine br_ne rfl rfl (by omega) (by omega) (fun h63 => ?_) (fun h63 => ?_)
            · refine ⟨_, rfl, ?_⟩
              refine br_ne rfl rfl (by omega) (by omega) (fun h72 => ?_) (fun h72 => ?_)
              · refine br_ne rfl rfl (by omega) (by omega) (fun h78 => ?_) (fun h78 => ?_)
                · exact absurd h78 (by omega)
                · refine ⟨_, rfl, nI (1 - 0), (sub_n rfl rfl (by omega)), nI (n + 1), nI_add _ _, ?_⟩
                  exact ih1 (ans (gns t) 0 a b) b 0 _ _ _ (ans_lt ha hb) (hb) hK (hns) (hnd) (by omega) (fun q => absurd q (by omega))
              · exact absurd h72 (by omega)
            · refine ⟨nI (sy + 1), (add_n rfl rfl), ?_⟩
              refine br_ne rfl rfl (by omega) (by omega) (fun h72 => ?_) (fun h72 => ?_)
              · refine br_ne rfl rfl (by omega) (by omega) (fun h78 => ?_) (fun h78 => ?_)
                · exact absurd h78 (by omega)
                · refine ⟨_, rfl, nI (1 - 0), (sub_n rfl rfl (by omega)), nI (n + 1), nI_add _ _, ?_⟩
                  have hst2 : ans (gns t) 0 a b = a := by omega
                  rw [hst2]
                  have hsy0 : sy = 0 := by
                    by_cases q : sy = 0
                    · exact q
                    · exact absurd ⟨hst2, (hsy1 (by omega)).2⟩ hst
                  subst hsy0
                  exact ih1 a b 1 _ _ _ ha hb hK (hns) (hnd) (by omega) (fun _ => ⟨by rw [hs2]; unfold uS; rw [if_pos (by omega)], hst2⟩)
              · exact absurd ⟨by omega, (hsy1 (by omega)).2⟩ hst
        · exact absurd h58 h41
theorem cv_tn1 {t : Sg} {D : Dy} {Z : Zt} {x y : Int32} {m n a b sy : Nat} {s s2 : Nat → Bool} {σ : Sg} {o8 o9 : Option AV} (hs2 : s2 = uS s (25 * 1 + 5 * a + b)) (ih00 : s (25 * 1 + 5 * a + b) = false → ∀ (a b sy : Nat) (σ : Sg) (o8 o9 : Option AV), a < 5 → b < 5 → CK t D Z σ → (∀ k p q, k < 2 → p < 5 → q < 5 → σ 58 false 0 (2 * (5 * p + q) + k) = bN (s2 (25 * k + 5 * p + q))) → (∀ k p q, k < 2 → p < 5 → q < 5 → s2 (25 * k + 5 * p + q) = true → ¬ isS (gns t) p q) → sy ≤ 1 → (sy = 1 → s2 (25 * 1 + 5 * a + b) = true ∧ ans (gns t) 1 a b = b) → G false 180 (fun r' s' => r' = some (.inl (anW (gns t) m s2 a b (n + 1))) ∧ CK t D Z s') 24 [some (.inr (.inr (56, false, 0))), some (.inl x), some (.inl y), some (.inl (nI a)), some (.inl (nI b)), some (.inl (nI 0)), some (.inl (nI sy)), some (.inl (nI (n + 1))), o8, o9] [] σ) (hnm : n + (m + 1) = 51) (hn2 : n % 2 = 1) (hct : ct (fun j => !(s j)) 50 < m + 1) (ha : a < 5) (hb : b < 5) (hK : CK t D Z σ) (hse : (∀ k p q, k < 2 → p < 5 → q < 5 → σ 58 false 0 (2 * (5 * p + q) + k) = bN (s (25 * k + 5 * p + q)))) (hno : (∀ k p q, k < 2 → p < 5 → q < 5 → s (25 * k + 5 * p + q) = true → ¬ isS (gns t) p q)) (hsy : sy ≤ 1) (hsy1 : (sy = 1 → s (25 * 0 + 5 * a + b) = true ∧ ans (gns t) 0 a b = a)) : G false 180 (fun r' s' => r' = some (.inl (anW (gns t) (m + 1) s a b n)) ∧ CK t D Z s') 24 [some (.inr (.inr (56, false, 0))), some (.inl x), some (.inl y), some (.inl (nI a)), some (.inl (nI b)), some (.inl (nI 1)), some (.inl (nI sy)), some (.inl (nI n)), o8, o9] [] σ := by
  have l0 := ans_lt (g := gns t) (who := 0) ha hb
  have l1 := ans_lt (g := gns t) (who := 1) ha hb
  have h58 := hse 1 a b (by omega) ha hb
  have hoth := hse 0 a b (by omega) ha hb
  rw [anW_S, hn2]
  by_cases hst : isS (gns t) a b
  · rw [ifC_t hst]
    have k0 : s (25 * 1 + 5 * a + b) = false := by
      cases q : s (25 * 1 + 5 * a + b) with
      | false => rfl
      | true => exact absurd hst (hno 1 a b (by omega) ha hb q)
    have k1 : s (25 * 0 + 5 * a + b) = false := by
      cases q : s (25 * 0 + 5 * a + b) with
      | false => rfl
      | true => exact absurd hst (hno 0 a b (by omega) ha hb q)
    rw [k0] at h58
    rw [k1] at hoth
    have h48 : n ≤ 48 := by
      have e1 := ct_uS (s := s) (k := 25 * 1 + 5 * a + b) (by omega) k0
      have e2 := ct_uS (s := uS s (25 * 1 + 5 * a + b)) (k := 25 * 0 + 5 * a + b) (by omega) (by unfold uS; rw [if_neg (by omega)]; exact k1)
      omega
    have hsy0 : sy = 0 := by
      by_cases q : sy = 0
      · exact q
      · exact absurd (hsy1 (by omega)).1 (by rw [k1]; decide)
    subst hsy0
    refine G_wp 200 [24] rfl ?_
    refine br_gt rfl (show _ = nI 50 from rfl) (by omega) (by omega) (fun h28 => ?_) (fun h28 => ?_)
    · exact absurd h28 (by omega)
    · refine ⟨_, _, cv_pair, nI ((2 * (5 * a + b)) + 1), (add_n (mul_n rfl (add_n (mul_n rfl rfl) rfl)) rfl), (2 * (5 * a + b)) + 1, rfl, (by show _ < 50; omega), ?_⟩
      refine ⟨fun h41 => ?_, fun h41 => ?_⟩
      · rw [h58] at h41
        refine ⟨(2 * (5 * a + b)) + 1, rfl, (by show _ < 50; omega), nI 1, rfl, ?_⟩
        replace hK := CK_u hK (k := 58) (r := 0) (i := (2 * (5 * a + b)) + 1) (d := false) (nI (1)) (Or.inl rfl) (by omega)
        refine ⟨_, _, cv_bl1 hK.1.1 ha hb, nI (b), (congrArg nI hst.2), ?_⟩
        refine br_ne rfl rfl (by omega) (by omega) (fun h59 => ?_) (fun h59 => ?_)
        · refine br_ne rfl rfl (by omega) (by omega) (fun h63 => ?_) (fun h63 => ?_)
          · exact absurd h63 (by omega)
          · refine ⟨nI (0 + 1), (add_n rfl rfl), ?_⟩
            refine br_ne rfl rfl (by omega) (by omega) (fun h72 => ?_) (fun h72 => ?_)
            · refine br_ne rfl rfl (by omega) (by omega) (fun h78 => ?_) (fun h78 => ?_)
              · refine ⟨_, rfl, nI (1 - 1), (sub_n rfl rfl (by omega)), nI (n + 1), nI_add _ _, ?_⟩
                exact cv_tl0 (n := n) hK ha hb (by omega) hst (by rw [u4n (by omega)]; exact hoth)
              · exact absurd h78 (by omega)
            · exact absurd h72 (by omega)
        · exact absurd h59 (by omega)
      · exact absurd h58 h41
  · rw [ifC_f hst]
    by_cases k0 : s (25 * 1 + 5 * a + b) = true
    · rw [if_pos k0]
      rw [k0] at h58
      refine G_wp 200 [24] rfl ?_
      refine br_gt rfl (show _ = nI 50 from rfl) (by omega) (by omega) (fun h28 => ?_) (fun h28 => ?_)
      · exact absurd h28 (by omega)
      · refine ⟨_, _, cv_pair, nI ((2 * (5 * a + b)) + 1), (add_n (mul_n rfl (add_n (mul_n rfl rfl) rfl)) rfl), (2 * (5 * a + b)) + 1, rfl, (by show _ < 50; omega), ?_⟩
        refine ⟨fun h41 => ?_, fun h41 => ?_⟩
        · exact absurd (h58.symm.trans h41) (by decide)
        · rw [h58] at h41
          exact ⟨rfl, hK⟩
    · rw [if_neg k0]
      have k2 : s (25 * 1 + 5 * a + b) = false := by
        cases q : s (25 * 1 + 5 * a + b) with
        | false => rfl
        | true => exact absurd q k0
      rw [k2] at h58
      rw [← hs2]
      have ih0 := ih00 k2
      have hns : ∀ k p q, k < 2 → p < 5 → q < 5 → up4 σ 58 false 0 (2 * (5 * a + b) + 1) (nI 1) 58 false 0 (2 * (5 * p + q) + k) = bN (s2 (25 * k + 5 * p + q)) := fun k p q e1 e2 e3 => by
        rw [hs2]
        unfold uS
        by_cases c : 25 * k + 5 * p + q = 25 * 1 + 5 * a + b
        · rw [if_pos c, show 2 * (5 * p + q) + k = 2 * (5 * a + b) + 1 by omega, up4_s]
          rfl
        · rw [if_neg c, u4n (by omega)]
          exact hse k p q e1 e2 e3
      have hnd : ∀ k p q, k < 2 → p < 5 → q < 5 → s2 (25 * k + 5 * p + q) = true → ¬ isS (gns t) p q := fun k p q e1 e2 e3 e4 => by
        rw [hs2] at e4
        unfold uS at e4
        by_cases c : 25 * k + 5 * p + q = 25 * 1 + 5 * a + b
        · rw [show p = a by omega, show q = b by omega]
          exact hst
        · rw [if_neg c] at e4
          exact hno k p q e1 e2 e3 e4
      rw [if_neg (by decide), if_neg (by decide)]
      refine G_wp 200 [24] rfl ?_
      refine br_gt rfl (show _ = nI 50 from rfl) (by omega) (by omega) (fun h28 => ?_) (fun h28 => ?_)
      · exact absurd h28 (by omega)
      · refine ⟨_, _, cv_pair, nI ((2 * (5 * a + b)) + 1), (add_n (mul_n rfl (add_n (mul_n rfl rfl) rfl)) rfl), (2 * (5 * a + b)) + 1, rfl, (by show _ < 50; omega), ?_⟩
        refine ⟨fun h41 => ?_, fun h41 => ?_⟩
        · rw [h58] at h41
          refine ⟨(2 * (5 * a + b)) + 1, rfl, (by show _ < 50; omega), nI 1, rfl, ?_⟩
          replace hK := CK_u hK (k := 58) (r := 0) (i := (2 * (5 * a + b)) + 1) (d := false) (nI (1)) (Or.inl rfl) (by omega)
          refine ⟨_, _, cv_bl1 hK.1.1 ha hb, _, rfl, ?_⟩
          refine br_ne rfl rfl (by omega) (by omega) (fun h59 => ?_) (fun h59 => ?_)
          · refine br_ne rfl rfl (by omega) (by omega) (fun h63 => ?_) (fun h63 => ?_)
            · refine ⟨_, rfl, ?_⟩
              refine br_ne rfl rfl (by omega) (by omega) (fun h72 => ?_) (fun h72 => ?_)
              · refine br_ne rfl rfl (by omega) (by omega) (fun h78 => ?_) (fun h78 => ?_)
                · refine ⟨_, rfl, nI (1 - 1), (sub_n rfl rfl (by omega)), nI (n + 1), nI_add _ _, ?_⟩
                  exact ih0 a (ans (gns t) 1 a b) 0 _ _ _ (ha) (ans_lt ha hb) hK (hns) (hnd) (by omega) (fun q => absurd q (by omega))
                · exact absurd h78 (by omega)
              · exact absurd h72 (by omega)
            · refine ⟨nI (sy + 1), (add_n rfl rfl), ?_⟩
              refine br_ne rfl rfl (by omega) (by omega) (fun h72 => ?_) (fun h72 => ?_)
              · refine br_ne rfl rfl (by omega) (by omega) (fun h78 => ?_) (fun h78 => ?_)
                · refine ⟨_, rfl, nI (1 - 1), (sub_n rfl rfl (by omega)), nI (n + 1), nI_add _ _, ?_⟩
                  have hst2 : ans (gns t) 1 a b = b := by omega
                  rw [hst2]
                  have hsy0 : sy = 0 := by
                    by_cases q : sy = 0
                    · exact q
                    · exact absurd ⟨(hsy1 (by omega)).2, hst2⟩ hst
                  subst hsy0
                  exact ih0 a b 1 _ _ _ ha hb hK (hns) (hnd) (by omega) (fun _ => ⟨by rw [hs2]; unfold uS; rw [if_pos (by omega)], hst2⟩)
                · exact absurd h78 (by omega)
              · exact absurd ⟨(hsy1 (by omega)).2, by omega⟩ hst
          · exact absurd h59 (by omega)
        · exact absurd h58 h41
theorem cv_tn {t : Sg} {D : Dy} {Z : Zt} {x y : Int32} : ∀ (m n : Nat) (s : Nat → Bool), n + m = 51 → ct (fun j => !(s j)) 50 < m → (n % 2 = 0 → ∀ (a b sy : Nat) (σ : Sg) (o8 o9 : Option AV), a < 5 → b < 5 → CK t D Z σ → (∀ k p q, k < 2 → p < 5 → q < 5 → σ 58 false 0 (2 * (5 * p + q) + k) = bN (s (25 * k + 5 * p + q))) → (∀ k p q, k < 2 → p < 5 → q < 5 → s (25 * k + 5 * p + q) = true → ¬ isS (gns t) p q) → sy ≤ 1 → (sy = 1 → s (25 * 1 + 5 * a + b) = true ∧ ans (gns t) 1 a b = b) → G false 180 (fun r' s' => r' = some (.inl (anW (gns t) m s a b n)) ∧ CK t D Z s') 24 [some (.inr (.inr (56, false, 0))), some (.inl x), some (.inl y), some (.inl (nI a)), some (.inl (nI b)), some (.inl (nI 0)), some (.inl (nI sy)), some (.inl (nI n)), o8, o9] [] σ) ∧ (n % 2 = 1 → ∀ (a b sy : Nat) (σ : Sg) (o8 o9 : Option AV), a < 5 → b < 5 → CK t D Z σ → (∀ k p q, k < 2 → p < 5 → q < 5 → σ 58 false 0 (2 * (5 * p + q) + k) = bN (s (25 * k + 5 * p + q))) → (∀ k p q, k < 2 → p < 5 → q < 5 → s (25 * k + 5 * p + q) = true → ¬ isS (gns t) p q) → sy ≤ 1 → (sy = 1 → s (25 * 0 + 5 * a + b) = true ∧ ans (gns t) 0 a b = a) → G false 180 (fun r' s' => r' = some (.inl (anW (gns t) m s a b n)) ∧ CK t D Z s') 24 [some (.inr (.inr (56, false, 0))), some (.inl x), some (.inl y), some (.inl (nI a)), some (.inl (nI b)), some (.inl (nI 1)), some (.inl (nI sy)), some (.inl (nI n)), o8, o9] [] σ) := by
  intro m
  induction m with
  | zero =>
    intro n s _ h
    exact absurd h (Nat.not_lt_zero _)
  | succ m ih =>
    intro n s hnm hct
    have step : ∀ k, k < 50 → s k = false → ct (fun j => !(uS s k j)) 50 < m := fun k hk h0 => by
      have := ct_uS hk h0
      omega
    refine ⟨fun h2 a b sy σ o8 o9 ha hb hK hse hno hsy hsy1 => ?_, fun h2 a b sy σ o8 o9 ha hb hK hse hno hsy hsy1 => ?_⟩
    · exact cv_tn0 (s2 := uS s (25 * 0 + 5 * a + b)) rfl (fun k0 => (ih (n + 1) (uS s (25 * 0 + 5 * a + b)) (by omega) (step _ (by omega) k0)).2 (by omega)) hnm h2 hct ha hb hK hse hno hsy hsy1
    · exact cv_tn1 (s2 := uS s (25 * 1 + 5 * a + b)) rfl (fun k0 => (ih (n + 1) (uS s (25 * 1 + 5 * a + b)) (by omega) (step _ (by omega) k0)).1 (by omega)) hnm h2 hct ha hb hK hse hno hsy hsy1
theorem cv_turns {t : Sg} {D : Dy} {Z : Zt} {σ : Sg} (hK : CK t D Z σ) {x y : Int32} {a b : Nat} (hx : x = nI a) (hy : y = nI b) (ha : a < 5) (hb : b < 5) : ∃ σ', Ev false 180 [.inr (.inr (56, false, 0)), .inl x, .inl y] σ (some (.inl (anW (gns t) 51 (fun _ => false) a b 0))) σ' ∧ CK t D Z σ' := by
  refine EvQ_wp 60 [10] rfl rfl ?_
  refine ⟨nI (a), hx, nI (b), hy, _, rfl, _, rfl, _, rfl, ?_⟩
  refine cv_tz_l (fun σ2 hK2 hz => ?_) 50 0 σ (by omega) hK (fun i hi => absurd hi (Nat.not_lt_zero _))
  exact (cv_tn 51 0 (fun _ => false) (by omega) (Nat.lt_succ_of_le (ct_le _ _))).1 (by omega) a b 0 σ2 none none ha hb hK2 (fun k p q e1 e2 e3 => hz _ (by omega)) (fun k p q _ _ _ h => absurd h (by decide)) (by omega) (fun h => absurd h (by decide))
theorem cv_answers {t : Sg} {D : Dy} {Z : Zt} {σ : Sg} (hK : CK t D Z σ) (hT : WN t) {x y : Int32} : ∃ σ', Ev false 209 [.inr (.inr (0, false, 0)), .inl (x), .inl (y)] σ (some (.inl (anwR t x y))) σ' ∧ CK t D Z σ' := by
  have hC := hK.1.1
  have hP := hT.P
  have hB := hT.B
  have hR := hT.R
  refine EvQ_wp 37 [] rfl rfl ?_
  refine ⟨_, _, cv_isLevel, ?_⟩
  refine brd_eq (fun h2 => ?_) (fun h2 => ?_)
  · exact ⟨by unfold anwR; rw [ifC_f (fun q => h2 q.1)], hK⟩
  · refine ⟨_, _, cv_isLevel, ?_⟩
    refine brd_eq (fun h5 => ?_) (fun h5 => ?_)
    · exact ⟨by unfold anwR; rw [ifC_f (fun q => h5 q.2)], hK⟩
    · have hx := inI_n (by omega) (by omega) h2
      have hy := inI_n (by omega) (by omega) h5
      obtain ⟨σ1, ev1, hK1⟩ := cv_turns hK hx.1 hy.1 (by omega) (by omega)
      refine ⟨_, _, ev1, ?_⟩
      exact ⟨by unfold anwR; rw [ifC_t ⟨h2, h5⟩], hK1⟩
