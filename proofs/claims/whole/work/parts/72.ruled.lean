/-! A rule is added, or turned off. -/
theorem CK_g {t t' : Sg} {D : Dy} {Z : Zt} {σ σ' : Sg} (h : CK t D Z σ) (hT : TR σ' t') (hs : SC t' t) (hw : ∀ k r i, 26 ≤ k → k ≤ 47 → σ' k false r i = σ k false r i) (hO : OF σ' t' (-1)) (hH : TH σ' t') (h37 : σ' 37 true 0 0 = σ 37 true 0 0) : CK t' D Z σ' := by
  obtain ⟨⟨⟨_, hF, hD⟩, hM, hOI, hOF, hZ⟩, _, hz⟩ := h
  exact ⟨⟨⟨hT, Fr_rf _ _, RD_t hD hs hw⟩, MI_t hM hs, OI_t hOI hs, by rw [hz.1]; exact hO, hZ⟩, hH, hz.1, h37.trans hz.2⟩
theorem u4n {σ : Sg} {k r i k2 r2 i2 : Nat} {d d2 : Bool} {v : Int32} (h : ¬ (k2 = k ∧ d2 = d ∧ r2 = r ∧ i2 = i)) : up4 σ k d r i v k2 d2 r2 i2 = σ k2 d2 r2 i2 := if_neg h
theorem mp14 {r i : Nat} (hr : r < 10) (hi : i < 40) : mp 14 (r + 1) i = some (85, 40 * r + i) := if_pos ⟨by omega, by omega, hi⟩
theorem mp15 {i : Nat} (hi : i < 10) : mp 15 0 i = some (84, i) := if_pos ⟨rfl, hi⟩
theorem au_then {f : Nat → Nat} : ∀ (i : Nat) (q : Nat × Nat × Nat), (∀ j, j < i → ¬ f j = 20) → au f i = some q → q.1 = 0 ∨ q.1 = 1 ∨ q.1 = 2 ∨ q.1 = 4 ∨ q.1 = 5 ∨ q.1 = 7
  | 0, q, _, h => by cases h; exact Or.inl rfl
  | i + 1, q, hn, h => by
    rw [au_S] at h
    cases ha : au f i with
    | none => rw [ha] at h; cases h
    | some q1 =>
      rw [ha] at h
      have h1 := au_then i q1 (fun j hj => hn j (by omega)) ha
      have h2 := hn i (by omega)
      obtain ⟨st, op, dg⟩ := q1
      change (nxs st op dg (f i)).map _ = some q at h
      change st = 0 ∨ st = 1 ∨ st = 2 ∨ st = 4 ∨ st = 5 ∨ st = 7 at h1
      cases hx : nxs st op dg (f i) with
      | none => rw [hx] at h; cases h
      | some r =>
        rw [hx] at h
        cases h
        show r.1 = 0 ∨ r.1 = 1 ∨ r.1 = 2 ∨ r.1 = 4 ∨ r.1 = 5 ∨ r.1 = 7
        unfold nxs beh at hx
        repeat' split at hx
        all_goals first | (cases hx; done) | (exfalso; omega) | (cases hx; dsimp only; omega)
theorem ok_then {f : Nat → Nat} {n : Nat} {q : Nat × Nat × Nat} (h : au f n = some q) (hq : q.1 = 6 ∨ q.1 = 10) : ¬ ∀ j, j < n → ¬ f j = 20 := fun hn => by
  have := au_then n q hn h
  omega
theorem tx_ok {t : Sg} (hX2 : TX t) (h : fltR t = -1) : okT (tx t) (nSaid t) := by
  refine ⟨hX2.1.2, fun i hi => by unfold tx; rw [if_neg (by omega)], ?_⟩
  exact flR_ok hX2.1.2 (nSaid t) 0 (0, 0, 0) (by omega) rfl h
theorem rulN_sy {t : Sg} {k : Nat} (hk : k < nRu t) (hX : XT t) : sy (rulN t) k = sy t k ∧ rulN t 84 false 0 k = t 84 false 0 k ∧ rulN t 86 false 0 k = t 86 false 0 k := by
  have e84 : rulN t 84 false 0 k = t 84 false 0 k := by
    unfold rulN
    rw [u4n (by omega), u4n (by omega), u4n (by omega), rulC_o (by decide)]
  have h2 := (hX.2 k (by have := hX.1.2; unfold nRu at hk; omega)).1.2
  refine ⟨?_, e84, ?_⟩
  · funext i
    unfold sy
    rw [e84]
    by_cases h : i < nN (t 84 false 0 k)
    · rw [if_pos h, if_pos h]
      unfold rulN
      rw [u4n (by omega), u4n (by omega), u4n (by omega)]
      unfold rulC
      rw [if_neg (by omega)]
    · rw [if_neg h, if_neg h]
  · unfold rulN
    rw [u4n (by omega), u4n (by omega), u4n (by omega), rulC_o (by decide)]
theorem rulN_new {t : Sg} (hX : XT t) (hX2 : TX t) : sy (rulN t) (nRu t) = tx t ∧ rulN t 84 false 0 (nRu t) = nI (nSaid t) ∧ rulN t 86 false 0 (nRu t) = nI 0 ∧ nRu (rulN t) = nRu t + 1 := by
  have h40 : nSaid t ≤ 40 := hX2.1.2
  have e84 : rulN t 84 false 0 (nRu t) = nI (nSaid t) := by
    unfold rulN
    rw [u4n (by omega), u4n (by omega), up4_s]
  refine ⟨?_, e84, ?_, ?_⟩
  · funext i
    unfold sy tx
    rw [e84, nN_nI (by omega)]
    by_cases h : i < nSaid t
    · rw [if_pos h, if_pos h]
      unfold rulN
      rw [u4n (by omega), u4n (by omega), u4n (by omega)]
      unfold rulC
      rw [if_pos ⟨rfl, rfl, rfl, by omega, by omega⟩, Nat.add_sub_cancel_left]
    · rw [if_neg h, if_neg h]
  · unfold rulN
    rw [u4n (by omega), up4_s]
  · show nN (rulN t 69 false 0 22) = _
    unfold rulN
    rw [up4_s]
    exact nN_nI (by have := hX.1.2; unfold nRu; omega)
theorem cv_in3 {σ : Sg} {v a b b' : Int32} (h : b = b') : Ev false 39 [.inl v, .inl a, .inl b] σ (some (.inl (bD (inI a v b')))) σ := by
  subst h
  exact cv_in
def B86 (t : Sg) : Prop := ∀ k, k < nRu t → t 86 false 0 k = nI 0 ∨ t 86 false 0 k = nI 1
theorem OF_eq {s t : Sg} (h : OF s t (-1)) (hB : B86 t) {k : Nat} (hk : k < nRu t) (h10 : k < 10) : s 17 false 0 k = t 86 false 0 k := by
  have h1 := h k hk
  rw [if_neg (nI_m1 (by omega))] at h1
  rcases h1.2 with e | e
  · rw [e, h1.1.mp e]
  · rcases hB k hk with q | q
    · exact absurd ((h1.1.mpr q).symm.trans e) (by decide)
    · rw [e, q]
theorem CK_off {t : Sg} {D : Dy} {Z : Zt} {σ : Sg} (h : CK t D Z σ) {k : Nat} {v : Int32} (hv : v = nI 0 ∨ v = nI 1) (h10 : k < 10) : CK (up4 t 86 false 0 k v) D Z (up4 σ 17 false 0 k v) := by
  refine CK_g h (TR_t (TR_s h.1.1.1 (Or.inl rfl)) (fun k2 j q => if_neg (fun z => q.2.2.1 z.1))) ⟨⟨rfl, rfl, rfl⟩, fun _ => rfl⟩ (fun k2 r i q1 q2 => if_neg (fun z => by omega)) (fun n hn => ?_) (fun n hn => h.2.1 n hn) (u4n (by omega))
  have h1 := h.1.2.2.2.1 n hn
  rw [h.2.2.1] at h1
  by_cases e : n = k
  · subst e
    rw [up4_s, up4_s, if_neg (nI_m1 (by omega))]
    exact ⟨Iff.rfl, hv⟩
  · rw [show up4 σ 17 false 0 k v 17 false 0 n = σ 17 false 0 n from if_neg (fun z => e z.2.2.2), show up4 t 86 false 0 k v 86 false 0 n = t 86 false 0 n from if_neg (fun z => e z.2.2.2)]
    exact h1
theorem cv_off {t : Sg} {D : Dy} {Z : Zt} {σ : Sg} (hK : CK t D Z σ) (hT : WN t) (hX : XT t) (hB8 : B86 t) {x v : Int32} (hv : v = nI 0 ∨ v = nI 1) : ∃ σ', Ev false 96 [.inr (.inr (0, false, 0)), .inl (x), .inl (v)] σ (some (.inl (offR t x v))) σ' ∧ CK (offT t x v) D Z σ' := by
  have hC := hK.1.1
  have hP := hT.P
  have hB := hT.B
  have hR := hT.R
  have hN : nRu t ≤ 10 := hX.1.2
  refine EvQ_wp 48 [] rfl rfl ?_
  refine ⟨_, _, cv_in3 (congrArg (fun z => z - nI 1) hC.c12_2), ?_⟩
  refine brd_ne (fun h8 => ?_) (fun h8 => ?_)
  · have hk := off_k hX h8
    have hO := OF_eq (by have q := hK.1.2.2.2.1; rw [hK.2.2.1] at q; exact q) hB8 hk.2 (by omega)
    refine ⟨nN x, hk.1, (by show _ < 10; omega), ?_⟩
    refine ⟨fun h17 => ?_, fun h17 => ?_⟩
    · rw [hO] at h17
      refine ⟨nN x, hk.1, (by show _ < 10; omega), v, (vp_01 hv), ?_⟩
      replace hK := CK_off hK (k := nN x) (v := v) hv (by omega)
      exact ⟨by unfold offR; rw [ifC_t h8, ifC_f h17], by unfold offT; rw [ifC_t h8, ifC_f h17]; exact hK⟩
    · rw [hO] at h17
      exact ⟨by unfold offR; rw [ifC_t h8, ifC_t h17], by unfold offT; rw [ifC_t h8, ifC_t h17]; exact hK⟩
  · exact ⟨by unfold offR; rw [ifC_f h8], by unfold offT; rw [ifC_f h8]; exact hK⟩
theorem adt_no {t : Sg} {σ σ1 : Sg} {X : Sg → Prop} {j s : Nat} (ih : ∀ (σ1 : Sg), TR σ1 (rulC t (j + 1)) → (∀ k d r i, ¬ (k = 14 ∧ d = false ∧ r = nRu t + 1) → ¬ (k = 16 ∧ d = false ∧ r = 0 ∧ i = nRu t) → σ1 k d r i = σ k d r i) → ((∀ i, i < j + 1 → ¬ tx t i = 20) ∨ ∃ e, e < j + 1 ∧ tx t e = 20 ∧ σ1 16 false 0 (nRu t) = nI e) → X σ1) (hTR : TR σ1 (rulC t j)) (hFr : ∀ k d r i, ¬ (k = 14 ∧ d = false ∧ r = nRu t + 1) → ¬ (k = 16 ∧ d = false ∧ r = 0 ∧ i = nRu t) → σ1 k d r i = σ k d r i) (hTh : (∀ i, i < j → ¬ tx t i = 20) ∨ ∃ e, e < j ∧ tx t e = 20 ∧ σ1 16 false 0 (nRu t) = nI e) (h10 : nRu t < 10) (e13 : σ1 13 false 0 j = nI s) (e83 : t 83 false 0 j = nI s) (ht : tx t j = s) (hs : ¬ s = 20) (h40 : j < 40) : X (up4 σ1 14 false (nRu t + 1) j (nI s)) := by
  refine ih _ ?_ (fun k d r i q1 q2 => (if_neg (fun z => q1 ⟨z.1, z.2.1, z.2.2.1⟩)).trans (hFr k d r i q1 q2)) ?_
  · rw [rulC_S, e83]
    exact TR_w hTR (mp14 h10 h40) _
  · rcases hTh with h | ⟨e, h1, h2, h3⟩
    · refine Or.inl (fun i hi => ?_)
      by_cases q : i = j
      · subst q; rw [ht]; exact hs
      · exact h i (by omega)
    · exact Or.inr ⟨e, by omega, h2, h3⟩
theorem adt_th {t : Sg} {σ σ1 : Sg} {X : Sg → Prop} {j s : Nat} (ih : ∀ (σ1 : Sg), TR σ1 (rulC t (j + 1)) → (∀ k d r i, ¬ (k = 14 ∧ d = false ∧ r = nRu t + 1) → ¬ (k = 16 ∧ d = false ∧ r = 0 ∧ i = nRu t) → σ1 k d r i = σ k d r i) → ((∀ i, i < j + 1 → ¬ tx t i = 20) ∨ ∃ e, e < j + 1 ∧ tx t e = 20 ∧ σ1 16 false 0 (nRu t) = nI e) → X σ1) (hTR : TR σ1 (rulC t j)) (hFr : ∀ k d r i, ¬ (k = 14 ∧ d = false ∧ r = nRu t + 1) → ¬ (k = 16 ∧ d = false ∧ r = 0 ∧ i = nRu t) → σ1 k d r i = σ k d r i) (hTh : (∀ i, i < j → ¬ tx t i = 20) ∨ ∃ e, e < j ∧ tx t e = 20 ∧ σ1 16 false 0 (nRu t) = nI e) (h10 : nRu t < 10) (e83 : t 83 false 0 j = nI s) (ht : tx t j = s) (hs : s = 20) (h40 : j < 40) : X (up4 (up4 σ1 14 false (nRu t + 1) j (nI s)) 16 false 0 (nRu t) (nI j)) := by
  refine ih _ ?_ (fun k d r i q1 q2 => (if_neg (fun z => q2 ⟨z.1, z.2.1, z.2.2.1, z.2.2.2⟩)).trans ((if_neg (fun z => q1 ⟨z.1, z.2.1, z.2.2.1⟩)).trans (hFr k d r i q1 q2))) ?_
  · refine TR_s ?_ (Or.inl rfl)
    rw [rulC_S, e83]
    exact TR_w hTR (mp14 h10 h40) _
  · exact Or.inr ⟨j, by omega, ht.trans hs, up4_s _ _ _ _ _ _⟩
theorem adt_end {t : Sg} {D : Dy} {Z : Zt} {σ σ1 : Sg} (hK : CK t D Z σ) (hX : XT t) (hX2 : TX t) (hf : fltR t = -1) (h10 : nRu t < 10) (hTR : TR σ1 (rulC t (nSaid t))) (hFr : ∀ k d r i, ¬ (k = 14 ∧ d = false ∧ r = nRu t + 1) → ¬ (k = 16 ∧ d = false ∧ r = 0 ∧ i = nRu t) → σ1 k d r i = σ k d r i) (hTh : (∀ i, i < nSaid t → ¬ tx t i = 20) ∨ ∃ e, e < nSaid t ∧ tx t e = 20 ∧ σ1 16 false 0 (nRu t) = nI e) : CK (rulN t) D Z (up4 (up4 (up4 σ1 15 false 0 (nRu t) (nI (nSaid t))) 17 false 0 (nRu t) (nI 0)) 12 false 0 2 (nI (nRu t + 1))) := by
  obtain ⟨n1, n2, n3, n4⟩ := rulN_new hX hX2
  have hok := tx_ok hX2 hf
  obtain ⟨_, _, q, hq1, hq2⟩ := hok
  have hTh2 : ∃ e, e < nSaid t ∧ tx t e = 20 ∧ σ1 16 false 0 (nRu t) = nI e := by
    rcases hTh with h | h
    · exact absurd h (ok_then hq1 hq2)
    · exact h
  have h17 : ∀ n, ¬ n = nRu t → σ1 17 false 0 n = σ 17 false 0 n := fun n hn => hFr 17 false 0 n (by omega) (by omega)
  have h16 : ∀ n, ¬ n = nRu t → σ1 16 false 0 n = σ 16 false 0 n := fun n hn => hFr 16 false 0 n (by omega) (by omega)
  refine CK_g hK ?_ ⟨⟨?_, ?_, ?_⟩, ?_⟩ (fun k r i q1 q2 => ?_) (fun k hk => ?_) (fun k hk => ?_) ((u4n (by omega)).trans ((u4n (by omega)).trans ((u4n (by omega)).trans (hFr 37 true 0 0 (by omega) (by omega)))))
  · refine TR_w (TR_t (TR_s (TR_w hTR (mp15 h10) _) (Or.inl rfl)) (fun k2 j q => if_neg (fun z => q.2.2.1 z.1))) rfl _
  · unfold rulN
    rw [u4n (by omega), u4n (by omega), u4n (by omega), rulC_o (by decide)]
  · unfold rulN
    rw [u4n (by omega), u4n (by omega), u4n (by omega), rulC_o (by decide)]
  · unfold rulN
    rw [u4n (by omega), u4n (by omega), u4n (by omega), rulC_o (by decide)]
  · intro r
    unfold rulN
    rw [u4n (by omega), u4n (by omega), u4n (by omega), rulC_o (by decide)]
  · rw [show up4 (up4 (up4 σ1 15 false 0 (nRu t) (nI (nSaid t))) 17 false 0 (nRu t) (nI 0)) 12 false 0 2 (nI (nRu t + 1)) k false r i = σ1 k false r i from (if_neg (fun z => by omega)).trans ((if_neg (fun z => by omega)).trans (if_neg (fun z => by omega)))]
    exact hFr k false r i (by omega) (by omega)
  · by_cases e : k = nRu t
    · subst e
      rw [n3, if_neg (nI_m1 (by omega)), show up4 (up4 (up4 σ1 15 false 0 (nRu t) (nI (nSaid t))) 17 false 0 (nRu t) (nI 0)) 12 false 0 2 (nI (nRu t + 1)) 17 false 0 (nRu t) = nI 0 from (if_neg (fun z => absurd z.1 (by decide))).trans (up4_s _ _ _ _ _ _)]
      exact ⟨Iff.rfl, Or.inl rfl⟩
    · have hk2 : k < nRu t := by omega
      have h1 := hK.1.2.2.2.1 k hk2
      rw [hK.2.2.1] at h1
      rw [(rulN_sy hk2 hX).2.2, show up4 (up4 (up4 σ1 15 false 0 (nRu t) (nI (nSaid t))) 17 false 0 (nRu t) (nI 0)) 12 false 0 2 (nI (nRu t + 1)) 17 false 0 k = σ1 17 false 0 k from (if_neg (fun z => absurd z.1 (by decide))).trans ((if_neg (fun z => e z.2.2.2)).trans (if_neg (fun z => absurd z.1 (by decide)))), h17 k e]
      exact h1
  · rw [show up4 (up4 (up4 σ1 15 false 0 (nRu t) (nI (nSaid t))) 17 false 0 (nRu t) (nI 0)) 12 false 0 2 (nI (nRu t + 1)) 16 false 0 k = σ1 16 false 0 k from (if_neg (fun z => absurd z.1 (by decide))).trans ((if_neg (fun z => absurd z.1 (by decide))).trans (if_neg (fun z => absurd z.1 (by decide))))]
    by_cases e : k = nRu t
    · subst e
      obtain ⟨e, q1, q2, q3⟩ := hTh2
      exact ⟨e, by rw [n2, nN_nI (by have := hX2.1.2; unfold nSaid; omega)]; exact q1, by rw [n1]; exact q2, q3⟩
    · have hk2 : k < nRu t := by omega
      obtain ⟨e2, q1, q2, q3⟩ := hK.2.1 k hk2
      obtain ⟨r1, r2, _⟩ := rulN_sy hk2 hX
      exact ⟨e2, by rw [r2]; exact q1, by rw [r1]; exact q2, by rw [h16 k e]; exact q3⟩
theorem cv_add_l {t : Sg} {D : Dy} {Z : Zt} {σ : Sg} (hK : CK t D Z σ) (hX : XT t) (hX2 : TX t) (hf : fltR t = -1) (h10 : nRu t < 10) : ∀ (n j : Nat) (σ1 : Sg), j + n = nSaid t → TR σ1 (rulC t j) → (∀ k d r i, ¬ (k = 14 ∧ d = false ∧ r = nRu t + 1) → ¬ (k = 16 ∧ d = false ∧ r = 0 ∧ i = nRu t) → σ1 k d r i = σ k d r i) → ((∀ i, i < j → ¬ tx t i = 20) ∨ ∃ e, e < j ∧ tx t e = 20 ∧ σ1 16 false 0 (nRu t) = nI e) → G false 19 (fun r' s' => r' = some (.inl (nI (nRu t))) ∧ CK (rulN t) D Z s') 2 [some (.inr (.inr (12, false, 0))), some (.inl (nI j))] [] σ1 := by
  have hC := hK.1.1
  have hN : nSaid t ≤ 40 := hX2.1.2
  intro n
  induction n with
  | zero =>
    intro j σ1 hj hTR hFr hTh
    have hj0 : nSaid t = j := by omega
    have e12 : σ1 12 false 0 2 = nI (nRu t) := (hFr 12 false 0 2 (by omega) (by omega)).trans (hC.c12_2.trans hX.eRu)
    have e11 : σ1 12 false 0 1 = nI (nSaid t) := (hFr 12 false 0 1 (by omega) (by omega)).trans (hC.c12_1.trans hX2.eSa)
    refine G_wp 200 [2] rfl ?_
    refine br_ge rfl e11 (by omega) (by omega) (fun h5 => ?_) (fun h5 => ?_)
    · refine ⟨nRu t, e12, (by show _ < 10; omega), nI (nSaid t), e11, nRu t, e12, (by show _ < 10; omega), nI 0, rfl, nI ((nRu t) + 1), (add_n e12 rfl), ?_⟩
      exact ⟨congrArg (fun z => some (Sum.inl z)) ((sub_n (up4_s _ _ _ _ _ _) rfl (by omega)).trans (by rw [Nat.add_sub_cancel])), adt_end hK hX hX2 hf h10 (by rw [hj0]; exact hTR) hFr (by rw [hj0]; exact hTh)⟩
    · exact absurd h5 (by omega)
  | succ n ih =>
    intro j σ1 hj hTR hFr hTh
    have e12 : σ1 12 false 0 2 = nI (nRu t) := (hFr 12 false 0 2 (by omega) (by omega)).trans (hC.c12_2.trans hX.eRu)
    have e11 : σ1 12 false 0 1 = nI (nSaid t) := (hFr 12 false 0 1 (by omega) (by omega)).trans (hC.c12_1.trans hX2.eSa)
    have hts0 : t 83 false 0 j = nI (tx t j) := by unfold tx; rw [if_pos (by omega)]; exact (hX2.2 j (by omega)).1
    have hs30 : tx t j ≤ 30 := by unfold tx; rw [if_pos (by omega)]; exact (hX2.2 j (by omega)).2
    obtain ⟨s, hts⟩ : ∃ s, tx t j = s := ⟨_, rfl⟩
    rw [hts] at hts0 hs30
    have e83 := hts0
    have e13 : σ1 13 false 0 j = nI s := (hFr 13 false 0 j (by omega) (by omega)).trans ((hC.c13 j (by omega)).trans hts0)
    refine G_wp 200 [2] rfl ?_
    refine br_ge rfl e11 (by omega) (by omega) (fun h5 => ?_) (fun h5 => ?_)
    · exact absurd h5 (by omega)
    · refine ⟨nRu t, e12, (by show _ < 10; omega), j, rfl, (by show _ < 40; omega), (show nRu t < 10 by omega), j, rfl, (by show _ < 40; omega), nI (s), e13, j, rfl, (by show _ < 40; omega), ?_⟩
      refine br_ne e13 rfl (by omega) (by omega) (fun h22 => ?_) (fun h22 => ?_)
      · refine ⟨nI (j + 1), nI_add _ _, ?_⟩
        exact adt_no (X := fun σ2 => G false 19 (fun r' s' => r' = some (.inl (nI (nRu t))) ∧ CK (rulN t) D Z s') 2 [some (.inr (.inr (12, false, 0))), some (.inl (nI (j + 1)))] [] σ2) (fun σ2 a b c => ih (j + 1) σ2 (by omega) a b c) hTR hFr hTh h10 e13 e83 hts (by omega) (by omega)
      · refine ⟨nRu t, e12, (by show _ < 10; omega), _, rfl, nI (j + 1), nI_add _ _, ?_⟩
        exact adt_th (X := fun σ2 => G false 19 (fun r' s' => r' = some (.inl (nI (nRu t))) ∧ CK (rulN t) D Z s') 2 [some (.inr (.inr (12, false, 0))), some (.inl (nI (j + 1)))] [] σ2) (fun σ2 a b c => ih (j + 1) σ2 (by omega) a b c) hTR hFr hTh h10 e83 hts (by omega) (by omega)
theorem cv_addT {t : Sg} {D : Dy} {Z : Zt} {σ : Sg} (hK : CK t D Z σ) (hX : XT t) (hX2 : TX t) (hf : fltR t = -1) (h10 : nRu t < 10) : ∃ σ', Ev false 19 [.inr (.inr (12, false, 0))] σ (some (.inl (nI (nRu t)))) σ' ∧ CK (rulN t) D Z σ' := by
  refine EvQ_wp 30 [2] rfl rfl ?_
  refine ⟨_, rfl, ?_⟩
  exact cv_add_l hK hX hX2 hf h10 (nSaid t) 0 σ (by omega) (by rw [rulC_0]; exact hK.1.1.1) (fun _ _ _ _ _ _ => rfl) (Or.inl (fun i hi => absurd hi (by omega)))
theorem cv_rulep {t : Sg} {D : Dy} {Z : Zt} {σ : Sg} (hK : CK t D Z σ) (hT : WN t) (hX : XT t) (hX2 : TX t) : ∃ σ', Ev false 187 [.inr (.inr (0, false, 0))] σ (some (.inl (rulR t))) σ' ∧ CK (rulT t) D Z σ' := by
  have hC := hK.1.1
  have hP := hT.P
  have hB := hT.B
  have hR := hT.R
  have hN : nRu t ≤ 10 := hX.1.2
  refine EvQ_wp 38 [] rfl rfl ?_
  refine ⟨_, _, cv_fault hC hX2, ?_⟩
  refine ⟨fun h4 => ?_, fun h4 => ?_⟩
  · refine br_lt (hC.c12_2.trans hX.eRu) rfl (by omega) (by omega) (fun h11 => ?_) (fun h11 => ?_)
    · obtain ⟨σ1, ev1, hK⟩ := cv_addT hK hX hX2 h4 (by omega)
      refine ⟨_, _, ev1, ?_⟩
      exact ⟨by unfold rulR; rw [ifC_t h4, ifC_f (by omega)], by unfold rulT; rw [ifC_t h4, ifC_f (by omega)]; exact hK⟩
    · exact ⟨by unfold rulR; rw [ifC_t h4, ifC_t (by omega)], by unfold rulT; rw [ifC_t h4, ifC_t (by omega)]; exact hK⟩
  · exact ⟨by unfold rulR; rw [ifC_f h4], by unfold rulT; rw [ifC_f h4]; exact hK⟩
theorem cv_faultp {t : Sg} {D : Dy} {Z : Zt} {σ : Sg} (hK : CK t D Z σ) (hT : WN t) (hX2 : TX t) : ∃ σ', Ev false 186 [.inr (.inr (0, false, 0))] σ (some (.inl (fltR t))) σ' ∧ CK t D Z σ' := by
  have hC := hK.1.1
  have hP := hT.P
  have hB := hT.B
  have hR := hT.R
  refine EvQ_wp 24 [] rfl rfl ?_
  refine ⟨_, _, cv_fault hC hX2, ?_⟩
  exact ⟨rfl, hK⟩
