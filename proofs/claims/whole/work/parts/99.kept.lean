/-! Every call keeps to it. -/
theorem KV_if {c : Prop} {a b : Sg} {D : Dy} (h1 : c → KV a D) (h2 : ¬ c → KV b D) : KV (ifC c a b) D := by
  by_cases q : c
  · rw [ifC_t q]; exact h1 q
  · rw [ifC_f q]; exact h2 q
theorem KV_if2 {c : Prop} {a b : Sg} {X Y : Dy} (h1 : c → KV a X) (h2 : ¬ c → KV b Y) : KV (ifC c a b) (ifC c X Y) := by
  by_cases q : c
  · rw [ifC_t q, ifC_t q]; exact h1 q
  · rw [ifC_f q, ifC_f q]; exact h2 q
theorem kv_kind {t : Sg} {D : Dy} (h : KV t D) {k l p : Int32} : KV (kindT t k l p) D := KV_if (fun _ => KV_of h (fun k j q => by rw [u4n (by omega), u4n (by omega)])) (fun _ => h)
theorem kv_shop {t : Sg} {D : Dy} (h : KV t D) {m n : Int32} : KV (shopT t m n) D := KV_if (fun _ => KV_of h (fun k j q => by rw [u4n (by omega), u4n (by omega)])) (fun _ => h)
theorem kv_gain {t : Sg} {D : Dy} (h : KV t D) {w a b v : Int32} : KV (gainT t w a b v) D := KV_if (fun _ => KV_of h (fun k j q => by rw [u4n (by omega)])) (fun _ => h)
theorem kv_say0 {t : Sg} {D : Dy} (h : KV t D) {x : Int32} (hx : inI (nI 0) x (nI 30)) (hn : nSaid t < 40) : KV (up4 (up4 t 83 false 0 (nSaid t) x) 69 false 0 20 (nI (nSaid t + 1))) D := by
  obtain ⟨h1, h2, ⟨h3, h4⟩, h5, h6, ⟨h7, h8, h9, h10⟩, h11, h12⟩ := h
  have hq : ∀ k j, ¬ ((k = 83 ∧ j = nSaid t) ∨ (k = 69 ∧ j = 20)) → (up4 (up4 t 83 false 0 (nSaid t) x) 69 false 0 20 (nI (nSaid t + 1))) k false 0 j = t k false 0 j := fun k j q => by
    rw [u4n (by omega), u4n (by omega)]
  have eP : nP (up4 (up4 t 83 false 0 (nSaid t) x) 69 false 0 20 (nI (nSaid t + 1))) = nP t := congrArg nN (hq 69 3 (by omega))
  have eB : nB (up4 (up4 t 83 false 0 (nSaid t) x) 69 false 0 20 (nI (nSaid t + 1))) = nB t := congrArg nN (hq 69 7 (by omega))
  exact ⟨TI_of h1 (fun k j q => hq k j (by omega)), ⟨by rw [up4_s]; exact ⟨by rw [nN_nI (by omega)], by rw [nN_nI (by omega)]; omega⟩, fun i hi => by
    by_cases e : i = nSaid t
    · subst e; rw [u4n (by omega), up4_s]; exact ⟨(inI_n (by omega) (by omega) hx).1, (inI_n (by omega) (by omega) hx).2.2⟩
    · rw [hq 83 i (by omega)]; exact h2.2 i hi⟩, ⟨HM_of h3 (fun k j q => hq k j (by omega)), HR_of h4 (fun k j q => hq k j (by omega))⟩, B86_of h5 (fun k j q => hq k j (by omega)), HA_of h6 (fun k j q => hq k j (by omega)) (by omega) (by omega) (Nat.le_refl _), ⟨ND_of h7 (hq 69 26 (by omega)), SI2_of h8 (fun j q => hq 69 j (by omega)), TE_of h9 (fun k j q => hq k j (by omega)), RW_of h10 (by omega) (fun j => hq 89 j (by omega))⟩, B0_of h11 (fun k j q => hq k j (by omega)), h12⟩
theorem kv_say {t : Sg} {D : Dy} (h : KV t D) {x : Int32} : KV (sayT t x) D := KV_if (fun c => KV_if (fun _ => h) (fun c2 => kv_say0 h c (by
  have := h.2.1.1.2
  unfold nSaid at c2 ⊢
  omega))) (fun _ => h)
theorem kv_hush {t : Sg} {D : Dy} (h : KV t D)  : KV (hushT t) D := by
  obtain ⟨h1, h2, ⟨h3, h4⟩, h5, h6, ⟨h7, h8, h9, h10⟩, h11, h12⟩ := h
  have hq : ∀ k j, ¬ (k = 69 ∧ j = 20) → (hushT t) k false 0 j = t k false 0 j := fun k j q => by
    unfold hushT
    rw [u4n (by omega)]
  have eP : nP (hushT t) = nP t := congrArg nN (hq 69 3 (by omega))
  have eB : nB (hushT t) = nB t := congrArg nN (hq 69 7 (by omega))
  exact ⟨TI_of h1 (fun k j q => hq k j (by omega)), ⟨by unfold hushT; rw [up4_s]; exact ⟨rfl, by decide⟩, fun i hi => by rw [hq 83 i (by omega)]; exact h2.2 i hi⟩, ⟨HM_of h3 (fun k j q => hq k j (by omega)), HR_of h4 (fun k j q => hq k j (by omega))⟩, B86_of h5 (fun k j q => hq k j (by omega)), HA_of h6 (fun k j q => hq k j (by omega)) (by omega) (by omega) (Nat.le_refl _), ⟨ND_of h7 (hq 69 26 (by omega)), SI2_of h8 (fun j q => hq 69 j (by omega)), TE_of h9 (fun k j q => hq k j (by omega)), RW_of h10 (by omega) (fun j => hq 89 j (by omega))⟩, B0_of h11 (fun k j q => hq k j (by omega)), h12⟩
theorem kv_off0 {t : Sg} {D : Dy} (h : KV t D) {n : Nat} {v : Int32} (hv : v = nI 0 ∨ v = nI 1) : KV (up4 t 86 false 0 n v) D := by
  obtain ⟨h1, h2, ⟨h3, h4⟩, h5, h6, ⟨h7, h8, h9, h10⟩, h11, h12⟩ := h
  have hq : ∀ k j, ¬ (k = 86 ∧ j = n) → (up4 t 86 false 0 n v) k false 0 j = t k false 0 j := fun k j q => by
    rw [u4n (by omega)]
  have eP : nP (up4 t 86 false 0 n v) = nP t := congrArg nN (hq 69 3 (by omega))
  have eB : nB (up4 t 86 false 0 n v) = nB t := congrArg nN (hq 69 7 (by omega))
  exact ⟨TI_of h1 (fun k j q => hq k j (by omega)), TX_of h2 (fun k j q => hq k j (by omega)), ⟨HM_of h3 (fun k j q => hq k j (by omega)), HR_of h4 (fun k j q => hq k j (by omega))⟩, fun k hk => by
    by_cases e : k = n
    · subst e; rw [up4_s]; exact hv
    · rw [hq 86 k (by omega)]; exact h5 k (by have eK : nRu (up4 t 86 false 0 n v) = nRu t := congrArg nN (hq 69 22 (by omega)); omega), HA_of h6 (fun k j q => hq k j (by omega)) (by omega) (by omega) (Nat.le_refl _), ⟨ND_of h7 (hq 69 26 (by omega)), SI2_of h8 (fun j q => hq 69 j (by omega)), TE_of h9 (fun k j q => hq k j (by omega)), RW_of h10 (by omega) (fun j => hq 89 j (by omega))⟩, B0_of h11 (fun k j q => hq k j (by omega)), h12⟩
theorem kv_off {t : Sg} {D : Dy} (h : KV t D) {x v : Int32} (hv : v = nI 0 ∨ v = nI 1) : KV (offT t x v) D := KV_if (fun _ => KV_if (fun _ => h) (fun _ => kv_off0 h hv)) (fun _ => h)
theorem rulC_q {t : Sg} {n k j : Nat} (hn : n ≤ 40) (h : ¬ (k = 85 ∧ 40 * nRu t ≤ j ∧ j < 40 * nRu t + 40)) : rulC t n k false 0 j = t k false 0 j := by
  unfold rulC
  rw [if_neg (by omega)]
theorem WN_o3 {t t' : Sg} (h : WN t) (e : ∀ j, j = 3 ∨ j = 7 ∨ j = 9 → t' 69 false 0 j = t 69 false 0 j) : WN t' := by
  unfold WN
  rw [e 3 (by omega), e 7 (by omega), e 9 (by omega)]
  exact h
theorem rul_WT {t t' : Sg} (h : WT t) (hq : ∀ k j, ¬ ((k = 85 ∧ 40 * nRu t ≤ j ∧ j < 40 * nRu t + 40) ∨ ((k = 84 ∨ k = 86) ∧ j = nRu t) ∨ (k = 69 ∧ j = 22)) → t' k false 0 j = t k false 0 j) : WT t' := fun p hp => by
  have eP : nP t' = nP t := congrArg nN (hq 69 3 (by omega))
  rw [hq 72 p (by omega), hq 73 p (by omega)]
  exact h p (by omega)
theorem rul_RT {t t' : Sg} (h : RT t) (hq : ∀ k j, ¬ ((k = 85 ∧ 40 * nRu t ≤ j ∧ j < 40 * nRu t + 40) ∨ ((k = 84 ∨ k = 86) ∧ j = nRu t) ∨ (k = 69 ∧ j = 22)) → t' k false 0 j = t k false 0 j) : RT t' := fun r hr => by
  have eP : nP t' = nP t := congrArg nN (hq 69 3 (by omega))
  have eR : nR t' = nR t := congrArg nN (hq 69 9 (by omega))
  rw [hq 76 r (by omega), hq 77 r (by omega), hq 78 r (by omega), hq 79 r (by omega), eP]
  exact h r (by omega)
theorem rul_XT {t : Sg} (h : XT t) (h2 : TX t) (h10 : nRu t < 10) (hq : ∀ k j, ¬ ((k = 85 ∧ 40 * nRu t ≤ j ∧ j < 40 * nRu t + 40) ∨ ((k = 84 ∨ k = 86) ∧ j = nRu t) ∨ (k = 69 ∧ j = 22)) → rulN t k false 0 j = t k false 0 j) (n2 : rulN t 84 false 0 (nRu t) = nI (nSaid t)) : XT (rulN t) := by
  have hS : nSaid t ≤ 40 := h2.1.2
  refine ⟨?_, fun k hk => ⟨?_, fun i hi => ?_⟩⟩
  · unfold rulN
    rw [up4_s]
    exact Is_of (by omega) (by omega)
  · by_cases e : k = nRu t
    · subst e
      rw [n2]
      exact Is_of hS (by omega)
    · rw [hq 84 k (by omega)]
      exact (h.2 k hk).1
  · by_cases e : k = nRu t
    · subst e
      unfold rulN
      rw [u4n (by omega), u4n (by omega), u4n (by omega)]
      unfold rulC
      by_cases q : i < nSaid t
      · rw [if_pos ⟨rfl, rfl, rfl, by omega, by omega⟩, Nat.add_sub_cancel_left]
        exact h2.2 i (by omega)
      · rw [if_neg (by omega)]
        exact (h.2 _ hk).2 i hi
    · rw [hq 85 _ (by omega)]
      exact (h.2 k hk).2 i hi
theorem kv_rule0 {t : Sg} {D : Dy} (h : KV t D) (hf : fltR t = -1) (hRk : nRu t < 10) : KV (rulN t) D := by
  obtain ⟨h1, h2, ⟨h3, h4⟩, h5, h6, ⟨h7, h8, h9, h10⟩, h11, h12⟩ := h
  have hq : ∀ k j, ¬ ((k = 85 ∧ 40 * nRu t ≤ j ∧ j < 40 * nRu t + 40) ∨ ((k = 84 ∨ k = 86) ∧ j = nRu t) ∨ (k = 69 ∧ j = 22)) → (rulN t) k false 0 j = t k false 0 j := fun k j q => by
    unfold rulN
    rw [u4n (by omega), u4n (by omega), u4n (by omega), rulC_q (show nSaid t ≤ 40 from h2.1.2) (by omega)]
  have eP : nP (rulN t) = nP t := congrArg nN (hq 69 3 (by omega))
  have eB : nB (rulN t) = nB t := congrArg nN (hq 69 7 (by omega))
  obtain ⟨n1, n2, n3, n4⟩ := rulN_new h1.2.2.2.1 h2
  have hXT : XT (rulN t) := rul_XT h1.2.2.2.1 h2 hRk hq n2
  have hRU : RU (rulN t) := fun k hk => by
    by_cases e : k = nRu t
    · subst e
      rw [n1, n2, nN_nI (by have := h2.1.2; unfold nSaid; omega)]
      exact tx_ok h2 hf
    · obtain ⟨r1, r2, _⟩ := rulN_sy (k := k) (by omega) h1.2.2.2.1
      rw [r1, r2]
      exact h1.2.2.2.2 k (by omega)
  have hB86 : B86 (rulN t) := fun k hk => by
    by_cases e : k = nRu t
    · subst e; exact Or.inl n3
    · rw [(rulN_sy (k := k) (by omega) h1.2.2.2.1).2.2]; exact h5 k (by omega)
  exact ⟨⟨WN_o3 h1.1 (fun j q => hq 69 j (by omega)), rul_WT h1.2.1 hq, rul_RT h1.2.2.1 hq, hXT, hRU⟩, TX_of h2 (fun k j q => hq k j (by omega)), ⟨HM_of h3 (fun k j q => hq k j (by omega)), HR_of h4 (fun k j q => hq k j (by omega))⟩, hB86, HA_of h6 (fun k j q => hq k j (by omega)) (by omega) (by omega) (Nat.le_refl _), ⟨ND_of h7 (hq 69 26 (by omega)), SI2_of h8 (fun j q => hq 69 j (by omega)), TE_of h9 (fun k j q => hq k j (by omega)), RW_of h10 (by omega) (fun j => hq 89 j (by omega))⟩, B0_of h11 (fun k j q => hq k j (by omega)), h12⟩
theorem kv_rule {t : Sg} {D : Dy} (h : KV t D) : KV (rulT t) D := KV_if (fun c => KV_if (fun _ => h) (fun c2 => kv_rule0 h c (by
  have := h.1.2.2.2.1.1.2
  unfold nRu at c2 ⊢
  omega))) (fun _ => h)
theorem w12 {w : Nat} (hw : w < 6) : nN (nI w) = w := nN_nI (by omega)
theorem hOk_w {t : Sg} {w a : Nat} {b : Int32} (hT : WN t) (h : hOk t w a b) : w < 6 ∧ a < 1000 := by
  have hP := hT.P
  have hB := hT.B
  unfold hOk at h
  split at h
  all_goals first | exact h.elim | exact ⟨by omega, by omega⟩
theorem hnd_HA {t : Sg} {D : Dy} {w a : Nat} {b : Int32} (hT : WN t) (h : HA t D) (hk : hOk t w a b) (hn : nOk w b) (hn2 : nH t < 200) (h0 : Is (D 0 0) 1440) (eP : nP (hnd t (D 0 0) (nI w) (nI a) b) = nP t) (eB : nB (hnd t (D 0 0) (nI w) (nI a) b) = nB t) (eH : nH (hnd t (D 0 0) (nI w) (nI a) b) = nH t + 1) : HA (hnd t (D 0 0) (nI w) (nI a) b) (dos D w a b) := by
  obtain ⟨⟨h1, h2⟩, h3, h4⟩ := h
  obtain ⟨hw6, ha⟩ := hOk_w hT hk
  have o : ∀ j, j < 4 * nH t → hnd t (D 0 0) (nI w) (nI a) b 82 false 0 j = t 82 false 0 j := fun j hj => by
    unfold hnd
    rw [u4n (by omega), u4n (by omega), u4n (by omega), u4n (by omega), u4n (by omega)]
  have a0 : hnd t (D 0 0) (nI w) (nI a) b 82 false 0 (4 * nH t) = D 0 0 := by unfold hnd; rw [u4n (by omega), u4n (by omega), u4n (by omega), u4n (by omega), up4_s]
  have a1 : hnd t (D 0 0) (nI w) (nI a) b 82 false 0 (4 * nH t + 1) = nI w := by unfold hnd; rw [u4n (by omega), u4n (by omega), u4n (by omega), up4_s]
  have a2 : hnd t (D 0 0) (nI w) (nI a) b 82 false 0 (4 * nH t + 2) = nI a := by unfold hnd; rw [u4n (by omega), u4n (by omega), up4_s]
  have a3 : hnd t (D 0 0) (nI w) (nI a) b 82 false 0 (4 * nH t + 3) = b := by unfold hnd; rw [u4n (by omega), up4_s]
  have w1 : ∀ i, i < nH t → hW (hnd t (D 0 0) (nI w) (nI a) b) i = hW t i := fun i hi => by unfold hW; rw [o _ (by omega)]
  have w2 : ∀ i, i < nH t → hAa (hnd t (D 0 0) (nI w) (nI a) b) i = hAa t i := fun i hi => by unfold hAa; rw [o _ (by omega)]
  have w3 : ∀ i, i < nH t → hBb (hnd t (D 0 0) (nI w) (nI a) b) i = hBb t i := fun i hi => by unfold hBb; rw [o _ (by omega)]
  have d0 : dos D w a b 0 0 = D 0 0 := dos_o ⟨rfl, Or.inl rfl⟩
  refine ⟨⟨?_, fun i hi => ?_⟩, fun i j hij hj => ?_, fun i hi => ?_⟩
  · unfold hnd
    rw [up4_s]
    exact Is_of (by omega) (by omega)
  · by_cases e : i = nH t
    · subst e
      have v1 : hW (hnd t (D 0 0) (nI w) (nI a) b) (nH t) = w := by unfold hW; rw [a1]; exact nN_nI (by omega)
      have v2 : hAa (hnd t (D 0 0) (nI w) (nI a) b) (nH t) = a := by unfold hAa; rw [a2]; exact nN_nI (by omega)
      have v3 : hBb (hnd t (D 0 0) (nI w) (nI a) b) (nH t) = b := by unfold hBb; rw [a3]
      rw [v1, v2, v3, a0, a1, a2]
      exact ⟨h0, rfl, rfl, hOk_m (by omega) (by omega) hk, hn⟩
    · obtain ⟨q1, q2, q3, q4, q5⟩ := h2 i (by omega)
      rw [w1 i (by omega), w2 i (by omega), w3 i (by omega), o _ (by omega), o _ (by omega), o _ (by omega)]
      exact ⟨q1, q2, q3, hOk_m (by omega) (by omega) q4, q5⟩
  · by_cases e : j = nH t
    · subst e
      rw [a0]
      by_cases e2 : i = nH t
      · subst e2; rw [a0]; exact Nat.le_refl _
      · rw [o _ (by omega)]; exact h4 i (by omega)
    · rw [o _ (by omega), o _ (by omega)]
      exact h3 i j hij (by omega)
  · rw [d0]
    by_cases e : i = nH t
    · subst e; rw [a0]; exact Nat.le_refl _
    · rw [o _ (by omega)]; exact h4 i (by omega)
theorem kv_hand0 {t : Sg} {D : Dy} (h : KV t D) {w a : Nat} {b : Int32} (hk : hOk t w a b) (hn : nOk w b) (hn2 : nH t < 200) (h0 : Is (D 0 0) 1440) : KV (hnd t (D 0 0) (nI w) (nI a) b) (dos D w a b) := by
  obtain ⟨h1, h2, ⟨h3, h4⟩, h5, h6, ⟨h7, h8, h9, h10⟩, h11, h12⟩ := h
  have hq : ∀ k j, ¬ (k = 82 ∨ (k = 69 ∧ j = 18)) → (hnd t (D 0 0) (nI w) (nI a) b) k false 0 j = t k false 0 j := fun k j q => by
    unfold hnd
    rw [u4n (by omega), u4n (by omega), u4n (by omega), u4n (by omega), u4n (by omega)]
  have eP : nP (hnd t (D 0 0) (nI w) (nI a) b) = nP t := congrArg nN (hq 69 3 (by omega))
  have eB : nB (hnd t (D 0 0) (nI w) (nI a) b) = nB t := congrArg nN (hq 69 7 (by omega))
  have eH : nH (hnd t (D 0 0) (nI w) (nI a) b) = nH t + 1 := by
    show nN (hnd t (D 0 0) (nI w) (nI a) b 69 false 0 18) = _
    unfold hnd
    rw [up4_s, nN_nI (by omega)]
  have hHA : HA (hnd t (D 0 0) (nI w) (nI a) b) (dos D w a b) := hnd_HA h1.1 h6 hk hn hn2 h0 eP eB eH
  exact ⟨TI_of h1 (fun k j q => hq k j (by omega)), TX_of h2 (fun k j q => hq k j (by omega)), ⟨HM_of h3 (fun k j q => hq k j (by omega)), HR_of h4 (fun k j q => hq k j (by omega))⟩, B86_of h5 (fun k j q => hq k j (by omega)), hHA, ⟨ND_of h7 (hq 69 26 (by omega)), SI2_of h8 (fun j q => hq 69 j (by omega)), TE_of h9 (fun k j q => hq k j (by omega)), RW_of h10 (by omega) (fun j => hq 89 j (by omega))⟩, B0_no (fun q => absurd q.2 (by rw [eH]; omega)), S3_dos h12⟩
theorem kv_hand {t : Sg} {D : Dy} (h : KV t D) {w a : Nat} {b : Int32} (hk : hOk t w a b) (hn : nOk w b) (h0 : Is (D 0 0) 1440) : KV (hdT t D w a b) (hdD t D w a b) := KV_if2 (fun _ => KV_if2 (fun _ => h) (fun c2 => kv_hand0 h hk hn (by
  have q := h.2.2.2.2.1.1.1
  have q2 := q.2
  by_cases e : nH t = 200
  · exact absurd (q.1.trans (congrArg nI e)) c2
  · unfold nH at e ⊢
    omega) h0)) (fun _ => h)
theorem kv_price {t : Sg} {D : Dy} (h : KV t D) {x v : Int32} (h0 : Is (D 0 0) 1440) : KV (prcT t D x v) (prcD t D x v) := KV_if2 (fun c => kv_hand h (show nN x < nP t from (isPo_n h.1.1 c.1).2) (fun q => absurd q (by decide)) h0) (fun _ => h)
theorem kv_open {t : Sg} {D : Dy} (h : KV t D) {x v : Int32} (h0 : Is (D 0 0) 1440) (hv : v = nI 0 ∨ v = nI 1) : KV (opn1T t D x v) (opn1D t D x v) := KV_if2 (fun c => kv_hand h ⟨(isPo_n h.1.1 c).2, hv⟩ (fun q => absurd q (by decide)) h0) (fun _ => h)
theorem kv_faulty {t : Sg} {D : Dy} (h : KV t D) {x : Int32} (h0 : Is (D 0 0) 1440) : KV (ftyT t D x) (ftyD t D x) := KV_if2 (fun c => kv_hand h (show nN x < nB t from (isBk_n h.1.1 c).2) (fun q => absurd q (by decide)) h0) (fun _ => h)
theorem kv_steal {t : Sg} {D : Dy} (h : KV t D) {x : Int32} (h0 : Is (D 0 0) 1440) : KV (stlT t D x) (stlD t D x) := KV_if2 (fun c => kv_hand h (show nN x < nB t from (isBk_n h.1.1 c).2) (fun q => absurd q (by decide)) h0) (fun _ => h)
theorem kv_find {t : Sg} {D : Dy} (h : KV t D) {x v : Int32} (h0 : Is (D 0 0) 1440) : KV (fndT t D x v) (fndD t D x v) := KV_if2 (fun c => kv_hand h ⟨(isBk_n h.1.1 c.1).2, nN v, (isPo_n h.1.1 c.2).1, (isPo_n h.1.1 c.2).2⟩ (fun q => absurd q (by decide)) h0) (fun _ => h)
theorem kv_stop {t : Sg} {D : Dy} (h : KV t D) {x v : Int32} (h0 : Is (D 0 0) 1440) : KV (stp1T t D x v) (stp1D t D x v) := KV_if2 (fun c => kv_hand h (show nN x < nP t from (isPo_n h.1.1 c.1).2) (fun _ => nOk_v c.2) h0) (fun _ => h)
