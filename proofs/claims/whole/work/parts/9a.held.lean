/-! Every call keeps to it: the rest. -/
theorem kv_want0 {t : Sg} {D : Dy} (h : KV t D) {x v : Int32} (hx : nN x < nP t) : KV (up4 t 89 false 0 (nN x) v) D := by
  obtain ⟨h1, h2, ⟨h3, h4⟩, h5, h6, ⟨h7, h8, h9, h10⟩, h11, h12⟩ := h
  have hq : ∀ k j, ¬ (k = 89 ∧ j = nN x) → (up4 t 89 false 0 (nN x) v) k false 0 j = t k false 0 j := fun k j q => by
    rw [u4n (by omega)]
  have eP : nP (up4 t 89 false 0 (nN x) v) = nP t := congrArg nN (hq 69 3 (by omega))
  have eB : nB (up4 t 89 false 0 (nN x) v) = nB t := congrArg nN (hq 69 7 (by omega))
  exact ⟨TI_of h1 (fun k j q => hq k j (by omega)), TX_of h2 (fun k j q => hq k j (by omega)), ⟨HM_of h3 (fun k j q => hq k j (by omega)), HR_of h4 (fun k j q => hq k j (by omega))⟩, B86_of h5 (fun k j q => hq k j (by omega)), HA_of h6 (fun k j q => hq k j (by omega)) (by omega) (by omega) (Nat.le_refl _), ⟨ND_of h7 (hq 69 26 (by omega)), SI2_of h8 (fun j q => hq 69 j (by omega)), TE_of h9 (fun k j q => hq k j (by omega)), fun p hp q => by
    by_cases e : p = nN x
    · rw [eP, e]; exact hx
    · rw [eP]; exact h10 p hp (by rw [hq 89 p (by omega)] at q; exact q)⟩, B0_of h11 (fun k j q => hq k j (by omega)), h12⟩
theorem kv_want {t : Sg} {D : Dy} (h : KV t D) {x v : Int32} : KV (wantT t x v) D := KV_if (fun c => kv_want0 h (isPo_n h.1.1 c.1).2) (fun _ => h)
theorem kv_site0 {t : Sg} {D : Dy} (h : KV t D) {x y : Int32} (hn : nSi t < 12) : KV (up4 (up4 (up4 t 91 false 0 (nSi t) x) 92 false 0 (nSi t) y) 69 false 0 31 (nI (nSi t + 1))) D := by
  obtain ⟨h1, h2, ⟨h3, h4⟩, h5, h6, ⟨h7, h8, h9, h10⟩, h11, h12⟩ := h
  have hq : ∀ k j, ¬ ((91 ≤ k ∧ k ≤ 92) ∨ (k = 69 ∧ j = 31)) → (up4 (up4 (up4 t 91 false 0 (nSi t) x) 92 false 0 (nSi t) y) 69 false 0 31 (nI (nSi t + 1))) k false 0 j = t k false 0 j := fun k j q => by
    rw [u4n (by omega), u4n (by omega), u4n (by omega)]
  have eP : nP (up4 (up4 (up4 t 91 false 0 (nSi t) x) 92 false 0 (nSi t) y) 69 false 0 31 (nI (nSi t + 1))) = nP t := congrArg nN (hq 69 3 (by omega))
  have eB : nB (up4 (up4 (up4 t 91 false 0 (nSi t) x) 92 false 0 (nSi t) y) 69 false 0 31 (nI (nSi t + 1))) = nB t := congrArg nN (hq 69 7 (by omega))
  exact ⟨TI_of h1 (fun k j q => hq k j (by omega)), TX_of h2 (fun k j q => hq k j (by omega)), ⟨HM_of h3 (fun k j q => hq k j (by omega)), HR_of h4 (fun k j q => hq k j (by omega))⟩, B86_of h5 (fun k j q => hq k j (by omega)), HA_of h6 (fun k j q => hq k j (by omega)) (by omega) (by omega) (Nat.le_refl _), ⟨ND_of h7 (hq 69 26 (by omega)), ⟨by rw [up4_s]; exact Is_of (by omega) (by omega), by rw [hq 69 34 (by omega)]; exact h8.2⟩, TE_of h9 (fun k j q => hq k j (by omega)), RW_of h10 (by omega) (fun j => hq 89 j (by omega))⟩, B0_of h11 (fun k j q => hq k j (by omega)), h12⟩
theorem kv_site {t : Sg} {D : Dy} (h : KV t D) {x y : Int32} : KV (siteT t x y) D := KV_if (fun _ => KV_if (fun _ => h) (fun c => kv_site0 h (by
  have := h.2.2.2.2.2.1.2.1.1.2
  unfold nSi at c ⊢
  omega))) (fun _ => h)
theorem kv_wish0 {t : Sg} {D : Dy} (h : KV t D) {x y n : Int32} (hn : nWi t < 40) : KV (up4 (up4 (up4 (up4 t 93 false 0 (nWi t) x) 94 false 0 (nWi t) y) 95 false 0 (nWi t) n) 69 false 0 34 (nI (nWi t + 1))) D := by
  obtain ⟨h1, h2, ⟨h3, h4⟩, h5, h6, ⟨h7, h8, h9, h10⟩, h11, h12⟩ := h
  have hq : ∀ k j, ¬ ((93 ≤ k ∧ k ≤ 95) ∨ (k = 69 ∧ j = 34)) → (up4 (up4 (up4 (up4 t 93 false 0 (nWi t) x) 94 false 0 (nWi t) y) 95 false 0 (nWi t) n) 69 false 0 34 (nI (nWi t + 1))) k false 0 j = t k false 0 j := fun k j q => by
    rw [u4n (by omega), u4n (by omega), u4n (by omega), u4n (by omega)]
  have eP : nP (up4 (up4 (up4 (up4 t 93 false 0 (nWi t) x) 94 false 0 (nWi t) y) 95 false 0 (nWi t) n) 69 false 0 34 (nI (nWi t + 1))) = nP t := congrArg nN (hq 69 3 (by omega))
  have eB : nB (up4 (up4 (up4 (up4 t 93 false 0 (nWi t) x) 94 false 0 (nWi t) y) 95 false 0 (nWi t) n) 69 false 0 34 (nI (nWi t + 1))) = nB t := congrArg nN (hq 69 7 (by omega))
  exact ⟨TI_of h1 (fun k j q => hq k j (by omega)), TX_of h2 (fun k j q => hq k j (by omega)), ⟨HM_of h3 (fun k j q => hq k j (by omega)), HR_of h4 (fun k j q => hq k j (by omega))⟩, B86_of h5 (fun k j q => hq k j (by omega)), HA_of h6 (fun k j q => hq k j (by omega)) (by omega) (by omega) (Nat.le_refl _), ⟨ND_of h7 (hq 69 26 (by omega)), ⟨by rw [hq 69 31 (by omega)]; exact h8.1, by rw [up4_s]; exact Is_of (by omega) (by omega)⟩, TE_of h9 (fun k j q => hq k j (by omega)), RW_of h10 (by omega) (fun j => hq 89 j (by omega))⟩, B0_of h11 (fun k j q => hq k j (by omega)), h12⟩
theorem kv_wish {t : Sg} {D : Dy} (h : KV t D) {x y n : Int32} : KV (wishT t x y n) D := KV_if (fun _ => KV_if (fun _ => h) (fun c => kv_wish0 h (by
  have := h.2.2.2.2.2.1.2.1.2.2
  unfold nWi at c ⊢
  omega))) (fun _ => h)
theorem kv_test0 {t : Sg} {D : Dy} (h : KV t D) {x v : Int32} (hx : inI (nI 0) x (nI 100)) (hn : nTe t < 60) : KV (up4 (up4 (up4 t 96 false 0 (nTe t) x) 97 false 0 (nTe t) v) 69 false 0 38 (nI (nTe t + 1))) D := by
  obtain ⟨h1, h2, ⟨h3, h4⟩, h5, h6, ⟨h7, h8, h9, h10⟩, h11, h12⟩ := h
  have hq : ∀ k j, ¬ ((96 ≤ k ∧ k ≤ 97 ∧ j = nTe t) ∨ (k = 69 ∧ j = 38)) → (up4 (up4 (up4 t 96 false 0 (nTe t) x) 97 false 0 (nTe t) v) 69 false 0 38 (nI (nTe t + 1))) k false 0 j = t k false 0 j := fun k j q => by
    rw [u4n (by omega), u4n (by omega), u4n (by omega)]
  have eP : nP (up4 (up4 (up4 t 96 false 0 (nTe t) x) 97 false 0 (nTe t) v) 69 false 0 38 (nI (nTe t + 1))) = nP t := congrArg nN (hq 69 3 (by omega))
  have eB : nB (up4 (up4 (up4 t 96 false 0 (nTe t) x) 97 false 0 (nTe t) v) 69 false 0 38 (nI (nTe t + 1))) = nB t := congrArg nN (hq 69 7 (by omega))
  have eT : nTe (up4 (up4 (up4 t 96 false 0 (nTe t) x) 97 false 0 (nTe t) v) 69 false 0 38 (nI (nTe t + 1))) = nTe t + 1 := by
    show nN ((up4 (up4 (up4 t 96 false 0 (nTe t) x) 97 false 0 (nTe t) v) 69 false 0 38 (nI (nTe t + 1))) 69 false 0 38) = _
    rw [up4_s, nN_nI (by omega)]
  exact ⟨TI_of h1 (fun k j q => hq k j (by omega)), TX_of h2 (fun k j q => hq k j (by omega)), ⟨HM_of h3 (fun k j q => hq k j (by omega)), HR_of h4 (fun k j q => hq k j (by omega))⟩, B86_of h5 (fun k j q => hq k j (by omega)), HA_of h6 (fun k j q => hq k j (by omega)) (by omega) (by omega) (Nat.le_refl _), ⟨ND_of h7 (hq 69 26 (by omega)), SI2_of h8 (fun j q => hq 69 j (by omega)), ⟨by rw [up4_s]; exact Is_of (by omega) (by omega), fun k hk => by
    rw [eT] at hk
    by_cases e : k = nTe t
    · subst e; rw [u4n (by omega), u4n (by omega), up4_s]; exact ⟨(inI_n (by omega) (by omega) hx).1, (inI_n (by omega) (by omega) hx).2.2⟩
    · rw [hq 96 k (by omega)]; exact h9.2 k (by omega)⟩, RW_of h10 (by omega) (fun j => hq 89 j (by omega))⟩, B0_of h11 (fun k j q => hq k j (by omega)), h12⟩
theorem kv_test {t : Sg} {D : Dy} (h : KV t D) {x v : Int32} : KV (testT t x v) D := KV_if (fun c0 => KV_if (fun _ => h) (fun c => kv_test0 h c0 (by
  have := h.2.2.2.2.2.1.2.2.1.1.2
  unfold nTe at c ⊢
  omega))) (fun _ => h)
theorem kv_kept {t : Sg} {D : Dy} (h : KV t D) {x : Int32} (hn : nD t < 20) : KV (kpT t D x) (bgn (kpT t D x) D) := by
  obtain ⟨h1, h2, ⟨h3, h4⟩, h5, h6, ⟨h7, h8, h9, h10⟩, h11, h12⟩ := h
  have hq : ∀ k j, ¬ (k = 87 ∨ k = 88 ∨ (k = 69 ∧ (j = 26 ∨ j = 18))) → (kpT t D x) k false 0 j = t k false 0 j := fun k j q => by
    exact kpT_o (by omega)
  have eP : nP (kpT t D x) = nP t := congrArg nN (hq 69 3 (by omega))
  have eB : nB (kpT t D x) = nB t := congrArg nN (hq 69 7 (by omega))
  exact ⟨TI_of h1 (fun k j q => hq k j (by omega)), TX_of h2 (fun k j q => hq k j (by omega)), ⟨HM_of h3 (fun k j q => hq k j (by omega)), HR_of h4 (fun k j q => hq k j (by omega))⟩, B86_of h5 (fun k j q => hq k j (by omega)), HA_0 (by unfold kpT; rw [up4_s]), ⟨(by unfold ND kpT; rw [u4n (by omega), up4_s]; exact Is_of (by omega) (by omega)), SI2_of h8 (fun j q => hq 69 j (by omega)), TE_of h9 (fun k j q => hq k j (by omega)), RW_of h10 (by omega) (fun j => hq 89 j (by omega))⟩, fun _ => ⟨fun p hp => bgn_p hp, fun b hb => ⟨bgn_z (by omega) (by show b < 60; have := (WN_o3 h1.1 (fun j q => hq 69 j (by omega))).B; omega), bgn_12 hb⟩⟩, S3_bgn⟩
theorem kv_endDay {t : Sg} {D : Dy} (h : KV t D) {x : Int32} : KV (edT t D x) (edD t D x) := KV_if2 (fun _ => KV_if2 (fun _ => h) (fun _ => KV_if2 (fun _ => h) (fun c => kv_kept h (by
  have := h.2.2.2.2.2.1.1.2
  unfold nD at c ⊢
  omega)))) (fun _ => h)
theorem KV_D {t : Sg} {D D' : Dy} (h : KV t D) (hH : nN (D 0 0) ≤ nN (D' 0 0)) (hB : B0 t D') (hS : S3 D') : KV t D' := by
  obtain ⟨h1, h2, h3, h5, h6, h7, h11, h12⟩ := h
  exact ⟨h1, h2, h3, h5, ⟨h6.1, h6.2.1, fun i hi => Nat.le_trans (h6.2.2 i hi) hH⟩, h7, hB, hS⟩
theorem kv_step {t : Sg} {D : Dy} (h : KV t D) (hM : MI t D) {x : Int32} : KV t (stpD t D x) := by
  unfold stpD
  by_cases c : inI (nI 1) x (nI 1440)
  · rw [ifC_t c]
    by_cases c2 : nN (D 0 0) = 1440
    · rw [ifC_t c2]; exact h
    · rw [ifC_f c2]
      have hm := hM.2.2.2
      have hx := inI_n (by omega) (by omega) c
      have hn : 1 ≤ stpN D x ∧ nN (D 0 0) + stpN D x ≤ 1440 := by
        unfold stpN
        omega
      obtain ⟨a1, a2, a3⟩ := S3_itr (t := t) h.2.2.2.2.2.2.2 hM h.1 (stpN D x) hn.2
      exact KV_D h (by omega) (B0_no (fun q => by omega)) a1
  · rw [ifC_f c]; exact h
theorem kv_28 {t t2 : Sg} {D D2 : Dy} (h : KV t D) (ht : ∀ k d i j, ¬ k = 71 → t2 k d i j = t k d i j) (hD : ∀ f i, ¬ f = 28 → D2 f i = D f i) : KV t2 D2 := by
  have h2 : KV t2 D := KV_of h (fun k j q => ht k false 0 j (by omega))
  refine KV_D h2 (by rw [hD 0 0 (by omega)]; exact Nat.le_refl _) (fun q => ?_) (S3_of h2.2.2.2.2.2.2.2 (fun g i e => hD g i (by omega)))
  rw [hD 0 0 (by omega)] at q
  obtain ⟨a, b⟩ := h2.2.2.2.2.2.2.1 q
  exact ⟨fun p hp => by rw [hD 1 p (by omega), hD 2 p (by omega)]; exact a p hp, fun c hc => by rw [hD 11 c (by omega), hD 12 c (by omega)]; exact b c hc⟩
theorem kv_post0 {t : Sg} {D : Dy} (h : KV t D) {x y n : Int32} (hx : inI (nI 0) x (nI 100)) (hy : inI (nI 0) y (nI 100)) (hn : inI (nI 1) n (nI 20)) (h12p : nP t < 12) : KV (up4 (up4 (up4 (up4 t 72 false 0 (nP t) x) 73 false 0 (nP t) y) 74 false 0 (nP t) n) 69 false 0 3 (nI (nP t + 1))) D := by
  obtain ⟨h1, h2, ⟨h3, h4⟩, h5, h6, ⟨h7, h8, h9, h10⟩, h11, h12⟩ := h
  have hq : ∀ k j, ¬ ((72 ≤ k ∧ k ≤ 74 ∧ j = nP t) ∨ (k = 69 ∧ j = 3)) → (up4 (up4 (up4 (up4 t 72 false 0 (nP t) x) 73 false 0 (nP t) y) 74 false 0 (nP t) n) 69 false 0 3 (nI (nP t + 1))) k false 0 j = t k false 0 j := fun k j q => by
    rw [u4n (by omega), u4n (by omega), u4n (by omega), u4n (by omega)]
  have hT := h1.1
  have hR := hT.R
  have hB := hT.B
  have eP : nP (up4 (up4 (up4 (up4 t 72 false 0 (nP t) x) 73 false 0 (nP t) y) 74 false 0 (nP t) n) 69 false 0 3 (nI (nP t + 1))) = nP t + 1 := by
    show nN ((up4 (up4 (up4 (up4 t 72 false 0 (nP t) x) 73 false 0 (nP t) y) 74 false 0 (nP t) n) 69 false 0 3 (nI (nP t + 1))) 69 false 0 3) = _
    rw [up4_s, nN_nI (by omega)]
  have eB : nB (up4 (up4 (up4 (up4 t 72 false 0 (nP t) x) 73 false 0 (nP t) y) 74 false 0 (nP t) n) 69 false 0 3 (nI (nP t + 1))) = nB t := congrArg nN (hq 69 7 (by omega))
  have eR : nR (up4 (up4 (up4 (up4 t 72 false 0 (nP t) x) 73 false 0 (nP t) y) 74 false 0 (nP t) n) 69 false 0 3 (nI (nP t + 1))) = nR t := congrArg nN (hq 69 9 (by omega))
  have eK : nRu (up4 (up4 (up4 (up4 t 72 false 0 (nP t) x) 73 false 0 (nP t) y) 74 false 0 (nP t) n) 69 false 0 3 (nI (nP t + 1))) = nRu t := congrArg nN (hq 69 22 (by omega))
  have x1 := inI_n (by omega) (by omega) hx
  have y1 := inI_n (by omega) (by omega) hy
  have n1 := inI_n (by omega) (by omega) hn
  refine ⟨⟨?_, fun p hp => ?_, fun r hr => ?_, ⟨?_, fun k hk => ⟨?_, fun i hi => ?_⟩⟩, fun k hk => ?_⟩, TX_of h2 (fun k j q => hq k j (by omega)), ⟨fun b hb => ?_, fun p hp => ?_⟩, B86_of h5 (fun k j q => hq k j (by omega)), HA_of h6 (fun k j q => hq k j (by omega)) (by omega) (by omega) (Nat.le_refl _), ⟨ND_of h7 (hq 69 26 (by omega)), SI2_of h8 (fun j q => hq 69 j (by omega)), TE_of h9 (fun k j q => hq k j (by omega)), RW_of h10 (by omega) (fun j => hq 89 j (by omega))⟩, B0_of h11 (fun k j q => hq k j (by omega)), h12⟩
  · unfold WN
    rw [up4_s, hq 69 7 (by omega), hq 69 9 (by omega)]
    exact ⟨Is_of (by omega) (by omega), hT.2⟩
  · rw [eP] at hp
    by_cases e : p = nP t
    · subst e
      rw [u4n (by omega), u4n (by omega), u4n (by omega), up4_s, u4n (by omega), u4n (by omega), up4_s]
      exact ⟨⟨x1.1, x1.2.2⟩, ⟨y1.1, y1.2.2⟩⟩
    · rw [hq 72 p (by omega), hq 73 p (by omega)]
      exact h1.2.1 p (by omega)
  · rw [hq 76 r (by omega), hq 77 r (by omega), hq 78 r (by omega), hq 79 r (by omega)]
    obtain ⟨q1, ⟨p, p1, p2⟩, ⟨s, s1, s2⟩, q4⟩ := h1.2.2.1 r (by omega)
    exact ⟨q1, ⟨p, by omega, p2⟩, ⟨s, by omega, s2⟩, q4⟩
  · rw [hq 69 22 (by omega)]; exact h1.2.2.2.1.1
  · rw [hq 84 k (by omega)]; exact (h1.2.2.2.1.2 k hk).1
  · rw [hq 85 _ (by omega)]; exact (h1.2.2.2.1.2 k hk).2 i hi
  · have es : sy (up4 (up4 (up4 (up4 t 72 false 0 (nP t) x) 73 false 0 (nP t) y) 74 false 0 (nP t) n) 69 false 0 3 (nI (nP t + 1))) k = sy t k := by
      funext i
      unfold sy
      rw [hq 84 k (by omega), hq 85 _ (by omega)]
    rw [es, hq 84 k (by omega)]
    exact h1.2.2.2.2 k (by omega)
  · rw [hq 75 b (by omega)]
    obtain ⟨p, p1, p2⟩ := h3 b (by omega)
    exact ⟨p, by omega, p2⟩
  · rw [eB, hmC_of (fun j => hq 75 j (by omega))]
    by_cases e : p = nP t
    · subst e
      rw [u4n (by omega), up4_s]
      have h0 : hmC t (nB t) (nP t) = 0 := ct_none (fun b hb => by
      obtain ⟨p, p1, p2⟩ := h3 b hb
      exact decide_eq_false (fun q => absurd (nI_inj (p2.symm.trans q) (by omega) (by omega)) (by omega)))
      rw [h0]
      exact ⟨⟨n1.1, n1.2.2⟩, Nat.zero_le _⟩
    · rw [hq 74 p (by omega)]
      exact h4 p (by omega)
theorem kv_post {t : Sg} {D : Dy} (h : KV t D) {x y n : Int32} : KV (postT t D x y n) D := KV_if (fun c0 => KV_if (fun _ => h) (fun _ => KV_if (fun _ => h) (fun c => kv_post0 h c0.1 c0.2.1 c0.2.2 (by
  have := h.1.1.P
  omega)))) (fun _ => h)
theorem kv_bike0 {t : Sg} {D : Dy} (h : KV t D) {x : Int32} (hx : x = nI (nN x) ∧ nN x < nP t) (h0 : nN (D 0 0) = 0 ∧ nH t = 0) (hfr : ¬ fre t D (nN x) = nI 0) (h60 : nB t < 60) : KV (up4 (up4 t 75 false 0 (nB t) x) 69 false 0 7 (nI (nB t + 1))) (up2 (up2 (up2 (up2 D 11 (nB t) (nI 0)) 12 (nB t) x) 13 (nB t) (nI 0)) 14 (nB t) (nI 0)) := by
  obtain ⟨h1, h2, ⟨h3, h4⟩, h5, h6, ⟨h7, h8, h9, h10⟩, h11, h12⟩ := h
  have hq : ∀ k j, ¬ ((k = 75 ∧ j = nB t) ∨ (k = 69 ∧ j = 7)) → (up4 (up4 t 75 false 0 (nB t) x) 69 false 0 7 (nI (nB t + 1))) k false 0 j = t k false 0 j := fun k j q => by
    rw [u4n (by omega), u4n (by omega)]
  have hT := h1.1
  have hP := hT.P
  have hR := hT.R
  have eP : nP (up4 (up4 t 75 false 0 (nB t) x) 69 false 0 7 (nI (nB t + 1))) = nP t := congrArg nN (hq 69 3 (by omega))
  have eB : nB (up4 (up4 t 75 false 0 (nB t) x) 69 false 0 7 (nI (nB t + 1))) = nB t + 1 := by
    show nN ((up4 (up4 t 75 false 0 (nB t) x) 69 false 0 7 (nI (nB t + 1))) 69 false 0 7) = _
    rw [up4_s, nN_nI (by omega)]
  have eR : nR (up4 (up4 t 75 false 0 (nB t) x) 69 false 0 7 (nI (nB t + 1))) = nR t := congrArg nN (hq 69 9 (by omega))
  have eK : nRu (up4 (up4 t 75 false 0 (nB t) x) 69 false 0 7 (nI (nB t + 1))) = nRu t := congrArg nN (hq 69 22 (by omega))
  have eH : nH (up4 (up4 t 75 false 0 (nB t) x) 69 false 0 7 (nI (nB t + 1))) = nH t := congrArg nN (hq 69 18 (by omega))
  have d0 : ∀ g i, ¬ (11 ≤ g ∧ g ≤ 14) → (up2 (up2 (up2 (up2 D 11 (nB t) (nI 0)) 12 (nB t) x) 13 (nB t) (nI 0)) 14 (nB t) (nI 0)) g i = D g i := fun g i q => by rw [up2_n (by omega), up2_n (by omega), up2_n (by omega), up2_n (by omega)]
  have h75 : (up4 (up4 t 75 false 0 (nB t) x) 69 false 0 7 (nI (nB t + 1))) 75 false 0 (nB t) = x := by rw [u4n (by omega), up4_s]
  have hb0 := h11 h0
  obtain ⟨f1, f2⟩ := fre_0 h4 hx.2 hb0.2
  have hc : ∀ p, hmC (up4 (up4 t 75 false 0 (nB t) x) 69 false 0 7 (nI (nB t + 1))) (nB t + 1) p = hmC t (nB t) p + (if decide (x = nI p) = true then 1 else 0) := fun p => by
    rw [hmC_S, h75]
    congr 1
    exact ct_cong (fun b hb => by rw [hq 75 b (by omega)])
  refine ⟨⟨?_, fun p hp => ?_, fun r hr => ?_, ⟨?_, fun k hk => ⟨?_, fun i hi => ?_⟩⟩, fun k hk => ?_⟩, TX_of h2 (fun k j q => hq k j (by omega)), ⟨fun b hb => ?_, fun p hp => ?_⟩, B86_of h5 (fun k j q => hq k j (by omega)), HA_of h6 (fun k j q => hq k j (by omega)) (by omega) (by omega) (by rw [d0 0 0 (by omega)]; exact Nat.le_refl _), ⟨ND_of h7 (hq 69 26 (by omega)), SI2_of h8 (fun j q => hq 69 j (by omega)), TE_of h9 (fun k j q => hq k j (by omega)), RW_of h10 (by omega) (fun j => hq 89 j (by omega))⟩, fun q => ?_, S3_of h12 (fun g i e => d0 g i (by omega))⟩
  · unfold WN
    rw [hq 69 3 (by omega), up4_s, hq 69 9 (by omega)]
    exact ⟨hT.1, Is_of (by omega) (by omega), hT.2.2⟩
  · rw [hq 72 p (by omega), hq 73 p (by omega)]
    exact h1.2.1 p (by omega)
  · rw [hq 76 r (by omega), hq 77 r (by omega), hq 78 r (by omega), hq 79 r (by omega), eP]
    exact h1.2.2.1 r (by omega)
  · rw [hq 69 22 (by omega)]; exact h1.2.2.2.1.1
  · rw [hq 84 k (by omega)]; exact (h1.2.2.2.1.2 k hk).1
  · rw [hq 85 _ (by omega)]; exact (h1.2.2.2.1.2 k hk).2 i hi
  · have es : sy (up4 (up4 t 75 false 0 (nB t) x) 69 false 0 7 (nI (nB t + 1))) k = sy t k := by
      funext i
      unfold sy
      rw [hq 84 k (by omega), hq 85 _ (by omega)]
    rw [es, hq 84 k (by omega)]
    exact h1.2.2.2.2 k (by omega)
  · rw [eP]
    by_cases e : b = nB t
    · subst e
      rw [h75]
      exact ⟨nN x, hx.2, hx.1⟩
    · rw [hq 75 b (by omega)]
      exact h3 b (by omega)
  · rw [hq 74 p (by omega), eB, hc]
    have hp2 := h4 p (by omega)
    by_cases e : x = nI p
    · have ep : p = nN x := by rw [e, nN_nI (by omega)]
      rw [if_pos (decide_eq_true e)]
      subst ep
      have hfr2 : ¬ nN (t 74 false 0 (nN x)) - hmC t (nB t) (nN x) = 0 := fun q => hfr (f1.trans (congrArg nI q))
      exact ⟨hp2.1, by omega⟩
    · rw [if_neg (by rw [decide_eq_false e]; decide), Nat.add_zero]
      exact hp2
  · rw [d0 0 0 (by omega), eH] at q
    refine ⟨fun p hp => by rw [d0 1 p (by omega), d0 2 p (by omega)]; exact hb0.1 p hp, fun b hb => ?_⟩
    by_cases e : b = nB t
    · subst e
      rw [h75, up2_n (by omega), up2_n (by omega), up2_n (by omega), up2_s, up2_n (by omega), up2_n (by omega), up2_s]
      exact ⟨rfl, rfl⟩
    · rw [hq 75 b (by omega), up2_n (by omega), up2_n (by omega), up2_n (by omega), up2_n (by omega), up2_n (by omega), up2_n (by omega), up2_n (by omega), up2_n (by omega)]
      exact hb0.2 b (by omega)
theorem kv_bike {t : Sg} {D : Dy} (h : KV t D) (hm : Is (D 0 0) 1440) {x : Int32} : KV (bikeT t D x) (bikeD t D x) := KV_if2 (fun c => KV_if2 (fun _ => h) (fun c2 => KV_if2 (fun _ => h) (fun c3 => KV_if2 (fun _ => h) (fun c4 => kv_bike0 h (isPo_n h.1.1 c) (bg_no c2 hm h.2.2.2.2.1.1.1) c3 (by
  have := h.1.1.B
  omega))))) (fun _ => h)
theorem kv_rider0 {t : Sg} {D : Dy} (h : KV t D) {m p qq kk : Int32} (hm : inI (nI 0) m (nI 1439)) (hp : p = nI (nN p) ∧ nN p < nP t) (hq2 : qq = nI (nN qq) ∧ nN qq < nP t) (hk : inI (nI 0) kk (nI 3)) (h200 : nR t < 200) : KV (up4 (up4 (up4 (up4 (up4 t 76 false 0 (nR t) m) 77 false 0 (nR t) p) 78 false 0 (nR t) qq) 79 false 0 (nR t) kk) 69 false 0 9 (nI (nR t + 1))) (tls D (nR t)) := by
  obtain ⟨h1, h2, ⟨h3, h4⟩, h5, h6, ⟨h7, h8, h9, h10⟩, h11, h12⟩ := h
  have hq : ∀ k j, ¬ ((76 ≤ k ∧ k ≤ 79 ∧ j = nR t) ∨ (k = 69 ∧ j = 9)) → (up4 (up4 (up4 (up4 (up4 t 76 false 0 (nR t) m) 77 false 0 (nR t) p) 78 false 0 (nR t) qq) 79 false 0 (nR t) kk) 69 false 0 9 (nI (nR t + 1))) k false 0 j = t k false 0 j := fun k j q => by
    rw [u4n (by omega), u4n (by omega), u4n (by omega), u4n (by omega), u4n (by omega)]
  have hT := h1.1
  have eP : nP (up4 (up4 (up4 (up4 (up4 t 76 false 0 (nR t) m) 77 false 0 (nR t) p) 78 false 0 (nR t) qq) 79 false 0 (nR t) kk) 69 false 0 9 (nI (nR t + 1))) = nP t := congrArg nN (hq 69 3 (by omega))
  have eB : nB (up4 (up4 (up4 (up4 (up4 t 76 false 0 (nR t) m) 77 false 0 (nR t) p) 78 false 0 (nR t) qq) 79 false 0 (nR t) kk) 69 false 0 9 (nI (nR t + 1))) = nB t := congrArg nN (hq 69 7 (by omega))
  have eR : nR (up4 (up4 (up4 (up4 (up4 t 76 false 0 (nR t) m) 77 false 0 (nR t) p) 78 false 0 (nR t) qq) 79 false 0 (nR t) kk) 69 false 0 9 (nI (nR t + 1))) = nR t + 1 := by
    show nN ((up4 (up4 (up4 (up4 (up4 t 76 false 0 (nR t) m) 77 false 0 (nR t) p) 78 false 0 (nR t) qq) 79 false 0 (nR t) kk) 69 false 0 9 (nI (nR t + 1))) 69 false 0 9) = _
    rw [up4_s, nN_nI (by omega)]
  have eK : nRu (up4 (up4 (up4 (up4 (up4 t 76 false 0 (nR t) m) 77 false 0 (nR t) p) 78 false 0 (nR t) qq) 79 false 0 (nR t) kk) 69 false 0 9 (nI (nR t + 1))) = nRu t := congrArg nN (hq 69 22 (by omega))
  have eH : nH (up4 (up4 (up4 (up4 (up4 t 76 false 0 (nR t) m) 77 false 0 (nR t) p) 78 false 0 (nR t) qq) 79 false 0 (nR t) kk) 69 false 0 9 (nI (nR t + 1))) = nH t := congrArg nN (hq 69 18 (by omega))
  have d0 : ∀ g i, ¬ (16 ≤ g ∧ g ≤ 21) → tls D (nR t) g i = D g i := fun g i q => tls_o (by omega)
  have m1 := inI_n (by omega) (by omega) hm
  have k1 := inI_n (by omega) (by omega) hk
  refine ⟨⟨?_, fun p hp => ?_, fun r hr => ?_, ⟨?_, fun k hk => ⟨?_, fun i hi => ?_⟩⟩, fun k hk => ?_⟩, TX_of h2 (fun k j q => hq k j (by omega)), ⟨HM_of h3 (fun k j q => hq k j (by omega)), HR_of h4 (fun k j q => hq k j (by omega))⟩, B86_of h5 (fun k j q => hq k j (by omega)), HA_of h6 (fun k j q => hq k j (by omega)) (by omega) (by omega) (by rw [d0 0 0 (by omega)]; exact Nat.le_refl _), ⟨ND_of h7 (hq 69 26 (by omega)), SI2_of h8 (fun j q => hq 69 j (by omega)), TE_of h9 (fun k j q => hq k j (by omega)), RW_of h10 (by omega) (fun j => hq 89 j (by omega))⟩, fun q => ?_, S3_of h12 (fun g i e => d0 g i (by omega))⟩
  · unfold WN
    rw [hq 69 3 (by omega), hq 69 7 (by omega), up4_s]
    exact ⟨hT.1, hT.2.1, Is_of (by omega) (by omega)⟩
  · rw [hq 72 p (by omega), hq 73 p (by omega)]
    exact h1.2.1 p (by omega)
  · rw [eR] at hr
    rw [eP]
    by_cases e : r = nR t
    · subst e
      rw [u4n (by omega), u4n (by omega), u4n (by omega), u4n (by omega), up4_s, u4n (by omega), u4n (by omega), u4n (by omega), up4_s, u4n (by omega), u4n (by omega), up4_s, u4n (by omega), up4_s]
      exact ⟨⟨m1.1, m1.2.2⟩, ⟨nN p, hp.2, hp.1⟩, ⟨nN qq, hq2.2, hq2.1⟩, ⟨nN kk, by omega, k1.1⟩⟩
    · rw [hq 76 r (by omega), hq 77 r (by omega), hq 78 r (by omega), hq 79 r (by omega)]
      exact h1.2.2.1 r (by omega)
  · rw [hq 69 22 (by omega)]; exact h1.2.2.2.1.1
  · rw [hq 84 k (by omega)]; exact (h1.2.2.2.1.2 k hk).1
  · rw [hq 85 _ (by omega)]; exact (h1.2.2.2.1.2 k hk).2 i hi
  · have es : sy (up4 (up4 (up4 (up4 (up4 t 76 false 0 (nR t) m) 77 false 0 (nR t) p) 78 false 0 (nR t) qq) 79 false 0 (nR t) kk) 69 false 0 9 (nI (nR t + 1))) k = sy t k := by
      funext i
      unfold sy
      rw [hq 84 k (by omega), hq 85 _ (by omega)]
    rw [es, hq 84 k (by omega)]
    exact h1.2.2.2.2 k (by omega)
  · rw [d0 0 0 (by omega), eH] at q
    obtain ⟨a, b⟩ := h11 q
    exact ⟨fun p hp => by rw [d0 1 p (by omega), d0 2 p (by omega)]; exact a p hp, fun b2 hb2 => by rw [d0 11 b2 (by omega), d0 12 b2 (by omega), hq 75 b2 (by omega)]; exact b b2 (by omega)⟩
theorem kv_rider {t : Sg} {D : Dy} (h : KV t D) {m p q k : Int32} : KV (ridT t D m p q k) (ridD t D m p q k) := KV_if2 (fun c0 => KV_if2 (fun _ => KV_if2 (fun _ => h) (fun c => kv_rider0 h c0.1 (isPo_n h.1.1 c0.2.1) (isPo_n h.1.1 c0.2.2.1) c0.2.2.2.2 (by
  have := h.1.1.R
  omega))) (fun _ => h)) (fun _ => h)
