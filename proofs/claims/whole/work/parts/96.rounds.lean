/-! Rounds: the best one. -/
noncomputable def ovN (t : Sg) (D : Dy) (n i : Nat) : Nat := cs t D n (0 ||| 2 ^ i) i + rwy t (hr t D n n) (chF t i)
theorem ldS_0 {t : Sg} {D : Dy} : ∀ n, ldS t D 0 n = D 0 3
  | 0 => rfl
  | n + 1 => by rw [ldS_S, ldS_0 n, Nat.zero_testBit, if_neg (by decide)]; exact Int32.add_zero _
theorem okL_0 {t : Sg} {D : Dy} {n : Nat} (h : Is (D 0 3) 12) : okL t D n 0 := by
  unfold okL
  rw [ldS_0, h.1]
  have h2 := h.2
  exact ⟨(nI_leI (by omega) (by omega)).mpr (by omega), (nI_leI (by omega) (by omega)).mpr (by omega)⟩
theorem cs_0 {t : Sg} {D : Dy} {n : Nat} (h : Is (D 0 3) 12) (hn : 0 < n) : cs t D n 0 n = mnL (ovN t D n) 0 1000000 n := by
  have h2 : 2 ^ 1 ≤ 2 ^ n := Nat.pow_le_pow_right (by decide) hn
  rw [cs_eq (by omega), ifC_t (okL_0 h), if_neg (by omega)]
  rfl
theorem cs_00 {t : Sg} {D : Dy} (h : Is (D 0 3) 12) : cs t D 0 0 0 = 0 := by
  rw [cs_eq (by decide), ifC_t (okL_0 h)]
  rfl
theorem ovN_le {t : Sg} {D : Dy} {n i : Nat} (hW : WT t) (hV : ∃ p, p < nP t ∧ D 0 2 = nI p) (h2 : chF t i < nP t) (hlt : 0 ||| 2 ^ i < 2 ^ n) (hP : nP t ≤ 12) : ovN t D n i ≤ 1000021 := by
  have b := cs_le (t := t) (D := D) (last := i) hlt
  obtain ⟨p, hp, e⟩ := hV
  have a := wayN_le hW (p := hr t D n n) (q := chF t i) (by unfold hr; rw [if_pos rfl, e, nN_nI (by omega)]; exact hp) h2
  unfold ovN rwy
  split <;> omega
theorem cv_over {t : Sg} {D : Dy} {Z : Zt} {σ : Sg} {n : Nat} (hC : Cg false σ t D 60 200 Z σ) (hT : WN t) (hW : WT t) (hG : WG t n σ) (hn : n ≤ 8) (hch : ∀ j, j < n → chF t j < nP t) (hTB : TBc t D n 1 σ) {v : Nat} (hv : v < nP t) (hvD : D 0 2 = nI v) {i : Nat} (hi : i < n) : Ev false 137 [.inr (.inr (51, false, 0)), .inr (.inr (1, false, 0)), .inr (.inr (44, false, 0)), .inl (nI i)] σ (some (.inl (nI (ovN t D n i)))) σ := by
  have hP := hT.P
  have hpn : 2 ^ n ≤ 256 := Nat.pow_le_pow_right (by decide) hn
  have hr0 : hr t D n n = v := by unfold hr; rw [if_pos rfl, hvD, nN_nI (by omega)]
  have hc1 := hch i hi
  have h2i : 2 ^ i < 2 ^ n := Nat.pow_lt_pow_right (by decide) hi
  have h2p : 1 ≤ 2 ^ i := Nat.one_le_two_pow
  have hcell : σ 55 false 0 (8 * 2 ^ i + i) = nI (cs t D n (0 ||| 2 ^ i) i) := by
    rw [Nat.zero_or]
    exact hTB (2 ^ i) i h2p h2i hi (Nat.testBit_two_pow_self)
  refine Ev_wp 80 [] rfl rfl ?_
  refine ⟨i, rfl, (by show _ < 8; omega), nI (chF t i), (hG.2 i hi), ?_⟩
  refine br_ne rfl (hC.v.1.trans hvD) (by omega) (by omega) (fun h8 => ?_) (fun h8 => ?_)
  · refine ⟨_, _, cv_way hC hT (hC.v.1.trans hvD) (by omega) rfl (by omega), _, _, cv_spot (b_shl1 rfl rfl (by omega)) rfl, 8 * 2 ^ i + i, rfl, (by show _ < 2048; omega), ?_⟩
    exact ⟨congrArg (fun z => some (Sum.inl z)) ((add_n (way_n hW hv hc1) hcell).trans (congrArg nI (by unfold ovN rwy; rw [hr0, if_neg (show ¬ v = chF t i from fun q => h8 q.symm)]; omega))), rfl⟩
  · refine ⟨_, _, cv_spot (b_shl1 rfl rfl (by omega)) rfl, 8 * 2 ^ i + i, rfl, (by show _ < 2048; omega), ?_⟩
    exact ⟨congrArg (fun z => some (Sum.inl z)) ((add_n rfl hcell).trans (congrArg nI (by unfold ovN rwy; rw [hr0, if_pos (show v = chF t i from h8.symm)]; omega))), rfl⟩
/-- the first of the best posts to begin with -/
def FB (f : Nat → Nat) (m j : Nat) (b : Int32) : Prop := (m = 1000000 ∧ b = -1) ∨ ∃ k, k < j ∧ b = nI k ∧ f k = m ∧ m < 1000000 ∧ ∀ i, i < k → m < f i
theorem cv_fob_l {t : Sg} {D : Dy} {Z : Zt} {σ : Sg} {n : Nat} (hC : Cg false σ t D 60 200 Z σ) (hT : WN t) (hW : WT t) (hG : WG t n σ) (hn : n ≤ 8) (hch : ∀ j, j < n → chF t j < nP t) (hTB : TBc t D n 1 σ) {v : Nat} (hv : v < nP t) (hvD : D 0 2 = nI v) : ∀ (q j m : Nat) (b : Int32) (o : Option AV), j + q = n → m = mnL (ovN t D n) 0 1000000 j → FB (ovN t D n) m j b → G false 182 (fun r' s' => ∃ b, FB (ovN t D n) (mnL (ovN t D n) 0 1000000 n) n b ∧ r' = some (.inl b) ∧ s' = σ) 6 [some (.inr (.inr (51, false, 0))), some (.inr (.inr (1, false, 0))), some (.inr (.inr (44, false, 0))), some (.inl b), some (.inl (nI m)), some (.inl (nI j)), o] [] σ := by
  have hP := hT.P
  have hpn : 2 ^ n ≤ 256 := Nat.pow_le_pow_right (by decide) hn
  have hr0 : hr t D n n = v := by unfold hr; rw [if_pos rfl, hvD, nN_nI (by omega)]
  intro q
  induction q with
  | zero =>
    intro j m b o hj hm hb
    have hm2 : m ≤ 1000000 := by rw [hm]; exact mnL_le _
    refine G_wp 80 [6] rfl ?_
    refine br_ge rfl hG.1 (by omega) (by omega) (fun h9 => ?_) (fun h9 => ?_)
    · have ej : j = n := by omega
      subst ej
      exact ⟨b, by rw [← hm]; exact hb, rfl, rfl⟩
    · exact absurd h9 (by omega)
  | succ q ih =>
    intro j m b o hj hm hb
    have hm2 : m ≤ 1000000 := by rw [hm]; exact mnL_le _
    refine G_wp 80 [6] rfl ?_
    refine br_ge rfl hG.1 (by omega) (by omega) (fun h9 => ?_) (fun h9 => ?_)
    · exact absurd h9 (by omega)
    · have hle := ovN_le (D := D) (n := n) (i := j) hW ⟨v, hv, hvD⟩ (hch j (by omega)) (or_lt (Nat.lt_of_lt_of_le (by decide) Nat.one_le_two_pow) (by omega)) hP
      refine ⟨_, _, cv_over hC hT hW hG hn hch hTB hv hvD (i := j) (by omega), _, rfl, ?_⟩
      refine br_ge rfl rfl (by omega) (by omega) (fun h18 => ?_) (fun h18 => ?_)
      · refine ⟨nI (j + 1), nI_add _ _, ?_⟩
        exact ih (j + 1) m b _ (by omega) (by rw [mnL_S, ← hm, if_neg (fun q => absurd q.2 (by omega))]) (hb.elim (fun q => Or.inl q) (fun ⟨k, q1, q2⟩ => Or.inr ⟨k, by omega, q2⟩))
      · refine ⟨_, rfl, _, rfl, nI (j + 1), nI_add _ _, ?_⟩
        exact ih (j + 1) (ovN t D n j) (nI j) _ (by omega) (by rw [mnL_S, ← hm, if_pos ⟨Nat.zero_testBit _, by omega⟩]) (Or.inr ⟨j, by omega, rfl, rfl, by omega, fun i hi => by have := mnL_min (f := ovN t D n) (set := 0) (b0 := 1000000) hi (Nat.zero_testBit _); omega⟩)
theorem cv_fob {t : Sg} {D : Dy} {Z : Zt} {σ : Sg} {n : Nat} (hC : Cg false σ t D 60 200 Z σ) (hT : WN t) (hW : WT t) (hG : WG t n σ) (hn : n ≤ 8) (hch : ∀ j, j < n → chF t j < nP t) (hTB : TBc t D n 1 σ) {v : Nat} (hv : v < nP t) (hvD : D 0 2 = nI v) : ∃ b, Ev false 182 [.inr (.inr (51, false, 0)), .inr (.inr (1, false, 0)), .inr (.inr (44, false, 0))] σ (some (.inl b)) σ ∧ FB (ovN t D n) (mnL (ovN t D n) 0 1000000 n) n b := by
  have h : ∃ r s', (∃ b, FB (ovN t D n) (mnL (ovN t D n) 0 1000000 n) n b ∧ r = some (.inl b) ∧ s' = σ) ∧ Ev false 182 [.inr (.inr (51, false, 0)), .inr (.inr (1, false, 0)), .inr (.inr (44, false, 0))] σ r s' := by
    refine EvP_wp 40 [6] rfl rfl ?_
    refine ⟨_, rfl, _, rfl, _, rfl, ?_⟩
    exact cv_fob_l hC hT hW hG hn hch hTB hv hvD n 0 1000000 (-1) none (by omega) rfl (Or.inl ⟨rfl, rfl⟩)
  obtain ⟨r, s', ⟨b, h1, h2, h3⟩, h5⟩ := h
  subst h2 h3
  exact ⟨b, h5, h1⟩
/-- what the best round takes, as the class says it -/
noncomputable def lwR (t : Sg) (D : Dy) (n : Nat) : Int32 := ifC (cs t D n 0 n < 1000000) (nI (cs t D n 0 n)) (-1)
theorem FB_n {f : Nat → Nat} {m n : Nat} {b : Int32} (hn : n ≤ 8) (h : FB f m n b) (hb : ¬ b = -1) : ∃ k, k < n ∧ b = nI k ∧ f k = m ∧ m < 1000000 ∧ ∀ i, i < k → m < f i := h.elim (fun q => absurd q.2 hb) id
theorem FB_m {f : Nat → Nat} {m n : Nat} (hn : n ≤ 8) (h : FB f m n (-1)) : m = 1000000 := h.elim (fun q => q.1) (fun ⟨k, q1, q2, _⟩ => absurd q2.symm (nI_m1 (by omega)))
theorem cv_lw_e {t : Sg} {D : Dy} {Z : Zt} {σ : Sg} {n : Nat} {x3 : Int32} {o4 o5 : Option AV} (hK : CK t D Z σ) (hT : WN t) (hW : WT t) (hG : WG t n σ) (hn : n ≤ 8) (hn0 : 0 < n) (hch : ∀ j, j < n → chF t j < nP t) (hTB : TBc t D n 1 σ) {v : Nat} (hv : v < nP t) (hvD : D 0 2 = nI v) (h3 : Is (D 0 3) 12) : G false 200 (fun r' s' => r' = some (.inl (lwR t D n)) ∧ CK t D Z s' ∧ WG t n s' ∧ TBc t D n 1 s') 59 [some (.inr (.inr (51, false, 0))), some (.inr (.inr (1, false, 0))), some (.inr (.inr (44, false, 0))), some (.inl x3), o4, o5] [] σ := by
  have hC := hK.1.1
  refine G_wp 80 [59] rfl ?_
  obtain ⟨b, ev3, hb⟩ := cv_fob hC hT hW hG hn hch hTB hv hvD
  refine ⟨_, _, ev3, _, rfl, ?_⟩
  refine ⟨fun h66 => ?_, fun h66 => ?_⟩
  · obtain ⟨k, k1, k2, k3, k4, k5⟩ := FB_n hn hb h66
    have ev4 := cv_over hC hT hW hG hn hch hTB hv hvD (i := k) k1
    rw [← k2] at ev4
    refine ⟨_, _, ev4, ?_⟩
    have ec := cs_0 (t := t) (D := D) (n := n) h3 (by omega)
    exact ⟨by unfold lwR; rw [ec, ifC_t (by omega), ← k3], hK, hG, hTB⟩
  · have ec := cs_0 (t := t) (D := D) (n := n) h3 (by omega)
    have em := FB_m hn (by rw [h66] at hb; exact hb)
    exact ⟨by unfold lwR; rw [ifC_f (by rw [ec]; omega)], hK, hG, hTB⟩
theorem cv_lw {t : Sg} {D : Dy} {Z : Zt} {σ : Sg} (hK : CK t D Z σ) (hT : WN t) (hW : WT t) (h8 : cn t 12 ≤ 8) (hch : ∀ j, j < cn t 12 → chF t j < nP t) (hV : ∃ p, (p = 0 ∨ p < nP t) ∧ D 0 2 = nI p) (h3 : Is (D 0 3) 12) : ∃ σ', Ev false 200 [.inr (.inr (51, false, 0)), .inr (.inr (1, false, 0)), .inr (.inr (44, false, 0))] σ (some (.inl (lwR t D (cn t 12)))) σ' ∧ CK t D Z σ' ∧ WG t (cn t 12) σ' ∧ TBc t D (cn t 12) 1 σ' := by
  have hv1 : 0 < cn t 12 → ∃ v, v < nP t ∧ D 0 2 = nI v := fun h0 => by
    obtain ⟨p, q1, q2⟩ := hV
    have := hch 0 h0
    exact ⟨p, by omega, q2⟩
  refine EvQ_wp 80 [14] rfl rfl ?_
  obtain ⟨σ1, ev1, hK, hG⟩ := cv_gather hK h8
  refine ⟨_, _, ev1, ?_⟩
  refine br_ne hG.1 rfl (by omega) (by omega) (fun h4 => ?_) (fun h4 => ?_)
  · refine ⟨nI (2 ^ cn t 12), (b_shl1 rfl hG.1 (by omega)), _, rfl, ?_⟩
    have hp1 := Nat.one_le_two_pow (n := cn t 12)
    refine cv_lo_l hT hW h8 (Nat.le_refl _) hch (fun σ2 hK2 hG2 hL2 o => ?_) (2 ^ cn t 12) 0 σ1 (by omega) hK hG (fun s hs => absurd hs (Nat.not_lt_zero _))
    refine cv_ta_o hT hW h8 (Nat.le_refl _) hch (fun σ3 o3 hK3 hG3 hT3 => ?_) (2 ^ cn t 12 - 1) σ2 o (by omega) hK2 hG2 hL2 (fun set last q1 q2 _ _ => absurd q1 (by omega))
    obtain ⟨v, hv, hvD⟩ := hv1 (by omega)
    exact cv_lw_e hK3 hT hW hG3 h8 (by omega) hch hT3 hv hvD h3
  · refine ⟨?_, hK, hG, fun set last q1 q2 q3 _ => absurd q3 (by omega)⟩
    unfold lwR
    rw [show cn t 12 = 0 by omega, cs_00 h3, ifC_t (by decide)]
