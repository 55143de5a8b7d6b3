/-! Sites: the class's best set. -/
theorem bst_0 {t : Sg} {D : Dy} {k : Nat} (hk : 1 ≤ k) : bst t D k 1 = (none, nI 0) := by
  have h0 : ∀ n, popN 0 n = 0 := fun n => by
    induction n with
    | zero => rfl
    | succ n ih => rw [popN_S, ih, Nat.zero_div]
  rw [bst_S, if_neg (fun q => absurd (q.1.symm.trans (h0 _)) (by omega))]
  rfl
/-- a set that is found is its sum -/
theorem bst_v {t : Sg} {D : Dy} {k : Nat} : ∀ {s m : Nat}, (bst t D k s).1 = some m → (bst t D k s).2 = smW t D m (nWi t)
  | 0, _, h => by cases h
  | s + 1, m, h => by
    rw [bst_S] at h ⊢
    split at h
    next c => rw [if_pos c]; cases h; rfl
    next c => rw [if_neg c]; exact bst_v h
theorem bst_ge {t : Sg} {D : Dy} {k : Nat} : ∀ {s m : Nat}, 1 ≤ k → (bst t D k s).1 = some m → 1 ≤ m
  | 0, _, _, h => by cases h
  | s + 1, m, hk, h => by
    by_cases e : s = 0
    · subst e
      rw [bst_0 hk] at h
      cases h
    · rw [bst_S] at h
      split at h
      · cases h; omega
      · exact bst_ge hk h
/-- once found, always found -/
theorem bst_in {t : Sg} {D : Dy} {k s0 : Nat} (h0 : popN s0 (nSi t) = k) : ∀ s, s0 < s → ¬ (bst t D k s).1 = none
  | s + 1, h => by
    rw [bst_S]
    by_cases e : s0 = s
    · subst e
      by_cases c : (bst t D k s0).1 = none
      · rw [if_pos ⟨h0, Or.inl c⟩]
        exact fun q => by cases q
      · split
        · exact fun q => by cases q
        · exact c
    · have ih := bst_in (t := t) (D := D) h0 s (by omega)
      split
      · exact fun q => by cases q
      · exact ih
theorem pop_k : ∀ n, n < 13 → ∀ k, k < 5 → k ≤ n → popN (2 ^ k - 1) n = k := by decide
def bNo (b : Nat) : Option Nat := if b = 0 then none else some b
theorem cv_bs_l {t : Sg} {D : Dy} {Z : Zt} {σ : Sg} (hC : Cg false σ t D 60 200 Z σ) (hS : SI2 t) (hF : (∀ v, v < nWi t → σ 65 false 0 v = nrP t D v (nP t))) {k : Nat} {x : Int32} (hx : x = nI k) (hk : 1 ≤ k) (hk4 : k ≤ 4) : ∀ (n s b : Nat) (c : Int32) (o : Option AV), s + n = 2 ^ nSi t → 1 ≤ s → b < s → (bst t D k s).1 = bNo b → c = (bst t D k s).2 → G false 184 (fun r' s' => ∃ b, (bst t D k (2 ^ nSi t)).1 = bNo b ∧ b < 2 ^ nSi t ∧ r' = some (.inl (nI b)) ∧ s' = σ) 6 [some (.inr (.inr (59, false, 0))), some (.inl x), some (.inl (nI b)), some (.inl c), some (.inl (nI s)), o] [] σ := by
  have eS : σ 59 false 0 0 = nI (nSi t) := hC.tr.c59_0.trans hS.1.1
  have hS2 : nSi t ≤ 12 := hS.1.2
  have hpw : 2 ^ nSi t ≤ 4096 := Nat.pow_le_pow_right (by decide) hS2
  intro n
  induction n with
  | zero =>
    intro s b c o hj h1 hbs hb hc
    refine G_wp 80 [6] rfl ?_
    refine br_ge rfl (b_shl1 rfl eS (by omega)) (by omega) (by omega) (fun h11 => ?_) (fun h11 => ?_)
    · exact ⟨b, by rw [show s = 2 ^ nSi t by omega] at hb; exact hb, by omega, rfl, rfl⟩
    · exact absurd h11 (by omega)
  | succ n ih =>
    intro s b c o hj h1 hbs hb hc
    refine G_wp 80 [6] rfl ?_
    refine br_ge rfl (b_shl1 rfl eS (by omega)) (by omega) (by omega) (fun h11 => ?_) (fun h11 => ?_)
    · exact absurd h11 (by omega)
    · have hpl := popN_le s (nSi t)
      refine ⟨_, _, cv_bc (n := nSi t) (by omega) hS2, ?_⟩
      refine br_eq rfl hx (by omega) (by omega) (fun h15 => ?_) (fun h15 => ?_)
      · refine ⟨_, _, cv_sf hC hS hF (set := s) (by omega), _, rfl, ?_⟩
        refine br_eq rfl rfl (by omega) (by omega) (fun h22 => ?_) (fun h22 => ?_)
        · refine ⟨_, rfl, _, rfl, nI (s + 1), nI_add _ _, ?_⟩
          have e : bst t D k (s + 1) = (some s, smW t D s (nWi t)) := by rw [bst_S, if_pos ⟨by omega, Or.inl (by rw [hb]; unfold bNo; rw [if_pos h22])⟩]
          exact ih (s + 1) s _ _ (by omega) (by omega) (by omega) (by rw [e]; unfold bNo; rw [if_neg (by omega)]) (by rw [e])
        · refine ⟨fun h25 => ?_, fun h25 => ?_⟩
          · refine ⟨nI (s + 1), nI_add _ _, ?_⟩
            have e : bst t D k (s + 1) = bst t D k s := by
              rw [bst_S, if_neg (fun q => ?_)]
              rcases q.2 with q2 | q2
              · rw [hb] at q2
                unfold bNo at q2
                rw [if_neg h22] at q2
                cases q2
              · rw [← hc] at q2
                exact absurd q2 (Int32.not_lt.mpr h25)
            exact ih (s + 1) b c _ (by omega) (by omega) (by omega) (by rw [e]; exact hb) (by rw [e]; exact hc)
          · refine ⟨_, rfl, _, rfl, nI (s + 1), nI_add _ _, ?_⟩
            have e : bst t D k (s + 1) = (some s, smW t D s (nWi t)) := by rw [bst_S, if_pos ⟨by omega, Or.inr (by rw [← hc]; exact Int32.not_le.mp h25)⟩]
            exact ih (s + 1) s _ _ (by omega) (by omega) (by omega) (by rw [e]; unfold bNo; rw [if_neg (by omega)]) (by rw [e])
      · refine ⟨nI (s + 1), nI_add _ _, ?_⟩
        have e : bst t D k (s + 1) = bst t D k s := by rw [bst_S, if_neg (fun q => h15 q.1)]
        exact ih (s + 1) b c _ (by omega) (by omega) (by omega) (by rw [e]; exact hb) (by rw [e]; exact hc)
theorem cv_bs {t : Sg} {D : Dy} {Z : Zt} {σ : Sg} (hC : Cg false σ t D 60 200 Z σ) (hS : SI2 t) (hF : (∀ v, v < nWi t → σ 65 false 0 v = nrP t D v (nP t))) {k : Nat} {x : Int32} (hx : x = nI k) (hk : 1 ≤ k) (hk4 : k ≤ 4) : ∃ b, Ev false 184 [.inr (.inr (59, false, 0)), .inl x] σ (some (.inl (nI b))) σ ∧ (bst t D k (2 ^ nSi t)).1 = bNo b ∧ b < 2 ^ nSi t := by
  have h : ∃ r s', (∃ b, (bst t D k (2 ^ nSi t)).1 = bNo b ∧ b < 2 ^ nSi t ∧ r = some (.inl (nI b)) ∧ s' = σ) ∧ Ev false 184 [.inr (.inr (59, false, 0)), .inl x] σ r s' := by
    refine EvP_wp 40 [6] rfl rfl ?_
    refine ⟨_, rfl, _, rfl, _, rfl, ?_⟩
    exact cv_bs_l hC hS hF hx hk hk4 (2 ^ nSi t - 1) 1 0 (nI 0) none (by have := Nat.one_le_two_pow (n := nSi t); omega) (by omega) (by omega) (by rw [bst_0 hk]; rfl) (by rw [bst_0 hk])
  obtain ⟨r, s', ⟨b, h1, h2, h3, h4⟩, h5⟩ := h
  subst h3 h4
  exact ⟨b, h5, h1, h2⟩
theorem si_le {t : Sg} {x : Int32} (h1 : x ≤ nI 4) (h2 : x ≤ t 69 false 0 31) (hS : SI2 t) (hS2 : nSi t ≤ 12) : x ≤ nI (min 4 (nSi t)) := by
  rw [show t 69 false 0 31 = nI (nSi t) from hS.1.1, Int32.le_iff_toInt_le, nI_toInt (by omega)] at h2
  rw [Int32.le_iff_toInt_le, nI_toInt (by omega)] at h1
  rw [Int32.le_iff_toInt_le, nI_toInt (by omega)]
  omega
theorem si_4 {t : Sg} {x : Int32} (h : x ≤ nI (min 4 (nSi t))) (hS2 : nSi t ≤ 12) : x ≤ nI 4 := by
  rw [Int32.le_iff_toInt_le, nI_toInt (by omega)] at h ⊢
  omega
theorem si_n {t : Sg} {x : Int32} (h : x ≤ nI (min 4 (nSi t))) (hS : SI2 t) (hS2 : nSi t ≤ 12) : x ≤ t 69 false 0 31 := by
  rw [show t 69 false 0 31 = nI (nSi t) from hS.1.1]
  rw [Int32.le_iff_toInt_le, nI_toInt (by omega)] at h ⊢
  omega
theorem cv_sites {t : Sg} {D : Dy} {Z : Zt} {σ : Sg} (hK : CK t D Z σ) (hT : WN t) (hS : SI2 t) {x w : Int32} : ∃ σ', Ev false 210 [.inr (.inr (0, false, 0)), .inl (x), .inl (w)] σ (some (.inl (sitR t D x w))) σ' ∧ CK t D Z σ' := by
  have hC := hK.1.1
  have hP := hT.P
  have hB := hT.B
  have hR := hT.R
  have eS : σ 59 false 0 0 = nI (nSi t) := hC.tr.c59_0.trans hS.1.1
  have hS2 : nSi t ≤ 12 := hS.1.2
  refine EvQ_wp 61 [] rfl rfl ?_
  refine ⟨_, _, cv_in3 (show mMin (nI 4) (σ 59 false 0 0) = nI (min 4 (nSi t)) by rw [eS]; exact mMin_n (by omega) (by omega)), ?_⟩
  refine brd_eq (fun h8 => ?_) (fun h8 => ?_)
  · exact ⟨by unfold sitR; rw [ifC_f (fun q => h8 ⟨q.1.1, si_le q.1.2 q.2.1 hS hS2⟩)], hK⟩
  · refine ⟨_, _, cv_in, ?_⟩
    refine brd_ne (fun h13 => ?_) (fun h13 => ?_)
    · have hx := inI_n (by omega) (by omega) h8
      obtain ⟨σ1, ev1, hK1, hF⟩ := cv_mo hK hT hS
      obtain ⟨b, ev2, hb, hb2⟩ := cv_bs hK1.1.1 hS hF hx.1 hx.2.1 (by omega)
      have hpw : 2 ^ nSi t ≤ 4096 := Nat.pow_le_pow_right (by decide) hS2
      have hkp : 2 ^ nN x ≤ 2 ^ nSi t := Nat.pow_le_pow_right (by decide) (by omega)
      have hk1 := Nat.one_le_two_pow (n := nN x)
      have hns := bst_in (t := t) (D := D) (pop_k (nSi t) (by omega) (nN x) (by omega) (by omega)) (2 ^ nSi t) (by omega)
      have hb0 : ¬ b = 0 := fun q => hns (by rw [hb, q]; rfl)
      have hbs : (bst t D (nN x) (2 ^ nSi t)).1 = some b := by rw [hb]; unfold bNo; rw [if_neg hb0]
      refine ⟨_, _, ev1, _, _, ev2, _, rfl, ?_⟩
      refine ⟨fun h30 => ?_, fun h30 => ?_⟩
      · refine ⟨_, _, cv_sf hK1.1.1 hS hF (set := b) (by omega), ?_⟩
        exact ⟨by unfold sitR; rw [ifC_t ⟨⟨h8.1, si_4 h8.2 hS2⟩, si_n h8.2 hS hS2, h13⟩, ifC_f h30, bst_v hbs], hK1⟩
      · exact ⟨by unfold sitR; rw [ifC_t ⟨⟨h8.1, si_4 h8.2 hS2⟩, si_n h8.2 hS hS2, h13⟩, ifC_t h30, hbs]; rfl, hK1⟩
    · exact ⟨by unfold sitR; rw [ifC_f (fun q => h13 q.2.2)], hK⟩
