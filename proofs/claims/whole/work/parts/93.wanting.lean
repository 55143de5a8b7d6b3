/-! Rounds: who wants, what the van has. -/
def WG (t : Sg) (n : Nat) (σ : Sg) : Prop := σ 51 false 0 2 = nI n ∧ ∀ j, j < n → σ 53 false 0 j = nI (chF t j)
def LDw (t : Sg) (D : Dy) (n m : Nat) (σ : Sg) : Prop := ∀ s, s < m → σ 54 false 0 s = ldS t D s n
def TBc (t : Sg) (D : Dy) (n s : Nat) (σ : Sg) : Prop := ∀ set last, s ≤ set → set < 2 ^ n → last < n → set.testBit last = true → σ 55 false 0 (8 * set + last) = nI (cs t D n set last)
theorem cn_1 {t : Sg} {p : Nat} (h : ¬ t 89 false 0 p = nI 0) : cn t (p + 1) = cn t p + 1 := by
  rw [cn_S, decide_eq_false h]
  rfl
theorem cn_0 {t : Sg} {p : Nat} (h : t 89 false 0 p = nI 0) : cn t (p + 1) = cn t p := by rw [cn_S, decide_eq_true h, if_neg (by decide), Nat.add_zero]
theorem cv_cwn_l {t : Sg} {D : Dy} {Z : Zt} {σ : Sg} (hC : Cg false σ t D 60 200 Z σ) : ∀ (n j c : Nat) (o : Option AV), j + n = 12 → c = cn t j → G false 15 (fun r' s' => r' = some (.inl (nI (cn t 12))) ∧ s' = σ) 10 [some (.inr (.inr (51, false, 0))), some (.inl (nI c)), some (.inr (.inr (52, false, 0))), some (.inl (nI 12)), some (.inl (nI j)), o] [] σ := by
  intro n
  induction n with
  | zero =>
    intro j c o hj hc
    refine G_wp 60 [10] rfl ?_
    refine br_ge rfl rfl (by omega) (by omega) (fun h12 => ?_) (fun h12 => ?_)
    · exact ⟨by rw [hc, show 12 = j by omega], rfl⟩
    · exact absurd h12 (by omega)
  | succ n ih =>
    intro j c o hj hc
    refine G_wp 60 [10] rfl ?_
    refine br_ge rfl rfl (by omega) (by omega) (fun h12 => ?_) (fun h12 => ?_)
    · exact absurd h12 (by omega)
    · refine ⟨j, rfl, (by show _ < 12; omega), (t 89 false 0 j), (hC.tr.c52 j (by omega)), ?_⟩
      refine ⟨fun h18 => ?_, fun h18 => ?_⟩
      · refine ⟨nI (j + 1), nI_add _ _, ?_⟩
        exact ih (j + 1) c _ (by omega) (by rw [cn_0 h18, hc])
      · refine ⟨nI (c + 1), nI_add _ _, nI (j + 1), nI_add _ _, ?_⟩
        exact ih (j + 1) (c + 1) _ (by omega) (by rw [cn_1 h18, hc])
theorem cv_cwn {t : Sg} {D : Dy} {Z : Zt} {σ : Sg} (hC : Cg false σ t D 60 200 Z σ) : Ev false 15 [.inr (.inr (51, false, 0))] σ (some (.inl (nI (cn t 12)))) σ := by
  refine Ev_wp 40 [10] rfl rfl ?_
  refine ⟨_, rfl, _, rfl, _, rfl, ?_⟩
  exact cv_cwn_l hC 12 0 0 none (by omega) rfl
theorem cv_ga_l {t : Sg} {D : Dy} {Z : Zt} (h8 : cn t 12 ≤ 8) : ∀ (n p : Nat) (σ : Sg), p + n = 12 → CK t D Z σ → WG t (cn t p) σ → G false 16 (fun r' s' => r' = none ∧ CK t D Z s' ∧ WG t (cn t 12) s') 5 [some (.inr (.inr (51, false, 0))), some (.inl (nI p))] [] σ := by
  intro n
  induction n with
  | zero =>
    intro p σ hj hK hG
    have hC := hK.1.1
    have hle : cn t p ≤ cn t 12 := cn_mono t (by omega)
    refine G_wp 60 [5] rfl ?_
    refine br_ge rfl rfl (by omega) (by omega) (fun h7 => ?_) (fun h7 => ?_)
    · exact ⟨rfl, hK, by rw [show (12 : Nat) = p by omega]; exact hG⟩
    · exact absurd h7 (by omega)
  | succ n ih =>
    intro p σ hj hK hG
    have hC := hK.1.1
    have hle : cn t p ≤ cn t 12 := cn_mono t (by omega)
    refine G_wp 60 [5] rfl ?_
    refine br_ge rfl rfl (by omega) (by omega) (fun h7 => ?_) (fun h7 => ?_)
    · exact absurd h7 (by omega)
    · refine br_ge hG.1 rfl (by omega) (by omega) (fun h11 => ?_) (fun h11 => ?_)
      · exact ⟨rfl, hK, by rw [show cn t 12 = cn t p by omega]; exact hG⟩
      · refine ⟨p, rfl, (by show _ < 12; omega), ?_⟩
        refine ⟨fun h16 => ?_, fun h16 => ?_⟩
        · rw [(hC.tr.c52 p (by omega))] at h16
          refine ⟨cn t p, hG.1, (by show _ < 8; omega), _, rfl, ?_⟩
          replace hK := CK_u hK (k := 53) (r := 0) (i := cn t p) (d := false) (nI (p)) (Or.inl rfl) (by omega)
          refine ⟨nI ((cn t p) + 1), (add_n hG.1 rfl), ?_⟩
          replace hK := CK_u hK (k := 51) (r := 0) (i := 2) (d := false) (nI ((cn t p) + 1)) (Or.inl rfl) (by omega)
          refine ⟨nI (p + 1), nI_add _ _, ?_⟩
          refine ih (p + 1) _ (by omega) hK ?_
          rw [cn_1 h16]
          refine ⟨up4_s _ _ _ _ _ _, fun j hj => ?_⟩
          by_cases e : j = cn t p
          · subst e
            rw [u4n (by omega), up4_s, chF_at (by omega) h16]
          · rw [u4n (by omega), u4n (by omega)]
            exact hG.2 j (by omega)
        · rw [(hC.tr.c52 p (by omega))] at h16
          refine ⟨nI (p + 1), nI_add _ _, ?_⟩
          exact ih (p + 1) _ (by omega) hK (by rw [cn_0 h16]; exact hG)
theorem cv_gather {t : Sg} {D : Dy} {Z : Zt} {σ : Sg} (hK : CK t D Z σ) (h8 : cn t 12 ≤ 8) : ∃ σ', Ev false 16 [.inr (.inr (51, false, 0))] σ none σ' ∧ CK t D Z σ' ∧ WG t (cn t 12) σ' := by
  refine EvQ_wp 40 [5] rfl rfl ?_
  refine ⟨_, rfl, ?_⟩
  replace hK := CK_u hK (k := 51) (r := 0) (i := 2) (d := false) (nI (0)) (Or.inl rfl) (by omega)
  refine ⟨_, rfl, ?_⟩
  exact cv_ga_l h8 12 0 _ (by omega) hK ⟨up4_s _ _ _ _ _ _, fun j hj => absurd hj (Nat.not_lt_zero _)⟩
theorem cv_sw_l {t : Sg} {D : Dy} {Z : Zt} {σ : Sg} {n : Nat} (hC : Cg false σ t D 60 200 Z σ) (hG : WG t n σ) (hn : n ≤ 8) (hch : ∀ j, j < n → chF t j < 12) {set : Nat} (hs : set < 256) : ∀ (m i : Nat) (c : Int32), i + m = n → D 0 3 + c = ldS t D set i → G false 17 (fun r' s' => ∃ c, D 0 3 + c = ldS t D set n ∧ r' = some (.inl c) ∧ s' = σ) 4 [some (.inr (.inr (51, false, 0))), some (.inl (nI set)), some (.inl c), some (.inl (nI i))] [] σ := by
  intro m
  induction m with
  | zero =>
    intro i c hj hc
    refine G_wp 60 [4] rfl ?_
    refine br_ge rfl hG.1 (by omega) (by omega) (fun h7 => ?_) (fun h7 => ?_)
    · exact ⟨c, by rw [hc, show i = n by omega], rfl, rfl⟩
    · exact absurd h7 (by omega)
  | succ m ih =>
    intro i c hj hc
    refine G_wp 60 [4] rfl ?_
    refine br_ge rfl hG.1 (by omega) (by omega) (fun h7 => ?_) (fun h7 => ?_)
    · exact absurd h7 (by omega)
    · refine br_eq (b_and1 (b_shr rfl rfl (by omega) (by omega)) (Nat.lt_of_le_of_lt (Nat.div_le_self _ _) (by omega))) rfl (by omega) (by omega) (fun h13 => ?_) (fun h13 => ?_)
      · refine ⟨nI (i + 1), nI_add _ _, ?_⟩
        exact ih (i + 1) c (by omega) (by rw [ldS_S, if_neg (by rw [(tb_0 set i).mpr (by omega)]; decide), hc]; exact (Int32.add_zero _).symm)
      · refine ⟨i, rfl, (by show _ < 8; omega), chF t i, (hG.2 i (by omega)), (hch i (by omega)), (c + (t 89 false 0 (chF t i))), (congr (congrArg HAdd.hAdd rfl) (hC.tr.c52 (chF t i) (hch i (by omega)))), nI (i + 1), nI_add _ _, ?_⟩
        exact ih (i + 1) _ (by omega) (by rw [ldS_S, if_pos ((tb_1 set i).mpr (by omega)), ← hc, Int32.add_assoc])
theorem cv_sw {t : Sg} {D : Dy} {Z : Zt} {σ : Sg} {n : Nat} (hC : Cg false σ t D 60 200 Z σ) (hG : WG t n σ) (hn : n ≤ 8) (hch : ∀ j, j < n → chF t j < 12) {set : Nat} (hs : set < 256) : ∃ c, Ev false 17 [.inr (.inr (51, false, 0)), .inl (nI set)] σ (some (.inl c)) σ ∧ D 0 3 + c = ldS t D set n := by
  have h : ∃ r s', (∃ c, D 0 3 + c = ldS t D set n ∧ r = some (.inl c) ∧ s' = σ) ∧ Ev false 17 [.inr (.inr (51, false, 0)), .inl (nI set)] σ r s' := by
    refine EvP_wp 40 [4] rfl rfl ?_
    refine ⟨_, rfl, _, rfl, ?_⟩
    exact cv_sw_l hC hG hn hch hs n 0 (nI 0) (by omega) (Int32.add_zero _)
  obtain ⟨r, s', ⟨c, h1, h2, h3⟩, h5⟩ := h
  subst h2 h3
  exact ⟨c, h5, h1⟩
