/-! Rounds: the tables. -/
theorem WG_u {t : Sg} {n k i : Nat} {v : Int32} {σ : Sg} (h : WG t n σ) (hk : ¬ k = 51 ∧ ¬ k = 53) : WG t n (up4 σ k false 0 i v) := ⟨by rw [u4n (by omega)]; exact h.1, fun j hj => by rw [u4n (by omega)]; exact h.2 j hj⟩
theorem LD_u {t : Sg} {D : Dy} {n m k i : Nat} {v : Int32} {σ : Sg} (h : LDw t D n m σ) (hk : ¬ k = 54) : LDw t D n m (up4 σ k false 0 i v) := fun s hs => by rw [u4n (by omega)]; exact h s hs
theorem TB_u {t : Sg} {D : Dy} {n s set last : Nat} {v : Int32} {σ : Sg} (h : TBc t D n s σ) (hn : n ≤ 8) (hs : set < s) (hl : last < n) : TBc t D n s (up4 σ 55 false 0 (8 * set + last) v) := fun s2 l2 h1 h2 h3 h4 => by
  rw [u4n (by omega)]
  exact h s2 l2 h1 h2 h3 h4
theorem cv_lo_l {t : Sg} {D : Dy} {Z : Zt} {n : Nat} {P : Option AV → Sg → Prop} (hT : WN t) (hW : WT t) (hn : n ≤ 8) (hn12 : n ≤ cn t 12) (hch : ∀ j, j < n → chF t j < nP t) (hQ : ∀ σ, CK t D Z σ → WG t n σ → LDw t D n (2 ^ n) σ → ∀ o, G false 200 P 33 [some (.inr (.inr (51, false, 0))), some (.inr (.inr (1, false, 0))), some (.inr (.inr (44, false, 0))), some (.inl (nI (2 ^ n))), some (.inl (nI (2 ^ n - 1))), o] [] σ) : ∀ (q s : Nat) (σ : Sg), s + q = 2 ^ n → CK t D Z σ → WG t n σ → LDw t D n s σ → G false 200 P 14 [some (.inr (.inr (51, false, 0))), some (.inr (.inr (1, false, 0))), some (.inr (.inr (44, false, 0))), some (.inl (nI (2 ^ n))), some (.inl (nI s)), none] [] σ := by
  have hP := hT.P
  have hpn : 2 ^ n ≤ 256 := Nat.pow_le_pow_right (by decide) hn
  intro q
  induction q with
  | zero =>
    intro s σ hj hK hG hL
    have hC := hK.1.1
    refine G_wp 80 [14, 33] rfl ?_
    refine br_ge rfl rfl (by omega) (by omega) (fun h16 => ?_) (fun h16 => ?_)
    · refine ⟨nI ((2 ^ n) - 1), (sub_n rfl rfl (by have := Nat.one_le_two_pow (n := n); omega)), ?_⟩
      rw [show s = 2 ^ n by omega] at hL
      exact hQ σ hK hG hL _
    · exact absurd h16 (by omega)
  | succ q ih =>
    intro s σ hj hK hG hL
    have hC := hK.1.1
    refine G_wp 80 [14, 33] rfl ?_
    refine br_ge rfl rfl (by omega) (by omega) (fun h16 => ?_) (fun h16 => ?_)
    · exact absurd h16 (by omega)
    · obtain ⟨c, ev, hc⟩ := cv_sw hC hG hn (fun j hj => Nat.lt_of_lt_of_le (hch j hj) hP) (set := s) (by omega)
      refine ⟨_, _, ev, s, rfl, (by show _ < 256; omega), ((D 0 3) + c), (congr (congrArg HAdd.hAdd hC.v.2.1) rfl), ?_⟩
      replace hK := CK_u hK (k := 54) (r := 0) (i := s) (d := false) ((D 0 3) + c) (Or.inl rfl) (by omega)
      refine ⟨nI (s + 1), nI_add _ _, ?_⟩
      refine ih (s + 1) _ (by omega) hK (WG_u hG (by omega)) (fun s2 h2 => ?_)
      by_cases e : s2 = s
      · subst e; rw [up4_s]; exact hc
      · rw [u4n (by omega)]; exact hL s2 (by omega)
theorem cv_ta_i {t : Sg} {D : Dy} {Z : Zt} {n : Nat} {P : Option AV → Sg → Prop} (hT : WN t) (hW : WT t) (hn : n ≤ 8) (hn12 : n ≤ cn t 12) (hch : ∀ j, j < n → chF t j < nP t) {s : Nat} (hs : s < 2 ^ n) (hQ : ∀ σ o, CK t D Z σ → WG t n σ → LDw t D n (2 ^ n) σ → TBc t D n s σ → G false 200 P 57 [some (.inr (.inr (51, false, 0))), some (.inr (.inr (1, false, 0))), some (.inr (.inr (44, false, 0))), some (.inl (nI (2 ^ n))), some (.inl (nI s)), o] [] σ) : ∀ (q l : Nat) (σ : Sg), l + q = n → CK t D Z σ → WG t n σ → LDw t D n (2 ^ n) σ → TBc t D n (s + 1) σ → (∀ l2, l2 < l → σ 55 false 0 (8 * s + l2) = nI (wfN t D n s l2)) → G false 200 P 37 [some (.inr (.inr (51, false, 0))), some (.inr (.inr (1, false, 0))), some (.inr (.inr (44, false, 0))), some (.inl (nI (2 ^ n))), some (.inl (nI s)), some (.inl (nI l))] [] σ := by
  have hP := hT.P
  have hpn : 2 ^ n ≤ 256 := Nat.pow_le_pow_right (by decide) hn
  intro q
  induction q with
  | zero =>
    intro l σ hj hK hG hL hTB hp
    refine G_wp 80 [37, 57] rfl ?_
    refine br_ge rfl hG.1 (by omega) (by omega) (fun h40 => ?_) (fun h40 => ?_)
    · exact hQ σ _ hK hG hL (fun s2 l2 h1 h2 h3 h4 => by
        by_cases e : s2 = s
        · subst e
          rw [hp l2 (by omega), wf_cs hn12 h2 h3 h4]
        · exact hTB s2 l2 (by omega) h2 h3 h4)
    · exact absurd h40 (by omega)
  | succ q ih =>
    intro l σ hj hK hG hL hTB hp
    have hC := hK.1.1
    refine G_wp 80 [37, 57] rfl ?_
    refine br_ge rfl hG.1 (by omega) (by omega) (fun h40 => ?_) (fun h40 => ?_)
    · exact absurd h40 (by omega)
    · refine ⟨_, _, cv_spot rfl rfl, _, _, cv_from hC hT hW hG hn hch hL hTB hs (last := l) (by omega) (sub_n rfl rfl (by have := Nat.one_le_two_pow (n := n); omega)), 8 * s + l, rfl, (by show _ < 2048; omega), _, rfl, ?_⟩
      replace hK := CK_u hK (k := 55) (r := 0) (i := 8 * s + l) (d := false) (nI (wfN t D n s l)) (Or.inl rfl) (by omega)
      refine ⟨nI (l + 1), nI_add _ _, ?_⟩
      refine ih (l + 1) _ (by omega) hK (WG_u hG (by omega)) (LD_u hL (by omega)) (TB_u hTB hn (by omega) (by omega)) (fun l2 h2 => ?_)
      by_cases e : l2 = l
      · subst e; rw [up4_s]
      · rw [u4n (by omega)]; exact hp l2 (by omega)
theorem cv_ta_o {t : Sg} {D : Dy} {Z : Zt} {n : Nat} {P : Option AV → Sg → Prop} (hT : WN t) (hW : WT t) (hn : n ≤ 8) (hn12 : n ≤ cn t 12) (hch : ∀ j, j < n → chF t j < nP t) (hQ : ∀ σ o, CK t D Z σ → WG t n σ → TBc t D n 1 σ → G false 200 P 59 [some (.inr (.inr (51, false, 0))), some (.inr (.inr (1, false, 0))), some (.inr (.inr (44, false, 0))), some (.inl (nI (2 ^ n))), some (.inl (nI 0)), o] [] σ) : ∀ (s : Nat) (σ : Sg) (o : Option AV), s < 2 ^ n → CK t D Z σ → WG t n σ → LDw t D n (2 ^ n) σ → TBc t D n (s + 1) σ → G false 200 P 33 [some (.inr (.inr (51, false, 0))), some (.inr (.inr (1, false, 0))), some (.inr (.inr (44, false, 0))), some (.inl (nI (2 ^ n))), some (.inl (nI s)), o] [] σ := by
  have hP := hT.P
  have hpn : 2 ^ n ≤ 256 := Nat.pow_le_pow_right (by decide) hn
  intro s
  induction s with
  | zero =>
    intro σ o hj hK hG hL hTB
    refine G_wp 80 [33, 37, 59] rfl ?_
    refine br_le rfl rfl (by omega) (by omega) (fun h34 => ?_) (fun h34 => ?_)
    · exact hQ σ _ hK hG hTB
    · exact absurd h34 (by omega)
  | succ s ih =>
    intro σ o hj hK hG hL hTB
    refine G_wp 80 [33, 37, 59] rfl ?_
    refine br_le rfl rfl (by omega) (by omega) (fun h34 => ?_) (fun h34 => ?_)
    · exact absurd h34 (by omega)
    · refine ⟨_, rfl, ?_⟩
      refine cv_ta_i hT hW hn hn12 hch (s := s + 1) (by omega) (fun σ2 o2 hK2 hG2 hL2 hT2 => ?_) n 0 σ (by omega) hK hG hL hTB (fun l2 h => absurd h (Nat.not_lt_zero _))
      refine G_wp 40 [33] rfl ?_
      refine ⟨nI s, nI_dec _, ?_⟩
      exact ih σ2 o2 (by omega) hK2 hG2 hL2 hT2
