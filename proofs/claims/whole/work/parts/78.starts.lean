/-! The class begins a day. -/
/-- a stretch of a row is nought -/
def flW (k : Nat) (d : Bool) (r n : Nat) (σ : Sg) : Sg := fun k' d' r' i' => if k' = k ∧ d' = d ∧ r' = r ∧ i' < n then nI 0 else σ k' d' r' i'
theorem flW_0 (k : Nat) (d : Bool) (r : Nat) (σ : Sg) : flW k d r 0 σ = σ := by
  funext k' d' r' i'
  unfold flW
  rw [if_neg (fun q => Nat.not_lt_zero _ q.2.2.2)]
theorem flW_S (k : Nat) (d : Bool) (r n : Nat) (σ : Sg) : up4 (flW k d r n σ) k d r n (nI 0) = flW k d r (n + 1) σ := by
  funext k' d' r' i'
  unfold up4 flW
  by_cases e : k' = k ∧ d' = d ∧ r' = r
  · obtain ⟨rfl, rfl, rfl⟩ := e
    by_cases e2 : i' = n
    · rw [if_pos ⟨rfl, rfl, rfl, e2⟩, if_pos ⟨rfl, rfl, rfl, by omega⟩]
    · rw [if_neg (fun q => e2 q.2.2.2)]
      by_cases e3 : i' < n
      · rw [if_pos ⟨rfl, rfl, rfl, e3⟩, if_pos ⟨rfl, rfl, rfl, by omega⟩]
      · rw [if_neg (fun q => e3 q.2.2.2), if_neg (fun q => by have := q.2.2.2; omega)]
  · rw [if_neg (fun q => e ⟨q.1, q.2.1, q.2.2.1⟩), if_neg (fun q => e ⟨q.1, q.2.1, q.2.2.1⟩), if_neg (fun q => e ⟨q.1, q.2.1, q.2.2.1⟩)]
theorem cv_fl39_l {d : Bool} {p : Nat} {σ : Sg} (hp : p < 12) : ∀ (n j : Nat), j + n = 24 → G false 63 (fun r' s' => r' = none ∧ s' = flW 39 d (p + 1) 24 σ) 5 [some (.inr (.inr (39, d, p + 1))), some (.inl (nI 0)), some (.inl (nI j)), some (.inl (nI 24))] [] (flW 39 d (p + 1) j σ) := by
  intro n
  induction n with
  | zero =>
    intro j hj
    refine G_wp 60 [5] rfl ?_
    refine br_ge rfl rfl (by omega) (by omega) (fun h7 => ?_) (fun h7 => ?_)
    · exact ⟨rfl, by rw [show 24 = j by omega]⟩
    · exact absurd h7 (by omega)
  | succ n ih =>
    intro j hj
    refine G_wp 60 [5] rfl ?_
    refine br_ge rfl rfl (by omega) (by omega) (fun h7 => ?_) (fun h7 => ?_)
    · exact absurd h7 (by omega)
    · refine ⟨(show p < 12 by omega), j, rfl, (by show _ < 24; omega), _, rfl, nI (j + 1), nI_add _ _, ?_⟩
      rw [flW_S]
      exact ih (j + 1) (by omega)
theorem cv_fl39 {d : Bool} {p : Nat} {σ : Sg} (hp : p < 12) : Ev false 63 [.inr (.inr (39, d, p + 1)), .inl (nI 0)] σ none (flW 39 d (p + 1) 24 σ) := by
  refine Ev_wp 60 [5] rfl rfl ?_
  refine ⟨_, rfl, (show p < 12 by omega), _, rfl, ?_⟩
  have h := cv_fl39_l (d := d) (p := p) (σ := σ) hp 24 0 (by omega)
  rw [flW_0] at h
  exact h
theorem cv_fl40_l {d : Bool} {p : Nat} {σ : Sg} (hp : p < 12) : ∀ (n j : Nat), j + n = 24 → G false 63 (fun r' s' => r' = none ∧ s' = flW 40 d (p + 1) 24 σ) 5 [some (.inr (.inr (40, d, p + 1))), some (.inl (nI 0)), some (.inl (nI j)), some (.inl (nI 24))] [] (flW 40 d (p + 1) j σ) := by
  intro n
  induction n with
  | zero =>
    intro j hj
    refine G_wp 60 [5] rfl ?_
    refine br_ge rfl rfl (by omega) (by omega) (fun h7 => ?_) (fun h7 => ?_)
    · exact ⟨rfl, by rw [show 24 = j by omega]⟩
    · exact absurd h7 (by omega)
  | succ n ih =>
    intro j hj
    refine G_wp 60 [5] rfl ?_
    refine br_ge rfl rfl (by omega) (by omega) (fun h7 => ?_) (fun h7 => ?_)
    · exact absurd h7 (by omega)
    · refine ⟨(show p < 12 by omega), j, rfl, (by show _ < 24; omega), _, rfl, nI (j + 1), nI_add _ _, ?_⟩
      rw [flW_S]
      exact ih (j + 1) (by omega)
theorem cv_fl40 {d : Bool} {p : Nat} {σ : Sg} (hp : p < 12) : Ev false 63 [.inr (.inr (40, d, p + 1)), .inl (nI 0)] σ none (flW 40 d (p + 1) 24 σ) := by
  refine Ev_wp 60 [5] rfl rfl ?_
  refine ⟨_, rfl, (show p < 12 by omega), _, rfl, ?_⟩
  have h := cv_fl40_l (d := d) (p := p) (σ := σ) hp 24 0 (by omega)
  rw [flW_0] at h
  exact h
theorem cv_fl41_l {d : Bool} {p : Nat} {σ : Sg} (hp : p < 12) : ∀ (n j : Nat), j + n = 24 → G false 63 (fun r' s' => r' = none ∧ s' = flW 41 d (p + 1) 24 σ) 5 [some (.inr (.inr (41, d, p + 1))), some (.inl (nI 0)), some (.inl (nI j)), some (.inl (nI 24))] [] (flW 41 d (p + 1) j σ) := by
  intro n
  induction n with
  | zero =>
    intro j hj
    refine G_wp 60 [5] rfl ?_
    refine br_ge rfl rfl (by omega) (by omega) (fun h7 => ?_) (fun h7 => ?_)
    · exact ⟨rfl, by rw [show 24 = j by omega]⟩
    · exact absurd h7 (by omega)
  | succ n ih =>
    intro j hj
    refine G_wp 60 [5] rfl ?_
    refine br_ge rfl rfl (by omega) (by omega) (fun h7 => ?_) (fun h7 => ?_)
    · exact absurd h7 (by omega)
    · refine ⟨(show p < 12 by omega), j, rfl, (by show _ < 24; omega), _, rfl, nI (j + 1), nI_add _ _, ?_⟩
      rw [flW_S]
      exact ih (j + 1) (by omega)
theorem cv_fl41 {d : Bool} {p : Nat} {σ : Sg} (hp : p < 12) : Ev false 63 [.inr (.inr (41, d, p + 1)), .inl (nI 0)] σ none (flW 41 d (p + 1) 24 σ) := by
  refine Ev_wp 60 [5] rfl rfl ?_
  refine ⟨_, rfl, (show p < 12 by omega), _, rfl, ?_⟩
  have h := cv_fl41_l (d := d) (p := p) (σ := σ) hp 24 0 (by omega)
  rw [flW_0] at h
  exact h
theorem cv_fl42_l {d : Bool} {p : Nat} {σ : Sg} (hp : p < 12) : ∀ (n j : Nat), j + n = 24 → G false 63 (fun r' s' => r' = none ∧ s' = flW 42 d (p + 1) 24 σ) 5 [some (.inr (.inr (42, d, p + 1))), some (.inl (nI 0)), some (.inl (nI j)), some (.inl (nI 24))] [] (flW 42 d (p + 1) j σ) := by
  intro n
  induction n with
  | zero =>
    intro j hj
    refine G_wp 60 [5] rfl ?_
    refine br_ge rfl rfl (by omega) (by omega) (fun h7 => ?_) (fun h7 => ?_)
    · exact ⟨rfl, by rw [show 24 = j by omega]⟩
    · exact absurd h7 (by omega)
  | succ n ih =>
    intro j hj
    refine G_wp 60 [5] rfl ?_
    refine br_ge rfl rfl (by omega) (by omega) (fun h7 => ?_) (fun h7 => ?_)
    · exact absurd h7 (by omega)
    · refine ⟨(show p < 12 by omega), j, rfl, (by show _ < 24; omega), _, rfl, nI (j + 1), nI_add _ _, ?_⟩
      rw [flW_S]
      exact ih (j + 1) (by omega)
theorem cv_fl42 {d : Bool} {p : Nat} {σ : Sg} (hp : p < 12) : Ev false 63 [.inr (.inr (42, d, p + 1)), .inl (nI 0)] σ none (flW 42 d (p + 1) 24 σ) := by
  refine Ev_wp 60 [5] rfl rfl ?_
  refine ⟨_, rfl, (show p < 12 by omega), _, rfl, ?_⟩
  have h := cv_fl42_l (d := d) (p := p) (σ := σ) hp 24 0 (by omega)
  rw [flW_0] at h
  exact h
theorem cv_fl43_l {d : Bool} {p : Nat} {σ : Sg} (hp : p < 12) : ∀ (n j : Nat), j + n = 12 → G false 63 (fun r' s' => r' = none ∧ s' = flW 43 d 0 12 σ) 5 [some (.inr (.inr (43, d, 0))), some (.inl (nI 0)), some (.inl (nI j)), some (.inl (nI 12))] [] (flW 43 d 0 j σ) := by
  intro n
  induction n with
  | zero =>
    intro j hj
    refine G_wp 60 [5] rfl ?_
    refine br_ge rfl rfl (by omega) (by omega) (fun h7 => ?_) (fun h7 => ?_)
    · exact ⟨rfl, by rw [show 12 = j by omega]⟩
    · exact absurd h7 (by omega)
  | succ n ih =>
    intro j hj
    refine G_wp 60 [5] rfl ?_
    refine br_ge rfl rfl (by omega) (by omega) (fun h7 => ?_) (fun h7 => ?_)
    · exact absurd h7 (by omega)
    · refine ⟨j, rfl, (by show _ < 12; omega), _, rfl, nI (j + 1), nI_add _ _, ?_⟩
      rw [flW_S]
      exact ih (j + 1) (by omega)
theorem cv_fl43 {d : Bool} {p : Nat} {σ : Sg} (hp : p < 12) : Ev false 63 [.inr (.inr (43, d, 0)), .inl (nI 0)] σ none (flW 43 d 0 12 σ) := by
  refine Ev_wp 60 [5] rfl rfl ?_
  refine ⟨_, rfl, _, rfl, ?_⟩
  have h := cv_fl43_l (d := d) (p := p) (σ := σ) hp 12 0 (by omega)
  rw [flW_0] at h
  exact h
def CLq (d : Bool) (σ : Sg) (p : Nat) (σ' : Sg) : Prop := (∀ k d' r i, ¬ (39 ≤ k ∧ k ≤ 42 ∧ d' = d) → σ' k d' r i = σ k d' r i) ∧ ∀ q y, q < p → y < 24 → σ' 39 d (q + 1) y = nI 0 ∧ σ' 40 d (q + 1) y = nI 0 ∧ σ' 41 d (q + 1) y = nI 0 ∧ σ' 42 d (q + 1) y = nI 0
theorem CLq_S {d : Bool} {σ σ' : Sg} {p : Nat} (h : CLq d σ p σ') : CLq d σ (p + 1) (flW 42 d (p + 1) 24 (flW 41 d (p + 1) 24 (flW 40 d (p + 1) 24 (flW 39 d (p + 1) 24 σ')))) := by
  refine ⟨fun k d' r i hk => ?_, fun q y hq hy => ?_⟩
  · unfold flW
    rw [if_neg (fun z => hk ⟨by omega, by omega, z.2.1⟩), if_neg (fun z => hk ⟨by omega, by omega, z.2.1⟩), if_neg (fun z => hk ⟨by omega, by omega, z.2.1⟩), if_neg (fun z => hk ⟨by omega, by omega, z.2.1⟩)]
    exact h.1 k d' r i hk
  · by_cases e : q = p
    · subst e
      unfold flW
      refine ⟨?_, ?_, ?_, ?_⟩
      · rw [if_neg (fun z => absurd z.1 (by decide)), if_neg (fun z => absurd z.1 (by decide)), if_neg (fun z => absurd z.1 (by decide)), if_pos ⟨rfl, rfl, rfl, hy⟩]
      · rw [if_neg (fun z => absurd z.1 (by decide)), if_neg (fun z => absurd z.1 (by decide)), if_pos ⟨rfl, rfl, rfl, hy⟩]
      · rw [if_neg (fun z => absurd z.1 (by decide)), if_pos ⟨rfl, rfl, rfl, hy⟩]
      · rw [if_pos ⟨rfl, rfl, rfl, hy⟩]
    · have h1 := h.2 q y (by omega) hy
      unfold flW
      refine ⟨?_, ?_, ?_, ?_⟩
      all_goals rw [if_neg (fun z => e (by have := z.2.2.1; omega)), if_neg (fun z => e (by have := z.2.2.1; omega)), if_neg (fun z => e (by have := z.2.2.1; omega)), if_neg (fun z => e (by have := z.2.2.1; omega))]
      · exact h1.1
      · exact h1.2.1
      · exact h1.2.2.1
      · exact h1.2.2.2
theorem cv_bmW {d : Bool} {σ : Sg} : Ev false 81 [.inr (.inr (37, d, 0))] σ none (flW 43 d 0 12 σ) := by
  refine Ev_wp 60 [] rfl rfl ?_
  refine ⟨_, _, cv_fl43 (p := 0) (by decide), ?_⟩
  exact ⟨rfl, rfl⟩
theorem cv_clear_l {d : Bool} {σ : Sg} : ∀ (n j : Nat) (σ1 : Sg), j + n = 12 → CLq d σ j σ1 → G false 134 (fun r' s' => r' = none ∧ ∃ σ2, CLq d σ 12 σ2 ∧ s' = flW 43 d 0 12 σ2) 8 [some (.inr (.inr (37, d, 0))), some (.inl (nI j))] [] σ1 := by
  intro n
  induction n with
  | zero =>
    intro j σ1 hj hq
    refine G_wp 60 [8] rfl ?_
    refine br_ge rfl rfl (by omega) (by omega) (fun h10 => ?_) (fun h10 => ?_)
    · refine ⟨_, _, cv_bmW, ?_⟩
      exact ⟨rfl, _, by rw [show 12 = j by omega]; exact hq, rfl⟩
    · exact absurd h10 (by omega)
  | succ n ih =>
    intro j σ1 hj hq
    refine G_wp 60 [8] rfl ?_
    refine br_ge rfl rfl (by omega) (by omega) (fun h10 => ?_) (fun h10 => ?_)
    · exact absurd h10 (by omega)
    · refine ⟨j, rfl, (by show _ < 12; omega), _, _, cv_fl39 (by omega), j, rfl, (by show _ < 12; omega), _, _, cv_fl40 (by omega), j, rfl, (by show _ < 12; omega), _, _, cv_fl41 (by omega), j, rfl, (by show _ < 12; omega), _, _, cv_fl42 (by omega), nI (j + 1), nI_add _ _, ?_⟩
      exact ih (j + 1) _ (by omega) (CLq_S hq)
theorem cv_clear {d : Bool} {σ : Sg} : ∃ σ', Ev false 134 [.inr (.inr (37, d, 0))] σ none σ' ∧ ∃ σ2, CLq d (up4 (up4 σ 37 d 0 1 (nI 0)) 37 d 0 2 (nI 0)) 12 σ2 ∧ σ' = flW 43 d 0 12 σ2 := by
  refine EvQ_wp 60 [8] rfl rfl ?_
  refine ⟨_, rfl, _, rfl, _, rfl, ?_⟩
  exact cv_clear_l 12 0 _ (by omega) ⟨fun _ _ _ _ _ => rfl, fun q y hq _ => absurd hq (Nat.not_lt_zero _)⟩
theorem cv_sPost {d : Bool} {σ : Sg} {p : Nat} (hp : p < 12) : Ev false 0 [.inr (.inr (26, d, 0)), .inl (nI p)] σ none ((up4 (up4 (up4 (up4 (up4 σ 27 d 0 p (nI (10))) 28 d 0 p (nI (1))) 29 d 0 p (nI (0))) 30 d 0 p (nI (0))) 31 d 0 p (nI (0)))) := by
  refine Ev_wp 60 [] rfl rfl ?_
  refine ⟨p, rfl, (by show _ < 12; omega), _, rfl, p, rfl, (by show _ < 12; omega), nI 1, rfl, p, rfl, (by show _ < 12; omega), _, rfl, p, rfl, (by show _ < 12; omega), _, rfl, p, rfl, (by show _ < 12; omega), _, rfl, ?_⟩
  exact ⟨rfl, rfl⟩
theorem cv_sRid {d : Bool} {σ : Sg} {r : Nat} (hr : r < 200) : Ev false 1 [.inr (.inr (26, d, 0)), .inl (nI r)] σ none ((up4 (up4 (up4 (up4 (up4 (up4 σ 34 d ((0) + 1) r (nI (0))) 34 d ((1) + 1) r (-1)) 34 d ((2) + 1) r (-1)) 34 d ((3) + 1) r (-1)) 34 d ((4) + 1) r (-1)) 34 d ((5) + 1) r (nI (0)))) := by
  refine Ev_wp 60 [] rfl rfl ?_
  refine ⟨0, rfl, (by show _ < 6; omega), (show 0 < 6 by omega), r, rfl, (by show _ < 200; omega), _, rfl, 1, rfl, (by show _ < 6; omega), (show 1 < 6 by omega), r, rfl, (by show _ < 200; omega), _, rfl, 2, rfl, (by show _ < 6; omega), (show 2 < 6 by omega), r, rfl, (by show _ < 200; omega), _, rfl, 3, rfl, (by show _ < 6; omega), (show 3 < 6 by omega), r, rfl, (by show _ < 200; omega), _, rfl, 4, rfl, (by show _ < 6; omega), (show 4 < 6 by omega), r, rfl, (by show _ < 200; omega), _, rfl, 5, rfl, (by show _ < 6; omega), (show 5 < 6 by omega), r, rfl, (by show _ < 200; omega), _, rfl, ?_⟩
  exact ⟨rfl, rfl⟩
theorem cv_sSet {d : Bool} {σ : Sg} {b p : Nat} {x : Int32} (hx : x = nI p) (hb : b < 60) (hp : p < 12) (hf : σ 32 d 4 b = nI 0) : Ev false 3 [.inr (.inr (26, d, 0)), .inl (nI b), .inl x] σ none ((up4 (up4 (up4 (up4 σ 32 d ((0) + 1) b (nI (0))) 32 d ((1) + 1) b (nI (p))) 29 d 0 p (((up4 (up4 σ 32 d ((0) + 1) b (nI (0))) 32 d ((1) + 1) b (nI (p))) 29 d 0 p) + (nI (1)))) 30 d 0 p (((up4 (up4 (up4 σ 32 d ((0) + 1) b (nI (0))) 32 d ((1) + 1) b (nI (p))) 29 d 0 p (((up4 (up4 σ 32 d ((0) + 1) b (nI (0))) 32 d ((1) + 1) b (nI (p))) 29 d 0 p) + (nI (1)))) 30 d 0 p) + (nI (1))))) := by
  refine Ev_wp 60 [] rfl rfl ?_
  refine ⟨0, rfl, (by show _ < 4; omega), (show 0 < 4 by omega), b, rfl, (by show _ < 60; omega), _, rfl, 1, rfl, (by show _ < 4; omega), (show 1 < 4 by omega), b, rfl, (by show _ < 60; omega), nI (p), hx, p, hx, (by show _ < 12; omega), p, hx, (by show _ < 12; omega), _, rfl, 3, rfl, (by show _ < 4; omega), (show 3 < 4 by omega), b, rfl, (by show _ < 60; omega), ?_⟩
  have hf2 : (up4 (up4 (up4 σ 32 d ((0) + 1) b (nI (0))) 32 d ((1) + 1) b (nI (p))) 29 d 0 p (((up4 (up4 σ 32 d ((0) + 1) b (nI (0))) 32 d ((1) + 1) b (nI (p))) 29 d 0 p) + (nI (1)))) 32 d (3 + 1) b = nI 0 := by rw [u4n (by omega), u4n (by omega), u4n (by omega)]; exact hf
  refine ⟨fun h28 => ?_, fun h28 => ?_⟩
  · exact absurd hf2 h28
  · refine ⟨p, hx, (by show _ < 12; omega), p, hx, (by show _ < 12; omega), _, rfl, ?_⟩
    exact ⟨rfl, rfl⟩
theorem cv_sBike {d : Bool} {σ : Sg} {b p : Nat} (hb : b < 60) (hp : p < 12) (hh : σ 5 false 0 b = nI p) : Ev false 64 [.inr (.inr (26, d, 0)), .inl (nI b)] σ none ((up4 (up4 (up4 (up4 (up4 (up4 σ 32 d ((2) + 1) b (nI (0))) 32 d ((3) + 1) b (nI (0))) 32 d ((0) + 1) b (nI (0))) 32 d ((1) + 1) b (nI (p))) 29 d 0 p (((up4 (up4 (up4 (up4 σ 32 d ((2) + 1) b (nI (0))) 32 d ((3) + 1) b (nI (0))) 32 d ((0) + 1) b (nI (0))) 32 d ((1) + 1) b (nI (p))) 29 d 0 p) + (nI (1)))) 30 d 0 p (((up4 (up4 (up4 (up4 (up4 σ 32 d ((2) + 1) b (nI (0))) 32 d ((3) + 1) b (nI (0))) 32 d ((0) + 1) b (nI (0))) 32 d ((1) + 1) b (nI (p))) 29 d 0 p (((up4 (up4 (up4 (up4 σ 32 d ((2) + 1) b (nI (0))) 32 d ((3) + 1) b (nI (0))) 32 d ((0) + 1) b (nI (0))) 32 d ((1) + 1) b (nI (p))) 29 d 0 p) + (nI (1)))) 30 d 0 p) + (nI (1))))) := by
  refine Ev_wp 60 [] rfl rfl ?_
  refine ⟨2, rfl, (by show _ < 4; omega), (show 2 < 4 by omega), b, rfl, (by show _ < 60; omega), _, rfl, 3, rfl, (by show _ < 4; omega), (show 3 < 4 by omega), b, rfl, (by show _ < 60; omega), _, rfl, b, rfl, (by show _ < 60; omega), _, _, cv_sSet (d := d) (σ := (up4 (up4 σ 32 d ((2) + 1) b (nI (0))) 32 d ((3) + 1) b (nI (0)))) hh hb hp (up4_s _ _ _ _ _ _), ?_⟩
  exact ⟨rfl, rfl⟩
theorem cv_sVan {d : Bool} {σ : Sg} : Ev false 33 [.inr (.inr (44, d, 0))] σ none ((up4 (up4 (up4 (up4 σ 44 d 0 0 (nI (0))) 44 d 0 1 (nI (0))) 44 d 0 2 (nI (0))) 44 d 0 3 (-1))) := by
  refine Ev_wp 60 [] rfl rfl ?_
  refine ⟨_, rfl, _, rfl, _, rfl, _, rfl, ?_⟩
  exact ⟨rfl, rfl⟩
