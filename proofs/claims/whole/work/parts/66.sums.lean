/-! The class sums a row, fills a row. -/
def sI (g : Nat → Int32) : Nat → Int32
  | 0 => nI 0
  | n + 1 => sI g n + g n
theorem sI_S (g : Nat → Int32) (n : Nat) : sI g (n + 1) = sI g n + g n := rfl
theorem cv_sum39_l {d : Bool} {σ : Sg} {p : Nat} {g : Nat → Int32} (hp : p < 12) (hg : ∀ x, x < 24 → σ 39 d (p + 1) x = g x) : ∀ (n j : Nat) (o : Option AV), j + n = 24 → G false 10 (fun r' s' => r' = some (.inl (sI g 24)) ∧ s' = σ) 9 [some (.inr (.inr (39, d, p + 1))), some (.inl (sI g j)), some (.inr (.inr (39, d, p + 1))), some (.inl (nI 24)), some (.inl (nI j)), o] [] σ := by
  intro n
  induction n with
  | zero =>
    intro j o hj
    refine G_wp 60 [9] rfl ?_
    refine br_ge rfl rfl (by omega) (by omega) (fun h11 => ?_) (fun h11 => ?_)
    · exact ⟨by rw [show (24 : Nat) = j by omega], rfl⟩
    · exact absurd h11 (by omega)
  | succ n ih =>
    intro j o hj
    refine G_wp 60 [9] rfl ?_
    refine br_ge rfl rfl (by omega) (by omega) (fun h11 => ?_) (fun h11 => ?_)
    · exact absurd h11 (by omega)
    · refine ⟨(show p < 12 by omega), j, rfl, (by show _ < 24; omega), ?_⟩
      have e14 := hg j (by omega)
      refine ⟨(g j), e14, _, rfl, nI (j + 1), nI_add _ _, ?_⟩
      rw [← sI_S]
      exact ih (j + 1) _ (by omega)
theorem cv_sum39 {d : Bool} {σ : Sg} {p : Nat} {g : Nat → Int32} (hp : p < 12) (hg : ∀ x, x < 24 → σ 39 d (p + 1) x = g x) : Ev false 10 [.inr (.inr (39, d, p + 1))] σ (some (.inl (sI g 24))) σ := by
  refine Ev_wp 60 [9] rfl rfl ?_
  refine ⟨_, rfl, (show p < 12 by omega), _, rfl, _, rfl, ?_⟩
  exact cv_sum39_l hp hg 24 0 none (by omega)
theorem cv_sum40_l {d : Bool} {σ : Sg} {p : Nat} {g : Nat → Int32} (hp : p < 12) (hg : ∀ x, x < 24 → σ 40 d (p + 1) x = g x) : ∀ (n j : Nat) (o : Option AV), j + n = 24 → G false 10 (fun r' s' => r' = some (.inl (sI g 24)) ∧ s' = σ) 9 [some (.inr (.inr (40, d, p + 1))), some (.inl (sI g j)), some (.inr (.inr (40, d, p + 1))), some (.inl (nI 24)), some (.inl (nI j)), o] [] σ := by
  intro n
  induction n with
  | zero =>
    intro j o hj
    refine G_wp 60 [9] rfl ?_
    refine br_ge rfl rfl (by omega) (by omega) (fun h11 => ?_) (fun h11 => ?_)
    · exact ⟨by rw [show (24 : Nat) = j by omega], rfl⟩
    · exact absurd h11 (by omega)
  | succ n ih =>
    intro j o hj
    refine G_wp 60 [9] rfl ?_
    refine br_ge rfl rfl (by omega) (by omega) (fun h11 => ?_) (fun h11 => ?_)
    · exact absurd h11 (by omega)
    · refine ⟨(show p < 12 by omega), j, rfl, (by show _ < 24; omega), ?_⟩
      have e14 := hg j (by omega)
      refine ⟨(g j), e14, _, rfl, nI (j + 1), nI_add _ _, ?_⟩
      rw [← sI_S]
      exact ih (j + 1) _ (by omega)
theorem cv_sum40 {d : Bool} {σ : Sg} {p : Nat} {g : Nat → Int32} (hp : p < 12) (hg : ∀ x, x < 24 → σ 40 d (p + 1) x = g x) : Ev false 10 [.inr (.inr (40, d, p + 1))] σ (some (.inl (sI g 24))) σ := by
  refine Ev_wp 60 [9] rfl rfl ?_
  refine ⟨_, rfl, (show p < 12 by omega), _, rfl, _, rfl, ?_⟩
  exact cv_sum40_l hp hg 24 0 none (by omega)
theorem cv_sum41_l {d : Bool} {σ : Sg} {p : Nat} {g : Nat → Int32} (hp : p < 12) (hg : ∀ x, x < 24 → σ 41 d (p + 1) x = g x) : ∀ (n j : Nat) (o : Option AV), j + n = 24 → G false 10 (fun r' s' => r' = some (.inl (sI g 24)) ∧ s' = σ) 9 [some (.inr (.inr (41, d, p + 1))), some (.inl (sI g j)), some (.inr (.inr (41, d, p + 1))), some (.inl (nI 24)), some (.inl (nI j)), o] [] σ := by
  intro n
  induction n with
  | zero =>
    intro j o hj
    refine G_wp 60 [9] rfl ?_
    refine br_ge rfl rfl (by omega) (by omega) (fun h11 => ?_) (fun h11 => ?_)
    · exact ⟨by rw [show (24 : Nat) = j by omega], rfl⟩
    · exact absurd h11 (by omega)
  | succ n ih =>
    intro j o hj
    refine G_wp 60 [9] rfl ?_
    refine br_ge rfl rfl (by omega) (by omega) (fun h11 => ?_) (fun h11 => ?_)
    · exact absurd h11 (by omega)
    · refine ⟨(show p < 12 by omega), j, rfl, (by show _ < 24; omega), ?_⟩
      have e14 := hg j (by omega)
      refine ⟨(g j), e14, _, rfl, nI (j + 1), nI_add _ _, ?_⟩
      rw [← sI_S]
      exact ih (j + 1) _ (by omega)
theorem cv_sum41 {d : Bool} {σ : Sg} {p : Nat} {g : Nat → Int32} (hp : p < 12) (hg : ∀ x, x < 24 → σ 41 d (p + 1) x = g x) : Ev false 10 [.inr (.inr (41, d, p + 1))] σ (some (.inl (sI g 24))) σ := by
  refine Ev_wp 60 [9] rfl rfl ?_
  refine ⟨_, rfl, (show p < 12 by omega), _, rfl, _, rfl, ?_⟩
  exact cv_sum41_l hp hg 24 0 none (by omega)
