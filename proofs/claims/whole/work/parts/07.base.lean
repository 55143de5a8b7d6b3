/-! from a computed walk to a run -/
theorem G_wp {sd : Bool} {mid : Nat} {P : Option AV → Sg → Prop} {i : Nat} {L : Lc} {st : List AV} {σ : Sg} (n : Nat) (cuts : List Nat) (hm : Nat.blt mid nM = true) (h : wp sd (mH mid) (mR mid) (mD mid) P (G sd mid P) cuts n i ((mD mid).drop i) L st σ) : G sd mid P i L st σ :=
  wp_snd (Nat.blt_eq.mp hm) (fun _ _ _ _ h => h) n i _ L st σ rfl h
theorem Ev_wp {sd : Bool} {mid : Nat} {vs : List AV} {r : Option AV} {σ σ' : Sg} (n : Nat) (cuts : List Nat) (hm : Nat.blt mid nM = true) (hl : Nat.ble (argL vs).length (mN mid) = true) (h : wp sd (mH mid) (mR mid) (mD mid) (fun r' s' => r' = r ∧ s' = σ') (G sd mid (fun r' s' => r' = r ∧ s' = σ')) cuts n 0 (mD mid) (initL (mN mid) vs) [] σ) : Ev sd mid vs σ r σ' := by
  obtain ⟨r', s', ⟨rfl, rfl⟩, hev⟩ := Ev_of_G (Nat.blt_eq.mp hm) (Nat.le_of_ble_eq_true hl) (wp_snd (Nat.blt_eq.mp hm) (fun _ _ _ _ h => h) n 0 _ _ [] σ rfl h)
  exact hev
theorem EvP_wp {sd : Bool} {mid : Nat} {vs : List AV} {σ : Sg} {P : Option AV → Sg → Prop} (n : Nat) (cuts : List Nat) (hm : Nat.blt mid nM = true) (hl : Nat.ble (argL vs).length (mN mid) = true) (h : wp sd (mH mid) (mR mid) (mD mid) P (G sd mid P) cuts n 0 (mD mid) (initL (mN mid) vs) [] σ) : ∃ r σ', P r σ' ∧ Ev sd mid vs σ r σ' :=
  Ev_of_G (Nat.blt_eq.mp hm) (Nat.le_of_ble_eq_true hl) (wp_snd (Nat.blt_eq.mp hm) (fun _ _ _ _ h => h) n 0 _ _ [] σ rfl h)
