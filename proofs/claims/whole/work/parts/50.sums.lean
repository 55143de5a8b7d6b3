/-! The class reads a sum. -/
def aW (σ : Sg) (i : Nat) : Sg := up4 σ 12 false 0 7 (nI i)
theorem aW_at (σ : Sg) (i : Nat) : aW σ i 12 false 0 7 = nI i := up4_s _ _ _ _ _ _
theorem aW_o {σ : Sg} {i k : Nat} {d : Bool} {r j : Nat} (h : ¬ k = 12) : aW σ i k d r j = σ k d r j := up4_nk h
theorem aW_aW (σ : Sg) (i j : Nat) : up4 (aW σ i) 12 false 0 7 (nI j) = aW σ j := by
  funext k d r x
  unfold aW up4
  split <;> rfl
/-- the class's way through a sum: where it stands, the sum, the unit, the sign -/
def rs (f : Nat → Nat) (ev : Nat → Int32) (e : Nat) : Nat → Nat → Int32 → Int32 → Int32 → Int32 × Nat
  | 0, i, s, v, g => (s + g * v, i)
  | n + 1, i, s, v, g => if e ≤ i then (s + g * v, i) else if f i ≤ 9 then rs f ev e n (i + 1) s (v * nI 10 + nI (f i)) g else if 21 ≤ f i ∧ f i ≤ 27 then rs f ev e n (i + 1) s (ev (f i)) g else if f i = 10 then rs f ev e n (i + 1) (s + g * v) (nI 0) (nI 1) else if f i = 11 then rs f ev e n (i + 1) (s + g * v) (nI 0) (-1) else (s + g * v, i)
theorem rs_S (f : Nat → Nat) (ev : Nat → Int32) (e n i : Nat) (s v g : Int32) : rs f ev e (n + 1) i s v g = if e ≤ i then (s + g * v, i) else if f i ≤ 9 then rs f ev e n (i + 1) s (v * nI 10 + nI (f i)) g else if 21 ≤ f i ∧ f i ≤ 27 then rs f ev e n (i + 1) s (ev (f i)) g else if f i = 10 then rs f ev e n (i + 1) (s + g * v) (nI 0) (nI 1) else if f i = 11 then rs f ev e n (i + 1) (s + g * v) (nI 0) (-1) else (s + g * v, i) := rfl
theorem rs_le (f : Nat → Nat) (ev : Nat → Int32) (e : Nat) : ∀ (n i : Nat) (s v g : Int32), i ≤ (rs f ev e n i s v g).2 ∧ (rs f ev e n i s v g).2 ≤ max e i
  | 0, i, s, v, g => ⟨Nat.le_refl _, by show i ≤ _; omega⟩
  | n + 1, i, s, v, g => by
    rw [rs_S]
    split
    next => exact ⟨Nat.le_refl _, by show i ≤ _; omega⟩
    next h =>
      have ih := fun s v g => rs_le f ev e n (i + 1) s v g
      split
      next => exact ⟨by have := (ih s (v * nI 10 + nI (f i)) g).1; omega, by have := (ih s (v * nI 10 + nI (f i)) g).2; omega⟩
      next =>
        split
        next => exact ⟨by have := (ih s (ev (f i)) g).1; omega, by have := (ih s (ev (f i)) g).2; omega⟩
        next =>
          split
          next => exact ⟨by have := (ih (s + g * v) (nI 0) (nI 1)).1; omega, by have := (ih (s + g * v) (nI 0) (nI 1)).2; omega⟩
          next =>
            split
            next => exact ⟨by have := (ih (s + g * v) (nI 0) (-1)).1; omega, by have := (ih (s + g * v) (nI 0) (-1)).2; omega⟩
            next => exact ⟨Nat.le_refl _, by show i ≤ _; omega⟩
theorem cv_rs_l {d : Bool} {σ : Sg} {f : Nat → Nat} {ev : Nat → Int32} {k e : Nat} (hk : k < 10) (he : e ≤ 40) (hf30 : ∀ i, i < e → f i ≤ 30) (hrow : ∀ i, i < e → σ 14 false (k + 1) i = nI (f i)) (hn : ∀ s, 21 ≤ s → s ≤ 27 → σ 36 d 0 (s - 21) = ev s) : ∀ (n i : Nat) (s v g : Int32) (o : Option AV), e ≤ i + n → i ≤ 1000 → G false 21 (fun r' s' => r' = some (.inl (rs f ev e n i s v g).1) ∧ s' = aW σ (rs f ev e n i s v g).2) 6 [some (.inr (.inr (12, false, 0))), some (.inr (.inr (14, false, k + 1))), some (.inl (nI e)), some (.inr (.inr (36, d, 0))), some (.inl s), some (.inl v), some (.inl g), o] [] (aW σ i) := by
  intro n
  induction n with
  | zero =>
    intro i s v g o hi h1
    refine G_wp 200 [6] rfl ?_
    refine br_ge (aW_at _ _) rfl (by omega) (by omega) (fun h9 => ?_) (fun h9 => ?_)
    · exact ⟨rfl, rfl⟩
    · exact absurd h9 (by omega)
  | succ n ih =>
    intro i s v g o hi h1
    refine G_wp 200 [6] rfl ?_
    refine br_ge (aW_at _ _) rfl (by omega) (by omega) (fun h9 => ?_) (fun h9 => ?_)
    · have e9 : rs f ev e (n + 1) i s v g = (s + g * v, i) := by rw [rs_S, if_pos (by omega)]
      exact ⟨by rw [e9], by rw [e9]⟩
    · refine ⟨(show k < 10 by omega), i, (aW_at _ _), (by show _ < 40; omega), ?_⟩
      have hf := hf30 i (by omega)
      refine ⟨nI (f i), ((aW_o (by decide)).trans (hrow i (by omega))), ?_⟩
      refine br_gt rfl rfl (by omega) (by omega) (fun h17 => ?_) (fun h17 => ?_)
      · refine br_lt rfl rfl (by omega) (by omega) (fun h27 => ?_) (fun h27 => ?_)
        · refine br_eq rfl rfl (by omega) (by omega) (fun h40 => ?_) (fun h40 => ?_)
          · refine ⟨_, rfl, _, rfl, ?_⟩
            refine br_ne rfl rfl (by omega) (by omega) (fun h54 => ?_) (fun h54 => ?_)
            · exact absurd h54 (by omega)
            · refine ⟨_, rfl, nI (i + 1), (add_n (aW_at _ _) rfl), ?_⟩
              have e9 : rs f ev e (n + 1) i s v g = rs f ev e n (i + 1) (s + g * v) (nI 0) (nI 1) := by rw [rs_S, if_neg (by omega), if_neg (by omega), if_neg (by omega), if_pos (by omega)]
              have h9 := ih (i + 1) (s + g * v) (nI 0) (nI 1) (some (.inl (nI (f i)))) (by omega) (by omega)
              rw [← e9, ← aW_aW σ i (i + 1)] at h9
              exact h9
          · refine br_ne rfl rfl (by omega) (by omega) (fun h43 => ?_) (fun h43 => ?_)
            · have e9 : rs f ev e (n + 1) i s v g = (s + g * v, i) := by rw [rs_S, if_neg (by omega), if_neg (by omega), if_neg (by omega), if_neg (by omega), if_neg (by omega)]
              exact ⟨by rw [e9], by rw [e9]⟩
            · refine ⟨_, rfl, _, rfl, ?_⟩
              refine br_ne rfl rfl (by omega) (by omega) (fun h54 => ?_) (fun h54 => ?_)
              · refine ⟨_, rfl, nI (i + 1), (add_n (aW_at _ _) rfl), ?_⟩
                have e9 : rs f ev e (n + 1) i s v g = rs f ev e n (i + 1) (s + g * v) (nI 0) (-1) := by rw [rs_S, if_neg (by omega), if_neg (by omega), if_neg (by omega), if_neg (by omega), if_pos (by omega)]
                have h9 := ih (i + 1) (s + g * v) (nI 0) (-1) (some (.inl (nI (f i)))) (by omega) (by omega)
                rw [← e9, ← aW_aW σ i (i + 1)] at h9
                exact h9
              · exact absurd h54 (by omega)
        · refine br_gt rfl rfl (by omega) (by omega) (fun h30 => ?_) (fun h30 => ?_)
          · refine br_eq rfl rfl (by omega) (by omega) (fun h40 => ?_) (fun h40 => ?_)
            · refine ⟨_, rfl, _, rfl, ?_⟩
              refine br_ne rfl rfl (by omega) (by omega) (fun h54 => ?_) (fun h54 => ?_)
              · exact absurd h54 (by omega)
              · refine ⟨_, rfl, nI (i + 1), (add_n (aW_at _ _) rfl), ?_⟩
                have e9 : rs f ev e (n + 1) i s v g = rs f ev e n (i + 1) (s + g * v) (nI 0) (nI 1) := by rw [rs_S, if_neg (by omega), if_neg (by omega), if_neg (by omega), if_pos (by omega)]
                have h9 := ih (i + 1) (s + g * v) (nI 0) (nI 1) (some (.inl (nI (f i)))) (by omega) (by omega)
                rw [← e9, ← aW_aW σ i (i + 1)] at h9
                exact h9
            · refine br_ne rfl rfl (by omega) (by omega) (fun h43 => ?_) (fun h43 => ?_)
              · have e9 : rs f ev e (n + 1) i s v g = (s + g * v, i) := by rw [rs_S, if_neg (by omega), if_neg (by omega), if_neg (by omega), if_neg (by omega), if_neg (by omega)]
                exact ⟨by rw [e9], by rw [e9]⟩
              · refine ⟨_, rfl, _, rfl, ?_⟩
                refine br_ne rfl rfl (by omega) (by omega) (fun h54 => ?_) (fun h54 => ?_)
                · refine ⟨_, rfl, nI (i + 1), (add_n (aW_at _ _) rfl), ?_⟩
                  have e9 : rs f ev e (n + 1) i s v g = rs f ev e n (i + 1) (s + g * v) (nI 0) (-1) := by rw [rs_S, if_neg (by omega), if_neg (by omega), if_neg (by omega), if_neg (by omega), if_pos (by omega)]
                  have h9 := ih (i + 1) (s + g * v) (nI 0) (-1) (some (.inl (nI (f i)))) (by omega) (by omega)
                  rw [← e9, ← aW_aW σ i (i + 1)] at h9
                  exact h9
                · exact absurd h54 (by omega)
          · refine ⟨(f i) - 21, (sub_n rfl rfl (by omega)), (by show _ < 7; omega), (ev (f i)), ((aW_o (by decide)).trans (hn (f i) (by omega) (by omega))), nI (i + 1), (add_n (aW_at _ _) rfl), ?_⟩
            have e9 : rs f ev e (n + 1) i s v g = rs f ev e n (i + 1) s (ev (f i)) g := by rw [rs_S, if_neg (by omega), if_neg (by omega), if_pos (by omega)]
            have h9 := ih (i + 1) s (ev (f i)) g (some (.inl (nI (f i)))) (by omega) (by omega)
            rw [← e9, ← aW_aW σ i (i + 1)] at h9
            exact h9
      · refine ⟨_, rfl, nI (i + 1), (add_n (aW_at _ _) rfl), ?_⟩
        have e9 : rs f ev e (n + 1) i s v g = rs f ev e n (i + 1) s (v * nI 10 + nI (f i)) g := by rw [rs_S, if_neg (by omega), if_pos (by omega)]
        have h9 := ih (i + 1) s (v * nI 10 + nI (f i)) g (some (.inl (nI (f i)))) (by omega) (by omega)
        rw [← e9, ← aW_aW σ i (i + 1)] at h9
        exact h9
theorem cv_rs {d : Bool} {σ : Sg} {f : Nat → Nat} {ev : Nat → Int32} {k e : Nat} (hk : k < 10) (he : e ≤ 40) (hf30 : ∀ i, i < e → f i ≤ 30) (hrow : ∀ i, i < e → σ 14 false (k + 1) i = nI (f i)) (hn : ∀ s, 21 ≤ s → s ≤ 27 → σ 36 d 0 (s - 21) = ev s) {i : Nat} (hi : i ≤ 100) : Ev false 21 [.inr (.inr (12, false, 0)), .inr (.inr (14, false, k + 1)), .inl (nI e), .inr (.inr (36, d, 0))] (aW σ i) (some (.inl (rs f ev e 41 i (nI 0) (nI 0) (nI 1)).1)) (aW σ (rs f ev e 41 i (nI 0) (nI 0) (nI 1)).2) := by
  refine Ev_wp 40 [6] rfl rfl ?_
  refine ⟨_, rfl, _, rfl, _, rfl, ?_⟩
  exact cv_rs_l hk he hf30 hrow hn 41 i (nI 0) (nI 0) (nI 1) none (by omega) (by omega)
