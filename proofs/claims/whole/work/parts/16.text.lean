/-! Rules' texts, on the model's state: symbols, sums. -/
def XT (t : Sg) : Prop := Is (t 69 false 0 22) 10 ∧ ∀ k, k < 10 → Is (t 84 false 0 k) 40 ∧ ∀ i, i < 40 → Is (t 85 false 0 (40 * k + i)) 30
def sy (t : Sg) (k i : Nat) : Nat := if i < nN (t 84 false 0 k) then nN (t 85 false 0 (40 * k + i)) else 99
theorem sy_le {t : Sg} (hX : XT t) {k i : Nat} (hk : k < 10) : sy t k i ≤ 99 := by
  unfold sy
  split
  · have h1 := (hX.2 k hk).1.2
    have := ((hX.2 k hk).2 i (by omega)).2
    omega
  · omega
theorem sy_lt {t : Sg} (hX : XT t) {k i : Nat} (hk : k < 10) (h : ¬ sy t k i = 99) : i < 40 := by
  unfold sy at h
  have h1 := (hX.2 k hk).1.2
  rcases Nat.lt_or_ge i (nN (t 84 false 0 k)) with q | q
  · omega
  · rw [if_neg (by omega)] at h
    exact absurd rfl h
/-- the world with the reading place at i -/
def aw (τ : Sg) (i : Nat) : Sg := up4 τ 69 false 0 41 (nI i)
theorem aw_at (τ : Sg) (i : Nat) : aw τ i 69 false 0 41 = nI i := up4_s _ _ _ _ _ _
theorem aw_S (τ : Sg) (i j : Nat) : up4 (aw τ i) 69 false 0 41 (nI j) = aw τ j := by
  funext k d r c
  unfold aw up4
  split
  · rfl
  · rfl
theorem aw_A {t : Sg} {D : Dy} {τ : Sg} (h : Ag t D τ) (i : Nat) : Ag t D (aw τ i) := Ag_scr h (by decide) rfl
theorem aw_id {τ : Sg} {i : Nat} (h : τ 69 false 0 41 = nI i) : aw τ i = τ := by
  funext k d r c
  unfold aw up4
  split
  next e =>
    obtain ⟨rfl, rfl, rfl, rfl⟩ := e
    exact h.symm
  next => rfl
theorem mv_symbol {t : Sg} {D : Dy} {τ : Sg} (hA : Ag t D τ) (hX : XT t) {k i : Nat} {x : Int32} (hk : k < 10) (hx : x = nI k) (hi : i ≤ 100) (hat : τ 69 false 0 41 = nI i) : Ev true 53 [.inr (.inr (69, false, 0)), .inl (x)] τ (some (.inl (nI (sy t k i)))) τ := by
  have e84 : τ 84 false 0 k = nI (nN (t 84 false 0 k)) := (hA.2 84 _ _ _ (by decide) rfl).trans (hX.2 k hk).1.1
  have h84 := (hX.2 k hk).1.2
  refine Ev_wp 40 [] rfl rfl ?_
  refine ⟨k, hx, (by show _ < 10; omega), ?_⟩
  refine br_ge hat e84 (by omega) (by omega) (fun h6 => ?_) (fun h6 => ?_)
  · exact ⟨by unfold sy; rw [if_neg (by omega)], rfl⟩
  · refine ⟨(40 * k) + i, (add_n (mul_n rfl hx) hat), (by show _ < 400; omega), ?_⟩
    have e85 : τ 85 false 0 (40 * k + i) = nI (nN (t 85 false 0 (40 * k + i))) := (hA.2 85 _ _ _ (by decide) rfl).trans ((hX.2 k hk).2 i (by omega)).1
    exact ⟨by unfold sy; rw [if_pos h6, ← e85], rfl⟩
def dE (f : Nat → Nat) : Nat → Nat → Nat → Nat × Nat
  | 0, i, v => (v, i)
  | n + 1, i, v => if f i < 10 then dE f n (i + 1) (10 * v + f i) else (v, i)
theorem dE_S (f : Nat → Nat) (n i v : Nat) : dE f (n + 1) i v = if f i < 10 then dE f n (i + 1) (10 * v + f i) else (v, i) := rfl
theorem dE_le {f : Nat → Nat} (hf : ∀ i, f i < 10 → i < 40) : ∀ (n i v : Nat), i ≤ 41 → i ≤ (dE f n i v).2 ∧ (dE f n i v).2 ≤ 41
  | 0, i, v, h => ⟨Nat.le_refl _, h⟩
  | n + 1, i, v, h => by
    rw [dE_S]
    split
    next hc =>
      have := hf i hc
      have := dE_le hf n (i + 1) (10 * v + f i) (by omega)
      exact ⟨by omega, this.2⟩
    next => exact ⟨Nat.le_refl _, h⟩
def unV (f : Nat → Nat) (ev : Nat → Int32) (i : Nat) : Int32 × Nat := if f i < 10 then (nI (dE f (41 - i) i 0).1, (dE f (41 - i) i 0).2) else (ev (f i), i + 1)
theorem unV_le {f : Nat → Nat} {ev : Nat → Int32} (hf : ∀ i, f i < 10 → i < 40) {i : Nat} (h : i ≤ 40) : i + 1 ≤ (unV f ev i).2 ∧ (unV f ev i).2 ≤ 41 := by
  unfold unV
  split
  next hc =>
    have e : 41 - i = (40 - i) + 1 := by omega
    rw [e, dE_S, if_pos hc]
    exact dE_le hf _ _ _ (by omega)
  next => exact ⟨Nat.le_refl _, by show i + 1 ≤ 41; omega⟩
def sumE (f : Nat → Nat) (ev : Nat → Int32) : Nat → Nat → Int32 → Int32 → Int32 × Nat
  | 0, i, s, _ => (s, i)
  | n + 1, i, s, g => if f (unV f ev i).2 = 10 then sumE f ev n ((unV f ev i).2 + 1) (s + g * (unV f ev i).1) (nI 1) else if f (unV f ev i).2 = 11 then sumE f ev n ((unV f ev i).2 + 1) (s + g * (unV f ev i).1) (-1) else (s + g * (unV f ev i).1, (unV f ev i).2)
theorem sumE_S (f : Nat → Nat) (ev : Nat → Int32) (n i : Nat) (s g : Int32) : sumE f ev (n + 1) i s g = if f (unV f ev i).2 = 10 then sumE f ev n ((unV f ev i).2 + 1) (s + g * (unV f ev i).1) (nI 1) else if f (unV f ev i).2 = 11 then sumE f ev n ((unV f ev i).2 + 1) (s + g * (unV f ev i).1) (-1) else (s + g * (unV f ev i).1, (unV f ev i).2) := rfl
def envV (t : Sg) (D : Dy) (p s : Nat) : Int32 := if s = 21 then nI (gdn t D p) else if s = 22 then fre t D p else if s = 23 then D 1 p else if s = 24 then D 0 0 else if s = 25 then D 0 0 / nI 60 else if s = 26 then nI p else D 28 p
theorem mv_sum_d {t : Sg} {D : Dy} {τ : Sg} {P : Option AV → Sg → Prop} (hA : Ag t D τ) (hX : XT t) {k p : Nat} (hk : k < 10) {s g y z : Int32} : ∀ (n i v : Nat), 41 ≤ i + n → i ≤ 40 → G true 155 P 95 [some (.inr (.inr (69, false, 0))), some (.inl (nI k)), some (.inl (nI p)), some (.inl s), some (.inl g), some (.inl y), some (.inl z), some (.inl (nI (dE (sy t k) n i v).1))] [] (aw τ (dE (sy t k) n i v).2) → G true 155 P 17 [some (.inr (.inr (69, false, 0))), some (.inl (nI k)), some (.inl (nI p)), some (.inl s), some (.inl g), some (.inl y), some (.inl z), some (.inl (nI v))] [] (aw τ i) := by
  intro n
  induction n with
  | zero =>
    intro i v h1 h2
    omega
  | succ n ih =>
    intro i v h1 h2 hK
    have hs := sy_le hX hk (i := i)
    refine G_wp 100 [17, 95] rfl ?_
    refine ⟨_, _, mv_symbol (aw_A hA _) hX hk rfl (by omega) (aw_at _ _), ?_⟩
    refine br_ge rfl rfl (by omega) (by omega) (fun h21 => ?_) (fun h21 => ?_)
    · rw [dE_S, if_neg (by omega)] at hK
      exact hK
    · refine ⟨_, _, mv_symbol (aw_A hA _) hX hk rfl (by omega) (aw_at _ _), nI ((10 * v) + (sy t k (i))), (add_n (mul_n rfl rfl) rfl), nI (i + 1), (add_n (aw_at _ _) rfl), ?_⟩
      replace hA := Ag_scr hA (k := 69) (d := false) (i := 0) (j := 41) (v := (nI (i + 1))) (by decide) rfl
      rw [dE_S, if_pos h21] at hK
      have h40 := sy_lt hX hk (i := i) (by omega)
      rw [aw_S]
      exact ih (i + 1) (10 * v + sy t k i) (by omega) (by omega) hK
theorem mv_sum_t {t : Sg} {D : Dy} {τ : Sg} {P : Option AV → Sg → Prop} (hA : Ag t D τ) (hX : XT t) {k p : Nat} (hk : k < 10) {s g y z u : Int32} {j : Nat} (hj : j ≤ 41) (c1 : sy t k j = 10 ∨ sy t k j = 11 → G true 155 P 6 [some (.inr (.inr (69, false, 0))), some (.inl (nI k)), some (.inl (nI p)), some (.inl (s + g * u)), some (.inl (if sy t k j = 10 then nI 1 else -1)), some (.inl (nI 1)), none, none] [] (aw τ (j + 1))) (c2 : ¬ (sy t k j = 10 ∨ sy t k j = 11) → ∀ τ2, τ2 = aw τ j → G true 155 P 6 [some (.inr (.inr (69, false, 0))), some (.inl (nI k)), some (.inl (nI p)), some (.inl (s + g * u)), some (.inl (-1)), some (.inl (nI 0)), none, none] [] τ2) : G true 155 P 95 [some (.inr (.inr (69, false, 0))), some (.inl (nI k)), some (.inl (nI p)), some (.inl s), some (.inl g), some (.inl y), some (.inl z), some (.inl u)] [] (aw τ j) := by
  have hs := sy_le hX hk (i := j)
  refine G_wp 100 [6] rfl ?_
  refine ⟨_, rfl, _, _, mv_symbol (aw_A hA _) hX hk rfl (by omega) (aw_at _ _), ?_⟩
  refine br_eq rfl rfl (by omega) (by omega) (fun h105 => ?_) (fun h105 => ?_)
  · refine ⟨_, rfl, _, _, mv_symbol (aw_A hA _) hX hk rfl (by omega) (aw_at _ _), ?_⟩
    refine br_ne rfl rfl (by omega) (by omega) (fun h119 => ?_) (fun h119 => ?_)
    · refine ⟨_, rfl, ?_⟩
      refine br_eq rfl rfl (by omega) (by omega) (fun h128 => ?_) (fun h128 => ?_)
      · exact absurd h128 (by omega)
      · refine ⟨nI (j + 1), (add_n (aw_at _ _) rfl), ?_⟩
        replace hA := Ag_scr hA (k := 69) (d := false) (i := 0) (j := 41) (v := (nI (j + 1))) (by decide) rfl
        exact absurd h105 h119
    · refine ⟨_, rfl, ?_⟩
      refine br_eq rfl rfl (by omega) (by omega) (fun h128 => ?_) (fun h128 => ?_)
      · exact absurd h128 (by omega)
      · refine ⟨nI (j + 1), (add_n (aw_at _ _) rfl), ?_⟩
        replace hA := Ag_scr hA (k := 69) (d := false) (i := 0) (j := 41) (v := (nI (j + 1))) (by decide) rfl
        rw [aw_S]
        have q := c1 (by omega)
        rw [if_pos (by omega)] at q
        exact G_fg 6 (G_fg 7 q)
  · refine ⟨_, _, mv_symbol (aw_A hA _) hX hk rfl (by omega) (aw_at _ _), ?_⟩
    refine br_ne rfl rfl (by omega) (by omega) (fun h110 => ?_) (fun h110 => ?_)
    · refine ⟨_, rfl, _, _, mv_symbol (aw_A hA _) hX hk rfl (by omega) (aw_at _ _), ?_⟩
      refine br_ne rfl rfl (by omega) (by omega) (fun h119 => ?_) (fun h119 => ?_)
      · refine ⟨_, rfl, ?_⟩
        refine br_eq rfl rfl (by omega) (by omega) (fun h128 => ?_) (fun h128 => ?_)
        · refine ⟨nI (j + 0), (add_n (aw_at _ _) rfl), ?_⟩
          replace hA := Ag_scr hA (k := 69) (d := false) (i := 0) (j := 41) (v := (nI (j + 0))) (by decide) rfl
          exact G_fg 6 (G_fg 7 (c2 (by omega) _ (aw_S _ _ _)))
        · exact absurd h128 (by omega)
      · refine ⟨_, rfl, ?_⟩
        refine br_eq rfl rfl (by omega) (by omega) (fun h128 => ?_) (fun h128 => ?_)
        · refine ⟨nI (j + 0), (add_n (aw_at _ _) rfl), ?_⟩
          replace hA := Ag_scr hA (k := 69) (d := false) (i := 0) (j := 41) (v := (nI (j + 0))) (by decide) rfl
          exact absurd h119 h105
        · exact absurd h128 (by omega)
    · refine ⟨_, rfl, _, _, mv_symbol (aw_A hA _) hX hk rfl (by omega) (aw_at _ _), ?_⟩
      refine br_ne rfl rfl (by omega) (by omega) (fun h119 => ?_) (fun h119 => ?_)
      · refine ⟨_, rfl, ?_⟩
        refine br_eq rfl rfl (by omega) (by omega) (fun h128 => ?_) (fun h128 => ?_)
        · exact absurd h128 (by omega)
        · refine ⟨nI (j + 1), (add_n (aw_at _ _) rfl), ?_⟩
          replace hA := Ag_scr hA (k := 69) (d := false) (i := 0) (j := 41) (v := (nI (j + 1))) (by decide) rfl
          rw [aw_S]
          have q := c1 (by omega)
          rw [if_neg (by omega)] at q
          exact G_fg 6 (G_fg 7 q)
      · refine ⟨_, rfl, ?_⟩
        refine br_eq rfl rfl (by omega) (by omega) (fun h128 => ?_) (fun h128 => ?_)
        · exact absurd h128 (by omega)
        · refine ⟨nI (j + 1), (add_n (aw_at _ _) rfl), ?_⟩
          replace hA := Ag_scr hA (k := 69) (d := false) (i := 0) (j := 41) (v := (nI (j + 1))) (by decide) rfl
          exact absurd h119 h105
theorem mv_sum_x {k p : Nat} {v g : Int32} {τ2 τ3 : Sg} (h : τ2 = τ3) : G true 155 (fun r' s' => r' = some (.inl v) ∧ s' = τ3) 6 [some (.inr (.inr (69, false, 0))), some (.inl (nI k)), some (.inl (nI p)), some (.inl v), some (.inl g), some (.inl (nI 0)), none, none] [] τ2 := by
  refine G_wp 20 [] rfl ?_
  refine br_eq rfl rfl (by omega) (by omega) (fun h7 => ?_) (fun h7 => ?_)
  · exact ⟨rfl, h⟩
  · exact absurd h7 (by omega)
theorem mv_sum_l {t : Sg} {D : Dy} {τ : Sg} (hA : Ag t D τ) (hT : WN t) (hX : XT t) {k p : Nat} (hk : k < 10) (hp : p < nP t) : ∀ (n i : Nat) (s g : Int32), 41 ≤ i + n → i ≤ 40 → G true 155 (fun r' s' => r' = some (.inl (sumE (sy t k) (envV t D p) n i s g).1) ∧ s' = aw τ (sumE (sy t k) (envV t D p) n i s g).2) 6 [some (.inr (.inr (69, false, 0))), some (.inl (nI k)), some (.inl (nI p)), some (.inl s), some (.inl g), some (.inl (nI 1)), none, none] [] (aw τ i) := by
  have hP := hT.P
  have hf : ∀ i, sy t k i < 10 → i < 40 := fun i h => sy_lt hX hk (by omega)
  intro n
  induction n with
  | zero =>
    intro i s g h1 h2
    omega
  | succ n ih =>
    intro i s g h1 hi
    have hs := sy_le hX hk (i := i)
    have hA1 := aw_A hA i
    have TAIL : ∀ (j : Nat), (i + 1 ≤ j ∧ j ≤ 41) → ∀ (y z u : Int32), j = (unV (sy t k) (envV t D p) i).2 → u = (unV (sy t k) (envV t D p) i).1 → G true 155 (fun r' s' => r' = some (.inl (sumE (sy t k) (envV t D p) (n + 1) i s g).1) ∧ s' = aw τ (sumE (sy t k) (envV t D p) (n + 1) i s g).2) 95 [some (.inr (.inr (69, false, 0))), some (.inl (nI k)), some (.inl (nI p)), some (.inl s), some (.inl g), some (.inl y), some (.inl z), some (.inl u)] [] (aw τ j) := by
      intro j hj y z u e1 e2
      subst e2
      refine mv_sum_t hA hX hk hj.2 (fun h => ?_) (fun h τ2 h2 => ?_)
      · have h40 := sy_lt hX hk (i := j) (by omega)
        rw [sumE_S, ← e1]
        by_cases q : sy t k j = 10
        · rw [if_pos q, if_pos q]
          exact ih (j + 1) _ _ (by omega) (by omega)
        · rw [if_neg q, if_neg q, if_pos (by omega)]
          exact ih (j + 1) _ _ (by omega) (by omega)
      · rw [sumE_S, ← e1, if_neg (fun q => h (Or.inl q)), if_neg (fun q => h (Or.inr q))]
        exact mv_sum_x h2
    refine G_wp 200 [17, 95] rfl ?_
    refine br_eq rfl rfl (by omega) (by omega) (fun h7 => ?_) (fun h7 => ?_)
    · exact absurd h7 (by omega)
    · refine ⟨_, _, mv_symbol (aw_A hA _) hX hk rfl (by omega) (aw_at _ _), _, rfl, _, rfl, ?_⟩
      refine br_ge rfl rfl (by omega) (by omega) (fun h16 => ?_) (fun h16 => ?_)
      · refine br_ne rfl rfl (by omega) (by omega) (fun h39 => ?_) (fun h39 => ?_)
        · refine br_ne rfl rfl (by omega) (by omega) (fun h46 => ?_) (fun h46 => ?_)
          · refine br_ne rfl rfl (by omega) (by omega) (fun h53 => ?_) (fun h53 => ?_)
            · refine br_ne rfl rfl (by omega) (by omega) (fun h63 => ?_) (fun h63 => ?_)
              · refine br_ne rfl rfl (by omega) (by omega) (fun h71 => ?_) (fun h71 => ?_)
                · refine br_ne rfl rfl (by omega) (by omega) (fun h81 => ?_) (fun h81 => ?_)
                  · refine ⟨p, rfl, (by show _ < 12; omega), ?_⟩
                    rw [hA1.r28 p (by omega)]
                    refine ⟨_, rfl, nI (i + 1), (add_n (aw_at _ _) rfl), ?_⟩
                    replace hA := Ag_scr hA (k := 69) (d := false) (i := 0) (j := 41) (v := (nI (i + 1))) (by decide) rfl
                    have hu : unV (sy t k) (envV t D p) i = ((D 28 p), i + 1) := by
                      unfold unV envV
                      rw [if_neg (by omega)]
                      rw [if_neg (by omega)]
                      rw [if_neg (by omega)]
                      rw [if_neg (by omega)]
                      rw [if_neg (by omega)]
                      rw [if_neg (by omega)]
                      rw [if_neg (by omega)]
                    have hT1 := TAIL (unV (sy t k) (envV t D p) i).2 (unV_le hf hi) (nI 1) (nI (sy t k i)) (unV (sy t k) (envV t D p) i).1 rfl rfl
                    rw [hu] at hT1
                    rw [aw_S]
                    exact hT1
                  · refine ⟨_, rfl, nI (i + 1), (add_n (aw_at _ _) rfl), ?_⟩
                    replace hA := Ag_scr hA (k := 69) (d := false) (i := 0) (j := 41) (v := (nI (i + 1))) (by decide) rfl
                    have hu : unV (sy t k) (envV t D p) i = ((nI (p)), i + 1) := by
                      unfold unV envV
                      rw [if_neg (by omega)]
                      rw [if_neg (by omega)]
                      rw [if_neg (by omega)]
                      rw [if_neg (by omega)]
                      rw [if_neg (by omega)]
                      rw [if_neg (by omega)]
                      rw [if_pos (by omega)]
                    have hT1 := TAIL (unV (sy t k) (envV t D p) i).2 (unV_le hf hi) (nI 1) (nI (sy t k i)) (unV (sy t k) (envV t D p) i).1 rfl rfl
                    rw [hu] at hT1
                    rw [aw_S]
                    exact hT1
                · refine ⟨0, rfl, (by show _ < 23184; omega), ?_⟩
                  rw [hA1.r0 0 (by decide)]
                  refine ⟨(by decide), _, rfl, nI (i + 1), (add_n (aw_at _ _) rfl), ?_⟩
                  replace hA := Ag_scr hA (k := 69) (d := false) (i := 0) (j := 41) (v := (nI (i + 1))) (by decide) rfl
                  have hu : unV (sy t k) (envV t D p) i = (((D 0 0) / (nI (60))), i + 1) := by
                    unfold unV envV
                    rw [if_neg (by omega)]
                    rw [if_neg (by omega)]
                    rw [if_neg (by omega)]
                    rw [if_neg (by omega)]
                    rw [if_neg (by omega)]
                    rw [if_pos (by omega)]
                  have hT1 := TAIL (unV (sy t k) (envV t D p) i).2 (unV_le hf hi) (nI 1) (nI (sy t k i)) (unV (sy t k) (envV t D p) i).1 rfl rfl
                  rw [hu] at hT1
                  rw [aw_S]
                  exact hT1
              · refine ⟨0, rfl, (by show _ < 23184; omega), ?_⟩
                rw [hA1.r0 0 (by decide)]
                refine ⟨_, rfl, nI (i + 1), (add_n (aw_at _ _) rfl), ?_⟩
                replace hA := Ag_scr hA (k := 69) (d := false) (i := 0) (j := 41) (v := (nI (i + 1))) (by decide) rfl
                have hu : unV (sy t k) (envV t D p) i = ((D 0 0), i + 1) := by
                  unfold unV envV
                  rw [if_neg (by omega)]
                  rw [if_neg (by omega)]
                  rw [if_neg (by omega)]
                  rw [if_neg (by omega)]
                  rw [if_pos (by omega)]
                have hT1 := TAIL (unV (sy t k) (envV t D p) i).2 (unV_le hf hi) (nI 1) (nI (sy t k i)) (unV (sy t k) (envV t D p) i).1 rfl rfl
                rw [hu] at hT1
                rw [aw_S]
                exact hT1
            · refine ⟨8 + p, (add_n rfl rfl), (by show _ < 23184; omega), ?_⟩
              rw [hA1.r1 p (by omega)]
              refine ⟨_, rfl, nI (i + 1), (add_n (aw_at _ _) rfl), ?_⟩
              replace hA := Ag_scr hA (k := 69) (d := false) (i := 0) (j := 41) (v := (nI (i + 1))) (by decide) rfl
              have hu : unV (sy t k) (envV t D p) i = ((D 1 p), i + 1) := by
                unfold unV envV
                rw [if_neg (by omega)]
                rw [if_neg (by omega)]
                rw [if_neg (by omega)]
                rw [if_pos (by omega)]
              have hT1 := TAIL (unV (sy t k) (envV t D p) i).2 (unV_le hf hi) (nI 1) (nI (sy t k i)) (unV (sy t k) (envV t D p) i).1 rfl rfl
              rw [hu] at hT1
              rw [aw_S]
              exact hT1
          · refine ⟨_, _, mv_free hA1 hT rfl hp, _, rfl, nI (i + 1), (add_n (aw_at _ _) rfl), ?_⟩
            replace hA := Ag_scr hA (k := 69) (d := false) (i := 0) (j := 41) (v := (nI (i + 1))) (by decide) rfl
            have hu : unV (sy t k) (envV t D p) i = ((fre t D p), i + 1) := by
              unfold unV envV
              rw [if_neg (by omega)]
              rw [if_neg (by omega)]
              rw [if_pos (by omega)]
            have hT1 := TAIL (unV (sy t k) (envV t D p) i).2 (unV_le hf hi) (nI 1) (nI (sy t k i)) (unV (sy t k) (envV t D p) i).1 rfl rfl
            rw [hu] at hT1
            rw [aw_S]
            exact hT1
        · refine ⟨_, _, mv_good hA1 hT rfl, _, rfl, nI (i + 1), (add_n (aw_at _ _) rfl), ?_⟩
          replace hA := Ag_scr hA (k := 69) (d := false) (i := 0) (j := 41) (v := (nI (i + 1))) (by decide) rfl
          have hu : unV (sy t k) (envV t D p) i = ((nI (gdn t D p)), i + 1) := by
            unfold unV envV
            rw [if_neg (by omega)]
            rw [if_pos (by omega)]
          have hT1 := TAIL (unV (sy t k) (envV t D p) i).2 (unV_le hf hi) (nI 1) (nI (sy t k i)) (unV (sy t k) (envV t D p) i).1 rfl rfl
          rw [hu] at hT1
          rw [aw_S]
          exact hT1
      · have hu : unV (sy t k) (envV t D p) i = (nI (dE (sy t k) (41 - i) i 0).1, (dE (sy t k) (41 - i) i 0).2) := by
          unfold unV
          rw [if_pos h16]
        refine mv_sum_d hA hX hk (41 - i) i 0 (by omega) hi ?_
        have hT1 := TAIL (unV (sy t k) (envV t D p) i).2 (unV_le hf hi) (nI 1) (nI (sy t k i)) (unV (sy t k) (envV t D p) i).1 rfl rfl
        rw [hu] at hT1
        exact hT1
theorem mv_sum {t : Sg} {D : Dy} {τ : Sg} (hA : Ag t D τ) (hT : WN t) (hX : XT t) {k p i : Nat} (hk : k < 10) (hp : p < nP t) (hi : i ≤ 40) (hat : τ 69 false 0 41 = nI i) : Ev true 155 [.inr (.inr (69, false, 0)), .inl (nI (k)), .inl (nI (p))] τ (some (.inl (sumE (sy t k) (envV t D p) (41 - i) i (nI 0) (nI 1)).1)) (aw τ (sumE (sy t k) (envV t D p) (41 - i) i (nI 0) (nI 1)).2) := by
  refine Ev_wp 26 [6] rfl rfl ?_
  refine ⟨_, rfl, _, rfl, _, rfl, ?_⟩
  have h := mv_sum_l hA hT hX hk hp (41 - i) i (nI 0) (nI 1) (by omega) hi
  rw [aw_id hat] at h
  exact h
