/-! A rule's test, on the model's state: the stacks. -/
def b2 (b : Bool) : Nat := if b then 1 else 0
/-- a stack's cells, the top first -/
def stk (τ : Sg) (k : Nat) : List Nat → Prop
  | [] => True
  | x :: xs => τ k false 0 xs.length = nI x ∧ stk τ k xs
theorem stk_up {τ : Sg} {k k' c : Nat} {v : Int32} : ∀ {l : List Nat}, (¬ k' = k ∨ l.length ≤ c) → stk τ k l → stk (up4 τ k' false 0 c v) k l
  | [], _, _ => trivial
  | x :: xs, h, hs => by
    refine ⟨?_, stk_up (h.imp id (fun q => by simp at q; omega)) hs.2⟩
    rw [← hs.1]
    unfold up4
    rw [if_neg]
    rintro ⟨q1, -, -, q4⟩
    rcases h with h | h
    · exact h q1.symm
    · simp at h
      omega
theorem stk_push {τ : Sg} {k x : Nat} {l : List Nat} (h : stk τ k l) : stk (up4 τ k false 0 l.length (nI x)) k (x :: l) := ⟨up4_s _ _ _ _ _ _, stk_up (Or.inr (Nat.le_refl _)) h⟩
/-- the model with the reading place i and both stacks -/
def SR (t : Sg) (D : Dy) (τ : Sg) (i : Nat) (ss vs : List Nat) : Prop := Ag t D τ ∧ τ 69 false 0 41 = nI i ∧ stk τ 99 ss ∧ stk τ 98 vs
theorem SR_at {t : Sg} {D : Dy} {τ : Sg} {i j : Nat} {ss vs : List Nat} (h : SR t D τ i ss vs) : SR t D (up4 τ 69 false 0 41 (nI j)) j ss vs := ⟨Ag_scr h.1 (by decide) rfl, up4_s _ _ _ _ _ _, stk_up (Or.inl (by decide)) h.2.2.1, stk_up (Or.inl (by decide)) h.2.2.2⟩
theorem SR_aw {t : Sg} {D : Dy} {τ : Sg} {i j : Nat} {ss vs : List Nat} (h : SR t D τ i ss vs) : SR t D (aw τ j) j ss vs := SR_at h
theorem SR_s {t : Sg} {D : Dy} {τ : Sg} {i x : Nat} {ss vs : List Nat} (h : SR t D τ i ss vs) : SR t D (up4 τ 99 false 0 ss.length (nI x)) i (x :: ss) vs := ⟨Ag_scr h.1 (by decide) rfl, by rw [up4_nk (by decide)]; exact h.2.1, stk_push h.2.2.1, stk_up (Or.inl (by decide)) h.2.2.2⟩
theorem SR_v {t : Sg} {D : Dy} {τ : Sg} {i x : Nat} {ss vs : List Nat} (h : SR t D τ i ss vs) : SR t D (up4 τ 98 false 0 vs.length (nI x)) i ss (x :: vs) := ⟨Ag_scr h.1 (by decide) rfl, by rw [up4_nk (by decide)]; exact h.2.1, stk_up (Or.inl (by decide)) h.2.2.1, stk_push h.2.2.2⟩
theorem SR_ps {t : Sg} {D : Dy} {τ : Sg} {i x : Nat} {ss vs : List Nat} (h : SR t D τ i (x :: ss) vs) : SR t D τ i ss vs := ⟨h.1, h.2.1, h.2.2.1.2, h.2.2.2⟩
theorem SR_pv {t : Sg} {D : Dy} {τ : Sg} {i x : Nat} {ss vs : List Nat} (h : SR t D τ i ss (x :: vs)) : SR t D τ i ss vs := ⟨h.1, h.2.1, h.2.2.1, h.2.2.2.2⟩
def jn (s x y : Nat) : Nat := if s = 17 then (if x = 1 ∧ y = 1 then 1 else 0) else (if x = 1 ∨ y = 1 then 1 else 0)
theorem jn_le (s x y : Nat) : jn s x y ≤ 1 := by
  unfold jn
  repeat (first | omega | split)
theorem jn_and {x y : Nat} (hx : x ≤ 1) (hy : y ≤ 1) : nI x &&& nI y = nI (jn 17 x y) := by
  have h1 : x = 0 ∨ x = 1 := by omega
  have h2 : y = 0 ∨ y = 1 := by omega
  rcases h1 with rfl | rfl <;> rcases h2 with rfl | rfl <;> decide
theorem jn_or {s x y : Nat} (hs : ¬ s = 17) (hx : x ≤ 1) (hy : y ≤ 1) : nI x ||| nI y = nI (jn s x y) := by
  have h1 : x = 0 ∨ x = 1 := by omega
  have h2 : y = 0 ∨ y = 1 := by omega
  unfold jn
  rw [if_neg hs]
  rcases h1 with rfl | rfl <;> rcases h2 with rfl | rfl <;> decide
theorem mv_joins {τ : Sg} {s x y : Nat} (hs : s ≤ 99) (hx : x ≤ 1) (hy : y ≤ 1) : Ev true 54 [.inl (nI (s)), .inl (nI (x)), .inl (nI (y))] τ (some (.inl (nI (jn s x y)))) τ := by
  refine Ev_wp 32 [] rfl rfl ?_
  refine br_ne rfl rfl (by omega) (by omega) (fun h2 => ?_) (fun h2 => ?_)
  · exact ⟨congrArg (fun z => some (Sum.inl z)) (jn_or h2 hx hy), rfl⟩
  · subst h2
    exact ⟨congrArg (fun z => some (Sum.inl z)) (jn_and hx hy), rfl⟩
def flp (n x : Nat) : Nat := if n % 2 = 0 then x else 1 - x
theorem flp_S (n x : Nat) (hx : x ≤ 1) : flp n (1 - x) = flp (n + 1) x := by
  unfold flp
  by_cases h : n % 2 = 0
  · rw [if_pos h, if_neg (by omega)]
  · rw [if_neg h, if_pos (by omega)]
    omega
theorem nI_1m {x : Nat} (hx : x ≤ 1) : nI 1 - nI x = nI (1 - x) := pk_sub hx
theorem stk_hd {τ : Sg} {k x : Nat} {l : List Nat} (h : stk τ k (x :: l)) {j : Nat} (e : j = l.length) : τ k false 0 j = nI x := by rw [e]; exact h.1
theorem nI_dec (m : Nat) : nI (m + 1) + -1 = nI m := by
  rw [← nI_add, Int32.add_assoc]
  have : nI 1 + (-1 : Int32) = 0 := by decide
  rw [this, Int32.add_zero]
theorem mv_turned_l {t : Sg} {D : Dy} {i : Nat} {rest vs : List Nat} {y : Int32} (hr : ∀ c r, rest = c :: r → ¬ c = 19 ∧ c ≤ 99) (hv : vs.length ≤ 50) : ∀ (n q : Nat) (τ : Sg) (x : Nat), x ≤ 1 → q = (List.replicate n 19 ++ rest).length → q ≤ 59 → SR t D τ i (List.replicate n 19 ++ rest) (x :: vs) → G true 55 (fun r' s' => r' = some (.inl (nI rest.length)) ∧ SR t D s' i rest (flp n x :: vs)) 2 [some (.inr (.inr (69, false, 0))), some (.inl (nI (vs.length + 1))), some (.inl y), some (.inl (nI q))] [] τ := by
  intro n
  induction n with
  | zero =>
    intro q τ x hx hq h59 hS
    change q = rest.length at hq
    subst hq
    change SR t D τ i rest (x :: vs) at hS
    show G true 55 (fun r' s' => r' = some (.inl (nI rest.length)) ∧ SR t D s' i rest (x :: vs)) 2 [some (.inr (.inr (69, false, 0))), some (.inl (nI (vs.length + 1))), some (.inl y), some (.inl (nI rest.length))] [] τ
    cases rest with
    | nil =>
      show G true 55 (fun r' s' => r' = some (.inl (nI 0)) ∧ SR t D s' i [] (x :: vs)) 2 [some (.inr (.inr (69, false, 0))), some (.inl (nI (vs.length + 1))), some (.inl y), some (.inl (nI 0))] [] τ
      refine G_wp 60 [2] rfl ?_
      refine br_le rfl rfl (by omega) (by omega) (fun h3 => ?_) (fun h3 => ?_)
      · exact ⟨rfl, hS⟩
      · exact absurd h3 (by omega)
    | cons c rest =>
      have hc := hr c rest rfl
      have h59 : rest.length + 1 ≤ 59 := h59
      show G true 55 (fun r' s' => r' = some (.inl (nI (rest.length + 1))) ∧ SR t D s' i (c :: rest) (x :: vs)) 2 [some (.inr (.inr (69, false, 0))), some (.inl (nI (vs.length + 1))), some (.inl y), some (.inl (nI (rest.length + 1)))] [] τ
      refine G_wp 60 [2] rfl ?_
      refine br_le rfl rfl (by omega) (by omega) (fun h3 => ?_) (fun h3 => ?_)
      · exact absurd h3 (by omega)
      · refine ⟨(rest.length + 1) - 1, (sub_n rfl rfl (by omega)), (by show _ < 60; omega), ?_⟩
        refine br_ne (by exact stk_hd hS.2.2.1 (by omega)) rfl (by omega) (by omega) (fun h11 => ?_) (fun h11 => ?_)
        · exact ⟨rfl, hS⟩
        · exact absurd h11 (by omega)
  | succ n ih =>
    intro q τ x hx hq h59 hS
    obtain ⟨m, hm⟩ : ∃ m, m = (List.replicate n 19 ++ rest).length := ⟨_, rfl⟩
    have hq2 : q = m + 1 := by rw [hq, hm, List.replicate_succ]; rfl
    rw [List.replicate_succ] at hS
    change SR t D τ i (19 :: (List.replicate n 19 ++ rest)) (x :: vs) at hS
    subst hq2
    refine G_wp 60 [2] rfl ?_
    refine br_le rfl rfl (by omega) (by omega) (fun h3 => ?_) (fun h3 => ?_)
    · exact absurd h3 (by omega)
    · refine ⟨(m + 1) - 1, (sub_n rfl rfl (by omega)), (by show _ < 60; omega), ?_⟩
      refine br_ne (by exact stk_hd hS.2.2.1 (by omega)) rfl (by omega) (by omega) (fun h11 => ?_) (fun h11 => ?_)
      · exact absurd h11 (by omega)
      · refine ⟨(vs.length + 1) - 1, (sub_n rfl rfl (by omega)), (by show _ < 60; omega), (vs.length + 1) - 1, (sub_n rfl rfl (by omega)), (by show _ < 60; omega), nI (1 - x), (sub_n rfl (by exact stk_hd hS.2.2.2 (by omega)) hx), nI (m), nI_dec _, ?_⟩
        have e1 : vs.length + 1 - 1 = vs.length := by omega
        rw [e1]
        have hS2 := SR_v (x := 1 - x) (SR_pv (SR_ps hS))
        rw [← flp_S n x hx]
        exact ih m _ (1 - x) (by omega) hm (by omega) hS2
theorem mv_turned {t : Sg} {D : Dy} {i n x : Nat} {τ : Sg} {rest vs : List Nat} (hr : ∀ c r, rest = c :: r → ¬ c = 19 ∧ c ≤ 99) (hv : vs.length ≤ 50) (hx : x ≤ 1) (h59 : (List.replicate n 19 ++ rest).length ≤ 59) (hS : SR t D τ i (List.replicate n 19 ++ rest) (x :: vs)) : ∃ τ', Ev true 55 [.inr (.inr (69, false, 0)), .inl (nI (vs.length + 1)), .inl (nI (List.replicate n 19 ++ rest).length)] τ (some (.inl (nI rest.length))) τ' ∧ SR t D τ' i rest (flp n x :: vs) := by
  refine EvQ_wp 60 [2] rfl rfl ?_
  refine ⟨_, rfl, ?_⟩
  exact mv_turned_l hr hv n _ τ x hx rfl h59 hS
