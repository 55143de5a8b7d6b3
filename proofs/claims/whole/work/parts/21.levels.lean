/-! A rule's test, on the model's state: the levels. -/
abbrev Lv : Type := Option Bool × Option Bool × Nat
def oN : Option Bool → Nat → List Nat
  | some _, c => [c]
  | none, _ => []
def oV : Option Bool → List Nat
  | some b => [b2 b]
  | none => []
def bel : List Lv → List Nat
  | [] => []
  | L :: r => 15 :: (List.replicate L.2.2 19 ++ (oN L.2.1 17 ++ (oN L.1 18 ++ bel r)))
def vls : List Lv → List Nat
  | [] => []
  | L :: r => oV L.2.1 ++ (oV L.1 ++ vls r)
def lev (L : Lv) (v : Bool) : Bool := L.1.getD false || (L.2.1.getD true && v)
theorem b2_le (b : Bool) : b2 b ≤ 1 := by cases b <;> decide
theorem jn_a (a b : Bool) : jn 17 (b2 a) (b2 b) = b2 (a && b) := by cases a <;> cases b <;> rfl
theorem jn_o (a b : Bool) : jn 18 (b2 a) (b2 b) = b2 (a || b) := by cases a <;> cases b <;> rfl
def flB (n : Nat) (b : Bool) : Bool := if n % 2 = 0 then b else !b
theorem flp_b (n : Nat) (b : Bool) : flp n (b2 b) = b2 (flB n b) := by
  unfold flp flB
  split
  · rfl
  · cases b <;> rfl
theorem bel_hd {r : List Lv} {c : Nat} {l : List Nat} (h : bel r = c :: l) : c = 15 := by
  cases r with
  | nil => cases h
  | cons L r => exact (List.cons.inj h).1.symm
theorem oN_hd {o : Option Bool} {r : List Lv} {c : Nat} {l : List Nat} (h : oN o 18 ++ bel r = c :: l) : c = 15 ∨ c = 18 := by
  cases o with
  | none => exact Or.inl (bel_hd h)
  | some b => exact Or.inr (List.cons.inj h).1.symm
theorem lv_a41 {t : Sg} {D : Dy} {P : Option AV → Sg → Prop} {k p i s : Nat} {l vs : List Nat} {z6 z7 z8 : Option AV} {τ : Sg} {a : Option Bool} {v : Bool} (hs5 : s ≤ 99) (hv : vs.length ≤ 50) (hl : l.length ≤ 50) (hS : SR t D τ i (oN a 17 ++ l) (b2 v :: (oV a ++ vs))) (hK : ∀ τ', SR t D τ' i l (b2 (a.getD true && v) :: vs) → G true 189 P 41 [some (.inr (.inr (69, false, 0))), some (.inl (nI k)), some (.inl (nI p)), some (.inl (nI (vs.length + 1))), some (.inl (nI l.length)), some (.inl (nI s)), z6, z7, z8] [] τ') : G true 189 P 41 [some (.inr (.inr (69, false, 0))), some (.inl (nI k)), some (.inl (nI p)), some (.inl (nI (b2 v :: (oV a ++ vs)).length)), some (.inl (nI (oN a 17 ++ l).length)), some (.inl (nI s)), z6, z7, z8] [] τ := by
  cases a with
  | none =>
    have e : ((none : Option Bool).getD true && v) = v := by cases v <;> rfl
    rw [e] at hK
    exact hK τ hS
  | some b =>
    refine so_r41 (c := 17) (x := b2 v) (y := b2 b) (by decide) (Or.inl rfl) hs5 (b2_le _) (b2_le _) hv hl hS (fun τ' hS' => hK τ' ?_)
    rw [jn_a] at hS'
    exact hS'
theorem lv_o41 {t : Sg} {D : Dy} {P : Option AV → Sg → Prop} {k p i s : Nat} {l vs : List Nat} {z6 z7 z8 : Option AV} {τ : Sg} {a : Option Bool} {v : Bool} (hs5 : s ≤ 99) (hs : s = 18) (hv : vs.length ≤ 50) (hl : l.length ≤ 50) (hS : SR t D τ i (oN a 18 ++ l) (b2 v :: (oV a ++ vs))) (hK : ∀ τ', SR t D τ' i l (b2 (a.getD false || v) :: vs) → G true 189 P 41 [some (.inr (.inr (69, false, 0))), some (.inl (nI k)), some (.inl (nI p)), some (.inl (nI (vs.length + 1))), some (.inl (nI l.length)), some (.inl (nI s)), z6, z7, z8] [] τ') : G true 189 P 41 [some (.inr (.inr (69, false, 0))), some (.inl (nI k)), some (.inl (nI p)), some (.inl (nI (b2 v :: (oV a ++ vs)).length)), some (.inl (nI (oN a 18 ++ l).length)), some (.inl (nI s)), z6, z7, z8] [] τ := by
  cases a with
  | none =>
    have e : ((none : Option Bool).getD false || v) = v := by cases v <;> rfl
    rw [e] at hK
    exact hK τ hS
  | some b =>
    refine so_r41 (c := 18) (x := b2 v) (y := b2 b) (by decide) (Or.inr ⟨rfl, hs⟩) hs5 (b2_le _) (b2_le _) hv hl hS (fun τ' hS' => hK τ' ?_)
    rw [jn_o] at hS'
    exact hS'
theorem lv_a102 {t : Sg} {D : Dy} {P : Option AV → Sg → Prop} {k p i : Nat} {l vs : List Nat} {z5 z6 z7 z8 : Option AV} {τ : Sg} {a : Option Bool} {v : Bool} (hv : vs.length ≤ 50) (hl : l.length ≤ 50) (hS : SR t D τ i (oN a 17 ++ l) (b2 v :: (oV a ++ vs))) (hK : ∀ τ', SR t D τ' i l (b2 (a.getD true && v) :: vs) → G true 189 P 102 [some (.inr (.inr (69, false, 0))), some (.inl (nI k)), some (.inl (nI p)), some (.inl (nI (vs.length + 1))), some (.inl (nI l.length)), z5, z6, z7, z8] [] τ') : G true 189 P 102 [some (.inr (.inr (69, false, 0))), some (.inl (nI k)), some (.inl (nI p)), some (.inl (nI (b2 v :: (oV a ++ vs)).length)), some (.inl (nI (oN a 17 ++ l).length)), z5, z6, z7, z8] [] τ := by
  cases a with
  | none =>
    have e : ((none : Option Bool).getD true && v) = v := by cases v <;> rfl
    rw [e] at hK
    exact hK τ hS
  | some b =>
    refine so_r102 (c := 17) (x := b2 v) (y := b2 b) (by decide) (by decide) (b2_le _) (b2_le _) hv hl hS (fun τ' hS' => hK τ' ?_)
    rw [jn_a] at hS'
    exact hS'
theorem lv_o102 {t : Sg} {D : Dy} {P : Option AV → Sg → Prop} {k p i : Nat} {l vs : List Nat} {z5 z6 z7 z8 : Option AV} {τ : Sg} {a : Option Bool} {v : Bool} (hv : vs.length ≤ 50) (hl : l.length ≤ 50) (hS : SR t D τ i (oN a 18 ++ l) (b2 v :: (oV a ++ vs))) (hK : ∀ τ', SR t D τ' i l (b2 (a.getD false || v) :: vs) → G true 189 P 102 [some (.inr (.inr (69, false, 0))), some (.inl (nI k)), some (.inl (nI p)), some (.inl (nI (vs.length + 1))), some (.inl (nI l.length)), z5, z6, z7, z8] [] τ') : G true 189 P 102 [some (.inr (.inr (69, false, 0))), some (.inl (nI k)), some (.inl (nI p)), some (.inl (nI (b2 v :: (oV a ++ vs)).length)), some (.inl (nI (oN a 18 ++ l).length)), z5, z6, z7, z8] [] τ := by
  cases a with
  | none =>
    have e : ((none : Option Bool).getD false || v) = v := by cases v <;> rfl
    rw [e] at hK
    exact hK τ hS
  | some b =>
    refine so_r102 (c := 18) (x := b2 v) (y := b2 b) (by decide) (by decide) (b2_le _) (b2_le _) hv hl hS (fun τ' hS' => hK τ' ?_)
    rw [jn_o] at hS'
    exact hS'
theorem lv_a199 {t : Sg} {D : Dy} {P : Option AV → Sg → Prop} {k p i : Nat} {l vs : List Nat} {z5 z6 z7 z8 : Option AV} {τ : Sg} {a : Option Bool} {v : Bool} (hv : vs.length ≤ 50) (hl : l.length ≤ 50) (hS : SR t D τ i (oN a 17 ++ l) (b2 v :: (oV a ++ vs))) (hK : ∀ τ', SR t D τ' i l (b2 (a.getD true && v) :: vs) → G true 189 P 199 [some (.inr (.inr (69, false, 0))), some (.inl (nI k)), some (.inl (nI p)), some (.inl (nI (vs.length + 1))), some (.inl (nI l.length)), z5, z6, z7, z8] [] τ') : G true 189 P 199 [some (.inr (.inr (69, false, 0))), some (.inl (nI k)), some (.inl (nI p)), some (.inl (nI (b2 v :: (oV a ++ vs)).length)), some (.inl (nI (oN a 17 ++ l).length)), z5, z6, z7, z8] [] τ := by
  cases a with
  | none =>
    have e : ((none : Option Bool).getD true && v) = v := by cases v <;> rfl
    rw [e] at hK
    exact hK τ hS
  | some b =>
    refine so_r199 (c := 17) (x := b2 v) (y := b2 b) (by decide) (b2_le _) (b2_le _) hv hl hS (fun τ' hS' => hK τ' ?_)
    rw [jn_a] at hS'
    exact hS'
theorem lv_o199 {t : Sg} {D : Dy} {P : Option AV → Sg → Prop} {k p i : Nat} {l vs : List Nat} {z5 z6 z7 z8 : Option AV} {τ : Sg} {a : Option Bool} {v : Bool} (hv : vs.length ≤ 50) (hl : l.length ≤ 50) (hS : SR t D τ i (oN a 18 ++ l) (b2 v :: (oV a ++ vs))) (hK : ∀ τ', SR t D τ' i l (b2 (a.getD false || v) :: vs) → G true 189 P 199 [some (.inr (.inr (69, false, 0))), some (.inl (nI k)), some (.inl (nI p)), some (.inl (nI (vs.length + 1))), some (.inl (nI l.length)), z5, z6, z7, z8] [] τ') : G true 189 P 199 [some (.inr (.inr (69, false, 0))), some (.inl (nI k)), some (.inl (nI p)), some (.inl (nI (b2 v :: (oV a ++ vs)).length)), some (.inl (nI (oN a 18 ++ l).length)), z5, z6, z7, z8] [] τ := by
  cases a with
  | none =>
    have e : ((none : Option Bool).getD false || v) = v := by cases v <;> rfl
    rw [e] at hK
    exact hK τ hS
  | some b =>
    refine so_r199 (c := 18) (x := b2 v) (y := b2 b) (by decide) (b2_le _) (b2_le _) hv hl hS (fun τ' hS' => hK τ' ?_)
    rw [jn_o] at hS'
    exact hS'
theorem so_n41 {t : Sg} {D : Dy} {P : Option AV → Sg → Prop} {k p i s n : Nat} {l vs : List Nat} {z6 z7 z8 : Option AV} {τ : Sg} (hs5 : s ≤ 99) (hc : ∀ c l', l = c :: l' → c ≤ 99 ∧ ¬ c = 17 ∧ ¬ (c = 18 ∧ s = 18)) (hl : l.length ≤ 50) (hS : SR t D τ i l vs) (hK : G true 189 P 86 [some (.inr (.inr (69, false, 0))), some (.inl (nI k)), some (.inl (nI p)), some (.inl (nI n)), some (.inl (nI l.length)), some (.inl (nI s)), z6, z7, z8] [] τ) : G true 189 P 41 [some (.inr (.inr (69, false, 0))), some (.inl (nI k)), some (.inl (nI p)), some (.inl (nI n)), some (.inl (nI l.length)), some (.inl (nI s)), z6, z7, z8] [] τ := by
  cases l with
  | nil => exact so_e41 (t := t) (D := D) (i := i) (ss := []) (vs := vs) (c := 0) hK
  | cons c l =>
    obtain ⟨h1, h2, h3⟩ := hc c l rfl
    exact so_s41 h1 (by simp at hl; omega) hS hs5 h2 h3 hK
