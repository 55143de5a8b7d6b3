/-! From a computed walk to a run; small numbers. -/
theorem G_wp {sd : Bool} {mid : Nat} {P : Option AV → Sg → Prop} {i : Nat} {L : Lc} {st : List AV} {σ : Sg} (n : Nat) (cuts : List Nat) (hm : Nat.blt mid nM = true) (h : wp sd (mH mid) (mR mid) (mE mid) (mL mid) P (G sd mid P) cuts n i L st σ) : G sd mid P i L st σ :=
  wp_snd (Nat.blt_eq.mp hm) (fun _ _ _ _ h => h) n i L st σ h
theorem Ev_wp {sd : Bool} {mid : Nat} {vs : List AV} {r : Option AV} {σ σ' : Sg} (n : Nat) (cuts : List Nat) (hm : Nat.blt mid nM = true) (hl : Nat.ble (argL vs).length (mN mid) = true) (h : wp sd (mH mid) (mR mid) (mE mid) (mL mid) (fun r' s' => r' = r ∧ s' = σ') (G sd mid (fun r' s' => r' = r ∧ s' = σ')) cuts n 0 (initL (mN mid) vs) [] σ) : Ev sd mid vs σ r σ' := by
  obtain ⟨r', s', ⟨rfl, rfl⟩, hev⟩ := Ev_of_G (Nat.blt_eq.mp hm) (Nat.le_of_ble_eq_true hl) (wp_snd (Nat.blt_eq.mp hm) (fun _ _ _ _ h => h) n 0 _ [] σ h)
  exact hev
theorem EvP_wp {sd : Bool} {mid : Nat} {vs : List AV} {σ : Sg} {P : Option AV → Sg → Prop} (n : Nat) (cuts : List Nat) (hm : Nat.blt mid nM = true) (hl : Nat.ble (argL vs).length (mN mid) = true) (h : wp sd (mH mid) (mR mid) (mE mid) (mL mid) P (G sd mid P) cuts n 0 (initL (mN mid) vs) [] σ) : ∃ r σ', P r σ' ∧ Ev sd mid vs σ r σ' :=
  Ev_of_G (Nat.blt_eq.mp hm) (Nat.le_of_ble_eq_true hl) (wp_snd (Nat.blt_eq.mp hm) (fun _ _ _ _ h => h) n 0 _ [] σ h)
def bI (c : Prop) [Decidable c] : Int32 := if c then nI 1 else nI 0
theorem bI_t {c : Prop} [Decidable c] (h : c) : bI c = nI 1 := if_pos h
theorem bI_f {c : Prop} [Decidable c] (h : ¬ c) : bI c = nI 0 := if_neg h
theorem bI_01 (c : Prop) [Decidable c] : bI c = nI 0 ∨ bI c = nI 1 := by
  by_cases h : c
  · exact Or.inr (bI_t h)
  · exact Or.inl (bI_f h)
theorem bI_nar {c : Prop} [Decidable c] : vp_nar .boolean (bI c) = bI c := by
  rcases bI_01 c with h | h <;> rw [h] <;> rfl
theorem bI_0 {c : Prop} [Decidable c] : bI c = nI 0 ↔ ¬ c := by
  by_cases h : c
  · rw [bI_t h]
    exact ⟨fun q => absurd q (by decide), fun q => absurd h q⟩
  · rw [bI_f h]
    exact ⟨fun _ => h, fun _ => rfl⟩
theorem add_n {x y : Int32} {a b : Nat} (hx : x = nI a) (hy : y = nI b) : x + y = nI (a + b) := by rw [hx, hy, nI_add]
theorem mul_n {x y : Int32} {a b : Nat} (hx : x = nI a) (hy : y = nI b) : x * y = nI (a * b) := by rw [hx, hy, pk_mul]
theorem sub_n {x y : Int32} {a b : Nat} (hx : x = nI a) (hy : y = nI b) (h : b ≤ a) : x - y = nI (a - b) := by rw [hx, hy, pk_sub h]
theorem div_n {x y : Int32} {a b : Nat} (hx : x = nI a) (hy : y = nI b) (h : a < 2147483648 ∧ 0 < b ∧ b < 2147483648) : x / y = nI (a / b) := by rw [hx, hy, pk_div h.1 h.2.1 h.2.2]
theorem rem_n {x y : Int32} {a b : Nat} (hx : x = nI a) (hy : y = nI b) (h : a < 2147483648 ∧ 0 < b ∧ b < 2147483648) : x - x / y * y = nI (a % b) := by rw [hx, hy, pk_rem h.1 h.2.1 h.2.2]
theorem nI_inj {a b : Nat} (h : nI a = nI b) (ha : a < 2147483648) (hb : b < 2147483648) : a = b := (nI_eq ha hb).mp h
theorem br_eq {x y : Int32} {a b : Nat} {A B : Prop} (hx : x = nI a) (hy : y = nI b) (ha : a < 2147483648) (hb : b < 2147483648) (f : a = b → A) (g : ¬ a = b → B) : (x = y → A) ∧ (¬ x = y → B) := by
  subst hx; subst hy
  exact ⟨fun h => f (nI_inj h ha hb), fun h => g (fun q => h (by rw [q]))⟩
theorem br_ne {x y : Int32} {a b : Nat} {A B : Prop} (hx : x = nI a) (hy : y = nI b) (ha : a < 2147483648) (hb : b < 2147483648) (f : ¬ a = b → A) (g : a = b → B) : (¬ x = y → A) ∧ (x = y → B) := by
  subst hx; subst hy
  exact ⟨fun h => f (fun q => h (by rw [q])), fun h => g (nI_inj h ha hb)⟩
theorem br_lt {x y : Int32} {a b : Nat} {A B : Prop} (hx : x = nI a) (hy : y = nI b) (ha : a < 2147483648) (hb : b < 2147483648) (f : a < b → A) (g : b ≤ a → B) : (x < y → A) ∧ (¬ x < y → B) := by
  subst hx; subst hy
  exact ⟨fun h => f ((nI_ltI ha hb).mp h), fun h => g (Nat.not_lt.mp fun q => h ((nI_ltI ha hb).mpr q))⟩
theorem br_ge {x y : Int32} {a b : Nat} {A B : Prop} (hx : x = nI a) (hy : y = nI b) (ha : a < 2147483648) (hb : b < 2147483648) (f : b ≤ a → A) (g : a < b → B) : (y ≤ x → A) ∧ (¬ y ≤ x → B) := by
  subst hx; subst hy
  exact ⟨fun h => f ((nI_leI hb ha).mp h), fun h => g (Nat.not_le.mp fun q => h ((nI_leI hb ha).mpr q))⟩
theorem br_gt {x y : Int32} {a b : Nat} {A B : Prop} (hx : x = nI a) (hy : y = nI b) (ha : a < 2147483648) (hb : b < 2147483648) (f : b < a → A) (g : a ≤ b → B) : (y < x → A) ∧ (¬ y < x → B) := by
  subst hx; subst hy
  exact ⟨fun h => f ((nI_ltI hb ha).mp h), fun h => g (Nat.not_lt.mp fun q => h ((nI_ltI hb ha).mpr q))⟩
theorem br_le {x y : Int32} {a b : Nat} {A B : Prop} (hx : x = nI a) (hy : y = nI b) (ha : a < 2147483648) (hb : b < 2147483648) (f : a ≤ b → A) (g : b < a → B) : (x ≤ y → A) ∧ (¬ x ≤ y → B) := by
  subst hx; subst hy
  exact ⟨fun h => f ((nI_leI ha hb).mp h), fun h => g (Nat.not_le.mp fun q => h ((nI_leI ha hb).mpr q))⟩
theorem brb_eq {c : Prop} [Decidable c] {A B : Prop} (f : ¬ c → A) (g : c → B) : (bI c = nI 0 → A) ∧ (¬ bI c = nI 0 → B) :=
  ⟨fun h => f (bI_0.mp h), fun h => g (Decidable.not_not.mp fun q => h (bI_0.mpr q))⟩
theorem brb_ne {c : Prop} [Decidable c] {A B : Prop} (f : c → A) (g : ¬ c → B) : (¬ bI c = nI 0 → A) ∧ (bI c = nI 0 → B) :=
  ⟨fun h => f (Decidable.not_not.mp fun q => h (bI_0.mpr q)), fun h => g (bI_0.mp h)⟩
theorem up4_s (σ : Sg) (k : Nat) (d : Bool) (i j : Nat) (v : Int32) : up4 σ k d i j v k d i j = v := by simp [up4]
/-- how many of the first n -/
def ct (p : Nat → Bool) : Nat → Nat
  | 0 => 0
  | n + 1 => ct p n + (if p n then 1 else 0)
theorem ct_le (p : Nat → Bool) : ∀ n, ct p n ≤ n
  | 0 => Nat.le_refl _
  | n + 1 => by
    have := ct_le p n
    unfold ct
    split <;> omega
theorem ct_cong {p q : Nat → Bool} : ∀ {n : Nat}, (∀ k, k < n → p k = q k) → ct p n = ct q n
  | 0, _ => rfl
  | n + 1, h => by
    unfold ct
    rw [ct_cong (fun k hk => h k (by omega)), h n (by omega)]
theorem ct_one {p q : Nat → Bool} {i : Nat} : ∀ {n : Nat}, i < n → (∀ k, k < n → k ≠ i → p k = q k) → ct p n + (if q i then 1 else 0) = ct q n + (if p i then 1 else 0)
  | 0, h, _ => absurd h (Nat.not_lt_zero _)
  | n + 1, h, hk => by
    unfold ct
    by_cases e : i = n
    · subst e
      rw [ct_cong (p := p) (q := q) (fun k hk' => hk k (by omega) (by omega))]
      omega
    · have := ct_one (n := n) (i := i) (p := p) (q := q) (by omega) (fun k hk' hne => hk k (by omega) hne)
      rw [hk n (by omega) (by omega)]
      omega
theorem ct_pos {p : Nat → Bool} {i n : Nat} (h : i < n) (hp : p i = true) : 0 < ct p n := by
  induction n with
  | zero => omega
  | succ n ih =>
    unfold ct
    by_cases e : i = n
    · subst e
      rw [hp]
      simp
    · have := ih (by omega)
      omega
theorem ct_zero {p : Nat → Bool} : ∀ {n : Nat}, ct p n = 0 → ∀ k, k < n → p k = false
  | 0, _, k, hk => absurd hk (Nat.not_lt_zero _)
  | n + 1, h, k, hk => by
    unfold ct at h
    by_cases e : k = n
    · subst e
      cases hp : p k with
      | false => rfl
      | true => rw [hp] at h; simp at h
    · exact ct_zero (n := n) (by omega) k (by omega)
theorem EvQ_wp {sd : Bool} {mid : Nat} {vs : List AV} {σ : Sg} {r : Option AV} {Q : Sg → Prop} (n : Nat) (cuts : List Nat) (hm : Nat.blt mid nM = true) (hl : Nat.ble (argL vs).length (mN mid) = true) (h : wp sd (mH mid) (mR mid) (mE mid) (mL mid) (fun r' s' => r' = r ∧ Q s') (G sd mid (fun r' s' => r' = r ∧ Q s')) cuts n 0 (initL (mN mid) vs) [] σ) : ∃ σ', Ev sd mid vs σ r σ' ∧ Q σ' := by
  obtain ⟨r', s', ⟨rfl, hq⟩, hev⟩ := EvP_wp n cuts hm hl h
  exact ⟨s', hev, hq⟩
theorem hasL_fg {as : Ad} {ls : Array Slot} {nL : Nat} {L : Lc} (h : hasL as ls nL L) (j : Nat) : hasL as ls nL (L.set j none) := by
  refine ⟨⟨h.1.1, h.1.2.1, fun q hq => h.1.2.2 q ?_⟩, by rw [List.length_set]; exact h.2⟩
  obtain ⟨i, w⟩ := q
  obtain ⟨v, hv, rfl⟩ := lvOf_mem.mp hq
  refine lvOf_mem.mpr ⟨v, ?_, rfl⟩
  by_cases e : j = i
  · subst e
    have hl : j < L.length := by
      have := (List.getElem?_eq_some_iff.mp hv).1
      rwa [List.length_set] at this
    rw [List.getElem?_set_self hl] at hv
    cases hv
  · rwa [List.getElem?_set_ne e] at hv
/-- a local that isn't needed any more -/
theorem G_fg {sd : Bool} {mid : Nat} {P : Option AV → Sg → Prop} {i : Nat} {L : Lc} {st : List AV} {σ : Sg} (j : Nat) (h : G sd mid P i (L.set j none) st σ) : G sd mid P i L st σ := by
  obtain ⟨r, σ', hp, hg⟩ := h
  exact ⟨r, σ', hp, fun p l e s m args below meth c H locs ls D cs as d hd hC hW hS hl => hg p l e s m args below meth c H locs ls D cs as d hd hC hW hS (hasL_fg hl j)⟩
theorem nI_m1 {n : Nat} (h : n < 2147483648) : ¬ nI n = -1 := by
  intro q
  have h1 := congrArg Int32.toInt q
  rw [nI_toInt h] at h1
  have : (-1 : Int32).toInt = -1 := by decide
  omega
