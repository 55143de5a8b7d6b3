/-! The best round, as numbers. -/
theorem tb_1 (s i : Nat) : s.testBit i = true ↔ s / 2 ^ i % 2 = 1 := by
  rw [Nat.testBit_eq_decide_div_mod_eq]
  simp
theorem tb_0 (s i : Nat) : s.testBit i = false ↔ s / 2 ^ i % 2 = 0 := by
  rw [Nat.testBit_eq_decide_div_mod_eq]
  simp
theorem or_bit (s i j : Nat) : (s ||| 2 ^ i).testBit j = (s.testBit j || decide (i = j)) := by
  rw [Nat.testBit_or, Nat.testBit_two_pow]
theorem or_lt {s i n : Nat} (hs : s < 2 ^ n) (hi : i < n) : s ||| 2 ^ i < 2 ^ n := Nat.or_lt_two_pow hs (Nat.pow_lt_pow_right (by decide) hi)
theorem or_gt {s i : Nat} (h : s.testBit i = false) : s < s ||| 2 ^ i := by
  have h1 : s ≤ s ||| 2 ^ i := Nat.left_le_or
  rcases Nat.lt_or_ge s (s ||| 2 ^ i) with q | q
  · exact q
  · exfalso
    have e : s ||| 2 ^ i = s := Nat.le_antisymm q h1
    have h2 := or_bit s i i
    rw [e, h] at h2
    simp at h2
def cn (t : Sg) (p : Nat) : Nat := ct (fun q => !decide (t 89 false 0 q = nI 0)) p
def chF (t : Sg) (j : Nat) : Nat := ((List.range 12).find? (fun q => !decide (t 89 false 0 q = nI 0) && cn t q == j)).getD 0
theorem cn_S (t : Sg) (p : Nat) : cn t (p + 1) = cn t p + (if (!decide (t 89 false 0 p = nI 0)) = true then 1 else 0) := rfl
theorem cn_mono (t : Sg) {p q : Nat} (h : p ≤ q) : cn t p ≤ cn t q := by
  induction h with
  | refl => exact Nat.le_refl _
  | step h ih => exact Nat.le_trans ih (by rw [cn_S]; omega)
theorem cn_lt {t : Sg} {p q : Nat} (h : p < q) (hp : ¬ t 89 false 0 p = nI 0) : cn t p < cn t q := by
  have h1 : cn t (p + 1) ≤ cn t q := cn_mono t h
  rw [cn_S, if_pos (by simp [hp])] at h1
  omega
theorem chF_at {t : Sg} {p : Nat} (hp : p < 12) (h : ¬ t 89 false 0 p = nI 0) : chF t (cn t p) = p := by
  unfold chF
  cases hf : (List.range 12).find? (fun q => !decide (t 89 false 0 q = nI 0) && cn t q == cn t p) with
  | none =>
    have := List.find?_eq_none.mp hf p (List.mem_range.mpr hp)
    simp [h] at this
  | some q =>
    have h1 := List.find?_some hf
    simp only [Bool.and_eq_true, Bool.not_eq_true', decide_eq_false_iff_not, beq_iff_eq] at h1
    show q = p
    rcases Nat.lt_trichotomy q p with z | z | z
    · have := cn_lt z h1.1; omega
    · exact z
    · have := cn_lt z h; omega
/-- the j-th of the first p posts that want -/
theorem cn_ex {t : Sg} : ∀ {p j : Nat}, j < cn t p → ∃ q, q < p ∧ (¬ t 89 false 0 q = nI 0) ∧ cn t q = j
  | 0, j, h => absurd h (Nat.not_lt_zero _)
  | p + 1, j, h => by
    rw [cn_S] at h
    by_cases q : j < cn t p
    · obtain ⟨r, h1, h2, h3⟩ := cn_ex q
      exact ⟨r, by omega, h2, h3⟩
    · by_cases z : t 89 false 0 p = nI 0
      · rw [if_neg (by simp [z])] at h
        omega
      · rw [if_pos (by simp [z])] at h
        exact ⟨p, by omega, z, by omega⟩
theorem chF_lt {t : Sg} {p j : Nat} (hp : p ≤ 12) (h : j < cn t p) : chF t j < p := by
  obtain ⟨q, h1, h2, h3⟩ := cn_ex h
  rw [← h3, chF_at (by omega) h2]
  exact h1
def ldS (t : Sg) (D : Dy) (set : Nat) : Nat → Int32
  | 0 => D 0 3
  | i + 1 => ldS t D set i + (if set.testBit i = true then t 89 false 0 (chF t i) else nI 0)
theorem ldS_S (t : Sg) (D : Dy) (set i : Nat) : ldS t D set (i + 1) = ldS t D set i + (if set.testBit i = true then t 89 false 0 (chF t i) else nI 0) := rfl
def okL (t : Sg) (D : Dy) (n set : Nat) : Prop := inI (nI 0) (ldS t D set n) (nI 12)
def hr (t : Sg) (D : Dy) (n last : Nat) : Nat := if last = n then nN (D 0 2) else chF t last
def rwy (t : Sg) (p q : Nat) : Nat := if p = q then 0 else wayN t p q
def mnL (f : Nat → Nat) (set b0 : Nat) : Nat → Nat
  | 0 => b0
  | i + 1 => if set.testBit i = false ∧ f i < mnL f set b0 i then f i else mnL f set b0 i
theorem mnL_S (f : Nat → Nat) (set b0 i : Nat) : mnL f set b0 (i + 1) = if set.testBit i = false ∧ f i < mnL f set b0 i then f i else mnL f set b0 i := rfl
theorem mnL_cong {f g : Nat → Nat} {set b0 : Nat} : ∀ {n : Nat}, (∀ i, i < n → set.testBit i = false → f i = g i) → mnL f set b0 n = mnL g set b0 n
  | 0, _ => rfl
  | n + 1, h => by
    rw [mnL_S, mnL_S, mnL_cong (fun i hi => h i (by omega))]
    by_cases q : set.testBit n = false
    · rw [h n (by omega) q]
    · rw [if_neg (fun z => q z.1), if_neg (fun z => q z.1)]
theorem mnL_le {f : Nat → Nat} {set b0 : Nat} : ∀ n, mnL f set b0 n ≤ b0
  | 0 => Nat.le_refl _
  | n + 1 => by
    have h1 := mnL_le (f := f) (set := set) (b0 := b0) n
    rw [mnL_S]
    split
    next hc => omega
    next => exact h1
theorem mnL_all {f : Nat → Nat} {set b0 : Nat} : ∀ {n : Nat}, (∀ i, i < n → set.testBit i = true) → mnL f set b0 n = b0
  | 0, _ => rfl
  | n + 1, h => by
    rw [mnL_S, if_neg (fun z => by have := h n (by omega); rw [z.1] at this; cases this), mnL_all (fun i hi => h i (by omega))]
/-- the least is one of them, if it is less than at first -/
theorem mnL_at {f : Nat → Nat} {set b0 : Nat} : ∀ {n : Nat}, mnL f set b0 n < b0 → ∃ i, i < n ∧ set.testBit i = false ∧ f i = mnL f set b0 n
  | 0, h => absurd h (Nat.lt_irrefl _)
  | n + 1, h => by
    rw [mnL_S] at h ⊢
    by_cases q : set.testBit n = false ∧ f n < mnL f set b0 n
    · rw [if_pos q]
      exact ⟨n, by omega, q.1, rfl⟩
    · rw [if_neg q] at h ⊢
      obtain ⟨i, h1, h2, h3⟩ := mnL_at h
      exact ⟨i, by omega, h2, h3⟩
theorem mnL_min {f : Nat → Nat} {set b0 i : Nat} : ∀ {n : Nat}, i < n → set.testBit i = false → mnL f set b0 n ≤ f i
  | 0, h, _ => absurd h (Nat.not_lt_zero _)
  | n + 1, h, hb => by
    rw [mnL_S]
    by_cases e : i = n
    · subst e
      by_cases q : f i < mnL f set b0 i
      · rw [if_pos ⟨hb, q⟩]; exact Nat.le_refl _
      · rw [if_neg (fun z => q z.2)]; omega
    · have h1 := mnL_min (f := f) (b0 := b0) (n := n) (by omega) hb
      split
      next hc => omega
      next => exact h1
def miss (n set : Nat) : Nat := ct (fun i => !(set.testBit i)) n
theorem miss_or {n set i : Nat} (hi : i < n) (h : set.testBit i = false) : miss n (set ||| 2 ^ i) + 1 = miss n set := by
  have h1 := ct_one (p := fun j => !((set ||| 2 ^ i).testBit j)) (q := fun j => !(set.testBit j)) (i := i) (n := n) hi (fun j _ hj => by
    show (!((set ||| 2 ^ i).testBit j)) = !(set.testBit j)
    rw [or_bit, decide_eq_false (show ¬ i = j from fun z => hj z.symm), Bool.or_false])
  have h2 : (set ||| 2 ^ i).testBit i = true := by rw [or_bit]; simp
  rw [h, h2] at h1
  simpa [miss] using h1
theorem miss_0 {n set : Nat} (hs : set < 2 ^ n) (h : miss n set = 0) : set = 2 ^ n - 1 := by
  apply Nat.eq_of_testBit_eq
  intro i
  rw [Nat.testBit_two_pow_sub_one]
  by_cases q : i < n
  · have := ct_zero h i q
    rw [decide_eq_true q]
    simpa using this
  · rw [decide_eq_false q]
    exact Nat.testBit_lt_two_pow (Nat.lt_of_lt_of_le hs (Nat.pow_le_pow_right (by decide) (by omega)))
theorem miss_all (n : Nat) : miss n (2 ^ n - 1) = 0 := by
  refine ct_none (fun k hk => ?_)
  rw [Nat.testBit_two_pow_sub_one, decide_eq_true hk]
  rfl
noncomputable def cst (t : Sg) (D : Dy) (n : Nat) : Nat → Nat → Nat → Nat
  | 0, set, _ => ifC (okL t D n set) 0 1000000
  | c + 1, set, last => ifC (okL t D n set) (mnL (fun i => cst t D n c (set ||| 2 ^ i) i + rwy t (hr t D n last) (chF t i)) set 1000000 n) 1000000
noncomputable def cs (t : Sg) (D : Dy) (n set last : Nat) : Nat := cst t D n (miss n set) set last
theorem cs_eq {t : Sg} {D : Dy} {n set last : Nat} (hs : set < 2 ^ n) : cs t D n set last = ifC (okL t D n set) (mnL (fun i => cs t D n (set ||| 2 ^ i) i + rwy t (hr t D n last) (chF t i)) set (if set = 2 ^ n - 1 then 0 else 1000000) n) 1000000 := by
  unfold cs
  cases h : miss n set with
  | zero =>
    have e := miss_0 hs h
    rw [if_pos e, mnL_all (fun i hi => by rw [e, Nat.testBit_two_pow_sub_one, decide_eq_true hi])]
    rfl
  | succ c =>
    rw [if_neg (fun e => by rw [e, miss_all] at h; cases h)]
    show ifC (okL t D n set) (mnL (fun i => cst t D n c (set ||| 2 ^ i) i + rwy t (hr t D n last) (chF t i)) set 1000000 n) 1000000 = _
    refine congrArg (fun z => ifC (okL t D n set) z 1000000) (mnL_cong (fun i hi hb => ?_))
    show cst t D n c (set ||| 2 ^ i) i + _ = cst t D n (miss n (set ||| 2 ^ i)) (set ||| 2 ^ i) i + _
    have h1 := miss_or hi hb
    rw [show miss n (set ||| 2 ^ i) = c by omega]
theorem cs_le {t : Sg} {D : Dy} {n set last : Nat} (hs : set < 2 ^ n) : cs t D n set last ≤ 1000000 := by
  rw [cs_eq hs]
  by_cases q : okL t D n set
  · rw [ifC_t q]
    refine Nat.le_trans (mnL_le n) ?_
    split <;> omega
  · rw [ifC_f q]
    exact Nat.le_refl _
/-- the first i < n with p, n if none -/
def fst1 (p : Nat → Bool) : Nat → Nat → Nat
  | 0, i => i
  | m + 1, i => if p i = true then i else fst1 p m (i + 1)
theorem fst1_S (p : Nat → Bool) (m i : Nat) : fst1 p (m + 1) i = if p i = true then i else fst1 p m (i + 1) := rfl
theorem fst1_ex {p : Nat → Bool} : ∀ {m i : Nat}, (∃ j, i ≤ j ∧ j < i + m ∧ p j = true) → i ≤ fst1 p m i ∧ fst1 p m i < i + m ∧ p (fst1 p m i) = true
  | 0, i, h => by obtain ⟨j, h1, h2, -⟩ := h; omega
  | m + 1, i, h => by
    rw [fst1_S]
    by_cases q : p i = true
    · rw [if_pos q]
      exact ⟨Nat.le_refl _, by omega, q⟩
    · rw [if_neg q]
      obtain ⟨j, h1, h2, h3⟩ := h
      have h4 : ¬ i = j := fun e => q (e ▸ h3)
      obtain ⟨a, b, c⟩ := fst1_ex (p := p) (m := m) (i := i + 1) ⟨j, by omega, by omega, h3⟩
      exact ⟨by omega, by omega, c⟩
noncomputable def nxB (t : Sg) (D : Dy) (n set last i : Nat) : Bool := !(set.testBit i) && decide (cs t D n (set ||| 2 ^ i) i + rwy t (hr t D n last) (chF t i) = cs t D n set last)
noncomputable def nxI (t : Sg) (D : Dy) (n set last : Nat) : Nat := fst1 (nxB t D n set last) n 0
/-- the order: what was served, and the last of it -/
noncomputable def sq (t : Sg) (D : Dy) (n : Nat) : Nat → Nat × Nat
  | 0 => (0, n)
  | k + 1 => ((sq t D n k).1 ||| 2 ^ nxI t D n (sq t D n k).1 (sq t D n k).2, nxI t D n (sq t D n k).1 (sq t D n k).2)
theorem sq_S (t : Sg) (D : Dy) (n k : Nat) : sq t D n (k + 1) = ((sq t D n k).1 ||| 2 ^ nxI t D n (sq t D n k).1 (sq t D n k).2, nxI t D n (sq t D n k).1 (sq t D n k).2) := rfl
theorem nxI_ok {t : Sg} {D : Dy} {n set last : Nat} (hs : set < 2 ^ n) (hm : 0 < miss n set) (hc : cs t D n set last < 1000000) : nxI t D n set last < n ∧ set.testBit (nxI t D n set last) = false ∧ cs t D n (set ||| 2 ^ nxI t D n set last) (nxI t D n set last) + rwy t (hr t D n last) (chF t (nxI t D n set last)) = cs t D n set last := by
  have h0 := hc
  rw [cs_eq hs] at h0
  have hok : okL t D n set := by
    by_cases q : okL t D n set
    · exact q
    · rw [ifC_f q] at h0; omega
  have hne : ¬ set = 2 ^ n - 1 := fun e => by rw [e, miss_all] at hm; omega
  rw [ifC_t hok, if_neg hne] at h0
  obtain ⟨i, h1, h2, h3⟩ := mnL_at h0
  have h4 : nxB t D n set last i = true := by
    unfold nxB
    rw [h2, cs_eq hs, ifC_t hok, if_neg hne, ← h3]
    simp
  obtain ⟨a, b, c⟩ := fst1_ex (p := nxB t D n set last) (m := n) (i := 0) ⟨i, Nat.zero_le _, by omega, h4⟩
  have c2 : nxB t D n set last (nxI t D n set last) = true := c
  unfold nxB at c2
  simp only [Bool.and_eq_true, Bool.not_eq_true', decide_eq_true_eq] at c2
  exact ⟨by have b2 : nxI t D n set last < 0 + n := b; omega, c2.1, c2.2⟩
theorem sq_ok {t : Sg} {D : Dy} {n : Nat} (hc : cs t D n 0 n < 1000000) : ∀ k, k ≤ n → (sq t D n k).1 < 2 ^ n ∧ miss n (sq t D n k).1 + k = n ∧ cs t D n (sq t D n k).1 (sq t D n k).2 < 1000000 ∧ (sq t D n k).2 ≤ n ∧ (0 < k → (sq t D n k).2 < n)
  | 0, _ => by
    refine ⟨Nat.two_pow_pos n, ?_, hc, Nat.le_refl _, fun h => absurd h (Nat.lt_irrefl _)⟩
    show ct (fun i => !((0 : Nat).testBit i)) n + 0 = n
    have : ∀ m, ct (fun i => !((0 : Nat).testBit i)) m = m := fun m => by
      induction m with
      | zero => rfl
      | succ m ih => rw [ct_S, ih]; simp
    rw [this]
    rfl
  | k + 1, hk => by
    obtain ⟨h1, h2, h3, h4, h5⟩ := sq_ok hc k (by omega)
    obtain ⟨a, b, c⟩ := nxI_ok h1 (by omega) h3
    rw [sq_S]
    generalize nxI t D n (sq t D n k).1 (sq t D n k).2 = i at a b c ⊢
    have h6 := miss_or a b
    refine ⟨or_lt h1 a, ?_, ?_, Nat.le_of_lt a, fun _ => a⟩
    · show miss n ((sq t D n k).1 ||| 2 ^ i) + (k + 1) = n
      omega
    · show cs t D n ((sq t D n k).1 ||| 2 ^ i) i < 1000000
      omega
noncomputable def odr (t : Sg) (D : Dy) (n k : Nat) : Nat := chF t (sq t D n (k + 1)).2
