/-! The texts that have no fault. -/
abbrev isU (s : Nat) : Prop := s < 10 ∨ (21 ≤ s ∧ s ≤ 27)
def beh (op s : Nat) : Option (Nat × Nat) := if s = 17 ∨ s = 18 then some (0, op) else if s = 16 ∧ 0 < op then some (7, op - 1) else if s = 20 ∧ op = 0 then some (8, op) else none
def nxs (st op dg s : Nat) : Option (Nat × Nat) :=
  if st = 0 then (if s = 19 then some (0, op) else if s = 15 ∧ op < 8 then some (0, op + 1) else if isU s then some (4, op) else none)
  else if st < 4 then (if isU s then some (st + 3, op) else none)
  else if st < 7 then (if s < 10 ∧ 0 < dg then (if dg < 3 then some (st, op) else none) else if s = 10 ∨ s = 11 then some (st - 3, op) else if st = 4 then (if 12 ≤ s ∧ s ≤ 14 then some (2, op) else none) else if st = 5 then beh op s else none)
  else if st = 7 then beh op s
  else if st = 8 then (if s = 23 then some (9, op) else if 28 ≤ s ∧ s ≤ 30 then some (10, op) else none)
  else if st = 9 then (if s = 13 then some (3, op) else none)
  else none
def nx (q : Nat × Nat × Nat) (s : Nat) : Option (Nat × Nat × Nat) := (nxs q.1 q.2.1 q.2.2 s).map (fun r => (r.1, r.2, if s < 10 then q.2.2 + 1 else 0))
def au (f : Nat → Nat) : Nat → Option (Nat × Nat × Nat)
  | 0 => some (0, 0, 0)
  | i + 1 => (au f i).bind (fun q => nx q (f i))
theorem au_S (f : Nat → Nat) (i : Nat) : au f (i + 1) = (au f i).bind (fun q => nx q (f i)) := rfl
/-- no fault in the first n -/
def okT (f : Nat → Nat) (n : Nat) : Prop := n ≤ 40 ∧ (∀ i, n ≤ i → f i = 99) ∧ ∃ q, au f n = some q ∧ (q.1 = 6 ∨ q.1 = 10)
theorem au_pre {f : Nat → Nat} {n : Nat} {q : Nat × Nat × Nat} (h : au f n = some q) : ∀ {i : Nat}, i ≤ n → ∃ q', au f i = some q' := by
  induction n generalizing q with
  | zero =>
    intro i hi
    rw [show i = 0 by omega]
    exact ⟨_, rfl⟩
  | succ n ih =>
    intro i hi
    by_cases e : i = n + 1
    · rw [e]
      exact ⟨q, h⟩
    · rw [au_S] at h
      cases hq : au f n with
      | none =>
        rw [hq] at h
        cases h
      | some q0 => exact ih hq (by omega)
theorem okT_nx {f : Nat → Nat} {n i st op dg : Nat} (h : okT f n) (hi : i < n) (hs : au f i = some (st, op, dg)) : ∃ r, nxs st op dg (f i) = some r ∧ au f (i + 1) = some (r.1, r.2, if f i < 10 then dg + 1 else 0) := by
  obtain ⟨-, -, q, hq, -⟩ := h
  obtain ⟨q2, h2⟩ := au_pre hq (i := i + 1) hi
  have h3 := h2
  rw [au_S, hs] at h3
  change (nxs st op dg (f i)).map _ = some q2 at h3
  cases hr : nxs st op dg (f i) with
  | none =>
    rw [hr] at h3
    cases h3
  | some r =>
    rw [hr] at h3
    refine ⟨r, rfl, ?_⟩
    rw [h2]
    exact h3.symm
theorem okT_lt {f : Nat → Nat} {n i st op dg : Nat} (h : okT f n) (hi : i ≤ n) (hs : au f i = some (st, op, dg)) (h1 : ¬ st = 6) (h2 : ¬ st = 10) : i < n := by
  obtain ⟨-, -, q, hq, hf⟩ := h
  rcases Nat.lt_or_ge i n with e | e
  · exact e
  · rw [show i = n by omega, hq] at hs
    cases hs
    rcases hf with hf | hf
    · exact absurd hf h1
    · exact absurd hf h2
theorem okT_n {f : Nat → Nat} {n i : Nat} (h : okT f n) (hi : ¬ f i = 99) : i < n := by
  rcases Nat.lt_or_ge i n with e | e
  · exact e
  · exact absurd (h.2.1 i e) hi
theorem dE_au {f : Nat → Nat} {n st op : Nat} (h : okT f n) (h4 : 4 ≤ st) (h7 : st < 7) : ∀ (m i v dg : Nat), 41 ≤ i + m → i ≤ n → au f i = some (st, op, dg) → 0 < dg → ∃ dg', au f (dE f m i v).2 = some (st, op, dg') ∧ i ≤ (dE f m i v).2 ∧ (dE f m i v).2 ≤ n ∧ ¬ f (dE f m i v).2 < 10
  | 0, i, v, dg, hm, hi, _, _ => by
    have := h.1
    omega
  | m + 1, i, v, dg, hm, hi, hs, hd => by
    rw [dE_S]
    split
    next hc =>
      have hin := okT_n h (i := i) (by omega)
      obtain ⟨r, hr, h2⟩ := okT_nx h hin hs
      unfold nxs at hr
      rw [if_neg (by omega), if_neg (by omega), if_pos (by omega), if_pos ⟨hc, hd⟩] at hr
      split at hr
      next =>
        cases hr
        rw [if_pos hc] at h2
        obtain ⟨d2, a1, a2, a3, a4⟩ := dE_au h h4 h7 m (i + 1) (10 * v + f i) (dg + 1) (by omega) (by omega) h2 (by omega)
        exact ⟨d2, a1, by omega, a3, a4⟩
      next => cases hr
    next hc => exact ⟨dg, hs, Nat.le_refl _, hi, hc⟩
def upS (st : Nat) : Nat := if st = 0 then 4 else st + 3
theorem un_au {f : Nat → Nat} {ev : Nat → Int32} {n i st op dg : Nat} (h : okT f n) (hs : au f i = some (st, op, dg)) (h4 : st < 4) (hi : i < n) (hu : isU (f i)) : ∃ dg', au f (unV f ev i).2 = some (upS st, op, dg') ∧ i < (unV f ev i).2 ∧ (unV f ev i).2 ≤ n ∧ ¬ (f (unV f ev i).2 < 10 ∧ 0 < dg') := by
  have h40 := h.1
  obtain ⟨r, hr, h2⟩ := okT_nx h hi hs
  have er : r = (upS st, op) := by
    unfold nxs at hr
    unfold upS
    by_cases e0 : st = 0
    · rw [if_pos e0, if_neg (by omega), if_neg (by omega), if_pos hu] at hr
      cases hr
      rw [if_pos e0]
    · rw [if_neg e0, if_pos h4, if_pos hu] at hr
      cases hr
      rw [if_neg e0]
  subst er
  have u4 : 4 ≤ upS st := by unfold upS; split <;> omega
  have u7 : upS st < 7 := by unfold upS; split <;> omega
  unfold unV
  by_cases hc : f i < 10
  · rw [if_pos hc] at h2 ⊢
    have e : 41 - i = (40 - i) + 1 := by omega
    obtain ⟨d2, a1, a2, a3, a4⟩ := dE_au h u4 u7 (40 - i) (i + 1) (10 * 0 + f i) (dg + 1) (by omega) (by omega) h2 (by omega)
    rw [e, dE_S, if_pos hc]
    exact ⟨d2, a1, by show i < _; omega, a3, fun q => a4 q.1⟩
  · rw [if_neg hc] at h2 ⊢
    exact ⟨0, h2, Nat.lt_succ_self i, hi, fun q => absurd q.2 (by omega)⟩
theorem upS_3 {st : Nat} (h : st < 4) : upS (upS st - 3) = upS st ∧ upS st - 3 < 4 ∧ ¬ upS st - 3 = 0 := by
  unfold upS
  split
  · exact ⟨by decide, by omega, by omega⟩
  · rw [if_neg (by omega)]
    exact ⟨by omega, by omega, by omega⟩
theorem sm_au {f : Nat → Nat} {ev : Nat → Int32} {n op : Nat} (h : okT f n) : ∀ (m i st dg : Nat) (s g : Int32), 41 ≤ i + m → au f i = some (st, op, dg) → st < 4 → i < n → isU (f i) → ∃ dg', au f (sumE f ev m i s g).2 = some (upS st, op, dg') ∧ i < (sumE f ev m i s g).2 ∧ (sumE f ev m i s g).2 ≤ n ∧ ¬ (f (sumE f ev m i s g).2 < 10 ∧ 0 < dg') ∧ ¬ f (sumE f ev m i s g).2 = 10 ∧ ¬ f (sumE f ev m i s g).2 = 11
  | 0, i, st, dg, s, g, hm, _, _, hi, _ => by
    have := h.1
    omega
  | m + 1, i, st, dg, s, g, hm, hs, h4, hi, hu => by
    have h40 := h.1
    obtain ⟨d1, b1, b2, b3, b4⟩ := un_au (ev := ev) h hs h4 hi hu
    obtain ⟨j, hj⟩ : ∃ j, j = (unV f ev i).2 := ⟨_, rfl⟩
    rw [sumE_S]
    rw [← hj] at b1 b2 b3 b4 ⊢
    obtain ⟨w1, w2, w3⟩ := upS_3 h4
    have go : (f j = 10 ∨ f j = 11) → ∀ (s2 g2 : Int32), ∃ dg', au f (sumE f ev m (j + 1) s2 g2).2 = some (upS st, op, dg') ∧ i < (sumE f ev m (j + 1) s2 g2).2 ∧ (sumE f ev m (j + 1) s2 g2).2 ≤ n ∧ ¬ (f (sumE f ev m (j + 1) s2 g2).2 < 10 ∧ 0 < dg') ∧ ¬ f (sumE f ev m (j + 1) s2 g2).2 = 10 ∧ ¬ f (sumE f ev m (j + 1) s2 g2).2 = 11 := by
      intro hs2 s2 g2
      have hjn := okT_n h (i := j) (by omega)
      obtain ⟨r, hr, h2⟩ := okT_nx h hjn b1
      unfold nxs at hr
      have u4 : 4 ≤ upS st := by unfold upS; split <;> omega
      have u7 : upS st < 7 := by unfold upS; split <;> omega
      rw [if_neg (by omega), if_neg (by omega), if_pos (by omega), if_neg (by omega), if_pos hs2] at hr
      cases hr
      rw [if_neg (by omega)] at h2
      have hn2 := okT_lt h (i := j + 1) (by omega) h2 (by omega) (by omega)
      obtain ⟨r2, hr2, -⟩ := okT_nx h hn2 h2
      have hu2 : isU (f (j + 1)) := by
        unfold nxs at hr2
        rw [if_neg (by omega), if_pos (by omega)] at hr2
        split at hr2
        next q => exact q
        next => cases hr2
      obtain ⟨d3, c1, c2, c3, c4⟩ := sm_au h m (j + 1) (upS st - 3) 0 s2 g2 (by omega) h2 w2 hn2 hu2
      rw [w1] at c1
      exact ⟨d3, c1, by omega, c3, c4⟩
    split
    next hc => exact go (Or.inl hc) _ _
    next hc =>
      split
      next hc2 => exact go (Or.inr hc2) _ _
      next hc2 => exact ⟨d1, b1, b2, b3, b4, hc, hc2⟩
