/-! The class's way through a sum is the model's. -/
theorem rs_fi (f : Nat → Nat) (ev : Nat → Int32) (e : Nat) : ∀ (n m i : Nat) (s v g : Int32), e ≤ i + n → e ≤ i + m → rs f ev e n i s v g = rs f ev e m i s v g
  | 0, 0, _, _, _, _, _, _ => rfl
  | 0, m + 1, i, s, v, g, h, _ => by
    rw [rs_S, if_pos (by omega)]
    rfl
  | n + 1, 0, i, s, v, g, _, h => by
    rw [rs_S, if_pos (by omega)]
    rfl
  | n + 1, m + 1, i, s, v, g, h1, h2 => by
    have ih := fun s v g => rs_fi f ev e n m (i + 1) s v g (by omega) (by omega)
    rw [rs_S, rs_S, ih, ih, ih, ih]
def rF (f : Nat → Nat) (ev : Nat → Int32) (e i : Nat) (s v g : Int32) : Int32 × Nat := rs f ev e 41 i s v g
theorem rF_S {f : Nat → Nat} {ev : Nat → Int32} {e i : Nat} {s v g : Int32} (he : e ≤ 40) (hi : i < e) : rF f ev e i s v g = if f i ≤ 9 then rF f ev e (i + 1) s (v * nI 10 + nI (f i)) g else if 21 ≤ f i ∧ f i ≤ 27 then rF f ev e (i + 1) s (ev (f i)) g else if f i = 10 then rF f ev e (i + 1) (s + g * v) (nI 0) (nI 1) else if f i = 11 then rF f ev e (i + 1) (s + g * v) (nI 0) (-1) else (s + g * v, i) := by
  unfold rF
  rw [rs_S f ev e 40, if_neg (by omega), rs_fi f ev e 40 41 (i + 1) s _ g (by omega) (by omega), rs_fi f ev e 40 41 (i + 1) s _ g (by omega) (by omega), rs_fi f ev e 40 41 (i + 1) _ _ (nI 1) (by omega) (by omega), rs_fi f ev e 40 41 (i + 1) _ _ (-1) (by omega) (by omega)]
theorem rF_e {f : Nat → Nat} {ev : Nat → Int32} {e i : Nat} {s v g : Int32} (hi : e ≤ i) : rF f ev e i s v g = (s + g * v, i) := by
  unfold rF
  rw [rs_S f ev e 40, if_pos hi]
theorem rF_d {f : Nat → Nat} {ev : Nat → Int32} {e : Nat} (he : e ≤ 40) (hd : ¬ f e < 10) {s g : Int32} : ∀ (m i v : Nat), 41 ≤ i + m → i ≤ e → rF f ev e i s (nI v) g = rF f ev e (dE f m i v).2 s (nI (dE f m i v).1) g ∧ (dE f m i v).2 ≤ e
  | 0, i, v, h, hi => by omega
  | m + 1, i, v, h, hi => by
    rw [dE_S]
    by_cases q : f i < 10
    · rw [if_pos q]
      have hlt : i < e := by
        rcases Nat.lt_or_ge i e with z | z
        · exact z
        · have : i = e := by omega
          rw [this] at q
          exact absurd q hd
      obtain ⟨a, b⟩ := rF_d he hd (s := s) (g := g) m (i + 1) (10 * v + f i) (by omega) (by omega)
      refine ⟨?_, b⟩
      rw [← a, rF_S he hlt, if_pos (by omega), show nI v * nI 10 + nI (f i) = nI (v * 10 + f i) from add_n (mul_n rfl rfl) rfl, show v * 10 + f i = 10 * v + f i by omega]
    · rw [if_neg q]
      exact ⟨rfl, hi⟩
theorem sg_nx {st op dg x : Nat} {r : Nat × Nat} (h4 : 4 ≤ st) (h7 : st < 7) (h : nxs st op dg x = some r) (hd : ¬ (x < 10 ∧ 0 < dg)) : ¬ x < 10 ∧ ¬ (21 ≤ x ∧ x ≤ 27) ∧ ((x = 10 ∨ x = 11) → r = (st - 3, op)) := by
  unfold nxs beh at h
  rw [if_neg (by omega), if_neg (by omega), if_pos h7, if_neg hd] at h
  by_cases q : x = 10 ∨ x = 11
  · rw [if_pos q] at h
    exact ⟨by omega, by omega, fun _ => (Option.some.inj h).symm⟩
  · rw [if_neg q] at h
    refine ⟨?_, ?_, fun z => absurd z q⟩
    · repeat' split at h
      all_goals first | (cases h; done) | omega
    · repeat' split at h
      all_goals first | (cases h; done) | omega
theorem un_nx {st op dg x : Nat} {r : Nat × Nat} (h0 : ¬ st = 0) (h4 : st < 4) (h : nxs st op dg x = some r) : isU x := by
  unfold nxs at h
  rw [if_neg h0, if_pos h4] at h
  by_cases q : isU x
  · exact q
  · rw [if_neg q] at h
    cases h
theorem rF_sum {f : Nat → Nat} {ev : Nat → Int32} {n op e : Nat} (h : okT f n) (he : e ≤ n) (hd : ¬ f e < 10) (hnm : ¬ (21 ≤ f e ∧ f e ≤ 27)) (h10 : ¬ f e = 10) (h11 : ¬ f e = 11) : ∀ (m i st dg : Nat) (s g : Int32), 41 ≤ i + m → au f i = some (st, op, dg) → st < 4 → i < e → isU (f i) → rF f ev e i s (nI 0) g = sumE f ev m i s g ∧ (sumE f ev m i s g).2 ≤ e
  | 0, i, st, dg, s, g, hm, _, _, hi, _ => by
    have := h.1
    omega
  | m + 1, i, st, dg, s, g, hm, hs, h4, hi, hu => by
    have h40 := h.1
    obtain ⟨dg', a1, a2, a3, a4⟩ := un_au (ev := ev) h hs h4 (by omega) hu
    have hw : ∃ u j, unV f ev i = (u, j) ∧ rF f ev e i s (nI 0) g = rF f ev e j s u g ∧ j ≤ e := by
      by_cases q : f i < 10
      · obtain ⟨b1, b2⟩ := rF_d (ev := ev) (s := s) (g := g) (by omega) hd (41 - i) i 0 (by omega) (by omega)
        exact ⟨_, _, by unfold unV; rw [if_pos q], b1, b2⟩
      · have q2 := hu.resolve_left q
        refine ⟨_, _, by unfold unV; rw [if_neg q], ?_, hi⟩
        rw [rF_S (by omega) hi, if_neg (by omega), if_pos q2]
    obtain ⟨u, j, eu, b1, b2⟩ := hw
    rw [eu] at a1 a2 a3 a4
    rw [sumE_S, eu, b1]
    dsimp only at a1 a2 a3 a4 ⊢
    rcases Nat.lt_or_ge j e with hj | hj
    · obtain ⟨r, c1, c2⟩ := okT_nx h (by omega) a1
      have hup : 4 ≤ upS st ∧ upS st < 7 := by
        unfold upS
        split
        next => omega
        next => omega
      obtain ⟨d1, d2, d3⟩ := sg_nx hup.1 hup.2 c1 a4
      rw [rF_S (by omega) hj, if_neg (by omega), if_neg d2]
      have go : (f j = 10 ∨ f j = 11) → r = (upS st - 3, op) ∧ j + 1 < e ∧ isU (f (j + 1)) := fun z => by
        have er := d3 z
        rw [er, if_neg d1] at c2
        have hl := okT_lt h (by omega) c2 (by omega) (by omega)
        obtain ⟨r2, c3, -⟩ := okT_nx h hl c2
        have hu2 := un_nx (by omega) (by omega) c3
        refine ⟨er, ?_, hu2⟩
        rcases Nat.lt_or_ge (j + 1) e with z2 | z2
        · exact z2
        · have e2 : j + 1 = e := by omega
          rw [e2] at hu2
          rcases hu2 with w | w
          · exact absurd w hd
          · exact absurd w hnm
      by_cases q : f j = 10
      · obtain ⟨er, l1, hu2⟩ := go (Or.inl q)
        rw [er, if_neg d1] at c2
        rw [if_pos q, if_pos q]
        exact rF_sum h he hd hnm h10 h11 m (j + 1) (upS st - 3) 0 _ _ (by omega) c2 (by omega) l1 hu2
      · by_cases q2 : f j = 11
        · obtain ⟨er, l1, hu2⟩ := go (Or.inr q2)
          rw [er, if_neg d1] at c2
          rw [if_neg q, if_pos q2, if_neg q, if_pos q2]
          exact rF_sum h he hd hnm h10 h11 m (j + 1) (upS st - 3) 0 _ _ (by omega) c2 (by omega) l1 hu2
        · rw [if_neg q, if_neg q2, if_neg q, if_neg q2]
          exact ⟨rfl, b2⟩
    · have ej : j = e := by omega
      subst ej
      rw [rF_e (Nat.le_refl _), if_neg h10, if_neg h11]
      exact ⟨rfl, Nat.le_refl _⟩
