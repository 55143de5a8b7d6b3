/-! Where a rule's act begins, and its price. -/
theorem th_8 {f : Nat → Nat} {n e : Nat} (h : okT f n) (he : e < n) (h20 : f e = 20) : au f (e + 1) = some (8, 0, 0) := by
  obtain ⟨-, -, q, hq, -⟩ := h
  obtain ⟨q2, h2⟩ := au_pre hq (i := e + 1) he
  obtain ⟨q1, h1⟩ := au_pre hq (i := e) (by omega)
  obtain ⟨st, op, dg⟩ := q1
  rw [au_S, h1] at h2
  change nx (st, op, dg) (f e) = some q2 at h2
  rw [h20, nx_eq] at h2
  rw [au_S, h1]
  show nx (st, op, dg) (f e) = _
  rw [h20, nx_eq]
  cases hn : nxs st op dg 20 with
  | none => rw [hn] at h2; cases h2
  | some r =>
    have hr : r = (8, 0) := by
      unfold nxs beh at hn
      repeat' split at hn
      all_goals first | omega | (cases hn; done) | (have z := Option.some.inj hn; subst z; exact Prod.ext rfl (by dsimp only; omega))
    rw [hr]
    rfl
theorem th_20 {f : Nat → Nat} {n j : Nat} (h : okT f n) (hj : j < n) (h8 : au f (j + 1) = some (8, 0, 0)) : f j = 20 := by
  obtain ⟨-, -, q, hq, -⟩ := h
  obtain ⟨q1, h1⟩ := au_pre hq (i := j) (by omega)
  obtain ⟨st, op, dg⟩ := q1
  rw [au_S, h1] at h8
  change nx (st, op, dg) (f j) = some (8, 0, 0) at h8
  rw [nx_eq] at h8
  cases hn : nxs st op dg (f j) with
  | none => rw [hn] at h8; cases h8
  | some r =>
    rw [hn] at h8
    have hr : r.1 = 8 := congrArg (fun z => z.1) (Option.some.inj h8)
    unfold nxs beh at hn
    repeat' split at hn
    all_goals first | omega | (cases hn; done) | (have z := Option.some.inj hn; subst z; dsimp only at hr; omega)
theorem th_e {t : Sg} {D : Dy} {k p n e : Nat} (h : okT (sy t k) n) (he : e < n) (h20 : sy t k e = 20) : (tstK t D k p).2 = e := by
  obtain ⟨a1, a2⟩ := tstK_au (D := D) (p := p) h
  have b1 := th_20 h (by omega) a1
  have b2 := th_8 h he h20
  rcases Nat.lt_or_ge (tstK t D k p).2 e with z | z
  · exact absurd h20 (th_one h a1 (by omega) he)
  · rcases Nat.lt_or_ge e (tstK t D k p).2 with z2 | z2
    · exact absurd b1 (th_one h b2 (by omega) (by omega))
    · omega
theorem price_T {f : Nat → Nat} {ev : Nat → Int32} {n e : Nat} (h : okT f n) (he : e + 2 < n) (h3 : au f (e + 3) = some (3, 0, 0)) (h4 : e + 3 < n) : rs1 f ev n (e + 3) = sumE f ev (41 - (e + 3)) (e + 3) (nI 0) (nI 1) := by
  have h40 := h.1
  have h99 : f n = 99 := h.2.1 n (Nat.le_refl _)
  obtain ⟨r, b1, -⟩ := okT_nx h h4 h3
  have hu := un_nx (by omega) (by omega) b1
  exact (rF_sum (ev := ev) h (Nat.le_refl _) (by omega) (by omega) (by omega) (by omega) (41 - (e + 3)) (e + 3) 3 0 (nI 0) (nI 1) (by omega) h3 (by omega) h4 hu).1
