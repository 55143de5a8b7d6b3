/-! The class's comparison is the model's. -/
theorem cmC_E {f : Nat → Nat} {ev : Nat → Int32} {n op dg e i : Nat} (h : okT f n) (he : e < n) (h20 : f e = 20) (hs : au f i = some (0, op, dg)) (hi : i < e) (hu : isU (f i)) : cmC f ev e i = cmE f ev i ∧ (cmE f ev i).2 ≤ e := by
  have h40 := h.1
  have hd : ¬ f e < 10 := by omega
  have hnm : ¬ (21 ≤ f e ∧ f e ≤ 27) := by omega
  have h10 : ¬ f e = 10 := by omega
  have h11 : ¬ f e = 11 := by omega
  obtain ⟨d1, a1, a2, a3, a4, a5, a6⟩ := sm_au (ev := ev) h (41 - i) i 0 dg (nI 0) (nI 1) (by omega) hs (by omega) (by omega) hu
  obtain ⟨b1, b2⟩ := rF_sum (ev := ev) h (by omega) hd hnm h10 h11 (41 - i) i 0 dg (nI 0) (nI 1) (by omega) hs (by omega) hi hu
  change au f (cm1 f ev i).2 = some (4, op, d1) at a1
  change ¬ (f (cm1 f ev i).2 < 10 ∧ 0 < d1) at a4
  change ¬ f (cm1 f ev i).2 = 10 at a5
  change ¬ f (cm1 f ev i).2 = 11 at a6
  change (cm1 f ev i).2 ≤ e at b2
  change rs1 f ev e i = cm1 f ev i at b1
  obtain ⟨j, hj⟩ : ∃ j, j = (cm1 f ev i).2 := ⟨_, rfl⟩
  rw [← hj] at a1 a4 a5 a6 b2
  obtain ⟨r, c1, c2⟩ := okT_nx h (by omega) a1
  have hc : (12 ≤ f j ∧ f j ≤ 14) ∧ r = (2, op) := by
    unfold nxs at c1
    rw [if_neg (by omega), if_neg (by omega), if_pos (by omega), if_neg a4, if_neg (by omega), if_pos rfl] at c1
    by_cases q : 12 ≤ f j ∧ f j ≤ 14
    · rw [if_pos q] at c1
      exact ⟨q, (Option.some.inj c1).symm⟩
    · rw [if_neg q] at c1
      cases c1
  have hje : j < e := by
    rcases Nat.lt_or_ge j e with z | z
    · exact z
    · have z2 : j = e := by omega
      rw [z2] at hc
      omega
  rw [hc.2, if_neg (by omega)] at c2
  have hl := okT_lt h (by omega) c2 (by omega) (by omega)
  obtain ⟨r2, c3, -⟩ := okT_nx h hl c2
  have hu2 := un_nx (by omega) (by omega) c3
  have hl2 : j + 1 < e := by
    rcases Nat.lt_or_ge (j + 1) e with z | z
    · exact z
    · have z2 : j + 1 = e := by omega
      rw [z2] at hu2
      rcases hu2 with w | w
      · exact absurd w hd
      · exact absurd w hnm
  obtain ⟨g1, g2⟩ := rF_sum (ev := ev) h (by omega) hd hnm h10 h11 (41 - (j + 1)) (j + 1) 2 0 (nI 0) (nI 1) (by omega) c2 (by omega) hl2 hu2
  change rs1 f ev e (j + 1) = cm1 f ev (j + 1) at g1
  change (cm1 f ev (j + 1)).2 ≤ e at g2
  refine ⟨?_, ?_⟩
  · unfold cmC cmE
    rw [b1, ← hj, g1]
    unfold cmS
    rw [if_neg (by omega)]
  · unfold cmE
    rw [← hj]
    exact g2
