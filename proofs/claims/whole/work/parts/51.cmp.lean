/-! The class compares. -/
def cmS (f : Nat → Nat) (e j : Nat) : Nat := if e ≤ j then 13 else f j
def rs1 (f : Nat → Nat) (ev : Nat → Int32) (e i : Nat) : Int32 × Nat := rs f ev e 41 i (nI 0) (nI 0) (nI 1)
def cmC (f : Nat → Nat) (ev : Nat → Int32) (e i : Nat) : Bool × Nat := (cmpB (cmS f e (rs1 f ev e i).2) (rs1 f ev e i).1 (rs1 f ev e ((rs1 f ev e i).2 + 1)).1, (rs1 f ev e ((rs1 f ev e i).2 + 1)).2)
theorem cv_cm {d : Bool} {σ : Sg} {f : Nat → Nat} {ev : Nat → Int32} {k e : Nat} (hk : k < 10) (he : e ≤ 40) (hf30 : ∀ i, i < e → f i ≤ 30) (hrow : ∀ i, i < e → σ 14 false (k + 1) i = nI (f i)) (hn : ∀ s, 21 ≤ s → s ≤ 27 → σ 36 d 0 (s - 21) = ev s) {i : Nat} (hi : i ≤ 50) : Ev false 86 [.inr (.inr (12, false, 0)), .inr (.inr (14, false, k + 1)), .inl (nI e), .inr (.inr (36, d, 0))] (aW σ i) (some (.inl (bI ((cmC f ev e i).1 = true)))) (aW σ (cmC f ev e i).2) := by
  obtain ⟨a, ha⟩ : ∃ a, a = rs1 f ev e i := ⟨_, rfl⟩
  have hal : a.2 ≤ max e i := by rw [ha]; exact (rs_le f ev e 41 i (nI 0) (nI 0) (nI 1)).2
  obtain ⟨b, hb⟩ : ∃ b, b = rs1 f ev e (a.2 + 1) := ⟨_, rfl⟩
  have ec : cmC f ev e i = (cmpB (cmS f e a.2) a.1 b.1, b.2) := by
    unfold cmC
    rw [← ha, ← hb]
  have ev1 := cv_rs hk he hf30 hrow hn (i := i) (by omega)
  have ev2 := cv_rs hk he hf30 hrow hn (i := a.2 + 1) (by omega)
  change Ev false _ _ _ (some (.inl (rs1 f ev e i).1)) (aW σ (rs1 f ev e i).2) at ev1
  change Ev false _ _ _ (some (.inl (rs1 f ev e (a.2 + 1)).1)) (aW σ (rs1 f ev e (a.2 + 1)).2) at ev2
  rw [← ha] at ev1
  rw [← hb, ← aW_aW σ a.2 (a.2 + 1)] at ev2
  refine Ev_wp 108 [] rfl rfl ?_
  refine ⟨_, _, ev1, _, rfl, ?_⟩
  refine br_ge (aW_at _ _) rfl (by omega) (by omega) (fun h9 => ?_) (fun h9 => ?_)
  · refine ⟨_, rfl, nI (a.2 + 1), (add_n (aW_at _ _) rfl), _, _, ev2, _, rfl, ?_⟩
    refine br_ne rfl rfl (by omega) (by omega) (fun h31 => ?_) (fun h31 => ?_)
    · refine br_ne rfl rfl (by omega) (by omega) (fun h41 => ?_) (fun h41 => ?_)
      · exact absurd h41 (by omega)
      · refine ⟨fun h44 => ?_, fun h44 => ?_⟩
        · refine ⟨Or.inl rfl, ?_⟩
          have e8 : cmpB (cmS f e a.2) a.1 b.1 = false := by
            unfold cmS
            rw [if_pos h9]
            unfold cmpB
            rw [if_neg (by omega), if_pos rfl]
            exact decide_eq_false h44
          rw [ec, e8]
          exact ⟨by rw [bI_f (fun q => Bool.false_ne_true q)], rfl⟩
        · refine ⟨Or.inr rfl, ?_⟩
          have e8 : cmpB (cmS f e a.2) a.1 b.1 = true := by
            unfold cmS
            rw [if_pos h9]
            unfold cmpB
            rw [if_neg (by omega), if_pos rfl]
            exact decide_eq_true h44
          rw [ec, e8]
          exact ⟨by rw [bI_t rfl], rfl⟩
    · exact absurd h31 (by omega)
  · refine ⟨(show k < 10 by omega), a.2, (aW_at _ _), (by show _ < 40; omega), ?_⟩
    have hf := hf30 a.2 (by omega)
    refine ⟨nI (f a.2), ((aW_o (by decide)).trans (hrow a.2 (by omega))), nI (a.2 + 1), (add_n (aW_at _ _) rfl), _, _, ev2, _, rfl, ?_⟩
    refine br_ne rfl rfl (by omega) (by omega) (fun h31 => ?_) (fun h31 => ?_)
    · refine br_ne rfl rfl (by omega) (by omega) (fun h41 => ?_) (fun h41 => ?_)
      · refine ⟨fun h51 => ?_, fun h51 => ?_⟩
        · refine ⟨Or.inl rfl, ?_⟩
          have e8 : cmpB (cmS f e a.2) a.1 b.1 = false := by
            unfold cmS
            rw [if_neg (by omega)]
            unfold cmpB
            rw [if_neg h31, if_neg h41]
            exact decide_eq_false (Int32.not_lt.mpr h51)
          rw [ec, e8]
          exact ⟨by rw [bI_f (fun q => Bool.false_ne_true q)], rfl⟩
        · refine ⟨Or.inr rfl, ?_⟩
          have e8 : cmpB (cmS f e a.2) a.1 b.1 = true := by
            unfold cmS
            rw [if_neg (by omega)]
            unfold cmpB
            rw [if_neg h31, if_neg h41]
            exact decide_eq_true (i_nle h51)
          rw [ec, e8]
          exact ⟨by rw [bI_t rfl], rfl⟩
      · refine ⟨fun h44 => ?_, fun h44 => ?_⟩
        · refine ⟨Or.inl rfl, ?_⟩
          have e8 : cmpB (cmS f e a.2) a.1 b.1 = false := by
            unfold cmS
            rw [if_neg (by omega)]
            unfold cmpB
            rw [if_neg h31, if_pos h41]
            exact decide_eq_false h44
          rw [ec, e8]
          exact ⟨by rw [bI_f (fun q => Bool.false_ne_true q)], rfl⟩
        · refine ⟨Or.inr rfl, ?_⟩
          have e8 : cmpB (cmS f e a.2) a.1 b.1 = true := by
            unfold cmS
            rw [if_neg (by omega)]
            unfold cmpB
            rw [if_neg h31, if_pos h41]
            exact decide_eq_true h44
          rw [ec, e8]
          exact ⟨by rw [bI_t rfl], rfl⟩
    · refine ⟨fun h34 => ?_, fun h34 => ?_⟩
      · refine ⟨Or.inl rfl, ?_⟩
        have e8 : cmpB (cmS f e a.2) a.1 b.1 = false := by
          unfold cmS
          rw [if_neg (by omega)]
          unfold cmpB
          rw [if_pos h31]
          exact decide_eq_false (Int32.not_lt.mpr h34)
        rw [ec, e8]
        exact ⟨by rw [bI_f (fun q => Bool.false_ne_true q)], rfl⟩
      · refine ⟨Or.inr rfl, ?_⟩
        have e8 : cmpB (cmS f e a.2) a.1 b.1 = true := by
          unfold cmS
          rw [if_neg (by omega)]
          unfold cmpB
          rw [if_pos h31]
          exact decide_eq_true (i_nle h34)
        rw [ec, e8]
        exact ⟨by rw [bI_t rfl], rfl⟩
