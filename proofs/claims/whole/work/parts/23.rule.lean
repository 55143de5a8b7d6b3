/-! A rule, on the model's state. -/
theorem mv_isSo {t : Sg} {D : Dy} {τ : Sg} (hA : Ag t D τ) (hT : WN t) (hX : XT t) {k p n : Nat} (hk : k < 10) (hp : p < nP t) (hok : okT (sy t k) n) : ∃ τ', Ev true 189 [.inr (.inr (69, false, 0)), .inl (nI k), .inl (nI p)] τ (some (.inl (if (tst (sy t k) (envV t D p) 41 0 (none, none, 0) [] none).1 then nI 1 else nI 0))) τ' ∧ SR t D τ' ((tst (sy t k) (envV t D p) 41 0 (none, none, 0) [] none).2 + 1) [] [] := by
  refine EvQ_wp 60 [7] rfl rfl ?_
  refine ⟨_, rfl, _, rfl, _, rfl, ?_⟩
  exact mv_isSo_l hT hX hk hp hok 41 0 none none 0 [] none 0 0 _ (by omega) (by omega) rfl (fun _ => rfl) (fun b e => by cases e) (Nat.le_refl _) (Nat.le_refl _) ⟨Ag_scr hA (by decide) rfl, up4_s _ _ _ _ _ _, trivial, trivial⟩
theorem tst_au {f : Nat → Nat} {ev : Nat → Int32} {n : Nat} (hok : okT f n) : ∀ (m i : Nat) (o a : Option Bool) (nn : Nat) (r : List Lv) (v : Option Bool) (st dg : Nat), 41 ≤ i + m → i ≤ n → au f i = some (st, r.length, dg) → (v = none → st = 0) → (∀ b, v = some b → ((st = 5 ∧ ¬ f i = 10 ∧ ¬ f i = 11 ∧ ¬ (f i < 10 ∧ 0 < dg)) ∨ st = 7)) → au f ((tst f ev m i (o, a, nn) r v).2 + 1) = some (8, 0, 0) ∧ (tst f ev m i (o, a, nn) r v).2 < n := by
  have h40 := hok.1
  intro m
  induction m with
  | zero =>
    intro i o a nn r v st dg h1 h2
    omega
  | succ m ih =>
    intro i o a nn r v st dg hm hi hau hv0 hv1
    cases v with
    | none =>
      have h0 := hv0 rfl
      subst h0
      have hin := okT_lt hok hi hau (by omega) (by omega)
      obtain ⟨r0, hr0, h2⟩ := okT_nx hok hin hau
      unfold nxs at hr0
      rw [if_pos rfl] at hr0
      unfold tst
      by_cases q : f i = 19
      · rw [if_pos q] at hr0
        cases hr0
        rw [if_neg (by omega)] at h2
        rw [if_pos q]
        exact ih (i + 1) o a (nn + 1) r none 0 0 (by omega) (by omega) h2 (fun _ => rfl) (fun b e => by cases e)
      · rw [if_neg q] at hr0 ⊢
        by_cases q2 : f i = 15
        · rw [if_pos q2]
          by_cases q3 : r.length < 8
          · rw [if_pos ⟨q2, q3⟩] at hr0
            cases hr0
            rw [if_neg (by omega)] at h2
            exact ih (i + 1) none none 0 ((o, a, nn) :: r) none 0 0 (by omega) (by omega) h2 (fun _ => rfl) (fun b e => by cases e)
          · rw [if_neg (fun z => q3 z.2), if_neg (by omega)] at hr0
            cases hr0
        · rw [if_neg (fun z => q2 z.1)] at hr0
          rw [if_neg q2]
          have hu : isU (f i) := by
            by_cases z : isU (f i)
            · exact z
            · rw [if_neg z] at hr0
              cases hr0
          obtain ⟨d2, c1, c2, c3, c4, c5, c6, c7⟩ := cm_au (ev := ev) hok hau hin hu
          exact ih _ o a 0 r (some (flB nn (cmE f ev i).1)) 5 d2 (by omega) c3 c1 (fun e => by cases e) (fun b e => Or.inl ⟨rfl, c5, c6, c4⟩)
    | some v =>
      have hst := hv1 v rfl
      have hin := okT_lt hok hi hau (by omega) (by omega)
      obtain ⟨r0, hr0, h2⟩ := okT_nx hok hin hau
      have hb : beh r.length (f i) = some r0 := by
        unfold nxs at hr0
        rw [if_neg (by omega), if_neg (by omega)] at hr0
        rcases hst with ⟨e, g1, g2, g3⟩ | e
        · rw [if_pos (by omega), if_neg g3, if_neg (by omega), if_neg (by omega), if_pos e] at hr0
          exact hr0
        · rw [if_neg (by omega), if_pos e] at hr0
          exact hr0
      unfold beh at hb
      by_cases h : f i = 17 ∨ f i = 18
      · rw [if_pos h] at hb
        cases hb
        rw [if_neg (by omega)] at h2
        unfold tst
        by_cases q : f i = 17
        · rw [if_pos q]
          exact ih (i + 1) o (some (a.getD true && v)) 0 r none 0 0 (by omega) (by omega) h2 (fun _ => rfl) (fun b e => by cases e)
        · rw [if_neg q, if_pos (show f i = 18 by omega)]
          exact ih (i + 1) (some (o.getD false || (a.getD true && v))) none 0 r none 0 0 (by omega) (by omega) h2 (fun _ => rfl) (fun b e => by cases e)
      · rw [if_neg h] at hb
        by_cases h6 : f i = 16
        · cases r with
          | nil =>
            rw [if_neg (fun z => absurd z.2 (by decide)), if_neg (by omega)] at hb
            cases hb
          | cons L2 r2 =>
            obtain ⟨o2, a2, n2⟩ := L2
            rw [if_pos ⟨h6, Nat.succ_pos _⟩] at hb
            cases hb
            rw [if_neg (by omega)] at h2
            have et : tst f ev (m + 1) i (o, a, nn) ((o2, a2, n2) :: r2) (some v) = tst f ev m (i + 1) (o2, a2, 0) r2 (some (flB n2 (o.getD false || (a.getD true && v)))) := by
              unfold tst
              rw [if_neg (show ¬ f i = 17 by omega), if_neg (show ¬ f i = 18 by omega), if_pos h6]
              cases m <;> rfl
            rw [et]
            exact ih (i + 1) o2 a2 0 r2 (some (flB n2 (o.getD false || (a.getD true && v)))) 7 0 (by omega) (by omega) h2 (fun e => by cases e) (fun b e => Or.inr rfl)
        · rw [if_neg (fun z => h6 z.1)] at hb
          have et : tst f ev (m + 1) i (o, a, nn) r (some v) = ((o.getD false || (a.getD true && v)), i) := by
            unfold tst
            rw [if_neg (show ¬ f i = 17 by omega), if_neg (show ¬ f i = 18 by omega), if_neg h6]
          rw [et]
          by_cases h20 : f i = 20 ∧ r.length = 0
          · rw [if_pos h20] at hb
            cases hb
            rw [if_neg (by omega), h20.2] at h2
            exact ⟨h2, hin⟩
          · rw [if_neg h20] at hb
            cases hb
