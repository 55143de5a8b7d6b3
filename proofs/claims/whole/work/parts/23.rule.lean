/-! A rule, on the model's state. -/
theorem mv_isSo {t : Sg} {D : Dy} {τ : Sg} (hA : Ag t D τ) (hT : WN t) (hX : XT t) {k p n : Nat} (hk : k < 10) (hp : p < nP t) (hok : okT (sy t k) n) : ∃ τ', Ev true 189 [.inr (.inr (69, false, 0)), .inl (nI k), .inl (nI p)] τ (some (.inl (if (tst (sy t k) (envV t D p) 41 0 (none, none, 0) [] none).1 then nI 1 else nI 0))) τ' ∧ SR t D τ' ((tst (sy t k) (envV t D p) 41 0 (none, none, 0) [] none).2 + 1) [] [] := by
  refine EvQ_wp 60 [7] rfl rfl ?_
  refine ⟨_, rfl, _, rfl, _, rfl, ?_⟩
  exact mv_isSo_l hT hX hk hp hok 41 0 none none 0 [] none 0 0 _ (by omega) (by omega) rfl (fun _ => rfl) (fun b e => by cases e) (Nat.le_refl _) (Nat.le_refl _) ⟨Ag_scr hA (by decide) rfl, up4_s _ _ _ _ _ _, trivial, trivial⟩
