/-! The class follows all rules at all posts. -/
theorem cv_follow_l {d : Bool} {s t : Sg} {D : Dy} {Z : Zt} (hT : WN t) (hX : XT t) (hU : RU t) (hH : TH s t) (hF : OF s t Z.2.2) (hW : WI t D) {m : Nat} (hm : D 0 0 = nI m) (hm2 : m < 2000) (hw : ∀ p, p < nP t → D 28 p = nI (wtn t D p)) : ∀ (n p : Nat) (σ : Sg) (o2 o3 : Option AV), p + n = nP t → Cg d s t (fr (gp t) p D) 60 200 Z σ → G false 195 (fun r' s' => r' = none ∧ Cg d s t (fr (gp t) (nP t) D) 60 200 Z s') 2 [some (.inr (.inr (26, d, 0))), some (.inl (nI p)), o2, o3] [] σ := by
  have hP := hT.P
  intro n
  induction n with
  | zero =>
    intro p σ o2 o3 hj hC
    refine G_wp 100 [2, 9] rfl ?_
    refine br_ge rfl (hC.c1_0.trans hT.eP) (by omega) (by omega) (fun h6 => ?_) (fun h6 => ?_)
    · exact ⟨rfl, by rw [show nP t = p by omega]; exact hC⟩
    · exact absurd h6 (by omega)
  | succ n ih =>
    intro p σ o2 o3 hj hC
    obtain ⟨X, hXX⟩ : ∃ X, X = fr (gp t) p D := ⟨_, rfl⟩
    rw [← hXX] at hC
    have eX : ∀ g i, ¬ g = 1 ∧ ¬ g = 2 ∧ ¬ g = 11 ∧ ¬ g = 15 ∧ ¬ g = 27 ∧ ¬ (g = 0 ∧ i = 7) → X g i = D g i := fun g i q => by rw [hXX]; exact fr_e (fun _ _ => gp_o q) _ _
    have hmX : X 0 0 = nI m := (eX 0 0 (by omega)).trans hm
    have hwX : X 28 p = nI (wtn t X p) := by rw [eX 28 p (by omega), hw p (by omega), wtn_cong (fun r => eX 16 r (by omega))]
    have hWX : WI t X := by rw [hXX]; exact fr_I (P := WI t) (N := nP t) (fun _ _ q h => gp_WI hT h q) hW p (by omega)
    refine G_wp 100 [2, 9] rfl ?_
    refine br_ge rfl (hC.c1_0.trans hT.eP) (by omega) (by omega) (fun h6 => ?_) (fun h6 => ?_)
    · exact absurd h6 (by omega)
    · refine ⟨_, rfl, ?_⟩
      exact cv_rules_l hT hX hU hH hF hm2 (by omega) hWX hmX hwX (fun σ2 o2 o3 hC2 => ih (p + 1) σ2 o2 o3 (by omega) (by rw [fr_S, ← hXX]; exact hC2)) (nRu t) 0 σ o3 (by omega) hC
theorem cv_follow {d : Bool} {s t : Sg} {D : Dy} {Z : Zt} {σ : Sg} (hC : Cg d s t D 60 200 Z σ) (hT : WN t) (hX : XT t) (hU : RU t) (hH : TH s t) (hF : OF s t Z.2.2) (hW : WI t D) {m : Nat} (hm : D 0 0 = nI m) (hm2 : m < 2000) (hw : ∀ p, p < nP t → D 28 p = nI (wtn t D p)) : ∃ σ', Ev false 195 [.inr (.inr (26, d, 0))] σ none σ' ∧ Cg d s t (fr (gp t) (nP t) D) 60 200 Z σ' := by
  refine EvQ_wp 22 [2, 9] rfl rfl ?_
  refine ⟨_, rfl, ?_⟩
  exact cv_follow_l hT hX hU hH hF hW hm hm2 hw (nP t) 0 σ none none (by omega) hC
