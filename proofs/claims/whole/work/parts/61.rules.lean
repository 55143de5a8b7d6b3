/-! The class follows all rules. -/
/-- off is as the model has it: what is told, but for the rule that is turned -/
def OF (s t : Sg) (z : Int32) : Prop := ∀ k, k < nRu t → (s 17 false 0 k = (if nI k = z then nI 1 else nI 0) ↔ t 86 false 0 k = nI 0) ∧ (s 17 false 0 k = nI 0 ∨ s 17 false 0 k = nI 1)
theorem cv_rule {d : Bool} {s t : Sg} {D : Dy} {Z : Zt} {σ : Sg} {k p m : Nat} (hC : Cg d s t D 60 200 Z σ) (hT : WN t) (hX : XT t) (hU : RU t) (hH : TH s t) (hk : k < nRu t) (hp : p < nP t) (h7 : Is (D 0 7) 4000) (hm : D 0 0 = nI m) (hm2 : m < 2000) (hw : D 28 p = nI (wtn t D p)) : ∃ σ', Ev false 176 [.inr (.inr (26, d, 0)), .inl (nI k), .inl (nI p)] σ none σ' ∧ Cg d s t (if (tstK t D k p).1 = true then act t D (sy t k) (envV t D p) p ((tstK t D k p).2 + 1) else D) 60 200 Z σ' := by
  have hk10 : k < 10 := by have := hX.1.2; unfold nRu at hk; omega
  have hok := hU k hk
  obtain ⟨e, he, h20, hth⟩ := hH k hk
  have hte := th_e (D := D) (p := p) hok he h20
  obtain ⟨a1, a2⟩ := tstK_au (D := D) (p := p) hok
  rw [hte] at a1 a2
  rcases sR_pre hok a1 a2 with ⟨b1, b2, b3, b4⟩ | b | b | b
  · exact cv_rule23 hC hT hX hk10 hp hok he h20 hth a2 hte b1 b4 b3 h7 hm hm2 hw
  · exact cv_rule28 hC hT hX hk10 hp hok he h20 hth a2 hte b h7 hm hm2 hw
  · exact cv_rule29 hC hT hX hk10 hp hok he h20 hth a2 hte b h7 hm hm2 hw
  · exact cv_rule30 hC hT hX hk10 hp hok he h20 hth a2 hte b h7 hm hm2 hw
theorem wtn_cong {t : Sg} {D E : Dy} {p : Nat} (h : ∀ r, E 16 r = D 16 r) : wtn t E p = wtn t D p := ct_cong (fun r _ => by rw [h r])
theorem cv_rules_l {d : Bool} {s t : Sg} {D : Dy} {Z : Zt} {P : Option AV → Sg → Prop} (hT : WN t) (hX : XT t) (hU : RU t) (hH : TH s t) (hF : OF s t Z.2.2) {m : Nat} (hm2 : m < 2000) {p : Nat} (hp : p < nP t) (hW : WI t D) (hm : D 0 0 = nI m) (hw : D 28 p = nI (wtn t D p)) (hK : ∀ (σ : Sg) (o2 o3 : Option AV), Cg d s t (fr (gk t p) (nRu t) D) 60 200 Z σ → G false 195 P 2 [some (.inr (.inr (26, d, 0))), some (.inl (nI (p + 1))), o2, o3] [] σ) : ∀ (n k : Nat) (σ : Sg) (o : Option AV), k + n = nRu t → Cg d s t (fr (gk t p) k D) 60 200 Z σ → G false 195 P 9 [some (.inr (.inr (26, d, 0))), some (.inl (nI p)), some (.inl (nI k)), o] [] σ := by
  have hP := hT.P
  have hRu := hX.1.2
  change nRu t ≤ 10 at hRu
  intro n
  induction n with
  | zero =>
    intro k σ o hj hC
    refine G_wp 100 [2, 9] rfl ?_
    refine br_ge rfl (hC.c12_2.trans hX.eRu) (by omega) (by omega) (fun h13 => ?_) (fun h13 => ?_)
    · refine ⟨nI (p + 1), nI_add _ _, ?_⟩
      exact hK _ _ _ (by rw [show nRu t = k by omega]; exact hC)
    · exact absurd h13 (by omega)
  | succ n ih =>
    intro k σ o hj hC
    obtain ⟨X, hXX⟩ : ∃ X, X = fr (gk t p) k D := ⟨_, rfl⟩
    rw [← hXX] at hC
    have eX : ∀ g i, ¬ g = 1 ∧ ¬ g = 2 ∧ ¬ g = 11 ∧ ¬ g = 15 ∧ ¬ g = 27 ∧ ¬ (g = 0 ∧ i = 7) → X g i = D g i := fun g i q => by rw [hXX]; exact fr_e (fun _ _ => gk_o q) _ _
    have hmX : X 0 0 = nI m := (eX 0 0 (by omega)).trans hm
    have hwX : X 28 p = nI (wtn t X p) := by rw [eX 28 p (by omega), hw, wtn_cong (fun r => eX 16 r (by omega))]
    have hWX : WI t X := by rw [hXX]; exact fr_I (P := WI t) (N := nRu t) (fun _ _ _ h => gk_WI hT h hp) hW k (by omega)
    have h7X := hWX.1.2.1
    have hf17 : σ 17 false 0 k = s 17 false 0 k := Fr_k hC.2.1 (by decide) 0 k rfl
    have hz0 : σ 26 d 0 5 = Z.2.2 := hC.m.2.1
    refine G_wp 100 [2, 9] rfl ?_
    refine br_ge rfl (hC.c12_2.trans hX.eRu) (by omega) (by omega) (fun h13 => ?_) (fun h13 => ?_)
    · exact absurd h13 (by omega)
    · refine ⟨k, rfl, (by show _ < 10; omega), ?_⟩
      refine ⟨fun h22 => ?_, fun h22 => ?_⟩
      · refine ⟨fun h26 => ?_, fun h26 => ?_⟩
        · refine ⟨_, rfl, ?_⟩
          refine br_ne rfl rfl (by omega) (by omega) (fun h32 => ?_) (fun h32 => ?_)
          · exact absurd h32 (by omega)
          · obtain ⟨σ1, ev1, hC⟩ := cv_rule hC hT hX hU hH (by omega) hp h7X hmX hm2 hwX
            refine ⟨_, _, ev1, nI (k + 1), nI_add _ _, ?_⟩
            have hz : ¬ nI k = Z.2.2 := by
              exact fun q => h22 (q.trans hz0.symm)
            have hs17 : (s 17 false 0 k = nI 0) := by
              exact hf17.symm.trans h26
            have ht : t 86 false 0 k = nI 0 := by
              have := (hF k (by omega)).1
              rw [if_neg hz] at this
              exact this.mp hs17
            have eg : fr (gk t p) (k + 1) D = (if (tstK t X k p).1 = true then act t X (sy t k) (envV t X p) p ((tstK t X k p).2 + 1) else X) := by
              rw [fr_S, ← hXX]
              unfold gk
              by_cases q : (tstK t X k p).1 = true
              · rw [if_pos q, if_pos ⟨ht, q⟩]
              · rw [if_neg q, if_neg (fun z => q z.2)]
            rw [← eg] at hC
            exact ih (k + 1) _ _ (by omega) hC
        · refine ⟨_, rfl, ?_⟩
          refine br_ne rfl rfl (by omega) (by omega) (fun h32 => ?_) (fun h32 => ?_)
          · refine ⟨nI (k + 1), nI_add _ _, ?_⟩
            have hz : ¬ nI k = Z.2.2 := by
              exact fun q => h22 (q.trans hz0.symm)
            have hs17 : ¬ (s 17 false 0 k = nI 0) := by
              exact fun q => h26 (hf17.trans q)
            have ht : ¬ t 86 false 0 k = nI 0 := by
              have := (hF k (by omega)).1
              rw [if_neg hz] at this
              exact fun q => hs17 (this.mpr q)
            have eg : fr (gk t p) (k + 1) D = X := by
              rw [fr_S, ← hXX]
              unfold gk
              rw [if_neg (fun z => ht z.1)]
            rw [← eg] at hC
            exact ih (k + 1) _ _ (by omega) hC
          · exact absurd h32 (by omega)
      · refine ⟨fun h26 => ?_, fun h26 => ?_⟩
        · refine ⟨_, rfl, ?_⟩
          refine br_ne rfl rfl (by omega) (by omega) (fun h32 => ?_) (fun h32 => ?_)
          · exact absurd h32 (by omega)
          · obtain ⟨σ2, ev2, hC⟩ := cv_rule hC hT hX hU hH (by omega) hp h7X hmX hm2 hwX
            refine ⟨_, _, ev2, nI (k + 1), nI_add _ _, ?_⟩
            have hz : nI k = Z.2.2 := by
              exact h22.trans hz0
            have hs17 : (s 17 false 0 k = nI 1) := by
              exact hf17.symm.trans h26
            have ht : t 86 false 0 k = nI 0 := by
              have := (hF k (by omega)).1
              rw [if_pos hz] at this
              exact this.mp hs17
            have eg : fr (gk t p) (k + 1) D = (if (tstK t X k p).1 = true then act t X (sy t k) (envV t X p) p ((tstK t X k p).2 + 1) else X) := by
              rw [fr_S, ← hXX]
              unfold gk
              by_cases q : (tstK t X k p).1 = true
              · rw [if_pos q, if_pos ⟨ht, q⟩]
              · rw [if_neg q, if_neg (fun z => q z.2)]
            rw [← eg] at hC
            exact ih (k + 1) _ _ (by omega) hC
        · refine ⟨_, rfl, ?_⟩
          refine br_ne rfl rfl (by omega) (by omega) (fun h32 => ?_) (fun h32 => ?_)
          · refine ⟨nI (k + 1), nI_add _ _, ?_⟩
            have hz : nI k = Z.2.2 := by
              exact h22.trans hz0
            have hs17 : ¬ (s 17 false 0 k = nI 1) := by
              exact fun q => h26 (hf17.trans q)
            have ht : ¬ t 86 false 0 k = nI 0 := by
              have := (hF k (by omega)).1
              rw [if_pos hz] at this
              exact fun q => hs17 (this.mpr q)
            have eg : fr (gk t p) (k + 1) D = X := by
              rw [fr_S, ← hXX]
              unfold gk
              rw [if_neg (fun z => ht z.1)]
            rw [← eg] at hC
            exact ih (k + 1) _ _ (by omega) hC
          · exact absurd h32 (by omega)
