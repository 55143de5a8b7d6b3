/-! The class's steps. -/
/-- a day that both sides hold, between minutes -/
def DK (d : Bool) (s t : Sg) (D : Dy) (Z : Zt) (σ : Sg) : Prop := Cg d s t D 60 200 Z σ ∧ MI t D ∧ OI t D ∧ OF s t Z.2.2 ∧ ZB D Z ∧ N10 D
theorem cv_minute_k {d : Bool} {s t : Sg} {D : Dy} {Z : Zt} {σ : Sg} (h : DK d s t D Z σ) (hI : TI t) (hH : TH s t) (h0 : nN (D 0 0) < 1440) : ∃ σ' Z', Ev false 220 [.inr (.inr (26, d, 0))] σ none σ' ∧ DK d s t (gmin t D) Z' σ' ∧ Z'.2.2 = Z.2.2 := by
  obtain ⟨hC, hM, hO, hF, hB, hN⟩ := h
  obtain ⟨σ1, ev1, Z1, a1, a2, a3, a4, a5⟩ := cv_minute hC hI hM hO hH hF hB hN h0
  exact ⟨σ1, Z1, ev1, ⟨a1, gmin_MI hI hM h0, a4, by rw [a5]; exact hF, a2, a3⟩, a5⟩
theorem cv_step_l {s t : Sg} {D : Dy} {x c : Int32} {N : Nat} (hI : TI t) (hH : TH s t) (hN : nN (D 0 0) + N ≤ 1440) : ∀ (n j : Nat) (σ : Sg) (Z : Zt), j + n = N → DK false s t (itr (gmin t) j D) Z σ → Z.2.2 = c → nN (itr (gmin t) j D 0 0) = nN (D 0 0) + j → G false 227 (fun r' s' => r' = some (.inl (nI N)) ∧ ∃ Z', DK false s t (itr (gmin t) N D) Z' s' ∧ Z'.2.2 = c) 24 [some (.inr (.inr (0, false, 0))), some (.inl x), some (.inl (nI N)), some (.inl (nI j))] [] σ := by
  intro n
  induction n with
  | zero =>
    intro j σ Z hj hK hz0 hm
    refine G_wp 60 [24] rfl ?_
    refine br_ge rfl rfl (by omega) (by omega) (fun h26 => ?_) (fun h26 => ?_)
    · exact ⟨rfl, Z, by rw [show N = j by omega]; exact hK, hz0⟩
    · exact absurd h26 (by omega)
  | succ n ih =>
    intro j σ Z hj hK hz0 hm
    refine G_wp 60 [24] rfl ?_
    refine br_ge rfl rfl (by omega) (by omega) (fun h26 => ?_) (fun h26 => ?_)
    · exact absurd h26 (by omega)
    · obtain ⟨σ1, Z1, ev1, hK2, hz⟩ := cv_minute_k hK hI hH (by omega)
      refine ⟨_, _, ev1, nI (j + 1), nI_add _ _, ?_⟩
      exact ih (j + 1) σ1 Z1 (by omega) (by rw [itr_S]; exact hK2) (hz.trans hz0) (by rw [itr_S, gmin_0, nN_nI (by omega)]; omega)
