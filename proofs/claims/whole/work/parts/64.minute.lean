/-! The class passes a minute. -/
theorem opn_OI {t : Sg} {D : Dy} {p v : Nat} (h : OI t D) (hv : v = 0 ∨ v = 1) : OI t (opn D p (nI v)) := by
  intro i hi
  unfold opn
  split
  next => exact h i hi
  next =>
    show lgs (up2 D 2 p (nI v)) _ _ _ _ 2 i = _ ∨ lgs (up2 D 2 p (nI v)) _ _ _ _ 2 i = _
    rw [lgs_o (by omega) (by omega)]
    by_cases e : i = p
    · rw [e, up2_s]
      rcases hv with z | z <;> rw [z]
      · exact Or.inl rfl
      · exact Or.inr rfl
    · rw [up2_n (by omega)]
      exact h i hi
theorem gk_OI {t : Sg} {D : Dy} {p k : Nat} (h : OI t D) : OI t (gk t p k D) := by
  unfold gk
  split
  next =>
    unfold act
    split
    next => exact OI_of h (fun i => up2_n (by omega))
    next =>
      split
      next => exact opn_OI h (Or.inl rfl)
      next =>
        split
        next => exact opn_OI h (Or.inr rfl)
        next => exact OI_of h (fun i => ffx_o (by omega))
  next => exact h
theorem g4_OI {t : Sg} {D : Dy} (h : OI t D) : OI t (g4 t D) := by
  have h1 : OI t (g1 t D) := OI_of h (fun i => (fr_e (fun _ _ => gr_o (by omega)) _ _).trans (gz_o (by omega)))
  have h2 : OI t (g2 t D) := OI_of h1 (fun i => fr_e (fun _ _ => mnd_o (by omega)) _ _)
  have h3 : OI t (g3 t D) := fr_I (P := OI t) (N := nP t) (fun p E _ hE => fr_I (P := OI t) (N := nRu t) (fun k E2 _ hE2 => gk_OI hE2) hE _ (Nat.le_refl _)) h2 _ (Nat.le_refl _)
  exact OI_of h3 (fun i => drs_o (by omega))
theorem g4_e {t : Sg} {D : Dy} {g i : Nat} (e : g = 6 ∨ g = 10) : g4 t D g i = gz (nP t) D g i := by
  have e1 : g1 t D g i = gz (nP t) D g i := fr_e (fun _ _ => gr_o (by omega)) _ _
  have e2 : g2 t D g i = g1 t D g i := fr_e (fun _ _ => mnd_o (by omega)) _ _
  have e3 : g3 t D g i = g2 t D g i := fr_e (fun _ _ => gp_o (by omega)) _ _
  have e4 : g4 t D g i = g3 t D g i := drs_o (by omega)
  rw [e4, e3, e2, e1]
