/-! Who waits where, as the rules read it. -/
theorem gr_16n {t : Sg} {X : Dy} {r i : Nat} (h : ¬ i = r) : gr t r X 16 i = X 16 i := by
  unfold gr rid ridA ridB
  split
  next =>
    split
    next =>
      rw [lgs_o (by omega) (by omega)]
      repeat rw [up2_n (by omega)]
      exact gw_o (by omega)
    next =>
      cases nrs t (gw t r X) (nN (X 23 r)) (nP t) with
      | none =>
        show up2 _ 22 r _ 16 i = _
        rw [up2_n (by omega)]
        exact gw_o (by omega)
      | some q =>
        show up2 (up2 (up2 _ 22 r _) 23 r _) 12 _ _ 16 i = _
        rw [up2_n (by omega), up2_n (by omega), up2_n (by omega)]
        exact gw_o (by omega)
  next => exact gw_o (by omega)
theorem gr_16s {t : Sg} {X : Dy} {r : Nat} : gr t r X 16 r = nI 1 ↔ X 16 r = nI 1 := by
  unfold gr rid ridA ridB
  split
  next hc =>
    have e1 : ¬ X 16 r = nI 1 := by rw [hc.1]; decide
    split
    next =>
      rw [lgs_o (by omega) (by omega), up2_n (by omega), up2_n (by omega), up2_s]
      exact ⟨fun q => absurd q (by decide), fun q => absurd q e1⟩
    next =>
      cases nrs t (gw t r X) (nN (X 23 r)) (nP t) with
      | none =>
        show up2 _ 22 r _ 16 r = _ ↔ _
        rw [up2_n (by omega), gw_o (by omega)]
      | some q =>
        show up2 (up2 (up2 _ 22 r _) 23 r _) 12 _ _ 16 r = _ ↔ _
        rw [up2_n (by omega), up2_n (by omega), up2_n (by omega), gw_o (by omega)]
  next => rw [gw_o (by omega)]
theorem gr_28 {t : Sg} {X : Dy} {r i : Nat} : gr t r X 28 i = gw t r X 28 i := by
  unfold gr
  split
  next => exact rid_o (by omega)
  next => rfl
theorem frgr_16 {t : Sg} {E : Dy} {r : Nat} : ∀ n, fr (gr t) n E 16 r = nI 1 ↔ E 16 r = nI 1
  | 0 => Iff.rfl
  | n + 1 => by
    rw [fr_S]
    by_cases e : r = n
    · subst e
      exact gr_16s.trans (frgr_16 _)
    · rw [gr_16n e]
      exact frgr_16 n
theorem frgr_28 {t : Sg} {E : Dy} {p : Nat} (hRT : RT t) (hP : nP t ≤ 12) (hp : p < nP t) (h0 : E 28 p = nI 0) : ∀ n, n ≤ nR t → fr (gr t) n E 28 p = nI (ct (fun r => decide (E 16 r = nI 1) && decide (t 77 false 0 r = nI p)) n)
  | 0, _ => h0
  | n + 1, hn => by
    have ih := frgr_28 hRT hP hp h0 n (by omega)
    have i16 := frgr_16 (t := t) (E := E) (r := n) n
    obtain ⟨-, ⟨q, hq, hF⟩, -, -⟩ := hRT n (by omega)
    rw [fr_S, gr_28]
    generalize fr (gr t) n E = X at ih i16 ⊢
    unfold gw
    rw [hF, nN_nI (by omega), ct_S]
    by_cases e : p = q
    · subst e
      rw [up2_s, ih, hF]
      by_cases e2 : E 16 n = nI 1
      · rw [if_pos (i16.mpr e2), nI_add, e2]
        simp
      · rw [if_neg (fun z => e2 (i16.mp z)), nI_add]
        simp [e2]
    · rw [up2_n (by omega), ih]
      have e3 : decide (t 77 false 0 n = nI p) = false := decide_eq_false (fun z => e (nI_inj (hF.symm.trans z) (by omega) (by omega)).symm)
      rw [e3, Bool.and_false]
      rfl
theorem g2_wait {t : Sg} {D : Dy} {p : Nat} (hRT : RT t) (hP : nP t ≤ 12) (hp : p < nP t) : g2 t D 28 p = nI (wtn t (g2 t D) p) := by
  have e28 : g2 t D 28 p = g1 t D 28 p := fr_e (fun _ _ => mnd_o (by omega)) _ _
  have e16 : ∀ r, g2 t D 16 r = g1 t D 16 r := fun r => fr_e (fun _ _ => mnd_o (by omega)) _ _
  have h := frgr_28 (E := gz (nP t) D) hRT hP hp (if_pos ⟨by omega, hp⟩) (nR t) (Nat.le_refl _)
  change g1 t D 28 p = _ at h
  rw [e28, h]
  congr 1
  refine ct_cong (fun r _ => ?_)
  have h2 := frgr_16 (t := t) (E := gz (nP t) D) (r := r) (nR t)
  change g1 t D 16 r = nI 1 ↔ _ at h2
  rw [e16 r]
  congr 1
  exact decide_eq_decide.mpr h2.symm
