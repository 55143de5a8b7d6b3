/-! A minute's loops, on the model's state. -/
def fr (f : Nat → Dy → Dy) : Nat → Dy → Dy
  | 0, D => D
  | n + 1, D => f n (fr f n D)
theorem fr_S (f : Nat → Dy → Dy) (n : Nat) (D : Dy) : fr f (n + 1) D = f n (fr f n D) := rfl
theorem fr_I {P : Dy → Prop} {f : Nat → Dy → Dy} {N : Nat} (h : ∀ n D, n < N → P D → P (f n D)) {D : Dy} (hD : P D) : ∀ n, n ≤ N → P (fr f n D)
  | 0, _ => hD
  | n + 1, hn => h n _ (by omega) (fr_I h hD n (by omega))
theorem fr_e {f : Nat → Dy → Dy} {g i : Nat} (h : ∀ n D, f n D g i = D g i) (D : Dy) : ∀ n, fr f n D g i = D g i
  | 0 => rfl
  | n + 1 => (h n _).trans (fr_e h D n)
def gz (n : Nat) (D : Dy) : Dy := fun g i => if (g = 28 ∨ g = 6) ∧ i < n then nI 0 else D g i
theorem gz_0 (D : Dy) : gz 0 D = D := by
  funext g i
  unfold gz
  rw [if_neg (by omega)]
theorem gz_S (n : Nat) (D : Dy) : gz (n + 1) D = up2 (up2 (gz n D) 28 n (nI 0)) 6 n (nI 0) := by
  funext g i
  show (if (g = 28 ∨ g = 6) ∧ i < n + 1 then nI 0 else D g i) = (if g = 6 ∧ i = n then nI 0 else if g = 28 ∧ i = n then nI 0 else if (g = 28 ∨ g = 6) ∧ i < n then nI 0 else D g i)
  by_cases h1 : g = 6 ∧ i = n
  · rw [if_pos (by omega), if_pos h1]
  · rw [if_neg h1]
    by_cases h2 : g = 28 ∧ i = n
    · rw [if_pos (by omega), if_pos h2]
    · rw [if_neg h2]
      by_cases h3 : (g = 28 ∨ g = 6) ∧ i < n
      · rw [if_pos (by omega), if_pos h3]
      · rw [if_neg (by omega), if_neg h3]
theorem gz_o {n : Nat} {D : Dy} {g i : Nat} (h : ¬ g = 28 ∧ ¬ g = 6) : gz n D g i = D g i := if_neg (by omega)
def gw (t : Sg) (r : Nat) (D : Dy) : Dy := up2 D 28 (nN (t 77 false 0 r)) (D 28 (nN (t 77 false 0 r)) + if D 16 r = nI 1 then nI 1 else nI 0)
def gr (t : Sg) (r : Nat) (D : Dy) : Dy := if D 16 r = nI 2 ∧ D 22 r = D 0 0 then rid t (gw t r D) r (nN (D 17 r)) (nN (D 23 r)) else gw t r D
def gc (t : Sg) (r : Nat) (D : Dy) : Dy := if D 16 r = nI 1 ∨ (D 16 r = nI 0 ∧ t 76 false 0 r = D 0 0) then cms t D r (nN (t 77 false 0 r)) (nN (t 78 false 0 r)) (nN (t 79 false 0 r)) else D
def ge (t : Sg) (p : Nat) (D : Dy) : Dy := up2 (up2 (up2 D 5 p (D 5 p + if gdn t D p = 0 then nI 1 else nI 0)) 9 (24 * p + nN (D 0 0) / 60) (D 9 (24 * p + nN (D 0 0) / 60) + if gdn t D p = 0 then nI 1 else nI 0)) 10 (24 * p + nN (D 0 0) / 60) (if D 10 (24 * p + nN (D 0 0) / 60) < D 6 p then D 6 p else D 10 (24 * p + nN (D 0 0) / 60))
theorem gz_WI {t : Sg} {n : Nat} {D : Dy} (h : WI t D) : WI t (gz n D) := ⟨VI_of h.1 (fun g i q => gz_o (by omega)) (by rw [gz_o (by omega)]; exact h.1.2.1), JI_same h.2 (fun g i q => gz_o (by omega))⟩
theorem gw_WI {t : Sg} {r : Nat} {D : Dy} (h : WI t D) : WI t (gw t r D) := ⟨VI_of h.1 (fun g i q => up2_n (by omega)) (by unfold gw; rw [up2_n (by omega)]; exact h.1.2.1), JI_same h.2 (fun g i q => up2_n (by omega))⟩
theorem gw_o {t : Sg} {r : Nat} {D : Dy} {g i : Nat} (e : ¬ g = 28) : gw t r D g i = D g i := up2_n (by omega)
theorem gr_WI {t : Sg} {r : Nat} {D : Dy} (hT : WN t) (h : WI t D) (hr : r < nR t) : WI t (gr t r D) := by
  have hB := hT.B
  have hP := hT.P
  unfold gr
  split
  next hc =>
    obtain ⟨b, p, hb, hp, a1, a2, a3, a4⟩ := (h.2.2.1 r hr).2 hc.1
    rw [a1, a3, nN_nI (by omega), nN_nI (by omega)]
    exact rid_WI hT (gw_WI h) hr hb hp (by rw [gw_o (by omega)]; exact hc.1) (by rw [gw_o (by omega)]; exact a1)
  next => exact gw_WI h
theorem gr_o {t : Sg} {r : Nat} {D : Dy} {g i : Nat} (e : ¬ g = 22 ∧ ¬ g = 23 ∧ ¬ g = 12 ∧ ¬ g = 27 ∧ ¬ (g = 0 ∧ i = 7) ∧ ¬ g = 11 ∧ ¬ g = 13 ∧ ¬ g = 14 ∧ ¬ g = 16 ∧ ¬ g = 19 ∧ ¬ g = 20 ∧ ¬ g = 28) : gr t r D g i = D g i := by
  unfold gr
  split
  · rw [rid_o (by omega), gw_o (by omega)]
  · exact gw_o (by omega)
theorem gc_WI {t : Sg} {r : Nat} {D : Dy} (hT : WN t) (hR : RT t) (h : WI t D) (hr : r < nR t) : WI t (gc t r D) := by
  have hP := hT.P
  unfold gc
  split
  · obtain ⟨-, -, ⟨q, hq, e⟩, -⟩ := hR r hr
    rw [e, nN_nI (by omega)]
    exact cms_WI hT h hq
  · exact h
theorem gc_o {t : Sg} {r : Nat} {D : Dy} {g i : Nat} (e : ¬ (16 ≤ g ∧ g ≤ 23 ∧ i = r) ∧ ¬ (g = 0 ∧ (i = 1 ∨ i = 7)) ∧ ¬ g = 11 ∧ ¬ g = 12 ∧ ¬ g = 3 ∧ ¬ g = 4 ∧ ¬ g = 6 ∧ ¬ g = 7 ∧ ¬ g = 8 ∧ ¬ g = 27) : gc t r D g i = D g i := by
  unfold gc
  split
  · exact cms_o e
  · rfl
theorem ge_o {t : Sg} {p : Nat} {D : Dy} {g i : Nat} (e : ¬ g = 5 ∧ ¬ g = 9 ∧ ¬ g = 10) : ge t p D g i = D g i := by
  unfold ge
  rw [up2_n (by omega), up2_n (by omega), up2_n (by omega)]
theorem ge_WI {t : Sg} {p : Nat} {D : Dy} (h : WI t D) : WI t (ge t p D) := ⟨VI_of h.1 (fun g i q => ge_o (by omega)) (by rw [ge_o (by omega)]; exact h.1.2.1), JI_same h.2 (fun g i q => ge_o (by omega))⟩
theorem mg_rides {t : Sg} {D0 : Dy} {P : Option AV → Sg → Prop} (hT : WN t) {m : Nat} (hm : m < 1440) (hRT : RT t) (hK : ∀ τ, Ag t (fr (gr t) (nR t) D0) τ → G true 217 P 73 [some (.inr (.inr (69, false, 0))), some (.inl (nI m)), none, none, none] [] τ) : ∀ (j r : Nat), r + j = nR t → ∀ (X : Dy) (τ : Sg), X = fr (gr t) r D0 → Ag t X τ → WI t X → X 0 0 = nI m → G true 217 P 27 [some (.inr (.inr (69, false, 0))), some (.inl (nI m)), some (.inl (nI r)), none, none] [] τ := by
  have hP := hT.P
  have hB := hT.B
  have hR := hT.R
  intro j
  induction j with
  | zero =>
    intro r hj X τ hX hA hW h0
    have eP := hA.P hT
    have eB := hA.B hT
    have eR := hA.R hT
    refine G_wp 300 [27, 73] rfl ?_
    refine br_ge rfl eR (by omega) (by omega) (fun h30 => ?_) (fun h30 => ?_)
    · refine G_fg 2 (G_fg 3 (G_fg 4 (hK _ ?_)))
      rw [hX, show r = nR t by omega] at hA
      exact hA
    · exact absurd h30 (by omega)
  | succ j ih =>
    intro r hj X τ hX hA hW h0
    have eP := hA.P hT
    have eB := hA.B hT
    have eR := hA.R hT
    obtain ⟨p, hp, eT⟩ := (hRT r (by omega)).2.1
    have eF : τ 77 false 0 r = nI p := (hA.2 77 _ _ _ (by decide) rfl).trans eT
    refine G_wp 300 [27, 73] rfl ?_
    refine br_ge rfl eR (by omega) (by omega) (fun h30 => ?_) (fun h30 => ?_)
    · exact absurd h30 (by omega)
    · refine ⟨r, rfl, (by show _ < 200; omega), p, eF, (by show _ < 12; omega), ?_⟩
      rw [hA.r28 p (by omega)]
      refine ⟨1532 + r, (add_n rfl rfl), (by show _ < 23184; omega), ?_⟩
      rw [hA.r16 r (by omega)]
      refine ⟨fun h46 => ?_, fun h46 => ?_⟩
      · refine ⟨p, eF, (by show _ < 12; omega), _, rfl, ?_⟩
        replace hA := hA.w28 p (by omega) (((X 28 p) + (nI (0))))
        refine ⟨1532 + r, (add_n rfl rfl), (by show _ < 23184; omega), ?_⟩
        rw [hA.r16 r (by omega)]
        refine ⟨fun h59 => ?_, fun h59 => ?_⟩
        · refine ⟨nI (r + 1), nI_add _ _, ?_⟩
          have eg : gw t r X = (up2 X 28 p (((X 28 p) + (nI (0))))) := by
            unfold gw
            rw [eT, nN_nI (by omega), if_neg h46]
          have e : gr t r X = (up2 X 28 p (((X 28 p) + (nI (0))))) := by
            unfold gr
            rw [if_neg (fun q => h59 (by rw [up2_n (by omega)]; exact q.1)), eg]
          rw [← e] at hA
          exact ih (r + 1) (by omega) _ _ (by rw [fr_S, ← hX]) hA (gr_WI hT hW (by omega)) (by rw [gr_o (by omega)]; exact h0)
        · refine ⟨2732 + r, (add_n rfl rfl), (by show _ < 23184; omega), ?_⟩
          rw [hA.r22 r (by omega)]
          refine ⟨fun h67 => ?_, fun h67 => ?_⟩
          · refine ⟨nI (r + 1), nI_add _ _, ?_⟩
            have eg : gw t r X = (up2 X 28 p (((X 28 p) + (nI (0))))) := by
              unfold gw
              rw [eT, nN_nI (by omega), if_neg h46]
            have e : gr t r X = (up2 X 28 p (((X 28 p) + (nI (0))))) := by
              unfold gr
              rw [if_neg (fun q => h67 (by rw [up2_n (by omega)]; exact q.2.trans h0)), eg]
            rw [← e] at hA
            exact ih (r + 1) (by omega) _ _ (by rw [fr_S, ← hX]) hA (gr_WI hT hW (by omega)) (by rw [gr_o (by omega)]; exact h0)
          · have h59x : X 16 r = nI 2 := by
              rw [up2_n (by omega)] at h59
              exact h59
            obtain ⟨b, q, hb, hq, a1, a2, a3, a4⟩ := (hW.2.2.1 r (by omega)).2 h59x
            obtain ⟨τ1, ev1, hA⟩ := mv_rides hA hT (r := r) (p := q) (b := b) (by omega) hq hb (x := nI r) rfl (by rw [up2_n (by omega)]; exact hW.1.2.1) (by rw [up2_n (by omega)]; exact a3) (by rw [up2_n (by omega)]; exact a1)
            refine ⟨_, _, ev1, nI (r + 1), nI_add _ _, ?_⟩
            have eg : gw t r X = (up2 X 28 p (((X 28 p) + (nI (0))))) := by
              unfold gw
              rw [eT, nN_nI (by omega), if_neg h46]
            have e : gr t r X = (rid t (up2 X 28 p (((X 28 p) + (nI (0))))) r b q) := by
              unfold gr
              rw [if_pos ⟨h59x, by rw [up2_n (by omega)] at h67; exact h67.trans h0.symm⟩, eg, a1, a3, nN_nI (by omega), nN_nI (by omega)]
            rw [← e] at hA
            exact ih (r + 1) (by omega) _ _ (by rw [fr_S, ← hX]) hA (gr_WI hT hW (by omega)) (by rw [gr_o (by omega)]; exact h0)
      · refine ⟨p, eF, (by show _ < 12; omega), _, rfl, ?_⟩
        replace hA := hA.w28 p (by omega) (((X 28 p) + (nI (1))))
        refine ⟨1532 + r, (add_n rfl rfl), (by show _ < 23184; omega), ?_⟩
        rw [hA.r16 r (by omega)]
        refine ⟨fun h59 => ?_, fun h59 => ?_⟩
        · refine ⟨nI (r + 1), nI_add _ _, ?_⟩
          have eg : gw t r X = (up2 X 28 p (((X 28 p) + (nI (1))))) := by
            unfold gw
            rw [eT, nN_nI (by omega), if_pos h46]
          have e : gr t r X = (up2 X 28 p (((X 28 p) + (nI (1))))) := by
            unfold gr
            rw [if_neg (fun q => h59 (by rw [up2_n (by omega)]; exact q.1)), eg]
          rw [← e] at hA
          exact ih (r + 1) (by omega) _ _ (by rw [fr_S, ← hX]) hA (gr_WI hT hW (by omega)) (by rw [gr_o (by omega)]; exact h0)
        · refine ⟨2732 + r, (add_n rfl rfl), (by show _ < 23184; omega), ?_⟩
          rw [hA.r22 r (by omega)]
          refine ⟨fun h67 => ?_, fun h67 => ?_⟩
          · refine ⟨nI (r + 1), nI_add _ _, ?_⟩
            have eg : gw t r X = (up2 X 28 p (((X 28 p) + (nI (1))))) := by
              unfold gw
              rw [eT, nN_nI (by omega), if_pos h46]
            have e : gr t r X = (up2 X 28 p (((X 28 p) + (nI (1))))) := by
              unfold gr
              rw [if_neg (fun q => h67 (by rw [up2_n (by omega)]; exact q.2.trans h0)), eg]
            rw [← e] at hA
            exact ih (r + 1) (by omega) _ _ (by rw [fr_S, ← hX]) hA (gr_WI hT hW (by omega)) (by rw [gr_o (by omega)]; exact h0)
          · have h59x : X 16 r = nI 2 := by
              rw [up2_n (by omega)] at h59
              exact h59
            obtain ⟨b, q, hb, hq, a1, a2, a3, a4⟩ := (hW.2.2.1 r (by omega)).2 h59x
            obtain ⟨τ1, ev1, hA⟩ := mv_rides hA hT (r := r) (p := q) (b := b) (by omega) hq hb (x := nI r) rfl (by rw [up2_n (by omega)]; exact hW.1.2.1) (by rw [up2_n (by omega)]; exact a3) (by rw [up2_n (by omega)]; exact a1)
            refine ⟨_, _, ev1, nI (r + 1), nI_add _ _, ?_⟩
            have eg : gw t r X = (up2 X 28 p (((X 28 p) + (nI (1))))) := by
              unfold gw
              rw [eT, nN_nI (by omega), if_pos h46]
            have e : gr t r X = (rid t (up2 X 28 p (((X 28 p) + (nI (1))))) r b q) := by
              unfold gr
              rw [if_pos ⟨h59x, by rw [up2_n (by omega)] at h67; exact h67.trans h0.symm⟩, eg, a1, a3, nN_nI (by omega), nN_nI (by omega)]
            rw [← e] at hA
            exact ih (r + 1) (by omega) _ _ (by rw [fr_S, ← hX]) hA (gr_WI hT hW (by omega)) (by rw [gr_o (by omega)]; exact h0)
theorem mg_mend {t : Sg} {D0 : Dy} {P : Option AV → Sg → Prop} (hT : WN t) {m : Nat} (hm : m < 1440)  (hK : ∀ τ, Ag t (fr (mnd t) (nB t) D0) τ → G true 217 P 138 [some (.inr (.inr (69, false, 0))), some (.inl (nI m)), none, none, none] [] τ) : ∀ (j b : Nat), b + j = nB t → ∀ (X : Dy) (τ : Sg), X = fr (mnd t) b D0 → Ag t X τ → WI t X → X 0 0 = nI m → G true 217 P 75 [some (.inr (.inr (69, false, 0))), some (.inl (nI m)), some (.inl (nI b)), none, none] [] τ := by
  have hP := hT.P
  have hB := hT.B
  have hR := hT.R
  intro j
  induction j with
  | zero =>
    intro b hj X τ hX hA hW h0
    have eP := hA.P hT
    have eB := hA.B hT
    have eR := hA.R hT
    refine G_wp 300 [75, 138] rfl ?_
    refine br_ge rfl eB (by omega) (by omega) (fun h78 => ?_) (fun h78 => ?_)
    · refine G_fg 2 (G_fg 3 (G_fg 4 (hK _ ?_)))
      rw [hX, show b = nB t by omega] at hA
      exact hA
    · exact absurd h78 (by omega)
  | succ j ih =>
    intro b hj X τ hX hA hW h0
    have eP := hA.P hT
    have eB := hA.B hT
    have eR := hA.R hT
    obtain ⟨p, hp, hp0⟩ := (hW.2.1 b (by omega)).2
    refine G_wp 300 [75, 138] rfl ?_
    refine br_ge rfl eB (by omega) (by omega) (fun h78 => ?_) (fun h78 => ?_)
    · exact absurd h78 (by omega)
    · refine ⟨1232 + b, (add_n rfl rfl), (by show _ < 23184; omega), ?_⟩
      rw [hA.r11 b (by omega)]
      refine ⟨fun h86 => ?_, fun h86 => ?_⟩
      · refine ⟨nI (b + 1), nI_add _ _, ?_⟩
        have e : mnd t b X = X := by
          unfold mnd
          rw [if_neg (fun q => h86 q.1)]
        rw [← e] at hA
        exact ih (b + 1) (by omega) _ _ (by rw [fr_S, ← hX]) hA (mnd_WI hT hW (by omega)) (by rw [mnd_o (by omega)]; exact h0)
      · refine ⟨1472 + b, (add_n rfl rfl), (by show _ < 23184; omega), ?_⟩
        rw [hA.r15 b (by omega)]
        refine ⟨fun h94 => ?_, fun h94 => ?_⟩
        · refine ⟨nI (b + 1), nI_add _ _, ?_⟩
          have e : mnd t b X = X := by
            unfold mnd
            rw [if_neg (fun q => absurd (h0 ▸ q.2.1) (Int32.not_le.mpr h94))]
          rw [← e] at hA
          exact ih (b + 1) (by omega) _ _ (by rw [fr_S, ← hX]) hA (mnd_WI hT hW (by omega)) (by rw [mnd_o (by omega)]; exact h0)
        · refine ⟨1292 + b, (add_n rfl rfl), (by show _ < 23184; omega), ?_⟩
          rw [hA.r12 b (by omega)]
          refine ⟨_, _, mv_free hA hT hp0 hp, ?_⟩
          refine ⟨fun h103 => ?_, fun h103 => ?_⟩
          · refine ⟨nI (b + 1), nI_add _ _, ?_⟩
            have e : mnd t b X = X := by
              unfold mnd
              rw [if_neg (fun q => absurd (by have := q.2.2; rwa [hp0, nN_nI (by omega)] at this) (Int32.not_lt.mpr h103))]
            rw [← e] at hA
            exact ih (b + 1) (by omega) _ _ (by rw [fr_S, ← hX]) hA (mnd_WI hT hW (by omega)) (by rw [mnd_o (by omega)]; exact h0)
          · refine ⟨1232 + b, (add_n rfl rfl), (by show _ < 23184; omega), _, rfl, ?_⟩
            replace hA := hA.w11 b (by omega) (nI (0))
            refine ⟨1352 + b, (add_n rfl rfl), (by show _ < 23184; omega), _, rfl, ?_⟩
            replace hA := hA.w13 b (by omega) (nI (0))
            refine ⟨1412 + b, (add_n rfl rfl), (by show _ < 23184; omega), _, rfl, ?_⟩
            replace hA := hA.w14 b (by omega) (nI (0))
            refine ⟨1292 + b, (add_n rfl rfl), (by show _ < 23184; omega), ?_⟩
            rw [hA.r12 b (by omega)]
            obtain ⟨τ1, ev1, hA⟩ := mv_logs hA (by rw [up2_n (by omega), up2_n (by omega), up2_n (by omega)]; exact hW.1.2.1) (v1 := (nI (8))) (v2 := ((up2 (up2 (up2 X 11 b (nI (0))) 13 b (nI (0))) 14 b (nI (0))) 12 b)) (v3 := (-1)) (v4 := (nI (b)))
            refine ⟨_, _, ev1, nI (b + 1), nI_add _ _, ?_⟩
            have e : mnd t b X = (lgs (up2 (up2 (up2 X 11 b (nI (0))) 13 b (nI (0))) 14 b (nI (0))) (nI (8)) (((up2 (up2 (up2 X 11 b (nI (0))) 13 b (nI (0))) 14 b (nI (0))) 12 b)) (-1) (nI (b))) := by
              unfold mnd
              rw [if_pos ⟨h86, by rw [h0]; exact Int32.not_lt.mp h94, by rw [hp0, nN_nI (by omega)]; exact i_nle h103⟩]
              rw [up2_n (f := 14) (g := 12) (by omega), up2_n (f := 13) (g := 12) (by omega), up2_n (f := 11) (g := 12) (by omega)]
            rw [← e] at hA
            exact ih (b + 1) (by omega) _ _ (by rw [fr_S, ← hX]) hA (mnd_WI hT hW (by omega)) (by rw [mnd_o (by omega)]; exact h0)
theorem mg_comes {t : Sg} {D0 : Dy} {P : Option AV → Sg → Prop} (hT : WN t) {m : Nat} (hm : m < 1440) (hRT : RT t) (hK : ∀ τ, Ag t (fr (gc t) (nR t) D0) τ → G true 217 P 202 [some (.inr (.inr (69, false, 0))), some (.inl (nI m)), none, none, none] [] τ) : ∀ (j r : Nat), r + j = nR t → ∀ (X : Dy) (τ : Sg), X = fr (gc t) r D0 → Ag t X τ → WI t X → X 0 0 = nI m → G true 217 P 172 [some (.inr (.inr (69, false, 0))), some (.inl (nI m)), some (.inl (nI r)), none, none] [] τ := by
  have hP := hT.P
  have hB := hT.B
  have hR := hT.R
  intro j
  induction j with
  | zero =>
    intro r hj X τ hX hA hW h0
    have eP := hA.P hT
    have eB := hA.B hT
    have eR := hA.R hT
    refine G_wp 300 [172, 202] rfl ?_
    refine br_ge rfl eR (by omega) (by omega) (fun h175 => ?_) (fun h175 => ?_)
    · refine G_fg 2 (G_fg 3 (G_fg 4 (hK _ ?_)))
      rw [hX, show r = nR t by omega] at hA
      exact hA
    · exact absurd h175 (by omega)
  | succ j ih =>
    intro r hj X τ hX hA hW h0
    have eP := hA.P hT
    have eB := hA.B hT
    have eR := hA.R hT
    obtain ⟨⟨eM1, hn⟩, ⟨p, hp, eP1⟩, ⟨q, hq, eQ1⟩, k, hk, eK1⟩ := hRT r (by omega)
    have eM : τ 76 false 0 r = nI (nN (t 76 false 0 r)) := (hA.2 76 _ _ _ (by decide) rfl).trans eM1
    refine G_wp 300 [172, 202] rfl ?_
    refine br_ge rfl eR (by omega) (by omega) (fun h175 => ?_) (fun h175 => ?_)
    · exact absurd h175 (by omega)
    · refine ⟨1532 + r, (add_n rfl rfl), (by show _ < 23184; omega), ?_⟩
      rw [hA.r16 r (by omega)]
      refine ⟨fun h183 => ?_, fun h183 => ?_⟩
      · obtain ⟨τ1, ev1, hA⟩ := mv_comes hA hT (x := nI r) rfl (by omega) hp eP1 eQ1 hq eK1 hk hW.1.2.1 (by rw [h0, nN_nI (by omega)]) (by rw [h0, nN_nI (by omega)]; exact hm)
        refine ⟨_, _, ev1, nI (r + 1), nI_add _ _, ?_⟩
        have e : gc t r X = (cms t X r p q k) := by
          unfold gc
          rw [if_pos (Or.inl h183), eP1, eQ1, eK1, nN_nI (by omega), nN_nI (by omega), nN_nI (by omega)]
        rw [← e] at hA
        exact ih (r + 1) (by omega) _ _ (by rw [fr_S, ← hX]) hA (gc_WI hT hRT hW (by omega)) (by rw [gc_o (by omega)]; exact h0)
      · refine ⟨1532 + r, (add_n rfl rfl), (by show _ < 23184; omega), ?_⟩
        rw [hA.r16 r (by omega)]
        refine ⟨fun h190 => ?_, fun h190 => ?_⟩
        · refine ⟨nI (r + 1), nI_add _ _, ?_⟩
          have e : gc t r X = X := by
            unfold gc
            rw [if_neg (fun q => q.elim h183 (fun q => h190 q.1))]
          rw [← e] at hA
          exact ih (r + 1) (by omega) _ _ (by rw [fr_S, ← hX]) hA (gc_WI hT hRT hW (by omega)) (by rw [gc_o (by omega)]; exact h0)
        · refine ⟨r, rfl, (by show _ < 200; omega), ?_⟩
          refine br_ne eM rfl (by omega) (by omega) (fun h196 => ?_) (fun h196 => ?_)
          · refine ⟨nI (r + 1), nI_add _ _, ?_⟩
            have e : gc t r X = X := by
              unfold gc
              rw [if_neg (fun q => q.elim h183 (fun q => h196 (nI_inj (eM1.symm.trans (q.2.trans h0)) (by omega) (by omega))))]
            rw [← e] at hA
            exact ih (r + 1) (by omega) _ _ (by rw [fr_S, ← hX]) hA (gc_WI hT hRT hW (by omega)) (by rw [gc_o (by omega)]; exact h0)
          · obtain ⟨τ1, ev1, hA⟩ := mv_comes hA hT (x := nI r) rfl (by omega) hp eP1 eQ1 hq eK1 hk hW.1.2.1 (by rw [h0, nN_nI (by omega)]) (by rw [h0, nN_nI (by omega)]; exact hm)
            refine ⟨_, _, ev1, nI (r + 1), nI_add _ _, ?_⟩
            have e : gc t r X = (cms t X r p q k) := by
              unfold gc
              rw [if_pos (Or.inr ⟨h190, by rw [eM1, h0, h196]⟩), eP1, eQ1, eK1, nN_nI (by omega), nN_nI (by omega), nN_nI (by omega)]
            rw [← e] at hA
            exact ih (r + 1) (by omega) _ _ (by rw [fr_S, ← hX]) hA (gc_WI hT hRT hW (by omega)) (by rw [gc_o (by omega)]; exact h0)
theorem mg_empty {t : Sg} {D0 : Dy} {P : Option AV → Sg → Prop} (hT : WN t) {m : Nat} (hm : m < 1440)  (hK : ∀ τ, Ag t (fr (ge t) (nP t) D0) τ → G true 217 P 278 [some (.inr (.inr (69, false, 0))), some (.inl (nI m)), none, none, none] [] τ) : ∀ (j p : Nat), p + j = nP t → ∀ (X : Dy) (τ : Sg), X = fr (ge t) p D0 → Ag t X τ → WI t X → X 0 0 = nI m → G true 217 P 204 [some (.inr (.inr (69, false, 0))), some (.inl (nI m)), some (.inl (nI p)), none, none] [] τ := by
  have hP := hT.P
  have hB := hT.B
  have hR := hT.R
  intro j
  induction j with
  | zero =>
    intro p hj X τ hX hA hW h0
    have eP := hA.P hT
    have eB := hA.B hT
    have eR := hA.R hT
    refine G_wp 300 [204, 278] rfl ?_
    refine br_ge rfl eP (by omega) (by omega) (fun h207 => ?_) (fun h207 => ?_)
    · refine G_fg 2 (G_fg 3 (G_fg 4 (hK _ ?_)))
      rw [hX, show p = nP t by omega] at hA
      exact hA
    · exact absurd h207 (by omega)
  | succ j ih =>
    intro p hj X τ hX hA hW h0
    have eP := hA.P hT
    have eB := hA.B hT
    have eR := hA.R hT
    have hg : gdn t X p ≤ nB t := ct_le _ _
    refine G_wp 300 [204, 278] rfl ?_
    refine br_ge rfl eP (by omega) (by omega) (fun h207 => ?_) (fun h207 => ?_)
    · exact absurd h207 (by omega)
    · refine ⟨(by decide), nI ((24 * p) + (m / 60)), (add_n (mul_n rfl rfl) (div_n rfl rfl ⟨by omega, by omega, by omega⟩)), _, _, mv_good hA hT rfl, ?_⟩
      refine br_ne rfl rfl (by omega) (by omega) (fun h219 => ?_) (fun h219 => ?_)
      · refine ⟨_, rfl, 56 + p, (add_n rfl rfl), (by show _ < 23184; omega), ?_⟩
        rw [hA.r5 p (by omega)]
        refine ⟨56 + p, (add_n rfl rfl), (by show _ < 23184; omega), _, rfl, ?_⟩
        replace hA := hA.w5 p (by omega) (((X 5 p) + (nI (0))))
        refine ⟨656 + ((24 * p) + (m / 60)), (add_n rfl rfl), (by show _ < 23184; omega), ?_⟩
        rw [hA.r9 ((24 * p) + (m / 60)) (by omega)]
        refine ⟨656 + ((24 * p) + (m / 60)), (add_n rfl rfl), (by show _ < 23184; omega), _, rfl, ?_⟩
        replace hA := hA.w9 ((24 * p) + (m / 60)) (by omega) ((((up2 X 5 p (((X 5 p) + (nI (0))))) 9 ((24 * p) + (m / 60))) + (nI (0))))
        refine ⟨68 + p, (add_n rfl rfl), (by show _ < 23184; omega), ?_⟩
        rw [hA.r6 p (by omega)]
        refine ⟨944 + ((24 * p) + (m / 60)), (add_n rfl rfl), (by show _ < 23184; omega), ?_⟩
        rw [hA.r10 ((24 * p) + (m / 60)) (by omega)]
        refine ⟨fun h261 => ?_, fun h261 => ?_⟩
        · refine ⟨944 + ((24 * p) + (m / 60)), (add_n rfl rfl), (by show _ < 23184; omega), ?_⟩
          rw [hA.r10 ((24 * p) + (m / 60)) (by omega)]
          refine ⟨944 + ((24 * p) + (m / 60)), (add_n rfl rfl), (by show _ < 23184; omega), _, rfl, ?_⟩
          replace hA := hA.w10 ((24 * p) + (m / 60)) (by omega) (((up2 (up2 X 5 p (((X 5 p) + (nI (0))))) 9 ((24 * p) + (m / 60)) ((((up2 X 5 p (((X 5 p) + (nI (0))))) 9 ((24 * p) + (m / 60))) + (nI (0))))) 10 ((24 * p) + (m / 60))))
          refine ⟨nI (p + 1), nI_add _ _, ?_⟩
          have e : ge t p X = (up2 (up2 (up2 X 5 p (((X 5 p) + (nI (0))))) 9 ((24 * p) + (m / 60)) ((((up2 X 5 p (((X 5 p) + (nI (0))))) 9 ((24 * p) + (m / 60))) + (nI (0))))) 10 ((24 * p) + (m / 60)) (((up2 (up2 X 5 p (((X 5 p) + (nI (0))))) 9 ((24 * p) + (m / 60)) ((((up2 X 5 p (((X 5 p) + (nI (0))))) 9 ((24 * p) + (m / 60))) + (nI (0))))) 10 ((24 * p) + (m / 60))))) := by
            unfold ge
            rw [h0, nN_nI (by omega), if_neg (by omega)]
            rw [if_neg (by simpa [up2] using Int32.not_lt.mpr h261)]
            simp [up2]
          rw [← e] at hA
          exact G_fg 3 (G_fg 4 (ih (p + 1) (by omega) _ _ (by rw [fr_S, ← hX]) hA (ge_WI hW) (by rw [ge_o (by omega)]; exact h0)))
        · refine ⟨68 + p, (add_n rfl rfl), (by show _ < 23184; omega), ?_⟩
          rw [hA.r6 p (by omega)]
          refine ⟨944 + ((24 * p) + (m / 60)), (add_n rfl rfl), (by show _ < 23184; omega), _, rfl, ?_⟩
          replace hA := hA.w10 ((24 * p) + (m / 60)) (by omega) (((up2 (up2 X 5 p (((X 5 p) + (nI (0))))) 9 ((24 * p) + (m / 60)) ((((up2 X 5 p (((X 5 p) + (nI (0))))) 9 ((24 * p) + (m / 60))) + (nI (0))))) 6 p))
          refine ⟨nI (p + 1), nI_add _ _, ?_⟩
          have e : ge t p X = (up2 (up2 (up2 X 5 p (((X 5 p) + (nI (0))))) 9 ((24 * p) + (m / 60)) ((((up2 X 5 p (((X 5 p) + (nI (0))))) 9 ((24 * p) + (m / 60))) + (nI (0))))) 10 ((24 * p) + (m / 60)) (((up2 (up2 X 5 p (((X 5 p) + (nI (0))))) 9 ((24 * p) + (m / 60)) ((((up2 X 5 p (((X 5 p) + (nI (0))))) 9 ((24 * p) + (m / 60))) + (nI (0))))) 6 p))) := by
            unfold ge
            rw [h0, nN_nI (by omega), if_neg (by omega)]
            rw [if_pos (by simpa [up2] using i_nle h261)]
            simp [up2]
          rw [← e] at hA
          exact G_fg 3 (G_fg 4 (ih (p + 1) (by omega) _ _ (by rw [fr_S, ← hX]) hA (ge_WI hW) (by rw [ge_o (by omega)]; exact h0)))
      · refine ⟨_, rfl, 56 + p, (add_n rfl rfl), (by show _ < 23184; omega), ?_⟩
        rw [hA.r5 p (by omega)]
        refine ⟨56 + p, (add_n rfl rfl), (by show _ < 23184; omega), _, rfl, ?_⟩
        replace hA := hA.w5 p (by omega) (((X 5 p) + (nI (1))))
        refine ⟨656 + ((24 * p) + (m / 60)), (add_n rfl rfl), (by show _ < 23184; omega), ?_⟩
        rw [hA.r9 ((24 * p) + (m / 60)) (by omega)]
        refine ⟨656 + ((24 * p) + (m / 60)), (add_n rfl rfl), (by show _ < 23184; omega), _, rfl, ?_⟩
        replace hA := hA.w9 ((24 * p) + (m / 60)) (by omega) ((((up2 X 5 p (((X 5 p) + (nI (1))))) 9 ((24 * p) + (m / 60))) + (nI (1))))
        refine ⟨68 + p, (add_n rfl rfl), (by show _ < 23184; omega), ?_⟩
        rw [hA.r6 p (by omega)]
        refine ⟨944 + ((24 * p) + (m / 60)), (add_n rfl rfl), (by show _ < 23184; omega), ?_⟩
        rw [hA.r10 ((24 * p) + (m / 60)) (by omega)]
        refine ⟨fun h261 => ?_, fun h261 => ?_⟩
        · refine ⟨944 + ((24 * p) + (m / 60)), (add_n rfl rfl), (by show _ < 23184; omega), ?_⟩
          rw [hA.r10 ((24 * p) + (m / 60)) (by omega)]
          refine ⟨944 + ((24 * p) + (m / 60)), (add_n rfl rfl), (by show _ < 23184; omega), _, rfl, ?_⟩
          replace hA := hA.w10 ((24 * p) + (m / 60)) (by omega) (((up2 (up2 X 5 p (((X 5 p) + (nI (1))))) 9 ((24 * p) + (m / 60)) ((((up2 X 5 p (((X 5 p) + (nI (1))))) 9 ((24 * p) + (m / 60))) + (nI (1))))) 10 ((24 * p) + (m / 60))))
          refine ⟨nI (p + 1), nI_add _ _, ?_⟩
          have e : ge t p X = (up2 (up2 (up2 X 5 p (((X 5 p) + (nI (1))))) 9 ((24 * p) + (m / 60)) ((((up2 X 5 p (((X 5 p) + (nI (1))))) 9 ((24 * p) + (m / 60))) + (nI (1))))) 10 ((24 * p) + (m / 60)) (((up2 (up2 X 5 p (((X 5 p) + (nI (1))))) 9 ((24 * p) + (m / 60)) ((((up2 X 5 p (((X 5 p) + (nI (1))))) 9 ((24 * p) + (m / 60))) + (nI (1))))) 10 ((24 * p) + (m / 60))))) := by
            unfold ge
            rw [h0, nN_nI (by omega), if_pos (by omega)]
            rw [if_neg (by simpa [up2] using Int32.not_lt.mpr h261)]
            simp [up2]
          rw [← e] at hA
          exact G_fg 3 (G_fg 4 (ih (p + 1) (by omega) _ _ (by rw [fr_S, ← hX]) hA (ge_WI hW) (by rw [ge_o (by omega)]; exact h0)))
        · refine ⟨68 + p, (add_n rfl rfl), (by show _ < 23184; omega), ?_⟩
          rw [hA.r6 p (by omega)]
          refine ⟨944 + ((24 * p) + (m / 60)), (add_n rfl rfl), (by show _ < 23184; omega), _, rfl, ?_⟩
          replace hA := hA.w10 ((24 * p) + (m / 60)) (by omega) (((up2 (up2 X 5 p (((X 5 p) + (nI (1))))) 9 ((24 * p) + (m / 60)) ((((up2 X 5 p (((X 5 p) + (nI (1))))) 9 ((24 * p) + (m / 60))) + (nI (1))))) 6 p))
          refine ⟨nI (p + 1), nI_add _ _, ?_⟩
          have e : ge t p X = (up2 (up2 (up2 X 5 p (((X 5 p) + (nI (1))))) 9 ((24 * p) + (m / 60)) ((((up2 X 5 p (((X 5 p) + (nI (1))))) 9 ((24 * p) + (m / 60))) + (nI (1))))) 10 ((24 * p) + (m / 60)) (((up2 (up2 X 5 p (((X 5 p) + (nI (1))))) 9 ((24 * p) + (m / 60)) ((((up2 X 5 p (((X 5 p) + (nI (1))))) 9 ((24 * p) + (m / 60))) + (nI (1))))) 6 p))) := by
            unfold ge
            rw [h0, nN_nI (by omega), if_pos (by omega)]
            rw [if_pos (by simpa [up2] using i_nle h261)]
            simp [up2]
          rw [← e] at hA
          exact G_fg 3 (G_fg 4 (ih (p + 1) (by omega) _ _ (by rw [fr_S, ← hX]) hA (ge_WI hW) (by rw [ge_o (by omega)]; exact h0)))
