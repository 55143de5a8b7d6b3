/-! The rules of a minute, on the model's state. -/
def RU (t : Sg) : Prop := ∀ k, k < nRu t → okT (sy t k) (nN (t 84 false 0 k))
abbrev tstK (t : Sg) (D : Dy) (k p : Nat) : Bool × Nat := tst (sy t k) (envV t D p) 41 0 (none, none, 0) [] none
def gk (t : Sg) (p k : Nat) (D : Dy) : Dy := if t 86 false 0 k = nI 0 ∧ (tstK t D k p).1 = true then act t D (sy t k) (envV t D p) p ((tstK t D k p).2 + 1) else D
def gp (t : Sg) (p : Nat) (D : Dy) : Dy := fr (gk t p) (nRu t) D
theorem opn_WI {t : Sg} {D : Dy} {p v : Nat} (hT : WN t) (h : WI t D) (hp : p < nP t) (hv : v ≤ 1) : WI t (opn D p (nI v)) := by
  unfold opn
  split
  · exact h
  next hc => exact dos_WI hT h (show hOk t 1 p (nI v) from ⟨hp, by rcases (show v = 0 ∨ v = 1 by omega) with rfl | rfl <;> simp⟩) (fun e => absurd e (by decide)) hc
theorem ffx_WI {t : Sg} {D : Dy} {p : Nat} (hT : WN t) (h : WI t D) : WI t (ffx t D p) := by
  unfold ffx
  split
  next hc =>
    have h1 := (ff_le D p (nB t) 0).2.2 (by omega)
    exact fix_WI hT h hc (by simp [isA] at h1; exact h1.1.1)
  · exact h
theorem act_WI {t : Sg} {D : Dy} {f : Nat → Nat} {ev : Nat → Int32} {p i : Nat} (hT : WN t) (h : WI t D) (hp : p < nP t) : WI t (act t D f ev p i) := by
  unfold act
  split
  · exact ⟨VI_of h.1 (fun g i q => up2_n (by omega)) (by rw [up2_n (by omega)]; exact h.1.2.1), JI_same h.2 (fun g i q => up2_n (by omega))⟩
  · split
    · exact opn_WI hT h hp (by omega)
    · split
      · exact opn_WI hT h hp (by omega)
      · exact ffx_WI hT h
theorem opn_o {D : Dy} {p g i : Nat} {v : Int32} (e : ¬ g = 2 ∧ ¬ g = 27 ∧ ¬ (g = 0 ∧ i = 7)) : opn D p v g i = D g i := by
  unfold opn
  split
  · rfl
  · show lgs (up2 D 2 p v) (if v = nI 1 then nI 12 else nI 11) (nI p) (-1) (-1) g i = D g i
    rw [lgs_o (by omega) (by omega), up2_n (by omega)]
theorem ffx_o {t : Sg} {D : Dy} {p g i : Nat} (e : ¬ g = 11 ∧ ¬ g = 15 ∧ ¬ g = 27 ∧ ¬ (g = 0 ∧ i = 7)) : ffx t D p g i = D g i := by
  unfold ffx
  split
  · exact fix_o e
  · rfl
theorem act_o {t : Sg} {D : Dy} {f : Nat → Nat} {ev : Nat → Int32} {p i g j : Nat} (e : ¬ g = 1 ∧ ¬ g = 2 ∧ ¬ g = 11 ∧ ¬ g = 15 ∧ ¬ g = 27 ∧ ¬ (g = 0 ∧ j = 7)) : act t D f ev p i g j = D g j := by
  unfold act
  split
  · exact up2_n (by omega)
  · split
    · exact opn_o (by omega)
    · split
      · exact opn_o (by omega)
      · exact ffx_o (by omega)
theorem gk_WI {t : Sg} {D : Dy} {p k : Nat} (hT : WN t) (h : WI t D) (hp : p < nP t) : WI t (gk t p k D) := by
  unfold gk
  split
  · exact act_WI hT h hp
  · exact h
theorem gk_o {t : Sg} {D : Dy} {p k g j : Nat} (e : ¬ g = 1 ∧ ¬ g = 2 ∧ ¬ g = 11 ∧ ¬ g = 15 ∧ ¬ g = 27 ∧ ¬ (g = 0 ∧ j = 7)) : gk t p k D g j = D g j := by
  unfold gk
  split
  · exact act_o e
  · rfl
theorem gp_WI {t : Sg} {D : Dy} {p : Nat} (hT : WN t) (h : WI t D) (hp : p < nP t) : WI t (gp t p D) := fr_I (N := nRu t) (fun _ _ _ h => gk_WI hT h hp) h _ (Nat.le_refl _)
theorem gp_o {t : Sg} {D : Dy} {p g j : Nat} (e : ¬ g = 1 ∧ ¬ g = 2 ∧ ¬ g = 11 ∧ ¬ g = 15 ∧ ¬ g = 27 ∧ ¬ (g = 0 ∧ j = 7)) : gp t p D g j = D g j := fr_e (fun _ _ => gk_o e) _ _
/-- where the test ends -/
theorem tstK_au {t : Sg} {D : Dy} {k p n : Nat} (hok : okT (sy t k) n) : au (sy t k) ((tstK t D k p).2 + 1) = some (8, 0, 0) ∧ (tstK t D k p).2 + 1 < n := by
  obtain ⟨h1, h2⟩ := tst_au (ev := envV t D p) hok 41 0 none none 0 [] none 0 0 (by omega) (by omega) rfl (fun _ => rfl) (fun b e => by cases e)
  have h3 : (tstK t D k p).2 < n := h2
  exact ⟨h1, okT_lt hok (by omega) h1 (by omega) (by omega)⟩
theorem mg_rule_k {t : Sg} {D0 : Dy} {P : Option AV → Sg → Prop} (hT : WN t) (hX1 : XT t) (hRU : RU t) {m p : Nat} (hp : p < nP t) (hK : ∀ τ, Ag t (gp t p D0) τ → G true 217 P 166 [some (.inr (.inr (69, false, 0))), some (.inl (nI m)), some (.inl (nI p)), none, none] [] τ) : ∀ (j k : Nat), k + j = nRu t → ∀ (X : Dy) (τ : Sg), X = fr (gk t p) k D0 → Ag t X τ → WI t X → G true 217 P 146 [some (.inr (.inr (69, false, 0))), some (.inl (nI m)), some (.inl (nI p)), some (.inl (nI k)), none] [] τ := by
  have hP := hT.P
  have hN : nRu t ≤ 10 := hX1.1.2
  intro j
  induction j with
  | zero =>
    intro k hj X τ hX hA hW
    have eRu : τ 69 false 0 22 = nI (nRu t) := (hA.2 69 _ _ _ (by decide) rfl).trans hX1.1.1
    refine G_wp 300 [146, 166] rfl ?_
    refine br_ge rfl eRu (by omega) (by omega) (fun h149 => ?_) (fun h149 => ?_)
    · rw [hX, show k = nRu t by omega] at hA
      exact G_fg 3 (hK _ hA)
    · exact absurd h149 (by omega)
  | succ j ih =>
    intro k hj X τ hX hA hW
    have eRu : τ 69 false 0 22 = nI (nRu t) := (hA.2 69 _ _ _ (by decide) rfl).trans hX1.1.1
    refine G_wp 300 [146, 166] rfl ?_
    refine br_ge rfl eRu (by omega) (by omega) (fun h149 => ?_) (fun h149 => ?_)
    · exact absurd h149 (by omega)
    · refine ⟨k, rfl, (by show _ < 10; omega), ?_⟩
      rw [hA.2 86 _ _ _ (by decide) rfl]
      refine ⟨fun h154 => ?_, fun h154 => ?_⟩
      · refine ⟨nI (k + 1), nI_add _ _, ?_⟩
        have e : gk t p k X = X := by
          unfold gk
          rw [if_neg (fun q => h154 q.1)]
        rw [← e] at hA
        exact ih (k + 1) (by omega) _ _ (by rw [fr_S, ← hX]) hA (gk_WI hT hW hp)
      · obtain ⟨τ1, ev1, hS⟩ := mv_isSo hA hT hX1 (show k < 10 by omega) hp (hRU k (by omega))
        replace hA := hS.1
        refine ⟨_, _, ev1, ?_⟩
        refine brb_eq (fun h159 => ?_) (fun h159 => ?_)
        · refine ⟨nI (k + 1), nI_add _ _, ?_⟩
          have e : gk t p k X = X := by
            unfold gk
            rw [if_neg (fun q => h159 q.2)]
          rw [← e] at hA
          exact ih (k + 1) (by omega) _ _ (by rw [fr_S, ← hX]) hA (gk_WI hT hW hp)
        · obtain ⟨τ2, ev2, hA⟩ := mv_acts hA hT hX1 (show k < 10 by omega) hp (hRU k (by omega)) (tstK_au (hRU k (by omega))).2 (tstK_au (hRU k (by omega))).1 hS.2.1 hW.1.2.1
          refine ⟨_, _, ev2, nI (k + 1), nI_add _ _, ?_⟩
          have e : gk t p k X = (act t X (sy t k) (envV t X p) p ((tstK t X k p).2 + 1)) := by
            unfold gk
            rw [if_pos ⟨h154, h159⟩]
          rw [← e] at hA
          exact ih (k + 1) (by omega) _ _ (by rw [fr_S, ← hX]) hA (gk_WI hT hW hp)
theorem mg_rules {t : Sg} {D0 : Dy} {P : Option AV → Sg → Prop} (hT : WN t) (hX1 : XT t) (hRU : RU t) {m : Nat} (hK : ∀ τ, Ag t (fr (gp t) (nP t) D0) τ → G true 217 P 168 [some (.inr (.inr (69, false, 0))), some (.inl (nI m)), none, none, none] [] τ) : ∀ (j p : Nat), p + j = nP t → ∀ (X : Dy) (τ : Sg), X = fr (gp t) p D0 → Ag t X τ → WI t X → G true 217 P 140 [some (.inr (.inr (69, false, 0))), some (.inl (nI m)), some (.inl (nI p)), none, none] [] τ := by
  have hP := hT.P
  intro j
  induction j with
  | zero =>
    intro p hj X τ hX hA hW
    have eP := hA.P hT
    refine G_wp 300 [140, 146, 168] rfl ?_
    refine br_ge rfl eP (by omega) (by omega) (fun h143 => ?_) (fun h143 => ?_)
    · rw [hX, show p = nP t by omega] at hA
      exact G_fg 2 (G_fg 3 (G_fg 4 (hK _ hA)))
    · exact absurd h143 (by omega)
  | succ j ih =>
    intro p hj X τ hX hA hW
    have eP := hA.P hT
    refine G_wp 300 [140, 146, 168] rfl ?_
    refine br_ge rfl eP (by omega) (by omega) (fun h143 => ?_) (fun h143 => ?_)
    · exact absurd h143 (by omega)
    · refine ⟨_, rfl, ?_⟩
      refine mg_rule_k hT hX1 hRU (show p < nP t by omega) (fun τ1 hA1 => ?_) (nRu t) 0 (by omega) X _ rfl hA hW
      refine G_wp 300 [140] rfl ?_
      refine ⟨nI (p + 1), nI_add _ _, ?_⟩
      exact ih (p + 1) (by omega) _ _ (by rw [fr_S, ← hX]) hA1 (gp_WI hT hW (by omega))
theorem mg_zero {t : Sg} {D : Dy} {P : Option AV → Sg → Prop} (hT : WN t) {m : Nat} (hK : ∀ τ, Ag t (gz (nP t) D) τ → G true 217 P 25 [some (.inr (.inr (69, false, 0))), some (.inl (nI m)), none, none, none] [] τ) : ∀ (j p : Nat), p + j = nP t → ∀ (τ : Sg), Ag t (gz p D) τ → G true 217 P 7 [some (.inr (.inr (69, false, 0))), some (.inl (nI m)), some (.inl (nI p)), none, none] [] τ := by
  have hP := hT.P
  intro j
  induction j with
  | zero =>
    intro p hj τ hA
    have eP := hA.P hT
    refine G_wp 300 [7, 25] rfl ?_
    refine br_ge rfl eP (by omega) (by omega) (fun h10 => ?_) (fun h10 => ?_)
    · rw [show p = nP t by omega] at hA
      exact G_fg 2 (hK _ hA)
    · exact absurd h10 (by omega)
  | succ j ih =>
    intro p hj τ hA
    have eP := hA.P hT
    refine G_wp 300 [7, 25] rfl ?_
    refine br_ge rfl eP (by omega) (by omega) (fun h10 => ?_) (fun h10 => ?_)
    · exact absurd h10 (by omega)
    · refine ⟨p, rfl, (by show _ < 12; omega), _, rfl, ?_⟩
      replace hA := hA.w28 p (by omega) (nI (0))
      refine ⟨68 + p, (add_n rfl rfl), (by show _ < 23184; omega), _, rfl, ?_⟩
      replace hA := hA.w6 p (by omega) (nI (0))
      refine ⟨nI (p + 1), nI_add _ _, ?_⟩
      rw [← gz_S] at hA
      exact ih (p + 1) (by omega) _ hA
/-- a minute, phase by phase -/
def g1 (t : Sg) (D : Dy) : Dy := fr (gr t) (nR t) (gz (nP t) D)
def g2 (t : Sg) (D : Dy) : Dy := fr (mnd t) (nB t) (g1 t D)
def g3 (t : Sg) (D : Dy) : Dy := fr (gp t) (nP t) (g2 t D)
def g4 (t : Sg) (D : Dy) : Dy := drs t (g3 t D)
def g5 (t : Sg) (D : Dy) : Dy := fr (gc t) (nR t) (g4 t D)
def g6 (t : Sg) (D : Dy) : Dy := fr (ge t) (nP t) (g5 t D)
def gmin (t : Sg) (D : Dy) : Dy := up2 (g6 t D) 0 0 (nI (nN (D 0 0) + 1))
theorem gz_e0 (n : Nat) (D : Dy) (i : Nat) : gz n D 0 i = D 0 i := gz_o (by omega)
theorem g1_o (t : Sg) (D : Dy) (i : Nat) (h : ¬ i = 7) : g1 t D 0 i = D 0 i := (fr_e (fun _ _ => gr_o (by omega)) _ _).trans (gz_e0 _ _ _)
theorem g2_o (t : Sg) (D : Dy) (i : Nat) (h : ¬ i = 7) : g2 t D 0 i = D 0 i := (fr_e (fun _ _ => mnd_o (by omega)) _ _).trans (g1_o _ _ _ h)
theorem g3_o (t : Sg) (D : Dy) (i : Nat) (h : ¬ i = 7) : g3 t D 0 i = D 0 i := (fr_e (fun _ _ => gp_o (by omega)) _ _).trans (g2_o _ _ _ h)
theorem g1_WI {t : Sg} {D : Dy} (hT : WN t) (h : WI t D) : WI t (g1 t D) := fr_I (N := nR t) (fun _ _ q h => gr_WI hT h q) (gz_WI h) _ (Nat.le_refl _)
theorem g2_WI {t : Sg} {D : Dy} (hT : WN t) (h : WI t D) : WI t (g2 t D) := fr_I (N := nB t) (fun _ _ q h => mnd_WI hT h q) (g1_WI hT h) _ (Nat.le_refl _)
theorem g3_WI {t : Sg} {D : Dy} (hT : WN t) (h : WI t D) : WI t (g3 t D) := fr_I (N := nP t) (fun _ _ q h => gp_WI hT h q) (g2_WI hT h) _ (Nat.le_refl _)
/-- where the van goes to, behind a drive -/
def C2 (D : Dy) : Prop := D 0 5 = -1 ∨ ∃ c, D 0 5 = nI c ∧ nN (D 0 0) < c ∧ c ≤ 1480 ∧ 1 ≤ nN (D 0 6)
theorem drs_WI {t : Sg} {D : Dy} (hT : WN t) (hW : WT t) (h : WI t D) (h0 : Is (D 0 0) 1439) (hC : CI D) : WI t (drs t D) ∧ C2 (drs t D) := by
  unfold drs
  by_cases q : D 0 5 = D 0 0
  · rw [if_pos q]
    have h1 : 1 ≤ nN (D 0 6) := by
      rcases hC with c | ⟨c, c1, c2, c3, c4⟩
      · rw [c, h0.1] at q
        exact absurd q.symm (nI_m1 (by have := h0.2; omega))
      · exact c4
    have hE : WI t (up2 D 0 5 (-1)) := ⟨VI_of h.1 (fun g i q => up2_n (by omega)) (by rw [up2_n (by omega)]; exact h.1.2.1), JI_same h.2 (fun g i q => up2_n (by omega))⟩
    have h16 : 1 ≤ nN (up2 D 0 5 (-1) 0 6) := by rw [up2_n (by omega)]; exact h1
    have e0 : stp t (up2 D 0 5 (-1)) 0 0 = D 0 0 := by rw [stp_o (by omega), up2_n (by omega)]
    exact drv_WI hT hW _ _ (stp_WI hT hE h16) rfl (by rw [e0]; exact h0) (Or.inl (by rw [stp_o (by omega), up2_s]))
  · rw [if_neg q]
    refine drv_WI hT hW _ _ h rfl h0 ?_
    rcases hC with c | ⟨c, c1, c2, c3, c4⟩
    · exact Or.inl c
    · refine Or.inr ⟨c, c1, ?_, c3, c4⟩
      by_cases e : nN (D 0 0) = c
      · exact absurd (by rw [c1, ← e, ← h0.1]) q
      · omega
theorem drv_o {t : Sg} {g i : Nat} (h : ¬ (g = 0 ∧ (i = 2 ∨ i = 3 ∨ i = 5 ∨ i = 6 ∨ i = 7)) ∧ ¬ g = 11 ∧ ¬ g = 12 ∧ ¬ g = 24 ∧ ¬ g = 25 ∧ ¬ g = 26 ∧ ¬ g = 27) : ∀ (n : Nat) (D : Dy), drv t n D g i = D g i
  | 0, D => rfl
  | n + 1, D => by
    rw [drv_S]
    split
    · split
      · rw [drv_o h n, stp_o (by omega)]
      · exact up2_n (by omega)
    · rfl
theorem drs_o {t : Sg} {D : Dy} {g i : Nat} (h : ¬ (g = 0 ∧ (i = 2 ∨ i = 3 ∨ i = 5 ∨ i = 6 ∨ i = 7)) ∧ ¬ g = 11 ∧ ¬ g = 12 ∧ ¬ g = 24 ∧ ¬ g = 25 ∧ ¬ g = 26 ∧ ¬ g = 27) : drs t D g i = D g i := by
  unfold drs
  rw [drv_o h]
  split
  · rw [stp_o (by omega), up2_n (by omega)]
  · rfl
theorem g4_o (t : Sg) (D : Dy) : g4 t D 0 0 = D 0 0 := (drs_o (by omega)).trans (g3_o _ _ _ (by omega))
theorem CI_of {D E : Dy} (h : CI D) (e : ∀ i, ¬ i = 7 → E 0 i = D 0 i) : CI E := by
  unfold CI
  rw [e 5 (by omega), e 0 (by omega), e 6 (by omega)]
  exact h
theorem C2_of {D E : Dy} (h : C2 D) (e : ∀ i, (i = 0 ∨ i = 5 ∨ i = 6) → E 0 i = D 0 i) : C2 E := by
  unfold C2
  rw [e 5 (by omega), e 0 (by omega), e 6 (by omega)]
  exact h
theorem g4_WI {t : Sg} {D : Dy} (hT : WN t) (hW : WT t) (h : WI t D) (h0 : Is (D 0 0) 1439) (hC : CI D) : WI t (g4 t D) ∧ C2 (g4 t D) := drs_WI hT hW (g3_WI hT h) (by rw [g3_o _ _ _ (by omega)]; exact h0) (CI_of hC (fun i q => g3_o _ _ _ q))
theorem g5_WI {t : Sg} {D : Dy} (hT : WN t) (hW : WT t) (hR : RT t) (h : WI t D) (h0 : Is (D 0 0) 1439) (hC : CI D) : WI t (g5 t D) := fr_I (N := nR t) (fun _ _ q h => gc_WI hT hR h q) (g4_WI hT hW h h0 hC).1 _ (Nat.le_refl _)
theorem g5_o (t : Sg) (D : Dy) (i : Nat) (h : ¬ i = 1 ∧ ¬ i = 7) : g5 t D 0 i = g4 t D 0 i := fr_e (fun _ _ => gc_o (by omega)) _ _
theorem g6_o (t : Sg) (D : Dy) (i : Nat) : g6 t D 0 i = g5 t D 0 i := fr_e (fun _ _ => ge_o (by omega)) _ _
theorem g6_WI {t : Sg} {D : Dy} (hT : WN t) (hW : WT t) (hR : RT t) (h : WI t D) (h0 : Is (D 0 0) 1439) (hC : CI D) : WI t (g6 t D) := fr_I (N := nP t) (fun _ _ _ h => ge_WI h) (g5_WI hT hW hR h h0 hC) _ (Nat.le_refl _)
theorem gmin_0 (t : Sg) (D : Dy) : gmin t D 0 0 = nI (nN (D 0 0) + 1) := up2_s _ _ _ _
theorem gmin_WI {t : Sg} {D : Dy} (hT : WN t) (hW : WT t) (hR : RT t) (h : WI t D) (h0 : Is (D 0 0) 1439) (hC : CI D) : WI t (gmin t D) ∧ CI (gmin t D) := by
  have h6 := g6_WI hT hW hR h h0 hC
  refine ⟨⟨VI_of h6.1 (fun g i q => up2_n (by omega)) (by unfold gmin; rw [up2_n (by omega)]; exact h6.1.2.1), JI_same h6.2 (fun g i q => up2_n (by omega))⟩, ?_⟩
  have e : ∀ i, ¬ i = 0 → ¬ i = 1 → ¬ i = 7 → gmin t D 0 i = g4 t D 0 i := fun i a b c => by
    unfold gmin
    rw [up2_n (by omega), g6_o, g5_o _ _ _ ⟨b, c⟩]
  unfold CI
  rw [e 5 (by omega) (by omega) (by omega), e 6 (by omega) (by omega) (by omega), gmin_0, nN_nI (by have := h0.2; omega)]
  rcases (g4_WI hT hW h h0 hC).2 with c | ⟨c, c1, c2, c3⟩
  · exact Or.inl c
  · rw [g4_o] at c2
    exact Or.inr ⟨c, c1, by omega, c3⟩
theorem mg_go7 {t : Sg} {D : Dy} {τ7 : Sg} {m : Nat} (hm : m < 1440) (h0 : D 0 0 = nI m) (hA7 : Ag t (g6 t D) τ7) : G true 217 (fun r' s' => r' = none ∧ Ag t (gmin t D) s') 278 [some (.inr (.inr (69, false, 0))), some (.inl (nI m)), none, none, none] [] τ7 := by
  have hA := hA7
  have e6 : g6 t D 0 0 = nI m := (g6_o t D 0).trans ((g5_o t D 0 (by omega)).trans ((g4_o t D).trans h0))
  refine G_wp 60 [7, 27, 75, 140, 172, 204] rfl ?_
  refine ⟨0, rfl, (by show _ < 23184; omega), ?_⟩
  rw [hA.r0 0 (by decide)]
  refine ⟨0, rfl, (by show _ < 23184; omega), nI (m + 1), (add_n e6 rfl), ?_⟩
  replace hA := hA.w0 0 (by decide) (nI (m + 1))
  refine ⟨rfl, ?_⟩
  have e : gmin t D = (up2 (g6 t D) 0 0 (nI (m + 1))) := by
    unfold gmin
    rw [h0, nN_nI (by omega)]
  rw [e]
  exact hA
theorem mg_go6 {t : Sg} {D : Dy} {τ6 : Sg} (hT : WN t) (hW : WT t) (hR : RT t) {m : Nat} (hm : m < 1440) (h0 : D 0 0 = nI m) (hWI : WI t D) (hC : CI D) (hA6 : Ag t (g5 t D) τ6) : G true 217 (fun r' s' => r' = none ∧ Ag t (gmin t D) s') 202 [some (.inr (.inr (69, false, 0))), some (.inl (nI m)), none, none, none] [] τ6 := by
  refine G_wp 60 [7, 27, 75, 140, 172, 204] rfl ?_
  refine ⟨_, rfl, ?_⟩
  have hi0 : Is (D 0 0) 1439 := by rw [h0]; exact Is_of (by omega) (by omega)
  have e5 : g5 t D 0 0 = nI m := (g5_o t D 0 (by omega)).trans ((g4_o t D).trans h0)
  refine mg_empty hT hm (fun τ7 hA7 => ?_) (nP t) 0 (by omega) _ _ rfl hA6 (g5_WI hT hW hR hWI hi0 hC) e5
  exact mg_go7 hm h0 hA7
theorem mg_go4 {t : Sg} {D : Dy} {τ4 : Sg} (hT : WN t) (hW : WT t) (hR : RT t) (hX1 : XT t) (hRU : RU t) {m : Nat} (hm : m < 1440) (h0 : D 0 0 = nI m) (hWI : WI t D) (hC : CI D) (hA4 : Ag t (g3 t D) τ4) : G true 217 (fun r' s' => r' = none ∧ Ag t (gmin t D) s') 168 [some (.inr (.inr (69, false, 0))), some (.inl (nI m)), none, none, none] [] τ4 := by
  refine G_wp 60 [7, 27, 75, 140, 172, 204] rfl ?_
  have e0 : g3 t D 0 0 = D 0 0 := g3_o _ _ _ (by omega)
  have h0n : nN (D 0 0) = m := by rw [h0, nN_nI (by omega)]
  obtain ⟨τ5, ev5, hA5⟩ := mv_drives hA4 hT hW (g3_WI hT hWI).1 (by rw [e0, h0n]; exact h0) (by rw [e0, h0n]; exact hm) (fun q => by
    rw [e0, g3_o _ _ _ (by omega)] at q
    rw [g3_o _ _ _ (by omega)]
    rcases hC with c | ⟨c, c1, c2, c3, c4⟩
    · rw [c, h0] at q
      exact absurd q.symm (nI_m1 (by omega))
    · exact c4)
  refine ⟨_, _, ev5, _, rfl, ?_⟩
  have hi0 : Is (D 0 0) 1439 := by rw [h0]; exact Is_of (by omega) (by omega)
  refine mg_comes hT hm hR (fun τ6 hA6 => ?_) (nR t) 0 (by omega) _ _ rfl hA5 (g4_WI hT hW hWI hi0 hC).1 ((g4_o t D).trans h0)
  exact mg_go6 hT hW hR hm h0 hWI hC hA6
theorem mg_go3 {t : Sg} {D : Dy} {τ3 : Sg} (hT : WN t) (hW : WT t) (hR : RT t) (hX1 : XT t) (hRU : RU t) {m : Nat} (hm : m < 1440) (h0 : D 0 0 = nI m) (hWI : WI t D) (hC : CI D) (hA3 : Ag t (g2 t D) τ3) : G true 217 (fun r' s' => r' = none ∧ Ag t (gmin t D) s') 138 [some (.inr (.inr (69, false, 0))), some (.inl (nI m)), none, none, none] [] τ3 := by
  refine G_wp 60 [7, 27, 75, 140, 172, 204] rfl ?_
  refine ⟨_, rfl, ?_⟩
  refine mg_rules hT hX1 hRU (fun τ4 hA4 => ?_) (nP t) 0 (by omega) _ _ rfl hA3 (g2_WI hT hWI)
  exact mg_go4 hT hW hR hX1 hRU hm h0 hWI hC hA4
theorem mg_go2 {t : Sg} {D : Dy} {τ2 : Sg} (hT : WN t) (hW : WT t) (hR : RT t) (hX1 : XT t) (hRU : RU t) {m : Nat} (hm : m < 1440) (h0 : D 0 0 = nI m) (hWI : WI t D) (hC : CI D) (hA2 : Ag t (g1 t D) τ2) : G true 217 (fun r' s' => r' = none ∧ Ag t (gmin t D) s') 73 [some (.inr (.inr (69, false, 0))), some (.inl (nI m)), none, none, none] [] τ2 := by
  refine G_wp 60 [7, 27, 75, 140, 172, 204] rfl ?_
  refine ⟨_, rfl, ?_⟩
  refine mg_mend hT hm (fun τ3 hA3 => ?_) (nB t) 0 (by omega) _ _ rfl hA2 (g1_WI hT hWI) ((g1_o _ _ _ (by omega)).trans h0)
  exact mg_go3 hT hW hR hX1 hRU hm h0 hWI hC hA3
theorem mg_go1 {t : Sg} {D : Dy} {τ1 : Sg} (hT : WN t) (hW : WT t) (hR : RT t) (hX1 : XT t) (hRU : RU t) {m : Nat} (hm : m < 1440) (h0 : D 0 0 = nI m) (hWI : WI t D) (hC : CI D) (hA1 : Ag t (gz (nP t) D) τ1) : G true 217 (fun r' s' => r' = none ∧ Ag t (gmin t D) s') 25 [some (.inr (.inr (69, false, 0))), some (.inl (nI m)), none, none, none] [] τ1 := by
  refine G_wp 60 [7, 27, 75, 140, 172, 204] rfl ?_
  refine ⟨_, rfl, ?_⟩
  refine mg_rides hT hm hR (fun τ2 hA2 => ?_) (nR t) 0 (by omega) _ _ rfl hA1 (gz_WI hWI) ((gz_e0 _ _ _).trans h0)
  exact mg_go2 hT hW hR hX1 hRU hm h0 hWI hC hA2
theorem mv_goes {t : Sg} {D : Dy} {τ : Sg} (hA : Ag t D τ) (hT : WN t) (hW : WT t) (hR : RT t) (hX1 : XT t) (hRU : RU t) (h0 : Is (D 0 0) 1439) (hWI : WI t D) (hC : CI D) : ∃ τ', Ev true 217 [.inr (.inr (69, false, 0))] τ none τ' ∧ Ag t (gmin t D) τ' := by
  obtain ⟨m, hme⟩ : ∃ m, m = nN (D 0 0) := ⟨_, rfl⟩
  have hm : m < 1440 := by have := h0.2; omega
  have h0 : D 0 0 = nI m := by rw [hme]; exact h0.1
  refine EvQ_wp 60 [7] rfl rfl ?_
  refine ⟨0, rfl, (by show _ < 23184; omega), ?_⟩
  rw [hA.r0 0 (by decide)]
  refine ⟨nI (m), h0, _, rfl, ?_⟩
  refine mg_zero hT (fun τ1 hA1 => ?_) (nP t) 0 (by omega) _ (by rw [gz_0]; exact hA)
  exact mg_go1 hT hW hR hX1 hRU hm h0 hWI hC hA1
