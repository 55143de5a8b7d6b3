/-! A rule's act, on the model's state. -/
def ff (D : Dy) (p : Nat) : Nat → Nat → Nat
  | 0, b => b
  | n + 1, b => if isA D p b = true ∧ ¬ D 14 b = nI 0 then b else ff D p n (b + 1)
theorem ff_S (D : Dy) (p n b : Nat) : ff D p (n + 1) b = if isA D p b = true ∧ ¬ D 14 b = nI 0 then b else ff D p n (b + 1) := rfl
theorem ff_le (D : Dy) (p : Nat) : ∀ (n b : Nat), b ≤ ff D p n b ∧ ff D p n b ≤ b + n ∧ (ff D p n b < b + n → isA D p (ff D p n b) = true ∧ ¬ D 14 (ff D p n b) = nI 0)
  | 0, b => ⟨Nat.le_refl _, Nat.le_refl _, fun h => absurd h (Nat.lt_irrefl _)⟩
  | n + 1, b => by
    rw [ff_S]
    split
    next hc => exact ⟨Nat.le_refl _, by omega, fun _ => hc⟩
    next =>
      obtain ⟨h1, h2, h3⟩ := ff_le D p n (b + 1)
      exact ⟨by omega, by omega, fun h => h3 (by omega)⟩
def clm (x : Int32) : Int32 := if x < nI 0 then nI 0 else if nI 99 < x then nI 99 else x
def ffx (t : Sg) (D : Dy) (p : Nat) : Dy := if ff D p (nB t) 0 < nB t then fix t D p (ff D p (nB t) 0) else D
def opn (D : Dy) (p : Nat) (v : Int32) : Dy := if D 2 p = v then D else dos D 1 p v
def act (t : Sg) (D : Dy) (f : Nat → Nat) (ev : Nat → Int32) (p i : Nat) : Dy :=
  if f i = 23 then up2 D 1 p (clm (sumE f ev (41 - (i + 2)) (i + 2) (nI 0) (nI 1)).1)
  else if f i = 28 then opn D p (nI 0) else if f i = 29 then opn D p (nI 1) else ffx t D p
theorem sR_pre {f : Nat → Nat} {n i : Nat} (hok : okT f n) (h : au f i = some (8, 0, 0)) (hi : i < n) : (f i = 23 ∧ f (i + 1) = 13 ∧ i + 2 < n ∧ au f (i + 2) = some (3, 0, 0)) ∨ f i = 28 ∨ f i = 29 ∨ f i = 30 := by
  obtain ⟨r, h1, h2⟩ := okT_nx hok hi h
  unfold nxs at h1
  rw [if_neg (by omega), if_neg (by omega), if_neg (by omega), if_neg (by omega), if_pos rfl] at h1
  by_cases q : f i = 23
  · rw [if_pos q] at h1
    cases h1
    rw [if_neg (by omega)] at h2
    have hi2 := okT_lt hok (by omega) h2 (by omega) (by omega)
    obtain ⟨r, h3, h4⟩ := okT_nx hok hi2 h2
    unfold nxs at h3
    rw [if_neg (by omega), if_neg (by omega), if_neg (by omega), if_neg (by omega), if_neg (by omega), if_pos rfl] at h3
    by_cases q2 : f (i + 1) = 13
    · rw [if_pos q2] at h3
      cases h3
      rw [if_neg (by omega)] at h4
      exact Or.inl ⟨q, q2, okT_lt hok (by omega) h4 (by omega) (by omega), h4⟩
    · rw [if_neg q2] at h3
      cases h3
  · rw [if_neg q] at h1
    by_cases q2 : 28 ≤ f i ∧ f i ≤ 30
    · right; omega
    · rw [if_neg q2] at h1
      cases h1
theorem mv_acts_l {t : Sg} {D : Dy} {τ : Sg} {P : Option AV → Sg → Prop} (hA : Ag t D τ) (hT : WN t) {k p c : Nat} (hp : p < nP t) (hK : G true 190 P 92 [some (.inr (.inr (69, false, 0))), some (.inl (nI k)), some (.inl (nI p)), some (.inl (nI c)), some (.inl (nI (ff D p (nB t) 0)))] [] τ) : ∀ (j b : Nat), b + j = nB t → ff D p j b = ff D p (nB t) 0 → G true 190 P 64 [some (.inr (.inr (69, false, 0))), some (.inl (nI k)), some (.inl (nI p)), some (.inl (nI c)), some (.inl (nI b))] [] τ := by
  have eB := hA.B hT
  have hB := hT.B
  have hP := hT.P
  intro j
  induction j with
  | zero =>
    intro b hb hf
    refine G_wp 100 [64, 92] rfl ?_
    refine br_ge rfl eB (by omega) (by omega) (fun h67 => ?_) (fun h67 => ?_)
    · have e : b = ff D p (nB t) 0 := hf
      rw [e]
      exact hK
    · exact absurd h67 (by omega)
  | succ j ih =>
    intro b hb hf
    refine G_wp 100 [64, 92] rfl ?_
    refine br_ge rfl eB (by omega) (by omega) (fun h67 => ?_) (fun h67 => ?_)
    · exact absurd h67 (by omega)
    · refine ⟨1232 + b, (add_n rfl rfl), (by show _ < 23184; omega), ?_⟩
      rw [hA.r11 b (by omega)]
      refine ⟨fun h74 => ?_, fun h74 => ?_⟩
      · refine ⟨nI (b + 1), nI_add _ _, ?_⟩
        rw [ff_S, if_neg (by simp_all [isA])] at hf
        exact ih (b + 1) (by omega) hf
      · refine ⟨1292 + b, (add_n rfl rfl), (by show _ < 23184; omega), ?_⟩
        rw [hA.r12 b (by omega)]
        refine ⟨fun h82 => ?_, fun h82 => ?_⟩
        · refine ⟨nI (b + 1), nI_add _ _, ?_⟩
          rw [ff_S, if_neg (by simp_all [isA])] at hf
          exact ih (b + 1) (by omega) hf
        · refine ⟨1412 + b, (add_n rfl rfl), (by show _ < 23184; omega), ?_⟩
          rw [hA.r14 b (by omega)]
          refine ⟨fun h89 => ?_, fun h89 => ?_⟩
          · rw [ff_S, if_pos ⟨by simp [isA, h74, h82], h89⟩] at hf
            have e : b = ff D p (nB t) 0 := hf
            rw [e]
            exact hK
          · refine ⟨nI (b + 1), nI_add _ _, ?_⟩
            rw [ff_S, if_neg (by simp_all [isA])] at hf
            exact ih (b + 1) (by omega) hf
theorem mv_acts_f {t : Sg} {D : Dy} {τ : Sg} (hA : Ag t D τ) (hT : WN t) {k p c b : Nat} (hp : p < nP t) (hb : b ≤ nB t) (h7 : Is (D 0 7) 4000) : G true 190 (fun r' s' => r' = none ∧ Ag t (if b < nB t then fix t D p b else D) s') 92 [some (.inr (.inr (69, false, 0))), some (.inl (nI k)), some (.inl (nI p)), some (.inl (nI c)), some (.inl (nI b))] [] τ := by
  have eB := hA.B hT
  have hB := hT.B
  have hP := hT.P
  have hm : τ 69 false 0 16 = t 69 false 0 16 := hA.2 69 _ _ _ (by decide) rfl
  refine G_wp 100 [] rfl ?_
  refine br_ge rfl eB (by omega) (by omega) (fun h95 => ?_) (fun h95 => ?_)
  · refine ⟨rfl, ?_⟩
    rw [if_neg (by omega)]
    exact hA
  · refine ⟨1232 + b, (add_n rfl rfl), (by show _ < 23184; omega), _, rfl, ?_⟩
    replace hA := hA.w11 b (by omega) (nI (3))
    refine ⟨0, rfl, (by show _ < 23184; omega), ?_⟩
    rw [hA.r0 0 (by decide)]
    refine ⟨1472 + b, (add_n rfl rfl), (by show _ < 23184; omega), (D 0 0 + t 69 false 0 16), (by rw [up2_n (by omega), up4_nk (by decide), hm]), ?_⟩
    replace hA := hA.w15 b (by omega) (D 0 0 + t 69 false 0 16)
    obtain ⟨τ1, ev1, hA⟩ := mv_logs hA (by rw [up2_n (by omega), up2_n (by omega)]; exact h7) (v1 := (nI (7))) (v2 := (nI (p))) (v3 := (-1)) (v4 := (nI (b)))
    refine ⟨_, _, ev1, ?_⟩
    refine ⟨rfl, ?_⟩
    rw [if_pos h95]
    have e : fix t D p b = (lgs (up2 (up2 D 11 b (nI (3))) 15 b (D 0 0 + t 69 false 0 16)) (nI (7)) (nI (p)) (-1) (nI (b))) := by
      unfold fix
      rfl
    rw [e]
    exact hA
theorem mv_acts {t : Sg} {D : Dy} {τ : Sg} (hA : Ag t D τ) (hT : WN t) (hX : XT t) {k p n i : Nat} (hk : k < 10) (hp : p < nP t) (hok : okT (sy t k) n) (hi : i < n) (hau : au (sy t k) i = some (8, 0, 0)) (hat : τ 69 false 0 41 = nI i) (h7 : Is (D 0 7) 4000) : ∃ τ', Ev true 190 [.inr (.inr (69, false, 0)), .inl (nI k), .inl (nI p)] τ none τ' ∧ Ag t (act t D (sy t k) (envV t D p) p i) τ' := by
  have hP := hT.P
  have hn40 := hok.1
  have hsy := sy_le hX hk (i := i)
  have hs := sR_pre hok hau hi
  have hs2 : sy t k i = 23 → i + 2 < n := fun q => by rcases hs with h | h | h | h <;> first | exact h.2.2.1 | omega
  clear hs
  obtain ⟨r1, e1⟩ : ∃ r1, r1 = sumE (sy t k) (envV t D p) (41 - (i + 2)) (i + 2) (nI 0) (nI 1) := ⟨_, rfl⟩
  refine EvQ_wp 200 [64] rfl rfl ?_
  refine ⟨_, _, mv_symbol hA hX hk rfl (by omega) hat, _, rfl, ?_⟩
  refine br_ne rfl rfl (by omega) (by omega) (fun h6 => ?_) (fun h6 => ?_)
  · refine br_eq rfl rfl (by omega) (by omega) (fun h37 => ?_) (fun h37 => ?_)
    · refine br_ne rfl rfl (by omega) (by omega) (fun h43 => ?_) (fun h43 => ?_)
      · refine ⟨_, rfl, 20 + p, (add_n rfl rfl), (by show _ < 23184; omega), ?_⟩
        rw [hA.r2 p (by omega)]
        refine ⟨fun h55 => ?_, fun h55 => ?_⟩
        · refine ⟨rfl, ?_⟩
          have e : act t D (sy t k) (envV t D p) p i = D := by
            unfold act
            rw [if_neg h6, if_pos (by omega)]
            unfold opn
            rw [if_pos h55]
          rw [e]
          exact hA
        · obtain ⟨τ1, ev1, hA⟩ := mv_does1 hA hT (b := nI 0) rfl hp h7
          refine ⟨_, _, ev1, ?_⟩
          refine ⟨rfl, ?_⟩
          have e : act t D (sy t k) (envV t D p) p i = (dos D 1 p (nI 0)) := by
            unfold act
            rw [if_neg h6, if_pos (by omega)]
            unfold opn
            rw [if_neg h55]
          rw [e]
          exact hA
      · refine ⟨_, rfl, 20 + p, (add_n rfl rfl), (by show _ < 23184; omega), ?_⟩
        rw [hA.r2 p (by omega)]
        refine ⟨fun h55 => ?_, fun h55 => ?_⟩
        · refine ⟨rfl, ?_⟩
          have e : act t D (sy t k) (envV t D p) p i = D := by
            unfold act
            rw [if_neg h6, if_neg (by omega), if_pos h43]
            unfold opn
            rw [if_pos h55]
          rw [e]
          exact hA
        · obtain ⟨τ1, ev1, hA⟩ := mv_does1 hA hT (b := nI 1) rfl hp h7
          refine ⟨_, _, ev1, ?_⟩
          refine ⟨rfl, ?_⟩
          have e : act t D (sy t k) (envV t D p) p i = (dos D 1 p (nI 1)) := by
            unfold act
            rw [if_neg h6, if_neg (by omega), if_pos h43]
            unfold opn
            rw [if_neg h55]
          rw [e]
          exact hA
    · refine br_ne rfl rfl (by omega) (by omega) (fun h40 => ?_) (fun h40 => ?_)
      · refine ⟨_, rfl, ?_⟩
        refine mv_acts_l hA hT hp ?_ (nB t) 0 (by omega) rfl
        have e : act t D (sy t k) (envV t D p) p i = ffx t D p := by
          unfold act
          rw [if_neg h6, if_neg h37, if_neg h40]
        rw [e]
        exact mv_acts_f hA hT hp (by have := (ff_le D p (nB t) 0).2.1; omega) h7
      · refine br_ne rfl rfl (by omega) (by omega) (fun h43 => ?_) (fun h43 => ?_)
        · refine ⟨_, rfl, 20 + p, (add_n rfl rfl), (by show _ < 23184; omega), ?_⟩
          rw [hA.r2 p (by omega)]
          refine ⟨fun h55 => ?_, fun h55 => ?_⟩
          · refine ⟨rfl, ?_⟩
            have e : act t D (sy t k) (envV t D p) p i = D := by
              unfold act
              rw [if_neg h6, if_pos (by omega)]
              unfold opn
              rw [if_pos h55]
            rw [e]
            exact hA
          · obtain ⟨τ1, ev1, hA⟩ := mv_does1 hA hT (b := nI 0) rfl hp h7
            refine ⟨_, _, ev1, ?_⟩
            refine ⟨rfl, ?_⟩
            have e : act t D (sy t k) (envV t D p) p i = (dos D 1 p (nI 0)) := by
              unfold act
              rw [if_neg h6, if_pos (by omega)]
              unfold opn
              rw [if_neg h55]
            rw [e]
            exact hA
        · refine ⟨_, rfl, 20 + p, (add_n rfl rfl), (by show _ < 23184; omega), ?_⟩
          rw [hA.r2 p (by omega)]
          refine ⟨fun h55 => ?_, fun h55 => ?_⟩
          · refine ⟨rfl, ?_⟩
            have e : act t D (sy t k) (envV t D p) p i = D := by
              unfold act
              rw [if_neg h6, if_neg (by omega), if_pos h43]
              unfold opn
              rw [if_pos h55]
            rw [e]
            exact hA
          · obtain ⟨τ1, ev1, hA⟩ := mv_does1 hA hT (b := nI 1) rfl hp h7
            refine ⟨_, _, ev1, ?_⟩
            refine ⟨rfl, ?_⟩
            have e : act t D (sy t k) (envV t D p) p i = (dos D 1 p (nI 1)) := by
              unfold act
              rw [if_neg h6, if_neg (by omega), if_pos h43]
              unfold opn
              rw [if_neg h55]
            rw [e]
            exact hA
  · refine ⟨nI (i + 2), (add_n hat rfl), ?_⟩
    replace hA := Ag_scr hA (k := 69) (d := false) (i := 0) (j := 41) (v := (nI (i + 2))) (by decide) rfl
    have hi2 : i + 2 ≤ 40 := by omega
    have q1 := mv_sum hA hT hX hk hp hi2 (up4_s _ _ _ _ _ _)
    rw [← e1] at q1
    replace hA := aw_A hA r1.2
    refine ⟨_, _, q1, _, rfl, ?_⟩
    refine ⟨fun h24 => ?_, fun h24 => ?_⟩
    · refine ⟨fun h29 => ?_, fun h29 => ?_⟩
      · refine ⟨8 + p, (add_n rfl rfl), (by show _ < 23184; omega), _, rfl, ?_⟩
        replace hA := hA.w1 p (by omega) r1.1
        refine ⟨rfl, ?_⟩
        have e : act t D (sy t k) (envV t D p) p i = (up2 D 1 p r1.1) := by
          unfold act
          rw [if_pos h6, ← e1]
          unfold clm
          rw [if_neg (Int32.not_lt.mpr h24), if_neg (Int32.not_lt.mpr h29)]
        rw [e]
        exact hA
      · refine ⟨8 + p, (add_n rfl rfl), (by show _ < 23184; omega), _, rfl, ?_⟩
        replace hA := hA.w1 p (by omega) (nI (99))
        refine ⟨rfl, ?_⟩
        have e : act t D (sy t k) (envV t D p) p i = (up2 D 1 p (nI (99))) := by
          unfold act
          rw [if_pos h6, ← e1]
          unfold clm
          rw [if_neg (Int32.not_lt.mpr h24), if_pos (Int32.not_le.mp h29)]
        rw [e]
        exact hA
    · refine ⟨8 + p, (add_n rfl rfl), (by show _ < 23184; omega), _, rfl, ?_⟩
      replace hA := hA.w1 p (by omega) (nI (0))
      refine ⟨rfl, ?_⟩
      have e : act t D (sy t k) (envV t D p) p i = (up2 D 1 p (nI (0))) := by
        unfold act
        rw [if_pos h6, ← e1]
        unfold clm
        rw [if_pos (Int32.not_le.mp h24)]
      rw [e]
      exact hA
