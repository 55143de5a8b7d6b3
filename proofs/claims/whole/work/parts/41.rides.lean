/-! The class's minute: rides that end, bikes that are mended. -/
def OI (t : Sg) (D : Dy) : Prop := ∀ p, p < nP t → D 2 p = nI 0 ∨ D 2 p = nI 1
theorem OI_of {t : Sg} {D E : Dy} (h : OI t D) (e : ∀ i, E 2 i = D 2 i) : OI t E := fun p hp => by rw [e]; exact h p hp
def nrW (t : Sg) (p : Nat) : Option Nat → Int32
  | none => nI 0
  | some m => way t p m
theorem cv_near_l {d : Bool} {s t : Sg} {D : Dy} {eb er : Nat} {Z : Zt} {σ : Sg} (hC : Cg d s t D eb er Z σ) (hT : WN t) (hO : OI t D) {p : Nat} (hp : p < nP t) : ∀ (k q : Nat), q + k = nP t → G false 130 (fun r' s' => r' = some (.inl (oI (nrs t D p (nP t)))) ∧ s' = σ) 6 [some (.inr (.inr (26, d, 0))), some (.inl (nI p)), some (.inl (oI (nrs t D p q))), some (.inl (nrW t p (nrs t D p q))), some (.inl (nI q)), none] [] σ := by
  have hP := hT.P
  intro k
  induction k with
  | zero =>
    intro q hq
    refine G_wp 100 [6] rfl ?_
    cases hnr : nrs t D p q with
    | none =>
      refine br_ge rfl (hC.c1_0.trans hT.eP) (by omega) (by omega) (fun h10 => ?_) (fun h10 => ?_)
      · exact ⟨by rw [show q = nP t by omega] at hnr; rw [hnr], rfl⟩
      · exact absurd h10 (by omega)
    | some m =>
      refine br_ge rfl (hC.c1_0.trans hT.eP) (by omega) (by omega) (fun h10 => ?_) (fun h10 => ?_)
      · exact ⟨by rw [show q = nP t by omega] at hnr; rw [hnr], rfl⟩
      · exact absurd h10 (by omega)
  | succ k ih =>
    intro q hq
    refine G_wp 100 [6] rfl ?_
    cases hnr : nrs t D p q with
    | none =>
      refine br_ge rfl (hC.c1_0.trans hT.eP) (by omega) (by omega) (fun h10 => ?_) (fun h10 => ?_)
      · exact absurd h10 (by omega)
      · refine br_eq rfl rfl (by omega) (by omega) (fun h13 => ?_) (fun h13 => ?_)
        · refine ⟨nI (q + 1), nI_add _ _, ?_⟩
          have e : nrs t D p (q + 1) = nrs t D p q := by rw [nrs_S, if_neg (fun z => z.1.1 h13)]
          have h9 := ih (q + 1) (by omega)
          rw [e, hnr] at h9
          exact h9
        · refine ⟨_, _, cv_takes hC hT rfl (by omega) (hO q (by omega)), ?_⟩
          refine brd_ne (fun h17 => ?_) (fun h17 => ?_)
          · refine ⟨_, _, cv_way hC hT rfl (by omega) rfl (by omega), _, rfl, ?_⟩
            refine ⟨fun h27 => ?_, fun h27 => ?_⟩
            · refine ⟨_, rfl, _, rfl, nI (q + 1), nI_add _ _, ?_⟩
              have e : nrs t D p (q + 1) = some q := by rw [nrs_S, if_pos ⟨⟨h13, h17⟩, fun m hm => by rw [hnr] at hm; cases hm⟩]
              have h9 := ih (q + 1) (by omega)
              rw [e] at h9
              exact G_fg 5 h9
            · exact absurd h27 (by decide)
          · refine ⟨nI (q + 1), nI_add _ _, ?_⟩
            have e : nrs t D p (q + 1) = nrs t D p q := by rw [nrs_S, if_neg (fun z => h17 z.1.2)]
            have h9 := ih (q + 1) (by omega)
            rw [e, hnr] at h9
            exact h9
    | some m =>
      have hm := (nrs_lt t D p q m hnr).1
      refine br_ge rfl (hC.c1_0.trans hT.eP) (by omega) (by omega) (fun h10 => ?_) (fun h10 => ?_)
      · exact absurd h10 (by omega)
      · refine br_eq rfl rfl (by omega) (by omega) (fun h13 => ?_) (fun h13 => ?_)
        · refine ⟨nI (q + 1), nI_add _ _, ?_⟩
          have e : nrs t D p (q + 1) = nrs t D p q := by rw [nrs_S, if_neg (fun z => z.1.1 h13)]
          have h9 := ih (q + 1) (by omega)
          rw [e, hnr] at h9
          exact h9
        · refine ⟨_, _, cv_takes hC hT rfl (by omega) (hO q (by omega)), ?_⟩
          refine brd_ne (fun h17 => ?_) (fun h17 => ?_)
          · refine ⟨_, _, cv_way hC hT rfl (by omega) rfl (by omega), _, rfl, ?_⟩
            refine ⟨fun h27 => ?_, fun h27 => ?_⟩
            · exact absurd h27 (nI_m1 (by omega))
            · refine ⟨fun h30 => ?_, fun h30 => ?_⟩
              · refine ⟨nI (q + 1), nI_add _ _, ?_⟩
                have e : nrs t D p (q + 1) = nrs t D p q := by rw [nrs_S, if_neg (fun z => absurd (z.2 m hnr) (Int32.not_lt.mpr h30))]
                have h9 := ih (q + 1) (by omega)
                rw [e, hnr] at h9
                exact G_fg 5 h9
              · refine ⟨_, rfl, _, rfl, nI (q + 1), nI_add _ _, ?_⟩
                have e : nrs t D p (q + 1) = some q := by rw [nrs_S, if_pos ⟨⟨h13, h17⟩, fun m hm => by rw [hnr] at hm; cases hm; exact Int32.not_le.mp h30⟩]
                have h9 := ih (q + 1) (by omega)
                rw [e] at h9
                exact G_fg 5 h9
          · refine ⟨nI (q + 1), nI_add _ _, ?_⟩
            have e : nrs t D p (q + 1) = nrs t D p q := by rw [nrs_S, if_neg (fun z => h17 z.1.2)]
            have h9 := ih (q + 1) (by omega)
            rw [e, hnr] at h9
            exact h9
theorem cv_near {d : Bool} {s t : Sg} {D : Dy} {eb er : Nat} {Z : Zt} {σ : Sg} (hC : Cg d s t D eb er Z σ) (hT : WN t) (hO : OI t D) {x : Int32} {p : Nat} (hx : x = nI p) (hp : p < nP t) : Ev false 130 [.inr (.inr (26, d, 0)), .inl (x)] σ (some (.inl (oI (nrs t D p (nP t))))) σ := by
  subst hx
  have hP := hT.P
  have hB := hT.B
  have hR := hT.R
  refine Ev_wp 26 [6] rfl rfl ?_
  refine ⟨_, rfl, _, rfl, _, rfl, ?_⟩
  exact cv_near_l hC hT hO hp (nP t) 0 (by omega)
theorem cv_leave {d : Bool} {s t : Sg} {D : Dy} {Z : Zt} {σ : Sg} (hC : Cg d s t D 60 200 Z σ) (hT : WN t) {x y z : Int32} {r b p : Nat} (hx : x = nI r) (hr : r < nR t) (hy : y = nI b) (hb : b < nB t) (hz : z = nI p) (hp : p < nP t) (h7 : Is (D 0 7) 4000) (h16 : D 16 r = nI 2) (h11 : D 11 b = nI 1) : ∃ σ', Ev false 73 [.inr (.inr (26, d, 0)), .inl (x), .inl (y), .inl (z)] σ none σ' ∧ Cg d s t (ridA t D r b p) 60 200 Z σ' := by
  subst hx
  subst hy
  subst hz
  have hP := hT.P
  have hB := hT.B
  have hR := hT.R
  replace hC := st_in hC hr hR rfl (by rw [h16]; decide)
  refine EvQ_wp 127 [] rfl rfl ?_
  refine ⟨2, rfl, (by show _ < 4; omega), (show 2 < 4 by omega), b, rfl, (by show _ < 60; omega), ?_⟩
  rw [hC.b2 b (by omega)]
  refine ⟨2, rfl, (by show _ < 6; omega), (show 2 < 6 by omega), r, rfl, (by show _ < 200; omega), ?_⟩
  rw [hC.r2 r (by omega)]
  refine ⟨(show 2 < 4 by omega), b, rfl, (by show _ < 60; omega), ((D 13 b) + ((D 0 0) - (D 18 r))), (congr (congrArg HAdd.hAdd rfl) (congr (congrArg HSub.hSub hC.m.1) rfl)), ?_⟩
  replace hC : Cg d s t (up2 D 13 b (((D 13 b) + ((D 0 0) - (D 18 r))))) 60 r Z (up4 σ 32 d ((2) + 1) b ((D 13 b) + ((D 0 0) - (D 18 r)))) := st_wear hC
  refine ⟨2, rfl, (by show _ < 4; omega), (show 2 < 4 by omega), b, rfl, (by show _ < 60; omega), ?_⟩
  rw [hC.b2 b (by omega)]
  refine ⟨fun h27 => ?_, fun h27 => ?_⟩
  · rw [hC.c1_4] at h27
    obtain ⟨σ1, ev1, hC⟩ := cv_settle hC hT (b := b) (p := p) rfl hb rfl hp (by (repeat rw [up2_n (by omega)]); rw [h11]; decide) (fun c hc q => by omega)
    refine ⟨_, _, ev1, 0, rfl, (by show _ < 6; omega), (show 0 < 6 by omega), r, rfl, (by show _ < 200; omega), _, rfl, ?_⟩
    replace hC : Cg d s t (up2 (up2 (up2 (up2 D 13 b (((D 13 b) + ((D 0 0) - (D 18 r))))) 11 b (nI 0)) 12 b (nI p)) 16 r (nI (3))) 60 r Z (up4 σ1 34 d ((0) + 1) r (nI (3))) := st_rid hC 0 (by decide) (fun _ => rfl)
    refine ⟨3, rfl, (by show _ < 6; omega), (show 3 < 6 by omega), r, rfl, (by show _ < 200; omega), ((up2 (up2 (up2 (up2 D 13 b (((D 13 b) + ((D 0 0) - (D 18 r))))) 11 b (nI 0)) 12 b (nI p)) 16 r (nI (3))) 0 0), hC.m.1, ?_⟩
    replace hC : Cg d s t (up2 (up2 (up2 (up2 (up2 D 13 b (((D 13 b) + ((D 0 0) - (D 18 r))))) 11 b (nI 0)) 12 b (nI p)) 16 r (nI (3))) 19 r (((up2 (up2 (up2 (up2 D 13 b (((D 13 b) + ((D 0 0) - (D 18 r))))) 11 b (nI 0)) 12 b (nI p)) 16 r (nI (3))) 0 0))) 60 r Z (up4 (up4 σ1 34 d ((0) + 1) r (nI (3))) 34 d ((3) + 1) r ((up2 (up2 (up2 (up2 D 13 b (((D 13 b) + ((D 0 0) - (D 18 r))))) 11 b (nI 0)) 12 b (nI p)) 16 r (nI (3))) 0 0)) := st_rid hC 3 (by decide) (fun q => absurd q (by decide))
    refine ⟨4, rfl, (by show _ < 6; omega), (show 4 < 6 by omega), r, rfl, (by show _ < 200; omega), _, rfl, ?_⟩
    replace hC : Cg d s t (up2 (up2 (up2 (up2 (up2 (up2 D 13 b (((D 13 b) + ((D 0 0) - (D 18 r))))) 11 b (nI 0)) 12 b (nI p)) 16 r (nI (3))) 19 r (((up2 (up2 (up2 (up2 D 13 b (((D 13 b) + ((D 0 0) - (D 18 r))))) 11 b (nI 0)) 12 b (nI p)) 16 r (nI (3))) 0 0))) 20 r (nI (p))) 60 r Z (up4 (up4 (up4 σ1 34 d ((0) + 1) r (nI (3))) 34 d ((3) + 1) r ((up2 (up2 (up2 (up2 D 13 b (((D 13 b) + ((D 0 0) - (D 18 r))))) 11 b (nI 0)) 12 b (nI p)) 16 r (nI (3))) 0 0)) 34 d ((4) + 1) r (nI (p))) := st_rid hC 4 (by decide) (fun q => absurd q (by decide))
    obtain ⟨σ2, ev2, hC⟩ := cv_add hC (v0 := (nI (2))) (v2 := (nI (p))) (v3 := (nI (r))) (v4 := (nI (b))) (by (repeat rw [up2_n (by omega)]); exact h7) hC.m.1
    refine ⟨_, _, ev2, ?_⟩
    have h27x : D 13 b + (D 0 0 - D 18 r) < t 69 false 0 17 := by simpa [up2] using h27
    have e : (up2 (up2 (up2 (up2 (up2 (up2 (up2 D 11 b (nI 0)) 12 b (nI p)) 13 b (D 13 b + (D 0 0 - D 18 r))) 14 b (if D 13 b + (D 0 0 - D 18 r) < t 69 false 0 17 then D 14 b else nI 1)) 16 r (nI 3)) 19 r (D 0 0)) 20 r (nI p)) = (up2 (up2 (up2 (up2 (up2 (up2 D 13 b (((D 13 b) + ((D 0 0) - (D 18 r))))) 11 b (nI 0)) 12 b (nI p)) 16 r (nI (3))) 19 r (((up2 (up2 (up2 (up2 D 13 b (((D 13 b) + ((D 0 0) - (D 18 r))))) 11 b (nI 0)) 12 b (nI p)) 16 r (nI (3))) 0 0))) 20 r (nI (p))) := by
      rw [if_pos h27x]
      funext g i
      rcases (show g = 11 ∨ g = 12 ∨ g = 13 ∨ g = 14 ∨ g = 16 ∨ g = 19 ∨ g = 20 ∨ (¬ g = 11 ∧ ¬ g = 12 ∧ ¬ g = 13 ∧ ¬ g = 14 ∧ ¬ g = 16 ∧ ¬ g = 19 ∧ ¬ g = 20) by omega) with rfl | rfl | rfl | rfl | rfl | rfl | rfl | hg
      · by_cases e : i = b <;> simp [up2, e]
      · by_cases e : i = b <;> simp [up2, e]
      · by_cases e : i = b <;> simp [up2, e]
      · by_cases e : i = b <;> simp [up2, e]
      · by_cases e : i = r <;> simp [up2, e]
      · by_cases e : i = r <;> simp [up2, e]
      · by_cases e : i = r <;> simp [up2, e]
      · simp [up2, hg]
    refine ⟨rfl, ?_⟩
    unfold ridA
    rw [e]
    exact st_out hC hr hR rfl (by rw [lgs_o (by omega) (by omega)]; (repeat rw [up2_n (by omega)]); rw [up2_s]; decide) (fun q => absurd (show nI 3 = nI 2 by rw [← q, lgs_o (by omega) (by omega)]; (repeat rw [up2_n (by omega)]); rw [up2_s]) (by decide))
  · rw [hC.c1_4] at h27
    refine ⟨3, rfl, (by show _ < 4; omega), (show 3 < 4 by omega), b, rfl, (by show _ < 60; omega), _, rfl, ?_⟩
    replace hC : Cg d s t (up2 (up2 D 13 b (((D 13 b) + ((D 0 0) - (D 18 r))))) 14 b (nI (1))) 60 r Z (up4 (up4 σ 32 d ((2) + 1) b ((D 13 b) + ((D 0 0) - (D 18 r)))) 32 d ((3) + 1) b (nI (1))) := st_fty hC (by rw [up2_n (by omega), h11]; decide)
    obtain ⟨σ3, ev3, hC⟩ := cv_settle hC hT (b := b) (p := p) rfl hb rfl hp (by (repeat rw [up2_n (by omega)]); rw [h11]; decide) (fun c hc q => by omega)
    refine ⟨_, _, ev3, 0, rfl, (by show _ < 6; omega), (show 0 < 6 by omega), r, rfl, (by show _ < 200; omega), _, rfl, ?_⟩
    replace hC : Cg d s t (up2 (up2 (up2 (up2 (up2 D 13 b (((D 13 b) + ((D 0 0) - (D 18 r))))) 14 b (nI (1))) 11 b (nI 0)) 12 b (nI p)) 16 r (nI (3))) 60 r Z (up4 σ3 34 d ((0) + 1) r (nI (3))) := st_rid hC 0 (by decide) (fun _ => rfl)
    refine ⟨3, rfl, (by show _ < 6; omega), (show 3 < 6 by omega), r, rfl, (by show _ < 200; omega), ((up2 (up2 (up2 (up2 (up2 D 13 b (((D 13 b) + ((D 0 0) - (D 18 r))))) 14 b (nI (1))) 11 b (nI 0)) 12 b (nI p)) 16 r (nI (3))) 0 0), hC.m.1, ?_⟩
    replace hC : Cg d s t (up2 (up2 (up2 (up2 (up2 (up2 D 13 b (((D 13 b) + ((D 0 0) - (D 18 r))))) 14 b (nI (1))) 11 b (nI 0)) 12 b (nI p)) 16 r (nI (3))) 19 r (((up2 (up2 (up2 (up2 (up2 D 13 b (((D 13 b) + ((D 0 0) - (D 18 r))))) 14 b (nI (1))) 11 b (nI 0)) 12 b (nI p)) 16 r (nI (3))) 0 0))) 60 r Z (up4 (up4 σ3 34 d ((0) + 1) r (nI (3))) 34 d ((3) + 1) r ((up2 (up2 (up2 (up2 (up2 D 13 b (((D 13 b) + ((D 0 0) - (D 18 r))))) 14 b (nI (1))) 11 b (nI 0)) 12 b (nI p)) 16 r (nI (3))) 0 0)) := st_rid hC 3 (by decide) (fun q => absurd q (by decide))
    refine ⟨4, rfl, (by show _ < 6; omega), (show 4 < 6 by omega), r, rfl, (by show _ < 200; omega), _, rfl, ?_⟩
    replace hC : Cg d s t (up2 (up2 (up2 (up2 (up2 (up2 (up2 D 13 b (((D 13 b) + ((D 0 0) - (D 18 r))))) 14 b (nI (1))) 11 b (nI 0)) 12 b (nI p)) 16 r (nI (3))) 19 r (((up2 (up2 (up2 (up2 (up2 D 13 b (((D 13 b) + ((D 0 0) - (D 18 r))))) 14 b (nI (1))) 11 b (nI 0)) 12 b (nI p)) 16 r (nI (3))) 0 0))) 20 r (nI (p))) 60 r Z (up4 (up4 (up4 σ3 34 d ((0) + 1) r (nI (3))) 34 d ((3) + 1) r ((up2 (up2 (up2 (up2 (up2 D 13 b (((D 13 b) + ((D 0 0) - (D 18 r))))) 14 b (nI (1))) 11 b (nI 0)) 12 b (nI p)) 16 r (nI (3))) 0 0)) 34 d ((4) + 1) r (nI (p))) := st_rid hC 4 (by decide) (fun q => absurd q (by decide))
    obtain ⟨σ4, ev4, hC⟩ := cv_add hC (v0 := (nI (2))) (v2 := (nI (p))) (v3 := (nI (r))) (v4 := (nI (b))) (by (repeat rw [up2_n (by omega)]); exact h7) hC.m.1
    refine ⟨_, _, ev4, ?_⟩
    have h27x : ¬ D 13 b + (D 0 0 - D 18 r) < t 69 false 0 17 := by simpa [up2] using h27
    have e : (up2 (up2 (up2 (up2 (up2 (up2 (up2 D 11 b (nI 0)) 12 b (nI p)) 13 b (D 13 b + (D 0 0 - D 18 r))) 14 b (if D 13 b + (D 0 0 - D 18 r) < t 69 false 0 17 then D 14 b else nI 1)) 16 r (nI 3)) 19 r (D 0 0)) 20 r (nI p)) = (up2 (up2 (up2 (up2 (up2 (up2 (up2 D 13 b (((D 13 b) + ((D 0 0) - (D 18 r))))) 14 b (nI (1))) 11 b (nI 0)) 12 b (nI p)) 16 r (nI (3))) 19 r (((up2 (up2 (up2 (up2 (up2 D 13 b (((D 13 b) + ((D 0 0) - (D 18 r))))) 14 b (nI (1))) 11 b (nI 0)) 12 b (nI p)) 16 r (nI (3))) 0 0))) 20 r (nI (p))) := by
      rw [if_neg h27x]
      funext g i
      rcases (show g = 11 ∨ g = 12 ∨ g = 13 ∨ g = 14 ∨ g = 16 ∨ g = 19 ∨ g = 20 ∨ (¬ g = 11 ∧ ¬ g = 12 ∧ ¬ g = 13 ∧ ¬ g = 14 ∧ ¬ g = 16 ∧ ¬ g = 19 ∧ ¬ g = 20) by omega) with rfl | rfl | rfl | rfl | rfl | rfl | rfl | hg
      · by_cases e : i = b <;> simp [up2, e]
      · by_cases e : i = b <;> simp [up2, e]
      · by_cases e : i = b <;> simp [up2, e]
      · by_cases e : i = b <;> simp [up2, e]
      · by_cases e : i = r <;> simp [up2, e]
      · by_cases e : i = r <;> simp [up2, e]
      · by_cases e : i = r <;> simp [up2, e]
      · simp [up2, hg]
    refine ⟨rfl, ?_⟩
    unfold ridA
    rw [e]
    exact st_out hC hr hR rfl (by rw [lgs_o (by omega) (by omega)]; (repeat rw [up2_n (by omega)]); rw [up2_s]; decide) (fun q => absurd (show nI 3 = nI 2 by rw [← q, lgs_o (by omega) (by omega)]; (repeat rw [up2_n (by omega)]); rw [up2_s]) (by decide))
