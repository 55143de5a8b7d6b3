/-! Rides that end, riders that come, on the model's state. -/
def ridA (t : Sg) (D : Dy) (r b p : Nat) : Dy := lgs (up2 (up2 (up2 (up2 (up2 (up2 (up2 D 11 b (nI 0)) 12 b (nI p)) 13 b (D 13 b + (D 0 0 - D 18 r))) 14 b (if D 13 b + (D 0 0 - D 18 r) < t 69 false 0 17 then D 14 b else nI 1)) 16 r (nI 3)) 19 r (D 0 0)) 20 r (nI p)) (nI 2) (nI p) (nI r) (nI b)
def nrs (t : Sg) (D : Dy) (p : Nat) : Nat → Option Nat
  | 0 => none
  | q + 1 => if (¬ q = p ∧ D 2 q = nI 1 ∧ nI 0 < fre t D q) ∧ (∀ m, nrs t D p q = some m → way t p q < way t p m) then some q else nrs t D p q
theorem nrs_S (t : Sg) (D : Dy) (p q : Nat) : nrs t D p (q + 1) = if (¬ q = p ∧ D 2 q = nI 1 ∧ nI 0 < fre t D q) ∧ (∀ m, nrs t D p q = some m → way t p q < way t p m) then some q else nrs t D p q := rfl
theorem nrs_lt (t : Sg) (D : Dy) (p : Nat) : ∀ (n m : Nat), nrs t D p n = some m → m < n ∧ ¬ m = p ∧ D 2 m = nI 1 ∧ nI 0 < fre t D m
  | 0, m, h => by cases h
  | n + 1, m, h => by
    rw [nrs_S] at h
    split at h
    next hc => cases h; exact ⟨by omega, hc.1⟩
    next => have := nrs_lt t D p n m h; exact ⟨by omega, this.2⟩
def ridB (t : Sg) (D : Dy) (r b p : Nat) : Dy := match nrs t D p (nP t) with
  | none => up2 D 22 r (D 0 0 + nI 1)
  | some q => up2 (up2 (up2 D 22 r (D 0 0 + way t p q)) 23 r (nI q)) 12 b (nI q)
def rid (t : Sg) (D : Dy) (r b p : Nat) : Dy := if D 2 p = nI 1 ∧ nI 0 < fre t D p then ridA t D r b p else ridB t D r b p
theorem mv_rides_l {t : Sg} {D : Dy} {τ : Sg} (hA : Ag t D τ) (hT : WN t) {r p b : Nat} (hr : r < 200) (hp : p < nP t) (hb : b < nB t) : ∀ (k q : Nat), q + k = nP t → G true 156 (fun r' s' => r' = none ∧ Ag t (ridB t D r b p) s') 117 [some (.inr (.inr (69, false, 0))), some (.inl (nI r)), some (.inl (D 0 0)), some (.inl (nI p)), some (.inl (nI b)), some (.inl (oI (nrs t D p q))), some (.inl (nI q)), none] [] τ := by
  have eP := hA.P hT
  have hP := hT.P
  have hB := hT.B
  intro k
  induction k with
  | zero =>
    intro q hq
    refine G_wp 200 [117] rfl ?_
    cases hpk : nrs t D p q with
    | none =>
      refine br_ge rfl eP (by omega) (by omega) (fun h120 => ?_) (fun h120 => ?_)
      · refine ⟨fun h162 => ?_, fun h162 => ?_⟩
        · exact absurd h162 (by simp [oI])
        · refine ⟨2732 + r, (add_n rfl rfl), (by show _ < 23184; omega), _, rfl, ?_⟩
          replace hA := hA.w22 r (by omega) (((D 0 0) + (nI (1))))
          refine ⟨rfl, ?_⟩
          have e : ridB t D r b p = (up2 D 22 r (((D 0 0) + (nI (1))))) := by unfold ridB; rw [show nP t = q by omega, hpk]
          rw [e]
          exact hA
      · exact absurd h120 (by omega)
    | some m =>
      have hm := (nrs_lt t D p q m hpk).1
      refine br_ge rfl eP (by omega) (by omega) (fun h120 => ?_) (fun h120 => ?_)
      · refine ⟨fun h162 => ?_, fun h162 => ?_⟩
        · refine ⟨_, _, mv_way hA hT rfl (by omega) rfl (by omega), 2732 + r, (add_n rfl rfl), (by show _ < 23184; omega), _, rfl, ?_⟩
          replace hA := hA.w22 r (by omega) (((D 0 0) + (way t p m)))
          refine ⟨2932 + r, (add_n rfl rfl), (by show _ < 23184; omega), _, rfl, ?_⟩
          replace hA := hA.w23 r (by omega) (nI (m))
          refine ⟨1292 + b, (add_n rfl rfl), (by show _ < 23184; omega), _, rfl, ?_⟩
          replace hA := hA.w12 b (by omega) (nI (m))
          refine ⟨rfl, ?_⟩
          have e : ridB t D r b p = (up2 (up2 (up2 D 22 r (((D 0 0) + (way t p m)))) 23 r (nI (m))) 12 b (nI (m))) := by unfold ridB; rw [show nP t = q by omega, hpk]
          rw [e]
          exact hA
        · exact absurd h162 (nI_m1 (by omega))
      · exact absurd h120 (by omega)
  | succ k ih =>
    intro q hq
    refine G_wp 200 [117] rfl ?_
    cases hpk : nrs t D p q with
    | none =>
      refine br_ge rfl eP (by omega) (by omega) (fun h120 => ?_) (fun h120 => ?_)
      · exact absurd h120 (by omega)
      · refine br_eq rfl rfl (by omega) (by omega) (fun h123 => ?_) (fun h123 => ?_)
        · refine ⟨_, rfl, ?_⟩
          refine br_eq rfl rfl (by omega) (by omega) (fun h141 => ?_) (fun h141 => ?_)
          · refine ⟨oI (nrs t D p (q + 1)), (by rw [nrs_S]; first | (rw [if_pos (by simp_all)]; rfl) | (rw [if_neg (fun a => by first | exact absurd a.1.2.2 (Int32.not_lt.mpr h135) | exact absurd (a.2 _ hpk) (Int32.not_lt.mpr h153) | exact absurd a.1.2.1 h131 | exact a.1.1 h123)]; simp [hpk, oI])), nI (q + 1), nI_add _ _, ?_⟩
            refine G_fg 7 ?_
            exact ih (q + 1) (by omega)
          · exact absurd h141 (by omega)
        · refine ⟨20 + q, (add_n rfl rfl), (by show _ < 23184; omega), ?_⟩
          rw [hA.r2 q (by omega)]
          refine ⟨fun h131 => ?_, fun h131 => ?_⟩
          · refine ⟨_, rfl, ?_⟩
            refine br_eq rfl rfl (by omega) (by omega) (fun h141 => ?_) (fun h141 => ?_)
            · refine ⟨oI (nrs t D p (q + 1)), (by rw [nrs_S]; first | (rw [if_pos (by simp_all)]; rfl) | (rw [if_neg (fun a => by first | exact absurd a.1.2.2 (Int32.not_lt.mpr h135) | exact absurd (a.2 _ hpk) (Int32.not_lt.mpr h153) | exact absurd a.1.2.1 h131 | exact a.1.1 h123)]; simp [hpk, oI])), nI (q + 1), nI_add _ _, ?_⟩
              refine G_fg 7 ?_
              exact ih (q + 1) (by omega)
            · exact absurd h141 (by omega)
          · refine ⟨_, _, mv_free hA hT rfl (by omega), ?_⟩
            refine ⟨fun h135 => ?_, fun h135 => ?_⟩
            · refine ⟨_, rfl, ?_⟩
              refine br_eq rfl rfl (by omega) (by omega) (fun h141 => ?_) (fun h141 => ?_)
              · refine ⟨oI (nrs t D p (q + 1)), (by rw [nrs_S]; first | (rw [if_pos (by simp_all)]; rfl) | (rw [if_neg (fun a => by first | exact absurd a.1.2.2 (Int32.not_lt.mpr h135) | exact absurd (a.2 _ hpk) (Int32.not_lt.mpr h153) | exact absurd a.1.2.1 h131 | exact a.1.1 h123)]; simp [hpk, oI])), nI (q + 1), nI_add _ _, ?_⟩
                refine G_fg 7 ?_
                exact ih (q + 1) (by omega)
              · exact absurd h141 (by omega)
            · refine ⟨_, rfl, ?_⟩
              refine br_eq rfl rfl (by omega) (by omega) (fun h141 => ?_) (fun h141 => ?_)
              · exact absurd h141 (by omega)
              · refine ⟨fun h144 => ?_, fun h144 => ?_⟩
                · refine ⟨oI (nrs t D p (q + 1)), (by rw [nrs_S]; first | (rw [if_pos (by simp_all)]; rfl) | (rw [if_neg (fun a => by first | exact absurd a.1.2.2 (Int32.not_lt.mpr h135) | exact absurd (a.2 _ hpk) (Int32.not_lt.mpr h153) | exact absurd a.1.2.1 h131 | exact a.1.1 h123)]; simp [hpk, oI])), nI (q + 1), nI_add _ _, ?_⟩
                  refine G_fg 7 ?_
                  exact ih (q + 1) (by omega)
                · exact absurd h144 (by simp [oI])
    | some m =>
      have hm := (nrs_lt t D p q m hpk).1
      refine br_ge rfl eP (by omega) (by omega) (fun h120 => ?_) (fun h120 => ?_)
      · exact absurd h120 (by omega)
      · refine br_eq rfl rfl (by omega) (by omega) (fun h123 => ?_) (fun h123 => ?_)
        · refine ⟨_, rfl, ?_⟩
          refine br_eq rfl rfl (by omega) (by omega) (fun h141 => ?_) (fun h141 => ?_)
          · refine ⟨oI (nrs t D p (q + 1)), (by rw [nrs_S]; first | (rw [if_pos (by simp_all)]; rfl) | (rw [if_neg (fun a => by first | exact absurd a.1.2.2 (Int32.not_lt.mpr h135) | exact absurd (a.2 _ hpk) (Int32.not_lt.mpr h153) | exact absurd a.1.2.1 h131 | exact a.1.1 h123)]; simp [hpk, oI])), nI (q + 1), nI_add _ _, ?_⟩
            refine G_fg 7 ?_
            exact ih (q + 1) (by omega)
          · exact absurd h141 (by omega)
        · refine ⟨20 + q, (add_n rfl rfl), (by show _ < 23184; omega), ?_⟩
          rw [hA.r2 q (by omega)]
          refine ⟨fun h131 => ?_, fun h131 => ?_⟩
          · refine ⟨_, rfl, ?_⟩
            refine br_eq rfl rfl (by omega) (by omega) (fun h141 => ?_) (fun h141 => ?_)
            · refine ⟨oI (nrs t D p (q + 1)), (by rw [nrs_S]; first | (rw [if_pos (by simp_all)]; rfl) | (rw [if_neg (fun a => by first | exact absurd a.1.2.2 (Int32.not_lt.mpr h135) | exact absurd (a.2 _ hpk) (Int32.not_lt.mpr h153) | exact absurd a.1.2.1 h131 | exact a.1.1 h123)]; simp [hpk, oI])), nI (q + 1), nI_add _ _, ?_⟩
              refine G_fg 7 ?_
              exact ih (q + 1) (by omega)
            · exact absurd h141 (by omega)
          · refine ⟨_, _, mv_free hA hT rfl (by omega), ?_⟩
            refine ⟨fun h135 => ?_, fun h135 => ?_⟩
            · refine ⟨_, rfl, ?_⟩
              refine br_eq rfl rfl (by omega) (by omega) (fun h141 => ?_) (fun h141 => ?_)
              · refine ⟨oI (nrs t D p (q + 1)), (by rw [nrs_S]; first | (rw [if_pos (by simp_all)]; rfl) | (rw [if_neg (fun a => by first | exact absurd a.1.2.2 (Int32.not_lt.mpr h135) | exact absurd (a.2 _ hpk) (Int32.not_lt.mpr h153) | exact absurd a.1.2.1 h131 | exact a.1.1 h123)]; simp [hpk, oI])), nI (q + 1), nI_add _ _, ?_⟩
                refine G_fg 7 ?_
                exact ih (q + 1) (by omega)
              · exact absurd h141 (by omega)
            · refine ⟨_, rfl, ?_⟩
              refine br_eq rfl rfl (by omega) (by omega) (fun h141 => ?_) (fun h141 => ?_)
              · exact absurd h141 (by omega)
              · refine ⟨fun h144 => ?_, fun h144 => ?_⟩
                · exact absurd h144 (nI_m1 (by omega))
                · refine ⟨_, _, mv_way hA hT rfl (by omega) rfl (by omega), _, _, mv_way hA hT rfl (by omega) rfl (by omega), ?_⟩
                  refine ⟨fun h153 => ?_, fun h153 => ?_⟩
                  · refine ⟨oI (nrs t D p (q + 1)), (by rw [nrs_S]; first | (rw [if_pos (by simp_all)]; rfl) | (rw [if_neg (fun a => by first | exact absurd a.1.2.2 (Int32.not_lt.mpr h135) | exact absurd (a.2 _ hpk) (Int32.not_lt.mpr h153) | exact absurd a.1.2.1 h131 | exact a.1.1 h123)]; simp [hpk, oI])), nI (q + 1), nI_add _ _, ?_⟩
                    refine G_fg 7 ?_
                    exact ih (q + 1) (by omega)
                  · refine ⟨oI (nrs t D p (q + 1)), (by rw [nrs_S]; first | (rw [if_pos (by simp_all)]; rfl) | (rw [if_neg (fun a => by first | exact absurd a.1.2.2 (Int32.not_lt.mpr h135) | exact absurd (a.2 _ hpk) (Int32.not_lt.mpr h153) | exact absurd a.1.2.1 h131 | exact a.1.1 h123)]; simp [hpk, oI])), nI (q + 1), nI_add _ _, ?_⟩
                    refine G_fg 7 ?_
                    exact ih (q + 1) (by omega)
theorem mv_rides {t : Sg} {D : Dy} {τ : Sg} (hA : Ag t D τ) (hT : WN t) {r p b : Nat} (hr : r < 200) (hp : p < nP t) (hb : b < nB t) {x : Int32} (hx : x = nI r) (h7 : Is (D 0 7) 4000) (hgo : D 23 r = nI p) (hbk : D 17 r = nI b) : ∃ τ', Ev true 156 [.inr (.inr (69, false, 0)), .inl (x)] τ none τ' ∧ Ag t (rid t D r b p) τ' := by
  subst hx
  have hP := hT.P
  have hB := hT.B
  have eW := hA.2 69 false 0 17 (by decide) rfl
  refine EvQ_wp 300 [117] rfl rfl ?_
  refine ⟨0, rfl, (by show _ < 23184; omega), ?_⟩
  rw [hA.r0 0 (by decide)]
  refine ⟨_, rfl, 2932 + r, (add_n rfl rfl), (by show _ < 23184; omega), ?_⟩
  rw [hA.r23 r (by omega)]
  refine ⟨nI (p), hgo, 1732 + r, (add_n rfl rfl), (by show _ < 23184; omega), ?_⟩
  rw [hA.r17 r (by omega)]
  refine ⟨nI (b), hbk, 20 + p, (add_n rfl rfl), (by show _ < 23184; omega), ?_⟩
  rw [hA.r2 p (by omega)]
  refine ⟨fun h26 => ?_, fun h26 => ?_⟩
  · refine ⟨_, rfl, _, rfl, ?_⟩
    have e : rid t D r b p = ridB t D r b p := by unfold rid; rw [if_neg (fun q => by first | exact absurd q.1 h26 | exact absurd q.2 (Int32.not_lt.mpr h30))]
    rw [e]
    exact mv_rides_l hA hT hr hp hb (nP t) 0 (by omega)
  · refine ⟨_, _, mv_free hA hT rfl (by omega), ?_⟩
    refine ⟨fun h30 => ?_, fun h30 => ?_⟩
    · refine ⟨_, rfl, _, rfl, ?_⟩
      have e : rid t D r b p = ridB t D r b p := by unfold rid; rw [if_neg (fun q => by first | exact absurd q.1 h26 | exact absurd q.2 (Int32.not_lt.mpr h30))]
      rw [e]
      exact mv_rides_l hA hT hr hp hb (nP t) 0 (by omega)
    · refine ⟨1232 + b, (add_n rfl rfl), (by show _ < 23184; omega), _, rfl, ?_⟩
      replace hA := hA.w11 b (by omega) (nI (0))
      refine ⟨1292 + b, (add_n rfl rfl), (by show _ < 23184; omega), _, rfl, ?_⟩
      replace hA := hA.w12 b (by omega) (nI (p))
      refine ⟨1352 + b, (add_n rfl rfl), (by show _ < 23184; omega), ?_⟩
      rw [hA.r13 b (by omega)]
      refine ⟨1932 + r, (add_n rfl rfl), (by show _ < 23184; omega), ?_⟩
      rw [hA.r18 r (by omega)]
      refine ⟨1352 + b, (add_n rfl rfl), (by show _ < 23184; omega), _, rfl, ?_⟩
      replace hA := hA.w13 b (by omega) ((((up2 (up2 D 11 b (nI (0))) 12 b (nI (p))) 13 b) + ((D 0 0) - ((up2 (up2 D 11 b (nI (0))) 12 b (nI (p))) 18 r))))
      refine ⟨1352 + b, (add_n rfl rfl), (by show _ < 23184; omega), ?_⟩
      rw [hA.r13 b (by omega)]
      refine ⟨fun h75 => ?_, fun h75 => ?_⟩
      · refine ⟨1412 + b, (add_n rfl rfl), (by show _ < 23184; omega), ?_⟩
        rw [hA.r14 b (by omega)]
        refine ⟨1412 + b, (add_n rfl rfl), (by show _ < 23184; omega), _, rfl, ?_⟩
        replace hA := hA.w14 b (by omega) (((up2 (up2 (up2 D 11 b (nI (0))) 12 b (nI (p))) 13 b ((((up2 (up2 D 11 b (nI (0))) 12 b (nI (p))) 13 b) + ((D 0 0) - ((up2 (up2 D 11 b (nI (0))) 12 b (nI (p))) 18 r))))) 14 b))
        refine ⟨1532 + r, (add_n rfl rfl), (by show _ < 23184; omega), _, rfl, ?_⟩
        replace hA := hA.w16 r (by omega) (nI (3))
        refine ⟨2132 + r, (add_n rfl rfl), (by show _ < 23184; omega), _, rfl, ?_⟩
        replace hA := hA.w19 r (by omega) (D 0 0)
        refine ⟨2332 + r, (add_n rfl rfl), (by show _ < 23184; omega), _, rfl, ?_⟩
        replace hA := hA.w20 r (by omega) (nI (p))
        have h7 : Is ((up2 (up2 (up2 (up2 (up2 (up2 (up2 D 11 b (nI (0))) 12 b (nI (p))) 13 b ((((up2 (up2 D 11 b (nI (0))) 12 b (nI (p))) 13 b) + ((D 0 0) - ((up2 (up2 D 11 b (nI (0))) 12 b (nI (p))) 18 r))))) 14 b (((up2 (up2 (up2 D 11 b (nI (0))) 12 b (nI (p))) 13 b ((((up2 (up2 D 11 b (nI (0))) 12 b (nI (p))) 13 b) + ((D 0 0) - ((up2 (up2 D 11 b (nI (0))) 12 b (nI (p))) 18 r))))) 14 b))) 16 r (nI (3))) 19 r (D 0 0)) 20 r (nI (p))) 0 7) 4000 := by simp [up2]; exact h7
        obtain ⟨τ1, ev1, hA⟩ := mv_logs hA h7 (v1 := (nI (2))) (v2 := (nI (p))) (v3 := (nI (r))) (v4 := (nI (b)))
        refine ⟨_, _, ev1, ?_⟩
        refine ⟨rfl, ?_⟩
        have e : rid t D r b p = (lgs (up2 (up2 (up2 (up2 (up2 (up2 (up2 D 11 b (nI (0))) 12 b (nI (p))) 13 b ((((up2 (up2 D 11 b (nI (0))) 12 b (nI (p))) 13 b) + ((D 0 0) - ((up2 (up2 D 11 b (nI (0))) 12 b (nI (p))) 18 r))))) 14 b (((up2 (up2 (up2 D 11 b (nI (0))) 12 b (nI (p))) 13 b ((((up2 (up2 D 11 b (nI (0))) 12 b (nI (p))) 13 b) + ((D 0 0) - ((up2 (up2 D 11 b (nI (0))) 12 b (nI (p))) 18 r))))) 14 b))) 16 r (nI (3))) 19 r (D 0 0)) 20 r (nI (p))) (nI (2)) (nI (p)) (nI (r)) (nI (b))) := by
          unfold rid
          rw [if_pos ⟨h26, i_nle h30⟩]
          unfold ridA
          rw [if_pos (by simpa [up2, up4, eW] using h75)]
          simp [up2]
        rw [e]
        exact hA
      · refine ⟨1412 + b, (add_n rfl rfl), (by show _ < 23184; omega), _, rfl, ?_⟩
        replace hA := hA.w14 b (by omega) (nI (1))
        refine ⟨1532 + r, (add_n rfl rfl), (by show _ < 23184; omega), _, rfl, ?_⟩
        replace hA := hA.w16 r (by omega) (nI (3))
        refine ⟨2132 + r, (add_n rfl rfl), (by show _ < 23184; omega), _, rfl, ?_⟩
        replace hA := hA.w19 r (by omega) (D 0 0)
        refine ⟨2332 + r, (add_n rfl rfl), (by show _ < 23184; omega), _, rfl, ?_⟩
        replace hA := hA.w20 r (by omega) (nI (p))
        have h7 : Is ((up2 (up2 (up2 (up2 (up2 (up2 (up2 D 11 b (nI (0))) 12 b (nI (p))) 13 b ((((up2 (up2 D 11 b (nI (0))) 12 b (nI (p))) 13 b) + ((D 0 0) - ((up2 (up2 D 11 b (nI (0))) 12 b (nI (p))) 18 r))))) 14 b (nI (1))) 16 r (nI (3))) 19 r (D 0 0)) 20 r (nI (p))) 0 7) 4000 := by simp [up2]; exact h7
        obtain ⟨τ1, ev1, hA⟩ := mv_logs hA h7 (v1 := (nI (2))) (v2 := (nI (p))) (v3 := (nI (r))) (v4 := (nI (b)))
        refine ⟨_, _, ev1, ?_⟩
        refine ⟨rfl, ?_⟩
        have e : rid t D r b p = (lgs (up2 (up2 (up2 (up2 (up2 (up2 (up2 D 11 b (nI (0))) 12 b (nI (p))) 13 b ((((up2 (up2 D 11 b (nI (0))) 12 b (nI (p))) 13 b) + ((D 0 0) - ((up2 (up2 D 11 b (nI (0))) 12 b (nI (p))) 18 r))))) 14 b (nI (1))) 16 r (nI (3))) 19 r (D 0 0)) 20 r (nI (p))) (nI (2)) (nI (p)) (nI (r)) (nI (b))) := by
          unfold rid
          rw [if_pos ⟨h26, i_nle h30⟩]
          unfold ridA
          rw [if_neg (by simpa [up2, up4, eW] using h75)]
          simp [up2]
        rw [e]
        exact hA
def los (D : Dy) (r p : Nat) (st : Int32) : Dy := lgs (up2 (up2 (up2 D 16 r st) 4 p (D 4 p + nI 1)) 8 (24 * p + nN (D 0 0) / 60) (D 8 (24 * p + nN (D 0 0) / 60) + nI 1)) (if st = nI 4 then nI 3 else nI 4) (nI p) (nI r) (-1)
def tak (t : Sg) (D : Dy) (r p q b : Nat) : Dy := lgs (up2 (up2 (up2 (up2 (up2 (up2 (up2 (up2 (up2 (up2 (up2 (up2 D 16 r (nI 2)) 17 r (nI b)) 18 r (D 0 0)) 21 r (D 1 p)) 0 1 (D 0 1 + D 1 p)) 22 r (D 0 0 + way t p q)) 23 r (nI q)) 11 b (nI 1)) 12 b (nI q)) 3 p (D 3 p + nI 1)) 6 p (D 6 p + nI 1)) 7 (24 * p + nN (D 0 0) / 60) (D 7 (24 * p + nN (D 0 0) / 60) + nI 1)) (nI 1) (nI p) (nI r) (nI b)
def cms (t : Sg) (D : Dy) (r p q k : Nat) : Dy :=
  if D 2 p = nI 0 ∨ t 80 false 0 k < D 1 p then
    (if D 16 r = nI 0 then los D r p (nI 4) else if t 81 false 0 k ≤ D 0 0 - t 76 false 0 r then los D r p (nI 5) else D)
  else match pik D p (nB t) with
    | none => if t 81 false 0 k ≤ D 0 0 - t 76 false 0 r then los (up2 D 16 r (nI 1)) r p (nI 5) else up2 D 16 r (nI 1)
    | some b => tak t D r p q b
theorem mv_loses4 {t : Sg} {D : Dy} {τ : Sg} (hA : Ag t D τ) (hT : WN t) {r p : Nat} {x : Int32} (hx : x = nI r) (hr : r < 200) (hp : p < nP t) (hF : t 77 false 0 r = nI p) (h7 : Is (D 0 7) 4000) (hm : D 0 0 = nI (nN (D 0 0))) (hm2 : nN (D 0 0) < 1440) : ∃ τ', Ev true 119 [.inr (.inr (69, false, 0)), .inl (x), .inl (nI (4))] τ none τ' ∧ Ag t (los D r p (nI 4)) τ' := by
  subst hx
  have hP := hT.P
  have eF : τ 77 false 0 r = nI p := (hA.2 77 _ _ _ (by decide) rfl).trans hF
  refine EvQ_wp 72 [] rfl rfl ?_
  refine ⟨r, rfl, (by show _ < 200; omega), nI (p), eF, 1532 + r, (add_n rfl rfl), (by show _ < 23184; omega), _, rfl, ?_⟩
  replace hA := hA.w16 r (by omega) (nI (4))
  refine ⟨44 + p, (add_n rfl rfl), (by show _ < 23184; omega), ?_⟩
  rw [hA.r4 p (by omega)]
  refine ⟨44 + p, (add_n rfl rfl), (by show _ < 23184; omega), _, rfl, ?_⟩
  replace hA := hA.w4 p (by omega) ((((up2 D 16 r (nI (4))) 4 p) + (nI (1))))
  refine ⟨0, rfl, (by show _ < 23184; omega), ?_⟩
  rw [hA.r0 0 (by decide)]
  refine ⟨(by decide), 368 + ((24 * p) + ((nN (D 0 0)) / 60)), (add_nr (add_n rfl (mul_n rfl rfl)) (div_n (by first | exact hm | (simp [up2]; exact hm)) rfl ⟨by omega, by omega, by omega⟩)), (by show _ < 23184; omega), ?_⟩
  rw [hA.r8 ((24 * p) + ((nN (D 0 0)) / 60)) (by omega)]
  refine ⟨368 + ((24 * p) + ((nN (D 0 0)) / 60)), (add_nr (add_n rfl (mul_n rfl rfl)) (div_n (by first | exact hm | (simp [up2]; exact hm)) rfl ⟨by omega, by omega, by omega⟩)), (by show _ < 23184; omega), _, rfl, ?_⟩
  replace hA := hA.w8 ((24 * p) + ((nN (D 0 0)) / 60)) (by omega) ((((up2 (up2 D 16 r (nI (4))) 4 p ((((up2 D 16 r (nI (4))) 4 p) + (nI (1))))) 8 ((24 * p) + ((nN (D 0 0)) / 60))) + (nI (1))))
  refine br_ne rfl rfl (by omega) (by omega) (fun h44 => ?_) (fun h44 => ?_)
  · exact absurd h44 (by omega)
  · have h7 : Is ((up2 (up2 (up2 D 16 r (nI (4))) 4 p ((((up2 D 16 r (nI (4))) 4 p) + (nI (1))))) 8 ((24 * p) + ((nN (D 0 0)) / 60)) ((((up2 (up2 D 16 r (nI (4))) 4 p ((((up2 D 16 r (nI (4))) 4 p) + (nI (1))))) 8 ((24 * p) + ((nN (D 0 0)) / 60))) + (nI (1))))) 0 7) 4000 := by simp [up2]; exact h7
    obtain ⟨τ1, ev1, hA⟩ := mv_logs hA h7 (v1 := (nI (3))) (v2 := (nI (p))) (v3 := (nI (r))) (v4 := (-1))
    refine ⟨_, _, ev1, ?_⟩
    refine ⟨rfl, ?_⟩
    have e : los D r p (nI 4) = (lgs (up2 (up2 (up2 D 16 r (nI (4))) 4 p ((((up2 D 16 r (nI (4))) 4 p) + (nI (1))))) 8 ((24 * p) + ((nN (D 0 0)) / 60)) ((((up2 (up2 D 16 r (nI (4))) 4 p ((((up2 D 16 r (nI (4))) 4 p) + (nI (1))))) 8 ((24 * p) + ((nN (D 0 0)) / 60))) + (nI (1))))) (nI (3)) (nI (p)) (nI (r)) (-1)) := by
      unfold los
      rw [if_pos (by decide)]
      simp [up2]
    rw [e]
    exact hA
theorem mv_loses5 {t : Sg} {D : Dy} {τ : Sg} (hA : Ag t D τ) (hT : WN t) {r p : Nat} {x : Int32} (hx : x = nI r) (hr : r < 200) (hp : p < nP t) (hF : t 77 false 0 r = nI p) (h7 : Is (D 0 7) 4000) (hm : D 0 0 = nI (nN (D 0 0))) (hm2 : nN (D 0 0) < 1440) : ∃ τ', Ev true 119 [.inr (.inr (69, false, 0)), .inl (x), .inl (nI (5))] τ none τ' ∧ Ag t (los D r p (nI 5)) τ' := by
  subst hx
  have hP := hT.P
  have eF : τ 77 false 0 r = nI p := (hA.2 77 _ _ _ (by decide) rfl).trans hF
  refine EvQ_wp 71 [] rfl rfl ?_
  refine ⟨r, rfl, (by show _ < 200; omega), nI (p), eF, 1532 + r, (add_n rfl rfl), (by show _ < 23184; omega), _, rfl, ?_⟩
  replace hA := hA.w16 r (by omega) (nI (5))
  refine ⟨44 + p, (add_n rfl rfl), (by show _ < 23184; omega), ?_⟩
  rw [hA.r4 p (by omega)]
  refine ⟨44 + p, (add_n rfl rfl), (by show _ < 23184; omega), _, rfl, ?_⟩
  replace hA := hA.w4 p (by omega) ((((up2 D 16 r (nI (5))) 4 p) + (nI (1))))
  refine ⟨0, rfl, (by show _ < 23184; omega), ?_⟩
  rw [hA.r0 0 (by decide)]
  refine ⟨(by decide), 368 + ((24 * p) + ((nN (D 0 0)) / 60)), (add_nr (add_n rfl (mul_n rfl rfl)) (div_n (by first | exact hm | (simp [up2]; exact hm)) rfl ⟨by omega, by omega, by omega⟩)), (by show _ < 23184; omega), ?_⟩
  rw [hA.r8 ((24 * p) + ((nN (D 0 0)) / 60)) (by omega)]
  refine ⟨368 + ((24 * p) + ((nN (D 0 0)) / 60)), (add_nr (add_n rfl (mul_n rfl rfl)) (div_n (by first | exact hm | (simp [up2]; exact hm)) rfl ⟨by omega, by omega, by omega⟩)), (by show _ < 23184; omega), _, rfl, ?_⟩
  replace hA := hA.w8 ((24 * p) + ((nN (D 0 0)) / 60)) (by omega) ((((up2 (up2 D 16 r (nI (5))) 4 p ((((up2 D 16 r (nI (5))) 4 p) + (nI (1))))) 8 ((24 * p) + ((nN (D 0 0)) / 60))) + (nI (1))))
  refine br_ne rfl rfl (by omega) (by omega) (fun h44 => ?_) (fun h44 => ?_)
  · have h7 : Is ((up2 (up2 (up2 D 16 r (nI (5))) 4 p ((((up2 D 16 r (nI (5))) 4 p) + (nI (1))))) 8 ((24 * p) + ((nN (D 0 0)) / 60)) ((((up2 (up2 D 16 r (nI (5))) 4 p ((((up2 D 16 r (nI (5))) 4 p) + (nI (1))))) 8 ((24 * p) + ((nN (D 0 0)) / 60))) + (nI (1))))) 0 7) 4000 := by simp [up2]; exact h7
    obtain ⟨τ1, ev1, hA⟩ := mv_logs hA h7 (v1 := (nI (4))) (v2 := (nI (p))) (v3 := (nI (r))) (v4 := (-1))
    refine ⟨_, _, ev1, ?_⟩
    refine ⟨rfl, ?_⟩
    have e : los D r p (nI 5) = (lgs (up2 (up2 (up2 D 16 r (nI (5))) 4 p ((((up2 D 16 r (nI (5))) 4 p) + (nI (1))))) 8 ((24 * p) + ((nN (D 0 0)) / 60)) ((((up2 (up2 D 16 r (nI (5))) 4 p ((((up2 D 16 r (nI (5))) 4 p) + (nI (1))))) 8 ((24 * p) + ((nN (D 0 0)) / 60))) + (nI (1))))) (nI (4)) (nI (p)) (nI (r)) (-1)) := by
      unfold los
      rw [if_neg (by decide)]
      simp [up2]
    rw [e]
    exact hA
  · exact absurd h44 (by omega)
theorem mv_comes_none {t : Sg} {D : Dy} {τ : Sg} (hA : Ag t D τ) (hT : WN t) {r p q k b : Nat} {x : Int32} (hx : x = nI r) (hr : r < 200) (hp : p < nP t) (hF : t 77 false 0 r = nI p) (hG : t 78 false 0 r = nI q) (hq : q < nP t) (hK : t 79 false 0 r = nI k) (hk : k < 4) (h7 : Is (D 0 7) 4000) (hm : D 0 0 = nI (nN (D 0 0))) (hm2 : nN (D 0 0) < 1440) (hpk : pik D p (nB t) = none) : ∃ τ', Ev true 158 [.inr (.inr (69, false, 0)), .inl (x)] τ none τ' ∧ Ag t (cms t D r p q k) τ' := by
  subst hx
  have hP := hT.P
  have hB := hT.B
  have eF : τ 77 false 0 r = nI p := (hA.2 77 _ _ _ (by decide) rfl).trans hF
  have eG : τ 78 false 0 r = nI q := (hA.2 78 _ _ _ (by decide) rfl).trans hG
  have eK : τ 79 false 0 r = nI k := (hA.2 79 _ _ _ (by decide) rfl).trans hK
  refine EvQ_wp 300 [] rfl rfl ?_
  refine ⟨0, rfl, (by show _ < 23184; omega), ?_⟩
  rw [hA.r0 0 (by decide)]
  refine ⟨_, rfl, r, rfl, (by show _ < 200; omega), nI (p), eF, 1532 + r, (add_n rfl rfl), (by show _ < 23184; omega), ?_⟩
  rw [hA.r16 r (by omega)]
  refine ⟨fun h16 => ?_, fun h16 => ?_⟩
  · refine ⟨_, rfl, r, rfl, (by show _ < 200; omega), ?_⟩
    rw [hA.2 76 _ _ _ (by decide) rfl]
    refine ⟨r, rfl, (by show _ < 200; omega), k, eK, (by show _ < 4; omega), ?_⟩
    rw [hA.2 81 _ _ _ (by decide) rfl]
    refine ⟨fun h34 => ?_, fun h34 => ?_⟩
    · refine ⟨_, rfl, 20 + p, (add_n rfl rfl), (by show _ < 23184; omega), ?_⟩
      rw [hA.r2 p (by omega)]
      refine ⟨fun h45 => ?_, fun h45 => ?_⟩
      · refine br_eq rfl rfl (by omega) (by omega) (fun h61 => ?_) (fun h61 => ?_)
        · refine br_eq rfl rfl (by omega) (by omega) (fun h68 => ?_) (fun h68 => ?_)
          · refine ⟨rfl, ?_⟩
            have e : cms t D r p q k = D := by
              unfold cms
              rw [if_pos (Or.inl h45)]
              rw [if_neg h16]
              rw [if_neg (Int32.not_le.mpr h34)]
            rw [e]
            exact hA
          · exact absurd h68 (by omega)
        · exact absurd h61 (by omega)
      · refine ⟨8 + p, (add_n rfl rfl), (by show _ < 23184; omega), ?_⟩
        rw [hA.r1 p (by omega)]
        refine ⟨r, rfl, (by show _ < 200; omega), k, eK, (by show _ < 4; omega), ?_⟩
        rw [hA.2 80 _ _ _ (by decide) rfl]
        refine ⟨fun h59 => ?_, fun h59 => ?_⟩
        · have q9 := mv_pick hA hT (x := nI p) rfl
          rw [hpk] at q9
          refine ⟨_, _, q9, _, rfl, ?_⟩
          refine ⟨fun h80 => ?_, fun h80 => ?_⟩
          · exact absurd h80 (by simp [oI])
          · refine ⟨1532 + r, (add_n rfl rfl), (by show _ < 23184; omega), _, rfl, ?_⟩
            replace hA := hA.w16 r (by omega) (nI (1))
            refine br_eq rfl rfl (by omega) (by omega) (fun h89 => ?_) (fun h89 => ?_)
            · refine ⟨rfl, ?_⟩
              have e : cms t D r p q k = (up2 D 16 r (nI (1))) := by
                unfold cms
                rw [if_neg (fun q => q.elim h45 (fun q => absurd q (Int32.not_lt.mpr h59)))]
                rw [hpk]
                dsimp only
                rw [if_neg (Int32.not_le.mpr h34)]
              rw [e]
              exact hA
            · exact absurd h89 (by omega)
        · refine br_eq rfl rfl (by omega) (by omega) (fun h61 => ?_) (fun h61 => ?_)
          · refine br_eq rfl rfl (by omega) (by omega) (fun h68 => ?_) (fun h68 => ?_)
            · refine ⟨rfl, ?_⟩
              have e : cms t D r p q k = D := by
                unfold cms
                rw [if_pos (Or.inr (i_nle h59))]
                rw [if_neg h16]
                rw [if_neg (Int32.not_le.mpr h34)]
              rw [e]
              exact hA
            · exact absurd h68 (by omega)
          · exact absurd h61 (by omega)
    · refine ⟨_, rfl, 20 + p, (add_n rfl rfl), (by show _ < 23184; omega), ?_⟩
      rw [hA.r2 p (by omega)]
      refine ⟨fun h45 => ?_, fun h45 => ?_⟩
      · refine br_eq rfl rfl (by omega) (by omega) (fun h61 => ?_) (fun h61 => ?_)
        · refine br_eq rfl rfl (by omega) (by omega) (fun h68 => ?_) (fun h68 => ?_)
          · exact absurd h68 (by omega)
          · obtain ⟨τ1, ev1, hA⟩ := mv_loses5 hA hT rfl hr hp hF h7 hm hm2
            refine ⟨_, _, ev1, ?_⟩
            refine ⟨rfl, ?_⟩
            have e : cms t D r p q k = (los D r p (nI 5)) := by
              unfold cms
              rw [if_pos (Or.inl h45)]
              rw [if_neg h16]
              rw [if_pos (i_nlt h34)]
            rw [e]
            exact hA
        · exact absurd h61 (by omega)
      · refine ⟨8 + p, (add_n rfl rfl), (by show _ < 23184; omega), ?_⟩
        rw [hA.r1 p (by omega)]
        refine ⟨r, rfl, (by show _ < 200; omega), k, eK, (by show _ < 4; omega), ?_⟩
        rw [hA.2 80 _ _ _ (by decide) rfl]
        refine ⟨fun h59 => ?_, fun h59 => ?_⟩
        · have q9 := mv_pick hA hT (x := nI p) rfl
          rw [hpk] at q9
          refine ⟨_, _, q9, _, rfl, ?_⟩
          refine ⟨fun h80 => ?_, fun h80 => ?_⟩
          · exact absurd h80 (by simp [oI])
          · refine ⟨1532 + r, (add_n rfl rfl), (by show _ < 23184; omega), _, rfl, ?_⟩
            replace hA := hA.w16 r (by omega) (nI (1))
            refine br_eq rfl rfl (by omega) (by omega) (fun h89 => ?_) (fun h89 => ?_)
            · exact absurd h89 (by omega)
            · obtain ⟨τ1, ev1, hA⟩ := mv_loses5 hA hT rfl hr hp hF (by simpa [up2] using h7) (by simpa [up2] using hm) (by simpa [up2] using hm2)
              refine ⟨_, _, ev1, ?_⟩
              refine ⟨rfl, ?_⟩
              have e : cms t D r p q k = (los (up2 D 16 r (nI (1))) r p (nI 5)) := by
                unfold cms
                rw [if_neg (fun q => q.elim h45 (fun q => absurd q (Int32.not_lt.mpr h59)))]
                rw [hpk]
                dsimp only
                rw [if_pos (i_nlt h34)]
              rw [e]
              exact hA
        · refine br_eq rfl rfl (by omega) (by omega) (fun h61 => ?_) (fun h61 => ?_)
          · refine br_eq rfl rfl (by omega) (by omega) (fun h68 => ?_) (fun h68 => ?_)
            · exact absurd h68 (by omega)
            · obtain ⟨τ1, ev1, hA⟩ := mv_loses5 hA hT rfl hr hp hF h7 hm hm2
              refine ⟨_, _, ev1, ?_⟩
              refine ⟨rfl, ?_⟩
              have e : cms t D r p q k = (los D r p (nI 5)) := by
                unfold cms
                rw [if_pos (Or.inr (i_nle h59))]
                rw [if_neg h16]
                rw [if_pos (i_nlt h34)]
              rw [e]
              exact hA
          · exact absurd h61 (by omega)
  · refine ⟨_, rfl, r, rfl, (by show _ < 200; omega), ?_⟩
    rw [hA.2 76 _ _ _ (by decide) rfl]
    refine ⟨r, rfl, (by show _ < 200; omega), k, eK, (by show _ < 4; omega), ?_⟩
    rw [hA.2 81 _ _ _ (by decide) rfl]
    refine ⟨fun h34 => ?_, fun h34 => ?_⟩
    · refine ⟨_, rfl, 20 + p, (add_n rfl rfl), (by show _ < 23184; omega), ?_⟩
      rw [hA.r2 p (by omega)]
      refine ⟨fun h45 => ?_, fun h45 => ?_⟩
      · refine br_eq rfl rfl (by omega) (by omega) (fun h61 => ?_) (fun h61 => ?_)
        · exact absurd h61 (by omega)
        · obtain ⟨τ1, ev1, hA⟩ := mv_loses4 hA hT rfl hr hp hF h7 hm hm2
          refine ⟨_, _, ev1, ?_⟩
          refine ⟨rfl, ?_⟩
          have e : cms t D r p q k = (los D r p (nI 4)) := by
            unfold cms
            rw [if_pos (Or.inl h45)]
            rw [if_pos h16]
          rw [e]
          exact hA
      · refine ⟨8 + p, (add_n rfl rfl), (by show _ < 23184; omega), ?_⟩
        rw [hA.r1 p (by omega)]
        refine ⟨r, rfl, (by show _ < 200; omega), k, eK, (by show _ < 4; omega), ?_⟩
        rw [hA.2 80 _ _ _ (by decide) rfl]
        refine ⟨fun h59 => ?_, fun h59 => ?_⟩
        · have q9 := mv_pick hA hT (x := nI p) rfl
          rw [hpk] at q9
          refine ⟨_, _, q9, _, rfl, ?_⟩
          refine ⟨fun h80 => ?_, fun h80 => ?_⟩
          · exact absurd h80 (by simp [oI])
          · refine ⟨1532 + r, (add_n rfl rfl), (by show _ < 23184; omega), _, rfl, ?_⟩
            replace hA := hA.w16 r (by omega) (nI (1))
            refine br_eq rfl rfl (by omega) (by omega) (fun h89 => ?_) (fun h89 => ?_)
            · refine ⟨rfl, ?_⟩
              have e : cms t D r p q k = (up2 D 16 r (nI (1))) := by
                unfold cms
                rw [if_neg (fun q => q.elim h45 (fun q => absurd q (Int32.not_lt.mpr h59)))]
                rw [hpk]
                dsimp only
                rw [if_neg (Int32.not_le.mpr h34)]
              rw [e]
              exact hA
            · exact absurd h89 (by omega)
        · refine br_eq rfl rfl (by omega) (by omega) (fun h61 => ?_) (fun h61 => ?_)
          · exact absurd h61 (by omega)
          · obtain ⟨τ1, ev1, hA⟩ := mv_loses4 hA hT rfl hr hp hF h7 hm hm2
            refine ⟨_, _, ev1, ?_⟩
            refine ⟨rfl, ?_⟩
            have e : cms t D r p q k = (los D r p (nI 4)) := by
              unfold cms
              rw [if_pos (Or.inr (i_nle h59))]
              rw [if_pos h16]
            rw [e]
            exact hA
    · refine ⟨_, rfl, 20 + p, (add_n rfl rfl), (by show _ < 23184; omega), ?_⟩
      rw [hA.r2 p (by omega)]
      refine ⟨fun h45 => ?_, fun h45 => ?_⟩
      · refine br_eq rfl rfl (by omega) (by omega) (fun h61 => ?_) (fun h61 => ?_)
        · exact absurd h61 (by omega)
        · obtain ⟨τ1, ev1, hA⟩ := mv_loses4 hA hT rfl hr hp hF h7 hm hm2
          refine ⟨_, _, ev1, ?_⟩
          refine ⟨rfl, ?_⟩
          have e : cms t D r p q k = (los D r p (nI 4)) := by
            unfold cms
            rw [if_pos (Or.inl h45)]
            rw [if_pos h16]
          rw [e]
          exact hA
      · refine ⟨8 + p, (add_n rfl rfl), (by show _ < 23184; omega), ?_⟩
        rw [hA.r1 p (by omega)]
        refine ⟨r, rfl, (by show _ < 200; omega), k, eK, (by show _ < 4; omega), ?_⟩
        rw [hA.2 80 _ _ _ (by decide) rfl]
        refine ⟨fun h59 => ?_, fun h59 => ?_⟩
        · have q9 := mv_pick hA hT (x := nI p) rfl
          rw [hpk] at q9
          refine ⟨_, _, q9, _, rfl, ?_⟩
          refine ⟨fun h80 => ?_, fun h80 => ?_⟩
          · exact absurd h80 (by simp [oI])
          · refine ⟨1532 + r, (add_n rfl rfl), (by show _ < 23184; omega), _, rfl, ?_⟩
            replace hA := hA.w16 r (by omega) (nI (1))
            refine br_eq rfl rfl (by omega) (by omega) (fun h89 => ?_) (fun h89 => ?_)
            · exact absurd h89 (by omega)
            · obtain ⟨τ1, ev1, hA⟩ := mv_loses5 hA hT rfl hr hp hF (by simpa [up2] using h7) (by simpa [up2] using hm) (by simpa [up2] using hm2)
              refine ⟨_, _, ev1, ?_⟩
              refine ⟨rfl, ?_⟩
              have e : cms t D r p q k = (los (up2 D 16 r (nI (1))) r p (nI 5)) := by
                unfold cms
                rw [if_neg (fun q => q.elim h45 (fun q => absurd q (Int32.not_lt.mpr h59)))]
                rw [hpk]
                dsimp only
                rw [if_pos (i_nlt h34)]
              rw [e]
              exact hA
        · refine br_eq rfl rfl (by omega) (by omega) (fun h61 => ?_) (fun h61 => ?_)
          · exact absurd h61 (by omega)
          · obtain ⟨τ1, ev1, hA⟩ := mv_loses4 hA hT rfl hr hp hF h7 hm hm2
            refine ⟨_, _, ev1, ?_⟩
            refine ⟨rfl, ?_⟩
            have e : cms t D r p q k = (los D r p (nI 4)) := by
              unfold cms
              rw [if_pos (Or.inr (i_nle h59))]
              rw [if_pos h16]
            rw [e]
            exact hA
theorem mv_comes_some {t : Sg} {D : Dy} {τ : Sg} (hA : Ag t D τ) (hT : WN t) {r p q k b : Nat} {x : Int32} (hx : x = nI r) (hr : r < 200) (hp : p < nP t) (hF : t 77 false 0 r = nI p) (hG : t 78 false 0 r = nI q) (hq : q < nP t) (hK : t 79 false 0 r = nI k) (hk : k < 4) (h7 : Is (D 0 7) 4000) (hm : D 0 0 = nI (nN (D 0 0))) (hm2 : nN (D 0 0) < 1440) (hpk : pik D p (nB t) = some b) : ∃ τ', Ev true 158 [.inr (.inr (69, false, 0)), .inl (x)] τ none τ' ∧ Ag t (cms t D r p q k) τ' := by
  subst hx
  have hP := hT.P
  have hB := hT.B
  have eF : τ 77 false 0 r = nI p := (hA.2 77 _ _ _ (by decide) rfl).trans hF
  have eG : τ 78 false 0 r = nI q := (hA.2 78 _ _ _ (by decide) rfl).trans hG
  have eK : τ 79 false 0 r = nI k := (hA.2 79 _ _ _ (by decide) rfl).trans hK
  have hb2 := (pik_lt D p (nB t) b hpk).1
  refine EvQ_wp 300 [] rfl rfl ?_
  refine ⟨0, rfl, (by show _ < 23184; omega), ?_⟩
  rw [hA.r0 0 (by decide)]
  refine ⟨_, rfl, r, rfl, (by show _ < 200; omega), nI (p), eF, 1532 + r, (add_n rfl rfl), (by show _ < 23184; omega), ?_⟩
  rw [hA.r16 r (by omega)]
  refine ⟨fun h16 => ?_, fun h16 => ?_⟩
  · refine ⟨_, rfl, r, rfl, (by show _ < 200; omega), ?_⟩
    rw [hA.2 76 _ _ _ (by decide) rfl]
    refine ⟨r, rfl, (by show _ < 200; omega), k, eK, (by show _ < 4; omega), ?_⟩
    rw [hA.2 81 _ _ _ (by decide) rfl]
    refine ⟨fun h34 => ?_, fun h34 => ?_⟩
    · refine ⟨_, rfl, 20 + p, (add_n rfl rfl), (by show _ < 23184; omega), ?_⟩
      rw [hA.r2 p (by omega)]
      refine ⟨fun h45 => ?_, fun h45 => ?_⟩
      · refine br_eq rfl rfl (by omega) (by omega) (fun h61 => ?_) (fun h61 => ?_)
        · refine br_eq rfl rfl (by omega) (by omega) (fun h68 => ?_) (fun h68 => ?_)
          · refine ⟨rfl, ?_⟩
            have e : cms t D r p q k = D := by
              unfold cms
              rw [if_pos (Or.inl h45)]
              rw [if_neg h16]
              rw [if_neg (Int32.not_le.mpr h34)]
            rw [e]
            exact hA
          · exact absurd h68 (by omega)
        · exact absurd h61 (by omega)
      · refine ⟨8 + p, (add_n rfl rfl), (by show _ < 23184; omega), ?_⟩
        rw [hA.r1 p (by omega)]
        refine ⟨r, rfl, (by show _ < 200; omega), k, eK, (by show _ < 4; omega), ?_⟩
        rw [hA.2 80 _ _ _ (by decide) rfl]
        refine ⟨fun h59 => ?_, fun h59 => ?_⟩
        · have q9 := mv_pick hA hT (x := nI p) rfl
          rw [hpk] at q9
          change Ev _ _ _ _ (some (.inl (nI b))) _ at q9
          refine ⟨_, _, q9, _, rfl, ?_⟩
          refine ⟨fun h80 => ?_, fun h80 => ?_⟩
          · refine ⟨1532 + r, (add_n rfl rfl), (by show _ < 23184; omega), _, rfl, ?_⟩
            replace hA := hA.w16 r (by omega) (nI (2))
            refine ⟨1732 + r, (add_n rfl rfl), (by show _ < 23184; omega), _, rfl, ?_⟩
            replace hA := hA.w17 r (by omega) (nI (b))
            refine ⟨1932 + r, (add_n rfl rfl), (by show _ < 23184; omega), _, rfl, ?_⟩
            replace hA := hA.w18 r (by omega) (D 0 0)
            refine ⟨8 + p, (add_n rfl rfl), (by show _ < 23184; omega), ?_⟩
            rw [hA.r1 p (by omega)]
            refine ⟨2532 + r, (add_n rfl rfl), (by show _ < 23184; omega), _, rfl, ?_⟩
            replace hA := hA.w21 r (by omega) (((up2 (up2 (up2 D 16 r (nI (2))) 17 r (nI (b))) 18 r (D 0 0)) 1 p))
            refine ⟨1, rfl, (by show _ < 23184; omega), ?_⟩
            rw [hA.r0 1 (by decide)]
            refine ⟨8 + p, (add_n rfl rfl), (by show _ < 23184; omega), ?_⟩
            rw [hA.r1 p (by omega)]
            refine ⟨1, rfl, (by show _ < 23184; omega), _, rfl, ?_⟩
            replace hA := hA.w0 1 (by decide) ((((up2 (up2 (up2 (up2 D 16 r (nI (2))) 17 r (nI (b))) 18 r (D 0 0)) 21 r (((up2 (up2 (up2 D 16 r (nI (2))) 17 r (nI (b))) 18 r (D 0 0)) 1 p))) 0 1) + ((up2 (up2 (up2 (up2 D 16 r (nI (2))) 17 r (nI (b))) 18 r (D 0 0)) 21 r (((up2 (up2 (up2 D 16 r (nI (2))) 17 r (nI (b))) 18 r (D 0 0)) 1 p))) 1 p)))
            refine ⟨r, rfl, (by show _ < 200; omega), _, _, mv_way hA hT rfl (by omega) eG (by omega), 2732 + r, (add_n rfl rfl), (by show _ < 23184; omega), _, rfl, ?_⟩
            replace hA := hA.w22 r (by omega) (((D 0 0) + (way t p q)))
            refine ⟨r, rfl, (by show _ < 200; omega), 2932 + r, (add_n rfl rfl), (by show _ < 23184; omega), nI (q), eG, ?_⟩
            replace hA := hA.w23 r (by omega) (nI (q))
            refine ⟨1232 + b, (add_n rfl rfl), (by show _ < 23184; omega), _, rfl, ?_⟩
            replace hA := hA.w11 b (by omega) (nI (1))
            refine ⟨r, rfl, (by show _ < 200; omega), 1292 + b, (add_n rfl rfl), (by show _ < 23184; omega), nI (q), eG, ?_⟩
            replace hA := hA.w12 b (by omega) (nI (q))
            refine ⟨32 + p, (add_n rfl rfl), (by show _ < 23184; omega), ?_⟩
            rw [hA.r3 p (by omega)]
            refine ⟨32 + p, (add_n rfl rfl), (by show _ < 23184; omega), _, rfl, ?_⟩
            replace hA := hA.w3 p (by omega) ((((up2 (up2 (up2 (up2 (up2 (up2 (up2 (up2 (up2 D 16 r (nI (2))) 17 r (nI (b))) 18 r (D 0 0)) 21 r (((up2 (up2 (up2 D 16 r (nI (2))) 17 r (nI (b))) 18 r (D 0 0)) 1 p))) 0 1 ((((up2 (up2 (up2 (up2 D 16 r (nI (2))) 17 r (nI (b))) 18 r (D 0 0)) 21 r (((up2 (up2 (up2 D 16 r (nI (2))) 17 r (nI (b))) 18 r (D 0 0)) 1 p))) 0 1) + ((up2 (up2 (up2 (up2 D 16 r (nI (2))) 17 r (nI (b))) 18 r (D 0 0)) 21 r (((up2 (up2 (up2 D 16 r (nI (2))) 17 r (nI (b))) 18 r (D 0 0)) 1 p))) 1 p)))) 22 r (((D 0 0) + (way t p q)))) 23 r (nI (q))) 11 b (nI (1))) 12 b (nI (q))) 3 p) + (nI (1))))
            refine ⟨68 + p, (add_n rfl rfl), (by show _ < 23184; omega), ?_⟩
            rw [hA.r6 p (by omega)]
            refine ⟨68 + p, (add_n rfl rfl), (by show _ < 23184; omega), _, rfl, ?_⟩
            replace hA := hA.w6 p (by omega) ((((up2 (up2 (up2 (up2 (up2 (up2 (up2 (up2 (up2 (up2 D 16 r (nI (2))) 17 r (nI (b))) 18 r (D 0 0)) 21 r (((up2 (up2 (up2 D 16 r (nI (2))) 17 r (nI (b))) 18 r (D 0 0)) 1 p))) 0 1 ((((up2 (up2 (up2 (up2 D 16 r (nI (2))) 17 r (nI (b))) 18 r (D 0 0)) 21 r (((up2 (up2 (up2 D 16 r (nI (2))) 17 r (nI (b))) 18 r (D 0 0)) 1 p))) 0 1) + ((up2 (up2 (up2 (up2 D 16 r (nI (2))) 17 r (nI (b))) 18 r (D 0 0)) 21 r (((up2 (up2 (up2 D 16 r (nI (2))) 17 r (nI (b))) 18 r (D 0 0)) 1 p))) 1 p)))) 22 r (((D 0 0) + (way t p q)))) 23 r (nI (q))) 11 b (nI (1))) 12 b (nI (q))) 3 p ((((up2 (up2 (up2 (up2 (up2 (up2 (up2 (up2 (up2 D 16 r (nI (2))) 17 r (nI (b))) 18 r (D 0 0)) 21 r (((up2 (up2 (up2 D 16 r (nI (2))) 17 r (nI (b))) 18 r (D 0 0)) 1 p))) 0 1 ((((up2 (up2 (up2 (up2 D 16 r (nI (2))) 17 r (nI (b))) 18 r (D 0 0)) 21 r (((up2 (up2 (up2 D 16 r (nI (2))) 17 r (nI (b))) 18 r (D 0 0)) 1 p))) 0 1) + ((up2 (up2 (up2 (up2 D 16 r (nI (2))) 17 r (nI (b))) 18 r (D 0 0)) 21 r (((up2 (up2 (up2 D 16 r (nI (2))) 17 r (nI (b))) 18 r (D 0 0)) 1 p))) 1 p)))) 22 r (((D 0 0) + (way t p q)))) 23 r (nI (q))) 11 b (nI (1))) 12 b (nI (q))) 3 p) + (nI (1))))) 6 p) + (nI (1))))
            refine ⟨(by decide), 80 + ((24 * p) + ((nN (D 0 0)) / 60)), (add_nr (add_n rfl (mul_n rfl rfl)) (div_n hm rfl ⟨by omega, by omega, by omega⟩)), (by show _ < 23184; omega), ?_⟩
            rw [hA.r7 ((24 * p) + ((nN (D 0 0)) / 60)) (by omega)]
            refine ⟨80 + ((24 * p) + ((nN (D 0 0)) / 60)), (add_nr (add_n rfl (mul_n rfl rfl)) (div_n hm rfl ⟨by omega, by omega, by omega⟩)), (by show _ < 23184; omega), _, rfl, ?_⟩
            replace hA := hA.w7 ((24 * p) + ((nN (D 0 0)) / 60)) (by omega) ((((up2 (up2 (up2 (up2 (up2 (up2 (up2 (up2 (up2 (up2 (up2 D 16 r (nI (2))) 17 r (nI (b))) 18 r (D 0 0)) 21 r (((up2 (up2 (up2 D 16 r (nI (2))) 17 r (nI (b))) 18 r (D 0 0)) 1 p))) 0 1 ((((up2 (up2 (up2 (up2 D 16 r (nI (2))) 17 r (nI (b))) 18 r (D 0 0)) 21 r (((up2 (up2 (up2 D 16 r (nI (2))) 17 r (nI (b))) 18 r (D 0 0)) 1 p))) 0 1) + ((up2 (up2 (up2 (up2 D 16 r (nI (2))) 17 r (nI (b))) 18 r (D 0 0)) 21 r (((up2 (up2 (up2 D 16 r (nI (2))) 17 r (nI (b))) 18 r (D 0 0)) 1 p))) 1 p)))) 22 r (((D 0 0) + (way t p q)))) 23 r (nI (q))) 11 b (nI (1))) 12 b (nI (q))) 3 p ((((up2 (up2 (up2 (up2 (up2 (up2 (up2 (up2 (up2 D 16 r (nI (2))) 17 r (nI (b))) 18 r (D 0 0)) 21 r (((up2 (up2 (up2 D 16 r (nI (2))) 17 r (nI (b))) 18 r (D 0 0)) 1 p))) 0 1 ((((up2 (up2 (up2 (up2 D 16 r (nI (2))) 17 r (nI (b))) 18 r (D 0 0)) 21 r (((up2 (up2 (up2 D 16 r (nI (2))) 17 r (nI (b))) 18 r (D 0 0)) 1 p))) 0 1) + ((up2 (up2 (up2 (up2 D 16 r (nI (2))) 17 r (nI (b))) 18 r (D 0 0)) 21 r (((up2 (up2 (up2 D 16 r (nI (2))) 17 r (nI (b))) 18 r (D 0 0)) 1 p))) 1 p)))) 22 r (((D 0 0) + (way t p q)))) 23 r (nI (q))) 11 b (nI (1))) 12 b (nI (q))) 3 p) + (nI (1))))) 6 p ((((up2 (up2 (up2 (up2 (up2 (up2 (up2 (up2 (up2 (up2 D 16 r (nI (2))) 17 r (nI (b))) 18 r (D 0 0)) 21 r (((up2 (up2 (up2 D 16 r (nI (2))) 17 r (nI (b))) 18 r (D 0 0)) 1 p))) 0 1 ((((up2 (up2 (up2 (up2 D 16 r (nI (2))) 17 r (nI (b))) 18 r (D 0 0)) 21 r (((up2 (up2 (up2 D 16 r (nI (2))) 17 r (nI (b))) 18 r (D 0 0)) 1 p))) 0 1) + ((up2 (up2 (up2 (up2 D 16 r (nI (2))) 17 r (nI (b))) 18 r (D 0 0)) 21 r (((up2 (up2 (up2 D 16 r (nI (2))) 17 r (nI (b))) 18 r (D 0 0)) 1 p))) 1 p)))) 22 r (((D 0 0) + (way t p q)))) 23 r (nI (q))) 11 b (nI (1))) 12 b (nI (q))) 3 p ((((up2 (up2 (up2 (up2 (up2 (up2 (up2 (up2 (up2 D 16 r (nI (2))) 17 r (nI (b))) 18 r (D 0 0)) 21 r (((up2 (up2 (up2 D 16 r (nI (2))) 17 r (nI (b))) 18 r (D 0 0)) 1 p))) 0 1 ((((up2 (up2 (up2 (up2 D 16 r (nI (2))) 17 r (nI (b))) 18 r (D 0 0)) 21 r (((up2 (up2 (up2 D 16 r (nI (2))) 17 r (nI (b))) 18 r (D 0 0)) 1 p))) 0 1) + ((up2 (up2 (up2 (up2 D 16 r (nI (2))) 17 r (nI (b))) 18 r (D 0 0)) 21 r (((up2 (up2 (up2 D 16 r (nI (2))) 17 r (nI (b))) 18 r (D 0 0)) 1 p))) 1 p)))) 22 r (((D 0 0) + (way t p q)))) 23 r (nI (q))) 11 b (nI (1))) 12 b (nI (q))) 3 p) + (nI (1))))) 6 p) + (nI (1))))) 7 ((24 * p) + ((nN (D 0 0)) / 60))) + (nI (1))))
            have h7 : Is ((up2 (up2 (up2 (up2 (up2 (up2 (up2 (up2 (up2 (up2 (up2 (up2 D 16 r (nI (2))) 17 r (nI (b))) 18 r (D 0 0)) 21 r (((up2 (up2 (up2 D 16 r (nI (2))) 17 r (nI (b))) 18 r (D 0 0)) 1 p))) 0 1 ((((up2 (up2 (up2 (up2 D 16 r (nI (2))) 17 r (nI (b))) 18 r (D 0 0)) 21 r (((up2 (up2 (up2 D 16 r (nI (2))) 17 r (nI (b))) 18 r (D 0 0)) 1 p))) 0 1) + ((up2 (up2 (up2 (up2 D 16 r (nI (2))) 17 r (nI (b))) 18 r (D 0 0)) 21 r (((up2 (up2 (up2 D 16 r (nI (2))) 17 r (nI (b))) 18 r (D 0 0)) 1 p))) 1 p)))) 22 r (((D 0 0) + (way t p q)))) 23 r (nI (q))) 11 b (nI (1))) 12 b (nI (q))) 3 p ((((up2 (up2 (up2 (up2 (up2 (up2 (up2 (up2 (up2 D 16 r (nI (2))) 17 r (nI (b))) 18 r (D 0 0)) 21 r (((up2 (up2 (up2 D 16 r (nI (2))) 17 r (nI (b))) 18 r (D 0 0)) 1 p))) 0 1 ((((up2 (up2 (up2 (up2 D 16 r (nI (2))) 17 r (nI (b))) 18 r (D 0 0)) 21 r (((up2 (up2 (up2 D 16 r (nI (2))) 17 r (nI (b))) 18 r (D 0 0)) 1 p))) 0 1) + ((up2 (up2 (up2 (up2 D 16 r (nI (2))) 17 r (nI (b))) 18 r (D 0 0)) 21 r (((up2 (up2 (up2 D 16 r (nI (2))) 17 r (nI (b))) 18 r (D 0 0)) 1 p))) 1 p)))) 22 r (((D 0 0) + (way t p q)))) 23 r (nI (q))) 11 b (nI (1))) 12 b (nI (q))) 3 p) + (nI (1))))) 6 p ((((up2 (up2 (up2 (up2 (up2 (up2 (up2 (up2 (up2 (up2 D 16 r (nI (2))) 17 r (nI (b))) 18 r (D 0 0)) 21 r (((up2 (up2 (up2 D 16 r (nI (2))) 17 r (nI (b))) 18 r (D 0 0)) 1 p))) 0 1 ((((up2 (up2 (up2 (up2 D 16 r (nI (2))) 17 r (nI (b))) 18 r (D 0 0)) 21 r (((up2 (up2 (up2 D 16 r (nI (2))) 17 r (nI (b))) 18 r (D 0 0)) 1 p))) 0 1) + ((up2 (up2 (up2 (up2 D 16 r (nI (2))) 17 r (nI (b))) 18 r (D 0 0)) 21 r (((up2 (up2 (up2 D 16 r (nI (2))) 17 r (nI (b))) 18 r (D 0 0)) 1 p))) 1 p)))) 22 r (((D 0 0) + (way t p q)))) 23 r (nI (q))) 11 b (nI (1))) 12 b (nI (q))) 3 p ((((up2 (up2 (up2 (up2 (up2 (up2 (up2 (up2 (up2 D 16 r (nI (2))) 17 r (nI (b))) 18 r (D 0 0)) 21 r (((up2 (up2 (up2 D 16 r (nI (2))) 17 r (nI (b))) 18 r (D 0 0)) 1 p))) 0 1 ((((up2 (up2 (up2 (up2 D 16 r (nI (2))) 17 r (nI (b))) 18 r (D 0 0)) 21 r (((up2 (up2 (up2 D 16 r (nI (2))) 17 r (nI (b))) 18 r (D 0 0)) 1 p))) 0 1) + ((up2 (up2 (up2 (up2 D 16 r (nI (2))) 17 r (nI (b))) 18 r (D 0 0)) 21 r (((up2 (up2 (up2 D 16 r (nI (2))) 17 r (nI (b))) 18 r (D 0 0)) 1 p))) 1 p)))) 22 r (((D 0 0) + (way t p q)))) 23 r (nI (q))) 11 b (nI (1))) 12 b (nI (q))) 3 p) + (nI (1))))) 6 p) + (nI (1))))) 7 ((24 * p) + ((nN (D 0 0)) / 60)) ((((up2 (up2 (up2 (up2 (up2 (up2 (up2 (up2 (up2 (up2 (up2 D 16 r (nI (2))) 17 r (nI (b))) 18 r (D 0 0)) 21 r (((up2 (up2 (up2 D 16 r (nI (2))) 17 r (nI (b))) 18 r (D 0 0)) 1 p))) 0 1 ((((up2 (up2 (up2 (up2 D 16 r (nI (2))) 17 r (nI (b))) 18 r (D 0 0)) 21 r (((up2 (up2 (up2 D 16 r (nI (2))) 17 r (nI (b))) 18 r (D 0 0)) 1 p))) 0 1) + ((up2 (up2 (up2 (up2 D 16 r (nI (2))) 17 r (nI (b))) 18 r (D 0 0)) 21 r (((up2 (up2 (up2 D 16 r (nI (2))) 17 r (nI (b))) 18 r (D 0 0)) 1 p))) 1 p)))) 22 r (((D 0 0) + (way t p q)))) 23 r (nI (q))) 11 b (nI (1))) 12 b (nI (q))) 3 p ((((up2 (up2 (up2 (up2 (up2 (up2 (up2 (up2 (up2 D 16 r (nI (2))) 17 r (nI (b))) 18 r (D 0 0)) 21 r (((up2 (up2 (up2 D 16 r (nI (2))) 17 r (nI (b))) 18 r (D 0 0)) 1 p))) 0 1 ((((up2 (up2 (up2 (up2 D 16 r (nI (2))) 17 r (nI (b))) 18 r (D 0 0)) 21 r (((up2 (up2 (up2 D 16 r (nI (2))) 17 r (nI (b))) 18 r (D 0 0)) 1 p))) 0 1) + ((up2 (up2 (up2 (up2 D 16 r (nI (2))) 17 r (nI (b))) 18 r (D 0 0)) 21 r (((up2 (up2 (up2 D 16 r (nI (2))) 17 r (nI (b))) 18 r (D 0 0)) 1 p))) 1 p)))) 22 r (((D 0 0) + (way t p q)))) 23 r (nI (q))) 11 b (nI (1))) 12 b (nI (q))) 3 p) + (nI (1))))) 6 p ((((up2 (up2 (up2 (up2 (up2 (up2 (up2 (up2 (up2 (up2 D 16 r (nI (2))) 17 r (nI (b))) 18 r (D 0 0)) 21 r (((up2 (up2 (up2 D 16 r (nI (2))) 17 r (nI (b))) 18 r (D 0 0)) 1 p))) 0 1 ((((up2 (up2 (up2 (up2 D 16 r (nI (2))) 17 r (nI (b))) 18 r (D 0 0)) 21 r (((up2 (up2 (up2 D 16 r (nI (2))) 17 r (nI (b))) 18 r (D 0 0)) 1 p))) 0 1) + ((up2 (up2 (up2 (up2 D 16 r (nI (2))) 17 r (nI (b))) 18 r (D 0 0)) 21 r (((up2 (up2 (up2 D 16 r (nI (2))) 17 r (nI (b))) 18 r (D 0 0)) 1 p))) 1 p)))) 22 r (((D 0 0) + (way t p q)))) 23 r (nI (q))) 11 b (nI (1))) 12 b (nI (q))) 3 p ((((up2 (up2 (up2 (up2 (up2 (up2 (up2 (up2 (up2 D 16 r (nI (2))) 17 r (nI (b))) 18 r (D 0 0)) 21 r (((up2 (up2 (up2 D 16 r (nI (2))) 17 r (nI (b))) 18 r (D 0 0)) 1 p))) 0 1 ((((up2 (up2 (up2 (up2 D 16 r (nI (2))) 17 r (nI (b))) 18 r (D 0 0)) 21 r (((up2 (up2 (up2 D 16 r (nI (2))) 17 r (nI (b))) 18 r (D 0 0)) 1 p))) 0 1) + ((up2 (up2 (up2 (up2 D 16 r (nI (2))) 17 r (nI (b))) 18 r (D 0 0)) 21 r (((up2 (up2 (up2 D 16 r (nI (2))) 17 r (nI (b))) 18 r (D 0 0)) 1 p))) 1 p)))) 22 r (((D 0 0) + (way t p q)))) 23 r (nI (q))) 11 b (nI (1))) 12 b (nI (q))) 3 p) + (nI (1))))) 6 p) + (nI (1))))) 7 ((24 * p) + ((nN (D 0 0)) / 60))) + (nI (1))))) 0 7) 4000 := by simp [up2]; exact h7
            obtain ⟨τ1, ev1, hA⟩ := mv_logs hA h7 (v1 := (nI (1))) (v2 := (nI (p))) (v3 := (nI (r))) (v4 := (nI (b)))
            refine ⟨_, _, ev1, ?_⟩
            refine ⟨rfl, ?_⟩
            have e : cms t D r p q k = (lgs (up2 (up2 (up2 (up2 (up2 (up2 (up2 (up2 (up2 (up2 (up2 (up2 D 16 r (nI (2))) 17 r (nI (b))) 18 r (D 0 0)) 21 r (((up2 (up2 (up2 D 16 r (nI (2))) 17 r (nI (b))) 18 r (D 0 0)) 1 p))) 0 1 ((((up2 (up2 (up2 (up2 D 16 r (nI (2))) 17 r (nI (b))) 18 r (D 0 0)) 21 r (((up2 (up2 (up2 D 16 r (nI (2))) 17 r (nI (b))) 18 r (D 0 0)) 1 p))) 0 1) + ((up2 (up2 (up2 (up2 D 16 r (nI (2))) 17 r (nI (b))) 18 r (D 0 0)) 21 r (((up2 (up2 (up2 D 16 r (nI (2))) 17 r (nI (b))) 18 r (D 0 0)) 1 p))) 1 p)))) 22 r (((D 0 0) + (way t p q)))) 23 r (nI (q))) 11 b (nI (1))) 12 b (nI (q))) 3 p ((((up2 (up2 (up2 (up2 (up2 (up2 (up2 (up2 (up2 D 16 r (nI (2))) 17 r (nI (b))) 18 r (D 0 0)) 21 r (((up2 (up2 (up2 D 16 r (nI (2))) 17 r (nI (b))) 18 r (D 0 0)) 1 p))) 0 1 ((((up2 (up2 (up2 (up2 D 16 r (nI (2))) 17 r (nI (b))) 18 r (D 0 0)) 21 r (((up2 (up2 (up2 D 16 r (nI (2))) 17 r (nI (b))) 18 r (D 0 0)) 1 p))) 0 1) + ((up2 (up2 (up2 (up2 D 16 r (nI (2))) 17 r (nI (b))) 18 r (D 0 0)) 21 r (((up2 (up2 (up2 D 16 r (nI (2))) 17 r (nI (b))) 18 r (D 0 0)) 1 p))) 1 p)))) 22 r (((D 0 0) + (way t p q)))) 23 r (nI (q))) 11 b (nI (1))) 12 b (nI (q))) 3 p) + (nI (1))))) 6 p ((((up2 (up2 (up2 (up2 (up2 (up2 (up2 (up2 (up2 (up2 D 16 r (nI (2))) 17 r (nI (b))) 18 r (D 0 0)) 21 r (((up2 (up2 (up2 D 16 r (nI (2))) 17 r (nI (b))) 18 r (D 0 0)) 1 p))) 0 1 ((((up2 (up2 (up2 (up2 D 16 r (nI (2))) 17 r (nI (b))) 18 r (D 0 0)) 21 r (((up2 (up2 (up2 D 16 r (nI (2))) 17 r (nI (b))) 18 r (D 0 0)) 1 p))) 0 1) + ((up2 (up2 (up2 (up2 D 16 r (nI (2))) 17 r (nI (b))) 18 r (D 0 0)) 21 r (((up2 (up2 (up2 D 16 r (nI (2))) 17 r (nI (b))) 18 r (D 0 0)) 1 p))) 1 p)))) 22 r (((D 0 0) + (way t p q)))) 23 r (nI (q))) 11 b (nI (1))) 12 b (nI (q))) 3 p ((((up2 (up2 (up2 (up2 (up2 (up2 (up2 (up2 (up2 D 16 r (nI (2))) 17 r (nI (b))) 18 r (D 0 0)) 21 r (((up2 (up2 (up2 D 16 r (nI (2))) 17 r (nI (b))) 18 r (D 0 0)) 1 p))) 0 1 ((((up2 (up2 (up2 (up2 D 16 r (nI (2))) 17 r (nI (b))) 18 r (D 0 0)) 21 r (((up2 (up2 (up2 D 16 r (nI (2))) 17 r (nI (b))) 18 r (D 0 0)) 1 p))) 0 1) + ((up2 (up2 (up2 (up2 D 16 r (nI (2))) 17 r (nI (b))) 18 r (D 0 0)) 21 r (((up2 (up2 (up2 D 16 r (nI (2))) 17 r (nI (b))) 18 r (D 0 0)) 1 p))) 1 p)))) 22 r (((D 0 0) + (way t p q)))) 23 r (nI (q))) 11 b (nI (1))) 12 b (nI (q))) 3 p) + (nI (1))))) 6 p) + (nI (1))))) 7 ((24 * p) + ((nN (D 0 0)) / 60)) ((((up2 (up2 (up2 (up2 (up2 (up2 (up2 (up2 (up2 (up2 (up2 D 16 r (nI (2))) 17 r (nI (b))) 18 r (D 0 0)) 21 r (((up2 (up2 (up2 D 16 r (nI (2))) 17 r (nI (b))) 18 r (D 0 0)) 1 p))) 0 1 ((((up2 (up2 (up2 (up2 D 16 r (nI (2))) 17 r (nI (b))) 18 r (D 0 0)) 21 r (((up2 (up2 (up2 D 16 r (nI (2))) 17 r (nI (b))) 18 r (D 0 0)) 1 p))) 0 1) + ((up2 (up2 (up2 (up2 D 16 r (nI (2))) 17 r (nI (b))) 18 r (D 0 0)) 21 r (((up2 (up2 (up2 D 16 r (nI (2))) 17 r (nI (b))) 18 r (D 0 0)) 1 p))) 1 p)))) 22 r (((D 0 0) + (way t p q)))) 23 r (nI (q))) 11 b (nI (1))) 12 b (nI (q))) 3 p ((((up2 (up2 (up2 (up2 (up2 (up2 (up2 (up2 (up2 D 16 r (nI (2))) 17 r (nI (b))) 18 r (D 0 0)) 21 r (((up2 (up2 (up2 D 16 r (nI (2))) 17 r (nI (b))) 18 r (D 0 0)) 1 p))) 0 1 ((((up2 (up2 (up2 (up2 D 16 r (nI (2))) 17 r (nI (b))) 18 r (D 0 0)) 21 r (((up2 (up2 (up2 D 16 r (nI (2))) 17 r (nI (b))) 18 r (D 0 0)) 1 p))) 0 1) + ((up2 (up2 (up2 (up2 D 16 r (nI (2))) 17 r (nI (b))) 18 r (D 0 0)) 21 r (((up2 (up2 (up2 D 16 r (nI (2))) 17 r (nI (b))) 18 r (D 0 0)) 1 p))) 1 p)))) 22 r (((D 0 0) + (way t p q)))) 23 r (nI (q))) 11 b (nI (1))) 12 b (nI (q))) 3 p) + (nI (1))))) 6 p ((((up2 (up2 (up2 (up2 (up2 (up2 (up2 (up2 (up2 (up2 D 16 r (nI (2))) 17 r (nI (b))) 18 r (D 0 0)) 21 r (((up2 (up2 (up2 D 16 r (nI (2))) 17 r (nI (b))) 18 r (D 0 0)) 1 p))) 0 1 ((((up2 (up2 (up2 (up2 D 16 r (nI (2))) 17 r (nI (b))) 18 r (D 0 0)) 21 r (((up2 (up2 (up2 D 16 r (nI (2))) 17 r (nI (b))) 18 r (D 0 0)) 1 p))) 0 1) + ((up2 (up2 (up2 (up2 D 16 r (nI (2))) 17 r (nI (b))) 18 r (D 0 0)) 21 r (((up2 (up2 (up2 D 16 r (nI (2))) 17 r (nI (b))) 18 r (D 0 0)) 1 p))) 1 p)))) 22 r (((D 0 0) + (way t p q)))) 23 r (nI (q))) 11 b (nI (1))) 12 b (nI (q))) 3 p ((((up2 (up2 (up2 (up2 (up2 (up2 (up2 (up2 (up2 D 16 r (nI (2))) 17 r (nI (b))) 18 r (D 0 0)) 21 r (((up2 (up2 (up2 D 16 r (nI (2))) 17 r (nI (b))) 18 r (D 0 0)) 1 p))) 0 1 ((((up2 (up2 (up2 (up2 D 16 r (nI (2))) 17 r (nI (b))) 18 r (D 0 0)) 21 r (((up2 (up2 (up2 D 16 r (nI (2))) 17 r (nI (b))) 18 r (D 0 0)) 1 p))) 0 1) + ((up2 (up2 (up2 (up2 D 16 r (nI (2))) 17 r (nI (b))) 18 r (D 0 0)) 21 r (((up2 (up2 (up2 D 16 r (nI (2))) 17 r (nI (b))) 18 r (D 0 0)) 1 p))) 1 p)))) 22 r (((D 0 0) + (way t p q)))) 23 r (nI (q))) 11 b (nI (1))) 12 b (nI (q))) 3 p) + (nI (1))))) 6 p) + (nI (1))))) 7 ((24 * p) + ((nN (D 0 0)) / 60))) + (nI (1))))) (nI (1)) (nI (p)) (nI (r)) (nI (b))) := by
              unfold cms
              rw [if_neg (fun q => q.elim h45 (fun q => absurd q (Int32.not_lt.mpr h59)))]
              rw [hpk]
              dsimp only
              unfold tak
              simp [up2]
            rw [e]
            exact hA
          · exact absurd h80 (nI_m1 (by omega))
        · refine br_eq rfl rfl (by omega) (by omega) (fun h61 => ?_) (fun h61 => ?_)
          · refine br_eq rfl rfl (by omega) (by omega) (fun h68 => ?_) (fun h68 => ?_)
            · refine ⟨rfl, ?_⟩
              have e : cms t D r p q k = D := by
                unfold cms
                rw [if_pos (Or.inr (i_nle h59))]
                rw [if_neg h16]
                rw [if_neg (Int32.not_le.mpr h34)]
              rw [e]
              exact hA
            · exact absurd h68 (by omega)
          · exact absurd h61 (by omega)
    · refine ⟨_, rfl, 20 + p, (add_n rfl rfl), (by show _ < 23184; omega), ?_⟩
      rw [hA.r2 p (by omega)]
      refine ⟨fun h45 => ?_, fun h45 => ?_⟩
      · refine br_eq rfl rfl (by omega) (by omega) (fun h61 => ?_) (fun h61 => ?_)
        · refine br_eq rfl rfl (by omega) (by omega) (fun h68 => ?_) (fun h68 => ?_)
          · exact absurd h68 (by omega)
          · obtain ⟨τ1, ev1, hA⟩ := mv_loses5 hA hT rfl hr hp hF h7 hm hm2
            refine ⟨_, _, ev1, ?_⟩
            refine ⟨rfl, ?_⟩
            have e : cms t D r p q k = (los D r p (nI 5)) := by
              unfold cms
              rw [if_pos (Or.inl h45)]
              rw [if_neg h16]
              rw [if_pos (i_nlt h34)]
            rw [e]
            exact hA
        · exact absurd h61 (by omega)
      · refine ⟨8 + p, (add_n rfl rfl), (by show _ < 23184; omega), ?_⟩
        rw [hA.r1 p (by omega)]
        refine ⟨r, rfl, (by show _ < 200; omega), k, eK, (by show _ < 4; omega), ?_⟩
        rw [hA.2 80 _ _ _ (by decide) rfl]
        refine ⟨fun h59 => ?_, fun h59 => ?_⟩
        · have q9 := mv_pick hA hT (x := nI p) rfl
          rw [hpk] at q9
          change Ev _ _ _ _ (some (.inl (nI b))) _ at q9
          refine ⟨_, _, q9, _, rfl, ?_⟩
          refine ⟨fun h80 => ?_, fun h80 => ?_⟩
          · refine ⟨1532 + r, (add_n rfl rfl), (by show _ < 23184; omega), _, rfl, ?_⟩
            replace hA := hA.w16 r (by omega) (nI (2))
            refine ⟨1732 + r, (add_n rfl rfl), (by show _ < 23184; omega), _, rfl, ?_⟩
            replace hA := hA.w17 r (by omega) (nI (b))
            refine ⟨1932 + r, (add_n rfl rfl), (by show _ < 23184; omega), _, rfl, ?_⟩
            replace hA := hA.w18 r (by omega) (D 0 0)
            refine ⟨8 + p, (add_n rfl rfl), (by show _ < 23184; omega), ?_⟩
            rw [hA.r1 p (by omega)]
            refine ⟨2532 + r, (add_n rfl rfl), (by show _ < 23184; omega), _, rfl, ?_⟩
            replace hA := hA.w21 r (by omega) (((up2 (up2 (up2 D 16 r (nI (2))) 17 r (nI (b))) 18 r (D 0 0)) 1 p))
            refine ⟨1, rfl, (by show _ < 23184; omega), ?_⟩
            rw [hA.r0 1 (by decide)]
            refine ⟨8 + p, (add_n rfl rfl), (by show _ < 23184; omega), ?_⟩
            rw [hA.r1 p (by omega)]
            refine ⟨1, rfl, (by show _ < 23184; omega), _, rfl, ?_⟩
            replace hA := hA.w0 1 (by decide) ((((up2 (up2 (up2 (up2 D 16 r (nI (2))) 17 r (nI (b))) 18 r (D 0 0)) 21 r (((up2 (up2 (up2 D 16 r (nI (2))) 17 r (nI (b))) 18 r (D 0 0)) 1 p))) 0 1) + ((up2 (up2 (up2 (up2 D 16 r (nI (2))) 17 r (nI (b))) 18 r (D 0 0)) 21 r (((up2 (up2 (up2 D 16 r (nI (2))) 17 r (nI (b))) 18 r (D 0 0)) 1 p))) 1 p)))
            refine ⟨r, rfl, (by show _ < 200; omega), _, _, mv_way hA hT rfl (by omega) eG (by omega), 2732 + r, (add_n rfl rfl), (by show _ < 23184; omega), _, rfl, ?_⟩
            replace hA := hA.w22 r (by omega) (((D 0 0) + (way t p q)))
            refine ⟨r, rfl, (by show _ < 200; omega), 2932 + r, (add_n rfl rfl), (by show _ < 23184; omega), nI (q), eG, ?_⟩
            replace hA := hA.w23 r (by omega) (nI (q))
            refine ⟨1232 + b, (add_n rfl rfl), (by show _ < 23184; omega), _, rfl, ?_⟩
            replace hA := hA.w11 b (by omega) (nI (1))
            refine ⟨r, rfl, (by show _ < 200; omega), 1292 + b, (add_n rfl rfl), (by show _ < 23184; omega), nI (q), eG, ?_⟩
            replace hA := hA.w12 b (by omega) (nI (q))
            refine ⟨32 + p, (add_n rfl rfl), (by show _ < 23184; omega), ?_⟩
            rw [hA.r3 p (by omega)]
            refine ⟨32 + p, (add_n rfl rfl), (by show _ < 23184; omega), _, rfl, ?_⟩
            replace hA := hA.w3 p (by omega) ((((up2 (up2 (up2 (up2 (up2 (up2 (up2 (up2 (up2 D 16 r (nI (2))) 17 r (nI (b))) 18 r (D 0 0)) 21 r (((up2 (up2 (up2 D 16 r (nI (2))) 17 r (nI (b))) 18 r (D 0 0)) 1 p))) 0 1 ((((up2 (up2 (up2 (up2 D 16 r (nI (2))) 17 r (nI (b))) 18 r (D 0 0)) 21 r (((up2 (up2 (up2 D 16 r (nI (2))) 17 r (nI (b))) 18 r (D 0 0)) 1 p))) 0 1) + ((up2 (up2 (up2 (up2 D 16 r (nI (2))) 17 r (nI (b))) 18 r (D 0 0)) 21 r (((up2 (up2 (up2 D 16 r (nI (2))) 17 r (nI (b))) 18 r (D 0 0)) 1 p))) 1 p)))) 22 r (((D 0 0) + (way t p q)))) 23 r (nI (q))) 11 b (nI (1))) 12 b (nI (q))) 3 p) + (nI (1))))
            refine ⟨68 + p, (add_n rfl rfl), (by show _ < 23184; omega), ?_⟩
            rw [hA.r6 p (by omega)]
            refine ⟨68 + p, (add_n rfl rfl), (by show _ < 23184; omega), _, rfl, ?_⟩
            replace hA := hA.w6 p (by omega) ((((up2 (up2 (up2 (up2 (up2 (up2 (up2 (up2 (up2 (up2 D 16 r (nI (2))) 17 r (nI (b))) 18 r (D 0 0)) 21 r (((up2 (up2 (up2 D 16 r (nI (2))) 17 r (nI (b))) 18 r (D 0 0)) 1 p))) 0 1 ((((up2 (up2 (up2 (up2 D 16 r (nI (2))) 17 r (nI (b))) 18 r (D 0 0)) 21 r (((up2 (up2 (up2 D 16 r (nI (2))) 17 r (nI (b))) 18 r (D 0 0)) 1 p))) 0 1) + ((up2 (up2 (up2 (up2 D 16 r (nI (2))) 17 r (nI (b))) 18 r (D 0 0)) 21 r (((up2 (up2 (up2 D 16 r (nI (2))) 17 r (nI (b))) 18 r (D 0 0)) 1 p))) 1 p)))) 22 r (((D 0 0) + (way t p q)))) 23 r (nI (q))) 11 b (nI (1))) 12 b (nI (q))) 3 p ((((up2 (up2 (up2 (up2 (up2 (up2 (up2 (up2 (up2 D 16 r (nI (2))) 17 r (nI (b))) 18 r (D 0 0)) 21 r (((up2 (up2 (up2 D 16 r (nI (2))) 17 r (nI (b))) 18 r (D 0 0)) 1 p))) 0 1 ((((up2 (up2 (up2 (up2 D 16 r (nI (2))) 17 r (nI (b))) 18 r (D 0 0)) 21 r (((up2 (up2 (up2 D 16 r (nI (2))) 17 r (nI (b))) 18 r (D 0 0)) 1 p))) 0 1) + ((up2 (up2 (up2 (up2 D 16 r (nI (2))) 17 r (nI (b))) 18 r (D 0 0)) 21 r (((up2 (up2 (up2 D 16 r (nI (2))) 17 r (nI (b))) 18 r (D 0 0)) 1 p))) 1 p)))) 22 r (((D 0 0) + (way t p q)))) 23 r (nI (q))) 11 b (nI (1))) 12 b (nI (q))) 3 p) + (nI (1))))) 6 p) + (nI (1))))
            refine ⟨(by decide), 80 + ((24 * p) + ((nN (D 0 0)) / 60)), (add_nr (add_n rfl (mul_n rfl rfl)) (div_n hm rfl ⟨by omega, by omega, by omega⟩)), (by show _ < 23184; omega), ?_⟩
            rw [hA.r7 ((24 * p) + ((nN (D 0 0)) / 60)) (by omega)]
            refine ⟨80 + ((24 * p) + ((nN (D 0 0)) / 60)), (add_nr (add_n rfl (mul_n rfl rfl)) (div_n hm rfl ⟨by omega, by omega, by omega⟩)), (by show _ < 23184; omega), _, rfl, ?_⟩
            replace hA := hA.w7 ((24 * p) + ((nN (D 0 0)) / 60)) (by omega) ((((up2 (up2 (up2 (up2 (up2 (up2 (up2 (up2 (up2 (up2 (up2 D 16 r (nI (2))) 17 r (nI (b))) 18 r (D 0 0)) 21 r (((up2 (up2 (up2 D 16 r (nI (2))) 17 r (nI (b))) 18 r (D 0 0)) 1 p))) 0 1 ((((up2 (up2 (up2 (up2 D 16 r (nI (2))) 17 r (nI (b))) 18 r (D 0 0)) 21 r (((up2 (up2 (up2 D 16 r (nI (2))) 17 r (nI (b))) 18 r (D 0 0)) 1 p))) 0 1) + ((up2 (up2 (up2 (up2 D 16 r (nI (2))) 17 r (nI (b))) 18 r (D 0 0)) 21 r (((up2 (up2 (up2 D 16 r (nI (2))) 17 r (nI (b))) 18 r (D 0 0)) 1 p))) 1 p)))) 22 r (((D 0 0) + (way t p q)))) 23 r (nI (q))) 11 b (nI (1))) 12 b (nI (q))) 3 p ((((up2 (up2 (up2 (up2 (up2 (up2 (up2 (up2 (up2 D 16 r (nI (2))) 17 r (nI (b))) 18 r (D 0 0)) 21 r (((up2 (up2 (up2 D 16 r (nI (2))) 17 r (nI (b))) 18 r (D 0 0)) 1 p))) 0 1 ((((up2 (up2 (up2 (up2 D 16 r (nI (2))) 17 r (nI (b))) 18 r (D 0 0)) 21 r (((up2 (up2 (up2 D 16 r (nI (2))) 17 r (nI (b))) 18 r (D 0 0)) 1 p))) 0 1) + ((up2 (up2 (up2 (up2 D 16 r (nI (2))) 17 r (nI (b))) 18 r (D 0 0)) 21 r (((up2 (up2 (up2 D 16 r (nI (2))) 17 r (nI (b))) 18 r (D 0 0)) 1 p))) 1 p)))) 22 r (((D 0 0) + (way t p q)))) 23 r (nI (q))) 11 b (nI (1))) 12 b (nI (q))) 3 p) + (nI (1))))) 6 p ((((up2 (up2 (up2 (up2 (up2 (up2 (up2 (up2 (up2 (up2 D 16 r (nI (2))) 17 r (nI (b))) 18 r (D 0 0)) 21 r (((up2 (up2 (up2 D 16 r (nI (2))) 17 r (nI (b))) 18 r (D 0 0)) 1 p))) 0 1 ((((up2 (up2 (up2 (up2 D 16 r (nI (2))) 17 r (nI (b))) 18 r (D 0 0)) 21 r (((up2 (up2 (up2 D 16 r (nI (2))) 17 r (nI (b))) 18 r (D 0 0)) 1 p))) 0 1) + ((up2 (up2 (up2 (up2 D 16 r (nI (2))) 17 r (nI (b))) 18 r (D 0 0)) 21 r (((up2 (up2 (up2 D 16 r (nI (2))) 17 r (nI (b))) 18 r (D 0 0)) 1 p))) 1 p)))) 22 r (((D 0 0) + (way t p q)))) 23 r (nI (q))) 11 b (nI (1))) 12 b (nI (q))) 3 p ((((up2 (up2 (up2 (up2 (up2 (up2 (up2 (up2 (up2 D 16 r (nI (2))) 17 r (nI (b))) 18 r (D 0 0)) 21 r (((up2 (up2 (up2 D 16 r (nI (2))) 17 r (nI (b))) 18 r (D 0 0)) 1 p))) 0 1 ((((up2 (up2 (up2 (up2 D 16 r (nI (2))) 17 r (nI (b))) 18 r (D 0 0)) 21 r (((up2 (up2 (up2 D 16 r (nI (2))) 17 r (nI (b))) 18 r (D 0 0)) 1 p))) 0 1) + ((up2 (up2 (up2 (up2 D 16 r (nI (2))) 17 r (nI (b))) 18 r (D 0 0)) 21 r (((up2 (up2 (up2 D 16 r (nI (2))) 17 r (nI (b))) 18 r (D 0 0)) 1 p))) 1 p)))) 22 r (((D 0 0) + (way t p q)))) 23 r (nI (q))) 11 b (nI (1))) 12 b (nI (q))) 3 p) + (nI (1))))) 6 p) + (nI (1))))) 7 ((24 * p) + ((nN (D 0 0)) / 60))) + (nI (1))))
            have h7 : Is ((up2 (up2 (up2 (up2 (up2 (up2 (up2 (up2 (up2 (up2 (up2 (up2 D 16 r (nI (2))) 17 r (nI (b))) 18 r (D 0 0)) 21 r (((up2 (up2 (up2 D 16 r (nI (2))) 17 r (nI (b))) 18 r (D 0 0)) 1 p))) 0 1 ((((up2 (up2 (up2 (up2 D 16 r (nI (2))) 17 r (nI (b))) 18 r (D 0 0)) 21 r (((up2 (up2 (up2 D 16 r (nI (2))) 17 r (nI (b))) 18 r (D 0 0)) 1 p))) 0 1) + ((up2 (up2 (up2 (up2 D 16 r (nI (2))) 17 r (nI (b))) 18 r (D 0 0)) 21 r (((up2 (up2 (up2 D 16 r (nI (2))) 17 r (nI (b))) 18 r (D 0 0)) 1 p))) 1 p)))) 22 r (((D 0 0) + (way t p q)))) 23 r (nI (q))) 11 b (nI (1))) 12 b (nI (q))) 3 p ((((up2 (up2 (up2 (up2 (up2 (up2 (up2 (up2 (up2 D 16 r (nI (2))) 17 r (nI (b))) 18 r (D 0 0)) 21 r (((up2 (up2 (up2 D 16 r (nI (2))) 17 r (nI (b))) 18 r (D 0 0)) 1 p))) 0 1 ((((up2 (up2 (up2 (up2 D 16 r (nI (2))) 17 r (nI (b))) 18 r (D 0 0)) 21 r (((up2 (up2 (up2 D 16 r (nI (2))) 17 r (nI (b))) 18 r (D 0 0)) 1 p))) 0 1) + ((up2 (up2 (up2 (up2 D 16 r (nI (2))) 17 r (nI (b))) 18 r (D 0 0)) 21 r (((up2 (up2 (up2 D 16 r (nI (2))) 17 r (nI (b))) 18 r (D 0 0)) 1 p))) 1 p)))) 22 r (((D 0 0) + (way t p q)))) 23 r (nI (q))) 11 b (nI (1))) 12 b (nI (q))) 3 p) + (nI (1))))) 6 p ((((up2 (up2 (up2 (up2 (up2 (up2 (up2 (up2 (up2 (up2 D 16 r (nI (2))) 17 r (nI (b))) 18 r (D 0 0)) 21 r (((up2 (up2 (up2 D 16 r (nI (2))) 17 r (nI (b))) 18 r (D 0 0)) 1 p))) 0 1 ((((up2 (up2 (up2 (up2 D 16 r (nI (2))) 17 r (nI (b))) 18 r (D 0 0)) 21 r (((up2 (up2 (up2 D 16 r (nI (2))) 17 r (nI (b))) 18 r (D 0 0)) 1 p))) 0 1) + ((up2 (up2 (up2 (up2 D 16 r (nI (2))) 17 r (nI (b))) 18 r (D 0 0)) 21 r (((up2 (up2 (up2 D 16 r (nI (2))) 17 r (nI (b))) 18 r (D 0 0)) 1 p))) 1 p)))) 22 r (((D 0 0) + (way t p q)))) 23 r (nI (q))) 11 b (nI (1))) 12 b (nI (q))) 3 p ((((up2 (up2 (up2 (up2 (up2 (up2 (up2 (up2 (up2 D 16 r (nI (2))) 17 r (nI (b))) 18 r (D 0 0)) 21 r (((up2 (up2 (up2 D 16 r (nI (2))) 17 r (nI (b))) 18 r (D 0 0)) 1 p))) 0 1 ((((up2 (up2 (up2 (up2 D 16 r (nI (2))) 17 r (nI (b))) 18 r (D 0 0)) 21 r (((up2 (up2 (up2 D 16 r (nI (2))) 17 r (nI (b))) 18 r (D 0 0)) 1 p))) 0 1) + ((up2 (up2 (up2 (up2 D 16 r (nI (2))) 17 r (nI (b))) 18 r (D 0 0)) 21 r (((up2 (up2 (up2 D 16 r (nI (2))) 17 r (nI (b))) 18 r (D 0 0)) 1 p))) 1 p)))) 22 r (((D 0 0) + (way t p q)))) 23 r (nI (q))) 11 b (nI (1))) 12 b (nI (q))) 3 p) + (nI (1))))) 6 p) + (nI (1))))) 7 ((24 * p) + ((nN (D 0 0)) / 60)) ((((up2 (up2 (up2 (up2 (up2 (up2 (up2 (up2 (up2 (up2 (up2 D 16 r (nI (2))) 17 r (nI (b))) 18 r (D 0 0)) 21 r (((up2 (up2 (up2 D 16 r (nI (2))) 17 r (nI (b))) 18 r (D 0 0)) 1 p))) 0 1 ((((up2 (up2 (up2 (up2 D 16 r (nI (2))) 17 r (nI (b))) 18 r (D 0 0)) 21 r (((up2 (up2 (up2 D 16 r (nI (2))) 17 r (nI (b))) 18 r (D 0 0)) 1 p))) 0 1) + ((up2 (up2 (up2 (up2 D 16 r (nI (2))) 17 r (nI (b))) 18 r (D 0 0)) 21 r (((up2 (up2 (up2 D 16 r (nI (2))) 17 r (nI (b))) 18 r (D 0 0)) 1 p))) 1 p)))) 22 r (((D 0 0) + (way t p q)))) 23 r (nI (q))) 11 b (nI (1))) 12 b (nI (q))) 3 p ((((up2 (up2 (up2 (up2 (up2 (up2 (up2 (up2 (up2 D 16 r (nI (2))) 17 r (nI (b))) 18 r (D 0 0)) 21 r (((up2 (up2 (up2 D 16 r (nI (2))) 17 r (nI (b))) 18 r (D 0 0)) 1 p))) 0 1 ((((up2 (up2 (up2 (up2 D 16 r (nI (2))) 17 r (nI (b))) 18 r (D 0 0)) 21 r (((up2 (up2 (up2 D 16 r (nI (2))) 17 r (nI (b))) 18 r (D 0 0)) 1 p))) 0 1) + ((up2 (up2 (up2 (up2 D 16 r (nI (2))) 17 r (nI (b))) 18 r (D 0 0)) 21 r (((up2 (up2 (up2 D 16 r (nI (2))) 17 r (nI (b))) 18 r (D 0 0)) 1 p))) 1 p)))) 22 r (((D 0 0) + (way t p q)))) 23 r (nI (q))) 11 b (nI (1))) 12 b (nI (q))) 3 p) + (nI (1))))) 6 p ((((up2 (up2 (up2 (up2 (up2 (up2 (up2 (up2 (up2 (up2 D 16 r (nI (2))) 17 r (nI (b))) 18 r (D 0 0)) 21 r (((up2 (up2 (up2 D 16 r (nI (2))) 17 r (nI (b))) 18 r (D 0 0)) 1 p))) 0 1 ((((up2 (up2 (up2 (up2 D 16 r (nI (2))) 17 r (nI (b))) 18 r (D 0 0)) 21 r (((up2 (up2 (up2 D 16 r (nI (2))) 17 r (nI (b))) 18 r (D 0 0)) 1 p))) 0 1) + ((up2 (up2 (up2 (up2 D 16 r (nI (2))) 17 r (nI (b))) 18 r (D 0 0)) 21 r (((up2 (up2 (up2 D 16 r (nI (2))) 17 r (nI (b))) 18 r (D 0 0)) 1 p))) 1 p)))) 22 r (((D 0 0) + (way t p q)))) 23 r (nI (q))) 11 b (nI (1))) 12 b (nI (q))) 3 p ((((up2 (up2 (up2 (up2 (up2 (up2 (up2 (up2 (up2 D 16 r (nI (2))) 17 r (nI (b))) 18 r (D 0 0)) 21 r (((up2 (up2 (up2 D 16 r (nI (2))) 17 r (nI (b))) 18 r (D 0 0)) 1 p))) 0 1 ((((up2 (up2 (up2 (up2 D 16 r (nI (2))) 17 r (nI (b))) 18 r (D 0 0)) 21 r (((up2 (up2 (up2 D 16 r (nI (2))) 17 r (nI (b))) 18 r (D 0 0)) 1 p))) 0 1) + ((up2 (up2 (up2 (up2 D 16 r (nI (2))) 17 r (nI (b))) 18 r (D 0 0)) 21 r (((up2 (up2 (up2 D 16 r (nI (2))) 17 r (nI (b))) 18 r (D 0 0)) 1 p))) 1 p)))) 22 r (((D 0 0) + (way t p q)))) 23 r (nI (q))) 11 b (nI (1))) 12 b (nI (q))) 3 p) + (nI (1))))) 6 p) + (nI (1))))) 7 ((24 * p) + ((nN (D 0 0)) / 60))) + (nI (1))))) 0 7) 4000 := by simp [up2]; exact h7
            obtain ⟨τ1, ev1, hA⟩ := mv_logs hA h7 (v1 := (nI (1))) (v2 := (nI (p))) (v3 := (nI (r))) (v4 := (nI (b)))
            refine ⟨_, _, ev1, ?_⟩
            refine ⟨rfl, ?_⟩
            have e : cms t D r p q k = (lgs (up2 (up2 (up2 (up2 (up2 (up2 (up2 (up2 (up2 (up2 (up2 (up2 D 16 r (nI (2))) 17 r (nI (b))) 18 r (D 0 0)) 21 r (((up2 (up2 (up2 D 16 r (nI (2))) 17 r (nI (b))) 18 r (D 0 0)) 1 p))) 0 1 ((((up2 (up2 (up2 (up2 D 16 r (nI (2))) 17 r (nI (b))) 18 r (D 0 0)) 21 r (((up2 (up2 (up2 D 16 r (nI (2))) 17 r (nI (b))) 18 r (D 0 0)) 1 p))) 0 1) + ((up2 (up2 (up2 (up2 D 16 r (nI (2))) 17 r (nI (b))) 18 r (D 0 0)) 21 r (((up2 (up2 (up2 D 16 r (nI (2))) 17 r (nI (b))) 18 r (D 0 0)) 1 p))) 1 p)))) 22 r (((D 0 0) + (way t p q)))) 23 r (nI (q))) 11 b (nI (1))) 12 b (nI (q))) 3 p ((((up2 (up2 (up2 (up2 (up2 (up2 (up2 (up2 (up2 D 16 r (nI (2))) 17 r (nI (b))) 18 r (D 0 0)) 21 r (((up2 (up2 (up2 D 16 r (nI (2))) 17 r (nI (b))) 18 r (D 0 0)) 1 p))) 0 1 ((((up2 (up2 (up2 (up2 D 16 r (nI (2))) 17 r (nI (b))) 18 r (D 0 0)) 21 r (((up2 (up2 (up2 D 16 r (nI (2))) 17 r (nI (b))) 18 r (D 0 0)) 1 p))) 0 1) + ((up2 (up2 (up2 (up2 D 16 r (nI (2))) 17 r (nI (b))) 18 r (D 0 0)) 21 r (((up2 (up2 (up2 D 16 r (nI (2))) 17 r (nI (b))) 18 r (D 0 0)) 1 p))) 1 p)))) 22 r (((D 0 0) + (way t p q)))) 23 r (nI (q))) 11 b (nI (1))) 12 b (nI (q))) 3 p) + (nI (1))))) 6 p ((((up2 (up2 (up2 (up2 (up2 (up2 (up2 (up2 (up2 (up2 D 16 r (nI (2))) 17 r (nI (b))) 18 r (D 0 0)) 21 r (((up2 (up2 (up2 D 16 r (nI (2))) 17 r (nI (b))) 18 r (D 0 0)) 1 p))) 0 1 ((((up2 (up2 (up2 (up2 D 16 r (nI (2))) 17 r (nI (b))) 18 r (D 0 0)) 21 r (((up2 (up2 (up2 D 16 r (nI (2))) 17 r (nI (b))) 18 r (D 0 0)) 1 p))) 0 1) + ((up2 (up2 (up2 (up2 D 16 r (nI (2))) 17 r (nI (b))) 18 r (D 0 0)) 21 r (((up2 (up2 (up2 D 16 r (nI (2))) 17 r (nI (b))) 18 r (D 0 0)) 1 p))) 1 p)))) 22 r (((D 0 0) + (way t p q)))) 23 r (nI (q))) 11 b (nI (1))) 12 b (nI (q))) 3 p ((((up2 (up2 (up2 (up2 (up2 (up2 (up2 (up2 (up2 D 16 r (nI (2))) 17 r (nI (b))) 18 r (D 0 0)) 21 r (((up2 (up2 (up2 D 16 r (nI (2))) 17 r (nI (b))) 18 r (D 0 0)) 1 p))) 0 1 ((((up2 (up2 (up2 (up2 D 16 r (nI (2))) 17 r (nI (b))) 18 r (D 0 0)) 21 r (((up2 (up2 (up2 D 16 r (nI (2))) 17 r (nI (b))) 18 r (D 0 0)) 1 p))) 0 1) + ((up2 (up2 (up2 (up2 D 16 r (nI (2))) 17 r (nI (b))) 18 r (D 0 0)) 21 r (((up2 (up2 (up2 D 16 r (nI (2))) 17 r (nI (b))) 18 r (D 0 0)) 1 p))) 1 p)))) 22 r (((D 0 0) + (way t p q)))) 23 r (nI (q))) 11 b (nI (1))) 12 b (nI (q))) 3 p) + (nI (1))))) 6 p) + (nI (1))))) 7 ((24 * p) + ((nN (D 0 0)) / 60)) ((((up2 (up2 (up2 (up2 (up2 (up2 (up2 (up2 (up2 (up2 (up2 D 16 r (nI (2))) 17 r (nI (b))) 18 r (D 0 0)) 21 r (((up2 (up2 (up2 D 16 r (nI (2))) 17 r (nI (b))) 18 r (D 0 0)) 1 p))) 0 1 ((((up2 (up2 (up2 (up2 D 16 r (nI (2))) 17 r (nI (b))) 18 r (D 0 0)) 21 r (((up2 (up2 (up2 D 16 r (nI (2))) 17 r (nI (b))) 18 r (D 0 0)) 1 p))) 0 1) + ((up2 (up2 (up2 (up2 D 16 r (nI (2))) 17 r (nI (b))) 18 r (D 0 0)) 21 r (((up2 (up2 (up2 D 16 r (nI (2))) 17 r (nI (b))) 18 r (D 0 0)) 1 p))) 1 p)))) 22 r (((D 0 0) + (way t p q)))) 23 r (nI (q))) 11 b (nI (1))) 12 b (nI (q))) 3 p ((((up2 (up2 (up2 (up2 (up2 (up2 (up2 (up2 (up2 D 16 r (nI (2))) 17 r (nI (b))) 18 r (D 0 0)) 21 r (((up2 (up2 (up2 D 16 r (nI (2))) 17 r (nI (b))) 18 r (D 0 0)) 1 p))) 0 1 ((((up2 (up2 (up2 (up2 D 16 r (nI (2))) 17 r (nI (b))) 18 r (D 0 0)) 21 r (((up2 (up2 (up2 D 16 r (nI (2))) 17 r (nI (b))) 18 r (D 0 0)) 1 p))) 0 1) + ((up2 (up2 (up2 (up2 D 16 r (nI (2))) 17 r (nI (b))) 18 r (D 0 0)) 21 r (((up2 (up2 (up2 D 16 r (nI (2))) 17 r (nI (b))) 18 r (D 0 0)) 1 p))) 1 p)))) 22 r (((D 0 0) + (way t p q)))) 23 r (nI (q))) 11 b (nI (1))) 12 b (nI (q))) 3 p) + (nI (1))))) 6 p ((((up2 (up2 (up2 (up2 (up2 (up2 (up2 (up2 (up2 (up2 D 16 r (nI (2))) 17 r (nI (b))) 18 r (D 0 0)) 21 r (((up2 (up2 (up2 D 16 r (nI (2))) 17 r (nI (b))) 18 r (D 0 0)) 1 p))) 0 1 ((((up2 (up2 (up2 (up2 D 16 r (nI (2))) 17 r (nI (b))) 18 r (D 0 0)) 21 r (((up2 (up2 (up2 D 16 r (nI (2))) 17 r (nI (b))) 18 r (D 0 0)) 1 p))) 0 1) + ((up2 (up2 (up2 (up2 D 16 r (nI (2))) 17 r (nI (b))) 18 r (D 0 0)) 21 r (((up2 (up2 (up2 D 16 r (nI (2))) 17 r (nI (b))) 18 r (D 0 0)) 1 p))) 1 p)))) 22 r (((D 0 0) + (way t p q)))) 23 r (nI (q))) 11 b (nI (1))) 12 b (nI (q))) 3 p ((((up2 (up2 (up2 (up2 (up2 (up2 (up2 (up2 (up2 D 16 r (nI (2))) 17 r (nI (b))) 18 r (D 0 0)) 21 r (((up2 (up2 (up2 D 16 r (nI (2))) 17 r (nI (b))) 18 r (D 0 0)) 1 p))) 0 1 ((((up2 (up2 (up2 (up2 D 16 r (nI (2))) 17 r (nI (b))) 18 r (D 0 0)) 21 r (((up2 (up2 (up2 D 16 r (nI (2))) 17 r (nI (b))) 18 r (D 0 0)) 1 p))) 0 1) + ((up2 (up2 (up2 (up2 D 16 r (nI (2))) 17 r (nI (b))) 18 r (D 0 0)) 21 r (((up2 (up2 (up2 D 16 r (nI (2))) 17 r (nI (b))) 18 r (D 0 0)) 1 p))) 1 p)))) 22 r (((D 0 0) + (way t p q)))) 23 r (nI (q))) 11 b (nI (1))) 12 b (nI (q))) 3 p) + (nI (1))))) 6 p) + (nI (1))))) 7 ((24 * p) + ((nN (D 0 0)) / 60))) + (nI (1))))) (nI (1)) (nI (p)) (nI (r)) (nI (b))) := by
              unfold cms
              rw [if_neg (fun q => q.elim h45 (fun q => absurd q (Int32.not_lt.mpr h59)))]
              rw [hpk]
              dsimp only
              unfold tak
              simp [up2]
            rw [e]
            exact hA
          · exact absurd h80 (nI_m1 (by omega))
        · refine br_eq rfl rfl (by omega) (by omega) (fun h61 => ?_) (fun h61 => ?_)
          · refine br_eq rfl rfl (by omega) (by omega) (fun h68 => ?_) (fun h68 => ?_)
            · exact absurd h68 (by omega)
            · obtain ⟨τ1, ev1, hA⟩ := mv_loses5 hA hT rfl hr hp hF h7 hm hm2
              refine ⟨_, _, ev1, ?_⟩
              refine ⟨rfl, ?_⟩
              have e : cms t D r p q k = (los D r p (nI 5)) := by
                unfold cms
                rw [if_pos (Or.inr (i_nle h59))]
                rw [if_neg h16]
                rw [if_pos (i_nlt h34)]
              rw [e]
              exact hA
          · exact absurd h61 (by omega)
  · refine ⟨_, rfl, r, rfl, (by show _ < 200; omega), ?_⟩
    rw [hA.2 76 _ _ _ (by decide) rfl]
    refine ⟨r, rfl, (by show _ < 200; omega), k, eK, (by show _ < 4; omega), ?_⟩
    rw [hA.2 81 _ _ _ (by decide) rfl]
    refine ⟨fun h34 => ?_, fun h34 => ?_⟩
    · refine ⟨_, rfl, 20 + p, (add_n rfl rfl), (by show _ < 23184; omega), ?_⟩
      rw [hA.r2 p (by omega)]
      refine ⟨fun h45 => ?_, fun h45 => ?_⟩
      · refine br_eq rfl rfl (by omega) (by omega) (fun h61 => ?_) (fun h61 => ?_)
        · exact absurd h61 (by omega)
        · obtain ⟨τ1, ev1, hA⟩ := mv_loses4 hA hT rfl hr hp hF h7 hm hm2
          refine ⟨_, _, ev1, ?_⟩
          refine ⟨rfl, ?_⟩
          have e : cms t D r p q k = (los D r p (nI 4)) := by
            unfold cms
            rw [if_pos (Or.inl h45)]
            rw [if_pos h16]
          rw [e]
          exact hA
      · refine ⟨8 + p, (add_n rfl rfl), (by show _ < 23184; omega), ?_⟩
        rw [hA.r1 p (by omega)]
        refine ⟨r, rfl, (by show _ < 200; omega), k, eK, (by show _ < 4; omega), ?_⟩
        rw [hA.2 80 _ _ _ (by decide) rfl]
        refine ⟨fun h59 => ?_, fun h59 => ?_⟩
        · have q9 := mv_pick hA hT (x := nI p) rfl
          rw [hpk] at q9
          change Ev _ _ _ _ (some (.inl (nI b))) _ at q9
          refine ⟨_, _, q9, _, rfl, ?_⟩
          refine ⟨fun h80 => ?_, fun h80 => ?_⟩
          · refine ⟨1532 + r, (add_n rfl rfl), (by show _ < 23184; omega), _, rfl, ?_⟩
            replace hA := hA.w16 r (by omega) (nI (2))
            refine ⟨1732 + r, (add_n rfl rfl), (by show _ < 23184; omega), _, rfl, ?_⟩
            replace hA := hA.w17 r (by omega) (nI (b))
            refine ⟨1932 + r, (add_n rfl rfl), (by show _ < 23184; omega), _, rfl, ?_⟩
            replace hA := hA.w18 r (by omega) (D 0 0)
            refine ⟨8 + p, (add_n rfl rfl), (by show _ < 23184; omega), ?_⟩
            rw [hA.r1 p (by omega)]
            refine ⟨2532 + r, (add_n rfl rfl), (by show _ < 23184; omega), _, rfl, ?_⟩
            replace hA := hA.w21 r (by omega) (((up2 (up2 (up2 D 16 r (nI (2))) 17 r (nI (b))) 18 r (D 0 0)) 1 p))
            refine ⟨1, rfl, (by show _ < 23184; omega), ?_⟩
            rw [hA.r0 1 (by decide)]
            refine ⟨8 + p, (add_n rfl rfl), (by show _ < 23184; omega), ?_⟩
            rw [hA.r1 p (by omega)]
            refine ⟨1, rfl, (by show _ < 23184; omega), _, rfl, ?_⟩
            replace hA := hA.w0 1 (by decide) ((((up2 (up2 (up2 (up2 D 16 r (nI (2))) 17 r (nI (b))) 18 r (D 0 0)) 21 r (((up2 (up2 (up2 D 16 r (nI (2))) 17 r (nI (b))) 18 r (D 0 0)) 1 p))) 0 1) + ((up2 (up2 (up2 (up2 D 16 r (nI (2))) 17 r (nI (b))) 18 r (D 0 0)) 21 r (((up2 (up2 (up2 D 16 r (nI (2))) 17 r (nI (b))) 18 r (D 0 0)) 1 p))) 1 p)))
            refine ⟨r, rfl, (by show _ < 200; omega), _, _, mv_way hA hT rfl (by omega) eG (by omega), 2732 + r, (add_n rfl rfl), (by show _ < 23184; omega), _, rfl, ?_⟩
            replace hA := hA.w22 r (by omega) (((D 0 0) + (way t p q)))
            refine ⟨r, rfl, (by show _ < 200; omega), 2932 + r, (add_n rfl rfl), (by show _ < 23184; omega), nI (q), eG, ?_⟩
            replace hA := hA.w23 r (by omega) (nI (q))
            refine ⟨1232 + b, (add_n rfl rfl), (by show _ < 23184; omega), _, rfl, ?_⟩
            replace hA := hA.w11 b (by omega) (nI (1))
            refine ⟨r, rfl, (by show _ < 200; omega), 1292 + b, (add_n rfl rfl), (by show _ < 23184; omega), nI (q), eG, ?_⟩
            replace hA := hA.w12 b (by omega) (nI (q))
            refine ⟨32 + p, (add_n rfl rfl), (by show _ < 23184; omega), ?_⟩
            rw [hA.r3 p (by omega)]
            refine ⟨32 + p, (add_n rfl rfl), (by show _ < 23184; omega), _, rfl, ?_⟩
            replace hA := hA.w3 p (by omega) ((((up2 (up2 (up2 (up2 (up2 (up2 (up2 (up2 (up2 D 16 r (nI (2))) 17 r (nI (b))) 18 r (D 0 0)) 21 r (((up2 (up2 (up2 D 16 r (nI (2))) 17 r (nI (b))) 18 r (D 0 0)) 1 p))) 0 1 ((((up2 (up2 (up2 (up2 D 16 r (nI (2))) 17 r (nI (b))) 18 r (D 0 0)) 21 r (((up2 (up2 (up2 D 16 r (nI (2))) 17 r (nI (b))) 18 r (D 0 0)) 1 p))) 0 1) + ((up2 (up2 (up2 (up2 D 16 r (nI (2))) 17 r (nI (b))) 18 r (D 0 0)) 21 r (((up2 (up2 (up2 D 16 r (nI (2))) 17 r (nI (b))) 18 r (D 0 0)) 1 p))) 1 p)))) 22 r (((D 0 0) + (way t p q)))) 23 r (nI (q))) 11 b (nI (1))) 12 b (nI (q))) 3 p) + (nI (1))))
            refine ⟨68 + p, (add_n rfl rfl), (by show _ < 23184; omega), ?_⟩
            rw [hA.r6 p (by omega)]
            refine ⟨68 + p, (add_n rfl rfl), (by show _ < 23184; omega), _, rfl, ?_⟩
            replace hA := hA.w6 p (by omega) ((((up2 (up2 (up2 (up2 (up2 (up2 (up2 (up2 (up2 (up2 D 16 r (nI (2))) 17 r (nI (b))) 18 r (D 0 0)) 21 r (((up2 (up2 (up2 D 16 r (nI (2))) 17 r (nI (b))) 18 r (D 0 0)) 1 p))) 0 1 ((((up2 (up2 (up2 (up2 D 16 r (nI (2))) 17 r (nI (b))) 18 r (D 0 0)) 21 r (((up2 (up2 (up2 D 16 r (nI (2))) 17 r (nI (b))) 18 r (D 0 0)) 1 p))) 0 1) + ((up2 (up2 (up2 (up2 D 16 r (nI (2))) 17 r (nI (b))) 18 r (D 0 0)) 21 r (((up2 (up2 (up2 D 16 r (nI (2))) 17 r (nI (b))) 18 r (D 0 0)) 1 p))) 1 p)))) 22 r (((D 0 0) + (way t p q)))) 23 r (nI (q))) 11 b (nI (1))) 12 b (nI (q))) 3 p ((((up2 (up2 (up2 (up2 (up2 (up2 (up2 (up2 (up2 D 16 r (nI (2))) 17 r (nI (b))) 18 r (D 0 0)) 21 r (((up2 (up2 (up2 D 16 r (nI (2))) 17 r (nI (b))) 18 r (D 0 0)) 1 p))) 0 1 ((((up2 (up2 (up2 (up2 D 16 r (nI (2))) 17 r (nI (b))) 18 r (D 0 0)) 21 r (((up2 (up2 (up2 D 16 r (nI (2))) 17 r (nI (b))) 18 r (D 0 0)) 1 p))) 0 1) + ((up2 (up2 (up2 (up2 D 16 r (nI (2))) 17 r (nI (b))) 18 r (D 0 0)) 21 r (((up2 (up2 (up2 D 16 r (nI (2))) 17 r (nI (b))) 18 r (D 0 0)) 1 p))) 1 p)))) 22 r (((D 0 0) + (way t p q)))) 23 r (nI (q))) 11 b (nI (1))) 12 b (nI (q))) 3 p) + (nI (1))))) 6 p) + (nI (1))))
            refine ⟨(by decide), 80 + ((24 * p) + ((nN (D 0 0)) / 60)), (add_nr (add_n rfl (mul_n rfl rfl)) (div_n hm rfl ⟨by omega, by omega, by omega⟩)), (by show _ < 23184; omega), ?_⟩
            rw [hA.r7 ((24 * p) + ((nN (D 0 0)) / 60)) (by omega)]
            refine ⟨80 + ((24 * p) + ((nN (D 0 0)) / 60)), (add_nr (add_n rfl (mul_n rfl rfl)) (div_n hm rfl ⟨by omega, by omega, by omega⟩)), (by show _ < 23184; omega), _, rfl, ?_⟩
            replace hA := hA.w7 ((24 * p) + ((nN (D 0 0)) / 60)) (by omega) ((((up2 (up2 (up2 (up2 (up2 (up2 (up2 (up2 (up2 (up2 (up2 D 16 r (nI (2))) 17 r (nI (b))) 18 r (D 0 0)) 21 r (((up2 (up2 (up2 D 16 r (nI (2))) 17 r (nI (b))) 18 r (D 0 0)) 1 p))) 0 1 ((((up2 (up2 (up2 (up2 D 16 r (nI (2))) 17 r (nI (b))) 18 r (D 0 0)) 21 r (((up2 (up2 (up2 D 16 r (nI (2))) 17 r (nI (b))) 18 r (D 0 0)) 1 p))) 0 1) + ((up2 (up2 (up2 (up2 D 16 r (nI (2))) 17 r (nI (b))) 18 r (D 0 0)) 21 r (((up2 (up2 (up2 D 16 r (nI (2))) 17 r (nI (b))) 18 r (D 0 0)) 1 p))) 1 p)))) 22 r (((D 0 0) + (way t p q)))) 23 r (nI (q))) 11 b (nI (1))) 12 b (nI (q))) 3 p ((((up2 (up2 (up2 (up2 (up2 (up2 (up2 (up2 (up2 D 16 r (nI (2))) 17 r (nI (b))) 18 r (D 0 0)) 21 r (((up2 (up2 (up2 D 16 r (nI (2))) 17 r (nI (b))) 18 r (D 0 0)) 1 p))) 0 1 ((((up2 (up2 (up2 (up2 D 16 r (nI (2))) 17 r (nI (b))) 18 r (D 0 0)) 21 r (((up2 (up2 (up2 D 16 r (nI (2))) 17 r (nI (b))) 18 r (D 0 0)) 1 p))) 0 1) + ((up2 (up2 (up2 (up2 D 16 r (nI (2))) 17 r (nI (b))) 18 r (D 0 0)) 21 r (((up2 (up2 (up2 D 16 r (nI (2))) 17 r (nI (b))) 18 r (D 0 0)) 1 p))) 1 p)))) 22 r (((D 0 0) + (way t p q)))) 23 r (nI (q))) 11 b (nI (1))) 12 b (nI (q))) 3 p) + (nI (1))))) 6 p ((((up2 (up2 (up2 (up2 (up2 (up2 (up2 (up2 (up2 (up2 D 16 r (nI (2))) 17 r (nI (b))) 18 r (D 0 0)) 21 r (((up2 (up2 (up2 D 16 r (nI (2))) 17 r (nI (b))) 18 r (D 0 0)) 1 p))) 0 1 ((((up2 (up2 (up2 (up2 D 16 r (nI (2))) 17 r (nI (b))) 18 r (D 0 0)) 21 r (((up2 (up2 (up2 D 16 r (nI (2))) 17 r (nI (b))) 18 r (D 0 0)) 1 p))) 0 1) + ((up2 (up2 (up2 (up2 D 16 r (nI (2))) 17 r (nI (b))) 18 r (D 0 0)) 21 r (((up2 (up2 (up2 D 16 r (nI (2))) 17 r (nI (b))) 18 r (D 0 0)) 1 p))) 1 p)))) 22 r (((D 0 0) + (way t p q)))) 23 r (nI (q))) 11 b (nI (1))) 12 b (nI (q))) 3 p ((((up2 (up2 (up2 (up2 (up2 (up2 (up2 (up2 (up2 D 16 r (nI (2))) 17 r (nI (b))) 18 r (D 0 0)) 21 r (((up2 (up2 (up2 D 16 r (nI (2))) 17 r (nI (b))) 18 r (D 0 0)) 1 p))) 0 1 ((((up2 (up2 (up2 (up2 D 16 r (nI (2))) 17 r (nI (b))) 18 r (D 0 0)) 21 r (((up2 (up2 (up2 D 16 r (nI (2))) 17 r (nI (b))) 18 r (D 0 0)) 1 p))) 0 1) + ((up2 (up2 (up2 (up2 D 16 r (nI (2))) 17 r (nI (b))) 18 r (D 0 0)) 21 r (((up2 (up2 (up2 D 16 r (nI (2))) 17 r (nI (b))) 18 r (D 0 0)) 1 p))) 1 p)))) 22 r (((D 0 0) + (way t p q)))) 23 r (nI (q))) 11 b (nI (1))) 12 b (nI (q))) 3 p) + (nI (1))))) 6 p) + (nI (1))))) 7 ((24 * p) + ((nN (D 0 0)) / 60))) + (nI (1))))
            have h7 : Is ((up2 (up2 (up2 (up2 (up2 (up2 (up2 (up2 (up2 (up2 (up2 (up2 D 16 r (nI (2))) 17 r (nI (b))) 18 r (D 0 0)) 21 r (((up2 (up2 (up2 D 16 r (nI (2))) 17 r (nI (b))) 18 r (D 0 0)) 1 p))) 0 1 ((((up2 (up2 (up2 (up2 D 16 r (nI (2))) 17 r (nI (b))) 18 r (D 0 0)) 21 r (((up2 (up2 (up2 D 16 r (nI (2))) 17 r (nI (b))) 18 r (D 0 0)) 1 p))) 0 1) + ((up2 (up2 (up2 (up2 D 16 r (nI (2))) 17 r (nI (b))) 18 r (D 0 0)) 21 r (((up2 (up2 (up2 D 16 r (nI (2))) 17 r (nI (b))) 18 r (D 0 0)) 1 p))) 1 p)))) 22 r (((D 0 0) + (way t p q)))) 23 r (nI (q))) 11 b (nI (1))) 12 b (nI (q))) 3 p ((((up2 (up2 (up2 (up2 (up2 (up2 (up2 (up2 (up2 D 16 r (nI (2))) 17 r (nI (b))) 18 r (D 0 0)) 21 r (((up2 (up2 (up2 D 16 r (nI (2))) 17 r (nI (b))) 18 r (D 0 0)) 1 p))) 0 1 ((((up2 (up2 (up2 (up2 D 16 r (nI (2))) 17 r (nI (b))) 18 r (D 0 0)) 21 r (((up2 (up2 (up2 D 16 r (nI (2))) 17 r (nI (b))) 18 r (D 0 0)) 1 p))) 0 1) + ((up2 (up2 (up2 (up2 D 16 r (nI (2))) 17 r (nI (b))) 18 r (D 0 0)) 21 r (((up2 (up2 (up2 D 16 r (nI (2))) 17 r (nI (b))) 18 r (D 0 0)) 1 p))) 1 p)))) 22 r (((D 0 0) + (way t p q)))) 23 r (nI (q))) 11 b (nI (1))) 12 b (nI (q))) 3 p) + (nI (1))))) 6 p ((((up2 (up2 (up2 (up2 (up2 (up2 (up2 (up2 (up2 (up2 D 16 r (nI (2))) 17 r (nI (b))) 18 r (D 0 0)) 21 r (((up2 (up2 (up2 D 16 r (nI (2))) 17 r (nI (b))) 18 r (D 0 0)) 1 p))) 0 1 ((((up2 (up2 (up2 (up2 D 16 r (nI (2))) 17 r (nI (b))) 18 r (D 0 0)) 21 r (((up2 (up2 (up2 D 16 r (nI (2))) 17 r (nI (b))) 18 r (D 0 0)) 1 p))) 0 1) + ((up2 (up2 (up2 (up2 D 16 r (nI (2))) 17 r (nI (b))) 18 r (D 0 0)) 21 r (((up2 (up2 (up2 D 16 r (nI (2))) 17 r (nI (b))) 18 r (D 0 0)) 1 p))) 1 p)))) 22 r (((D 0 0) + (way t p q)))) 23 r (nI (q))) 11 b (nI (1))) 12 b (nI (q))) 3 p ((((up2 (up2 (up2 (up2 (up2 (up2 (up2 (up2 (up2 D 16 r (nI (2))) 17 r (nI (b))) 18 r (D 0 0)) 21 r (((up2 (up2 (up2 D 16 r (nI (2))) 17 r (nI (b))) 18 r (D 0 0)) 1 p))) 0 1 ((((up2 (up2 (up2 (up2 D 16 r (nI (2))) 17 r (nI (b))) 18 r (D 0 0)) 21 r (((up2 (up2 (up2 D 16 r (nI (2))) 17 r (nI (b))) 18 r (D 0 0)) 1 p))) 0 1) + ((up2 (up2 (up2 (up2 D 16 r (nI (2))) 17 r (nI (b))) 18 r (D 0 0)) 21 r (((up2 (up2 (up2 D 16 r (nI (2))) 17 r (nI (b))) 18 r (D 0 0)) 1 p))) 1 p)))) 22 r (((D 0 0) + (way t p q)))) 23 r (nI (q))) 11 b (nI (1))) 12 b (nI (q))) 3 p) + (nI (1))))) 6 p) + (nI (1))))) 7 ((24 * p) + ((nN (D 0 0)) / 60)) ((((up2 (up2 (up2 (up2 (up2 (up2 (up2 (up2 (up2 (up2 (up2 D 16 r (nI (2))) 17 r (nI (b))) 18 r (D 0 0)) 21 r (((up2 (up2 (up2 D 16 r (nI (2))) 17 r (nI (b))) 18 r (D 0 0)) 1 p))) 0 1 ((((up2 (up2 (up2 (up2 D 16 r (nI (2))) 17 r (nI (b))) 18 r (D 0 0)) 21 r (((up2 (up2 (up2 D 16 r (nI (2))) 17 r (nI (b))) 18 r (D 0 0)) 1 p))) 0 1) + ((up2 (up2 (up2 (up2 D 16 r (nI (2))) 17 r (nI (b))) 18 r (D 0 0)) 21 r (((up2 (up2 (up2 D 16 r (nI (2))) 17 r (nI (b))) 18 r (D 0 0)) 1 p))) 1 p)))) 22 r (((D 0 0) + (way t p q)))) 23 r (nI (q))) 11 b (nI (1))) 12 b (nI (q))) 3 p ((((up2 (up2 (up2 (up2 (up2 (up2 (up2 (up2 (up2 D 16 r (nI (2))) 17 r (nI (b))) 18 r (D 0 0)) 21 r (((up2 (up2 (up2 D 16 r (nI (2))) 17 r (nI (b))) 18 r (D 0 0)) 1 p))) 0 1 ((((up2 (up2 (up2 (up2 D 16 r (nI (2))) 17 r (nI (b))) 18 r (D 0 0)) 21 r (((up2 (up2 (up2 D 16 r (nI (2))) 17 r (nI (b))) 18 r (D 0 0)) 1 p))) 0 1) + ((up2 (up2 (up2 (up2 D 16 r (nI (2))) 17 r (nI (b))) 18 r (D 0 0)) 21 r (((up2 (up2 (up2 D 16 r (nI (2))) 17 r (nI (b))) 18 r (D 0 0)) 1 p))) 1 p)))) 22 r (((D 0 0) + (way t p q)))) 23 r (nI (q))) 11 b (nI (1))) 12 b (nI (q))) 3 p) + (nI (1))))) 6 p ((((up2 (up2 (up2 (up2 (up2 (up2 (up2 (up2 (up2 (up2 D 16 r (nI (2))) 17 r (nI (b))) 18 r (D 0 0)) 21 r (((up2 (up2 (up2 D 16 r (nI (2))) 17 r (nI (b))) 18 r (D 0 0)) 1 p))) 0 1 ((((up2 (up2 (up2 (up2 D 16 r (nI (2))) 17 r (nI (b))) 18 r (D 0 0)) 21 r (((up2 (up2 (up2 D 16 r (nI (2))) 17 r (nI (b))) 18 r (D 0 0)) 1 p))) 0 1) + ((up2 (up2 (up2 (up2 D 16 r (nI (2))) 17 r (nI (b))) 18 r (D 0 0)) 21 r (((up2 (up2 (up2 D 16 r (nI (2))) 17 r (nI (b))) 18 r (D 0 0)) 1 p))) 1 p)))) 22 r (((D 0 0) + (way t p q)))) 23 r (nI (q))) 11 b (nI (1))) 12 b (nI (q))) 3 p ((((up2 (up2 (up2 (up2 (up2 (up2 (up2 (up2 (up2 D 16 r (nI (2))) 17 r (nI (b))) 18 r (D 0 0)) 21 r (((up2 (up2 (up2 D 16 r (nI (2))) 17 r (nI (b))) 18 r (D 0 0)) 1 p))) 0 1 ((((up2 (up2 (up2 (up2 D 16 r (nI (2))) 17 r (nI (b))) 18 r (D 0 0)) 21 r (((up2 (up2 (up2 D 16 r (nI (2))) 17 r (nI (b))) 18 r (D 0 0)) 1 p))) 0 1) + ((up2 (up2 (up2 (up2 D 16 r (nI (2))) 17 r (nI (b))) 18 r (D 0 0)) 21 r (((up2 (up2 (up2 D 16 r (nI (2))) 17 r (nI (b))) 18 r (D 0 0)) 1 p))) 1 p)))) 22 r (((D 0 0) + (way t p q)))) 23 r (nI (q))) 11 b (nI (1))) 12 b (nI (q))) 3 p) + (nI (1))))) 6 p) + (nI (1))))) 7 ((24 * p) + ((nN (D 0 0)) / 60))) + (nI (1))))) 0 7) 4000 := by simp [up2]; exact h7
            obtain ⟨τ1, ev1, hA⟩ := mv_logs hA h7 (v1 := (nI (1))) (v2 := (nI (p))) (v3 := (nI (r))) (v4 := (nI (b)))
            refine ⟨_, _, ev1, ?_⟩
            refine ⟨rfl, ?_⟩
            have e : cms t D r p q k = (lgs (up2 (up2 (up2 (up2 (up2 (up2 (up2 (up2 (up2 (up2 (up2 (up2 D 16 r (nI (2))) 17 r (nI (b))) 18 r (D 0 0)) 21 r (((up2 (up2 (up2 D 16 r (nI (2))) 17 r (nI (b))) 18 r (D 0 0)) 1 p))) 0 1 ((((up2 (up2 (up2 (up2 D 16 r (nI (2))) 17 r (nI (b))) 18 r (D 0 0)) 21 r (((up2 (up2 (up2 D 16 r (nI (2))) 17 r (nI (b))) 18 r (D 0 0)) 1 p))) 0 1) + ((up2 (up2 (up2 (up2 D 16 r (nI (2))) 17 r (nI (b))) 18 r (D 0 0)) 21 r (((up2 (up2 (up2 D 16 r (nI (2))) 17 r (nI (b))) 18 r (D 0 0)) 1 p))) 1 p)))) 22 r (((D 0 0) + (way t p q)))) 23 r (nI (q))) 11 b (nI (1))) 12 b (nI (q))) 3 p ((((up2 (up2 (up2 (up2 (up2 (up2 (up2 (up2 (up2 D 16 r (nI (2))) 17 r (nI (b))) 18 r (D 0 0)) 21 r (((up2 (up2 (up2 D 16 r (nI (2))) 17 r (nI (b))) 18 r (D 0 0)) 1 p))) 0 1 ((((up2 (up2 (up2 (up2 D 16 r (nI (2))) 17 r (nI (b))) 18 r (D 0 0)) 21 r (((up2 (up2 (up2 D 16 r (nI (2))) 17 r (nI (b))) 18 r (D 0 0)) 1 p))) 0 1) + ((up2 (up2 (up2 (up2 D 16 r (nI (2))) 17 r (nI (b))) 18 r (D 0 0)) 21 r (((up2 (up2 (up2 D 16 r (nI (2))) 17 r (nI (b))) 18 r (D 0 0)) 1 p))) 1 p)))) 22 r (((D 0 0) + (way t p q)))) 23 r (nI (q))) 11 b (nI (1))) 12 b (nI (q))) 3 p) + (nI (1))))) 6 p ((((up2 (up2 (up2 (up2 (up2 (up2 (up2 (up2 (up2 (up2 D 16 r (nI (2))) 17 r (nI (b))) 18 r (D 0 0)) 21 r (((up2 (up2 (up2 D 16 r (nI (2))) 17 r (nI (b))) 18 r (D 0 0)) 1 p))) 0 1 ((((up2 (up2 (up2 (up2 D 16 r (nI (2))) 17 r (nI (b))) 18 r (D 0 0)) 21 r (((up2 (up2 (up2 D 16 r (nI (2))) 17 r (nI (b))) 18 r (D 0 0)) 1 p))) 0 1) + ((up2 (up2 (up2 (up2 D 16 r (nI (2))) 17 r (nI (b))) 18 r (D 0 0)) 21 r (((up2 (up2 (up2 D 16 r (nI (2))) 17 r (nI (b))) 18 r (D 0 0)) 1 p))) 1 p)))) 22 r (((D 0 0) + (way t p q)))) 23 r (nI (q))) 11 b (nI (1))) 12 b (nI (q))) 3 p ((((up2 (up2 (up2 (up2 (up2 (up2 (up2 (up2 (up2 D 16 r (nI (2))) 17 r (nI (b))) 18 r (D 0 0)) 21 r (((up2 (up2 (up2 D 16 r (nI (2))) 17 r (nI (b))) 18 r (D 0 0)) 1 p))) 0 1 ((((up2 (up2 (up2 (up2 D 16 r (nI (2))) 17 r (nI (b))) 18 r (D 0 0)) 21 r (((up2 (up2 (up2 D 16 r (nI (2))) 17 r (nI (b))) 18 r (D 0 0)) 1 p))) 0 1) + ((up2 (up2 (up2 (up2 D 16 r (nI (2))) 17 r (nI (b))) 18 r (D 0 0)) 21 r (((up2 (up2 (up2 D 16 r (nI (2))) 17 r (nI (b))) 18 r (D 0 0)) 1 p))) 1 p)))) 22 r (((D 0 0) + (way t p q)))) 23 r (nI (q))) 11 b (nI (1))) 12 b (nI (q))) 3 p) + (nI (1))))) 6 p) + (nI (1))))) 7 ((24 * p) + ((nN (D 0 0)) / 60)) ((((up2 (up2 (up2 (up2 (up2 (up2 (up2 (up2 (up2 (up2 (up2 D 16 r (nI (2))) 17 r (nI (b))) 18 r (D 0 0)) 21 r (((up2 (up2 (up2 D 16 r (nI (2))) 17 r (nI (b))) 18 r (D 0 0)) 1 p))) 0 1 ((((up2 (up2 (up2 (up2 D 16 r (nI (2))) 17 r (nI (b))) 18 r (D 0 0)) 21 r (((up2 (up2 (up2 D 16 r (nI (2))) 17 r (nI (b))) 18 r (D 0 0)) 1 p))) 0 1) + ((up2 (up2 (up2 (up2 D 16 r (nI (2))) 17 r (nI (b))) 18 r (D 0 0)) 21 r (((up2 (up2 (up2 D 16 r (nI (2))) 17 r (nI (b))) 18 r (D 0 0)) 1 p))) 1 p)))) 22 r (((D 0 0) + (way t p q)))) 23 r (nI (q))) 11 b (nI (1))) 12 b (nI (q))) 3 p ((((up2 (up2 (up2 (up2 (up2 (up2 (up2 (up2 (up2 D 16 r (nI (2))) 17 r (nI (b))) 18 r (D 0 0)) 21 r (((up2 (up2 (up2 D 16 r (nI (2))) 17 r (nI (b))) 18 r (D 0 0)) 1 p))) 0 1 ((((up2 (up2 (up2 (up2 D 16 r (nI (2))) 17 r (nI (b))) 18 r (D 0 0)) 21 r (((up2 (up2 (up2 D 16 r (nI (2))) 17 r (nI (b))) 18 r (D 0 0)) 1 p))) 0 1) + ((up2 (up2 (up2 (up2 D 16 r (nI (2))) 17 r (nI (b))) 18 r (D 0 0)) 21 r (((up2 (up2 (up2 D 16 r (nI (2))) 17 r (nI (b))) 18 r (D 0 0)) 1 p))) 1 p)))) 22 r (((D 0 0) + (way t p q)))) 23 r (nI (q))) 11 b (nI (1))) 12 b (nI (q))) 3 p) + (nI (1))))) 6 p ((((up2 (up2 (up2 (up2 (up2 (up2 (up2 (up2 (up2 (up2 D 16 r (nI (2))) 17 r (nI (b))) 18 r (D 0 0)) 21 r (((up2 (up2 (up2 D 16 r (nI (2))) 17 r (nI (b))) 18 r (D 0 0)) 1 p))) 0 1 ((((up2 (up2 (up2 (up2 D 16 r (nI (2))) 17 r (nI (b))) 18 r (D 0 0)) 21 r (((up2 (up2 (up2 D 16 r (nI (2))) 17 r (nI (b))) 18 r (D 0 0)) 1 p))) 0 1) + ((up2 (up2 (up2 (up2 D 16 r (nI (2))) 17 r (nI (b))) 18 r (D 0 0)) 21 r (((up2 (up2 (up2 D 16 r (nI (2))) 17 r (nI (b))) 18 r (D 0 0)) 1 p))) 1 p)))) 22 r (((D 0 0) + (way t p q)))) 23 r (nI (q))) 11 b (nI (1))) 12 b (nI (q))) 3 p ((((up2 (up2 (up2 (up2 (up2 (up2 (up2 (up2 (up2 D 16 r (nI (2))) 17 r (nI (b))) 18 r (D 0 0)) 21 r (((up2 (up2 (up2 D 16 r (nI (2))) 17 r (nI (b))) 18 r (D 0 0)) 1 p))) 0 1 ((((up2 (up2 (up2 (up2 D 16 r (nI (2))) 17 r (nI (b))) 18 r (D 0 0)) 21 r (((up2 (up2 (up2 D 16 r (nI (2))) 17 r (nI (b))) 18 r (D 0 0)) 1 p))) 0 1) + ((up2 (up2 (up2 (up2 D 16 r (nI (2))) 17 r (nI (b))) 18 r (D 0 0)) 21 r (((up2 (up2 (up2 D 16 r (nI (2))) 17 r (nI (b))) 18 r (D 0 0)) 1 p))) 1 p)))) 22 r (((D 0 0) + (way t p q)))) 23 r (nI (q))) 11 b (nI (1))) 12 b (nI (q))) 3 p) + (nI (1))))) 6 p) + (nI (1))))) 7 ((24 * p) + ((nN (D 0 0)) / 60))) + (nI (1))))) (nI (1)) (nI (p)) (nI (r)) (nI (b))) := by
              unfold cms
              rw [if_neg (fun q => q.elim h45 (fun q => absurd q (Int32.not_lt.mpr h59)))]
              rw [hpk]
              dsimp only
              unfold tak
              simp [up2]
            rw [e]
            exact hA
          · exact absurd h80 (nI_m1 (by omega))
        · refine br_eq rfl rfl (by omega) (by omega) (fun h61 => ?_) (fun h61 => ?_)
          · exact absurd h61 (by omega)
          · obtain ⟨τ1, ev1, hA⟩ := mv_loses4 hA hT rfl hr hp hF h7 hm hm2
            refine ⟨_, _, ev1, ?_⟩
            refine ⟨rfl, ?_⟩
            have e : cms t D r p q k = (los D r p (nI 4)) := by
              unfold cms
              rw [if_pos (Or.inr (i_nle h59))]
              rw [if_pos h16]
            rw [e]
            exact hA
    · refine ⟨_, rfl, 20 + p, (add_n rfl rfl), (by show _ < 23184; omega), ?_⟩
      rw [hA.r2 p (by omega)]
      refine ⟨fun h45 => ?_, fun h45 => ?_⟩
      · refine br_eq rfl rfl (by omega) (by omega) (fun h61 => ?_) (fun h61 => ?_)
        · exact absurd h61 (by omega)
        · obtain ⟨τ1, ev1, hA⟩ := mv_loses4 hA hT rfl hr hp hF h7 hm hm2
          refine ⟨_, _, ev1, ?_⟩
          refine ⟨rfl, ?_⟩
          have e : cms t D r p q k = (los D r p (nI 4)) := by
            unfold cms
            rw [if_pos (Or.inl h45)]
            rw [if_pos h16]
          rw [e]
          exact hA
      · refine ⟨8 + p, (add_n rfl rfl), (by show _ < 23184; omega), ?_⟩
        rw [hA.r1 p (by omega)]
        refine ⟨r, rfl, (by show _ < 200; omega), k, eK, (by show _ < 4; omega), ?_⟩
        rw [hA.2 80 _ _ _ (by decide) rfl]
        refine ⟨fun h59 => ?_, fun h59 => ?_⟩
        · have q9 := mv_pick hA hT (x := nI p) rfl
          rw [hpk] at q9
          change Ev _ _ _ _ (some (.inl (nI b))) _ at q9
          refine ⟨_, _, q9, _, rfl, ?_⟩
          refine ⟨fun h80 => ?_, fun h80 => ?_⟩
          · refine ⟨1532 + r, (add_n rfl rfl), (by show _ < 23184; omega), _, rfl, ?_⟩
            replace hA := hA.w16 r (by omega) (nI (2))
            refine ⟨1732 + r, (add_n rfl rfl), (by show _ < 23184; omega), _, rfl, ?_⟩
            replace hA := hA.w17 r (by omega) (nI (b))
            refine ⟨1932 + r, (add_n rfl rfl), (by show _ < 23184; omega), _, rfl, ?_⟩
            replace hA := hA.w18 r (by omega) (D 0 0)
            refine ⟨8 + p, (add_n rfl rfl), (by show _ < 23184; omega), ?_⟩
            rw [hA.r1 p (by omega)]
            refine ⟨2532 + r, (add_n rfl rfl), (by show _ < 23184; omega), _, rfl, ?_⟩
            replace hA := hA.w21 r (by omega) (((up2 (up2 (up2 D 16 r (nI (2))) 17 r (nI (b))) 18 r (D 0 0)) 1 p))
            refine ⟨1, rfl, (by show _ < 23184; omega), ?_⟩
            rw [hA.r0 1 (by decide)]
            refine ⟨8 + p, (add_n rfl rfl), (by show _ < 23184; omega), ?_⟩
            rw [hA.r1 p (by omega)]
            refine ⟨1, rfl, (by show _ < 23184; omega), _, rfl, ?_⟩
            replace hA := hA.w0 1 (by decide) ((((up2 (up2 (up2 (up2 D 16 r (nI (2))) 17 r (nI (b))) 18 r (D 0 0)) 21 r (((up2 (up2 (up2 D 16 r (nI (2))) 17 r (nI (b))) 18 r (D 0 0)) 1 p))) 0 1) + ((up2 (up2 (up2 (up2 D 16 r (nI (2))) 17 r (nI (b))) 18 r (D 0 0)) 21 r (((up2 (up2 (up2 D 16 r (nI (2))) 17 r (nI (b))) 18 r (D 0 0)) 1 p))) 1 p)))
            refine ⟨r, rfl, (by show _ < 200; omega), _, _, mv_way hA hT rfl (by omega) eG (by omega), 2732 + r, (add_n rfl rfl), (by show _ < 23184; omega), _, rfl, ?_⟩
            replace hA := hA.w22 r (by omega) (((D 0 0) + (way t p q)))
            refine ⟨r, rfl, (by show _ < 200; omega), 2932 + r, (add_n rfl rfl), (by show _ < 23184; omega), nI (q), eG, ?_⟩
            replace hA := hA.w23 r (by omega) (nI (q))
            refine ⟨1232 + b, (add_n rfl rfl), (by show _ < 23184; omega), _, rfl, ?_⟩
            replace hA := hA.w11 b (by omega) (nI (1))
            refine ⟨r, rfl, (by show _ < 200; omega), 1292 + b, (add_n rfl rfl), (by show _ < 23184; omega), nI (q), eG, ?_⟩
            replace hA := hA.w12 b (by omega) (nI (q))
            refine ⟨32 + p, (add_n rfl rfl), (by show _ < 23184; omega), ?_⟩
            rw [hA.r3 p (by omega)]
            refine ⟨32 + p, (add_n rfl rfl), (by show _ < 23184; omega), _, rfl, ?_⟩
            replace hA := hA.w3 p (by omega) ((((up2 (up2 (up2 (up2 (up2 (up2 (up2 (up2 (up2 D 16 r (nI (2))) 17 r (nI (b))) 18 r (D 0 0)) 21 r (((up2 (up2 (up2 D 16 r (nI (2))) 17 r (nI (b))) 18 r (D 0 0)) 1 p))) 0 1 ((((up2 (up2 (up2 (up2 D 16 r (nI (2))) 17 r (nI (b))) 18 r (D 0 0)) 21 r (((up2 (up2 (up2 D 16 r (nI (2))) 17 r (nI (b))) 18 r (D 0 0)) 1 p))) 0 1) + ((up2 (up2 (up2 (up2 D 16 r (nI (2))) 17 r (nI (b))) 18 r (D 0 0)) 21 r (((up2 (up2 (up2 D 16 r (nI (2))) 17 r (nI (b))) 18 r (D 0 0)) 1 p))) 1 p)))) 22 r (((D 0 0) + (way t p q)))) 23 r (nI (q))) 11 b (nI (1))) 12 b (nI (q))) 3 p) + (nI (1))))
            refine ⟨68 + p, (add_n rfl rfl), (by show _ < 23184; omega), ?_⟩
            rw [hA.r6 p (by omega)]
            refine ⟨68 + p, (add_n rfl rfl), (by show _ < 23184; omega), _, rfl, ?_⟩
            replace hA := hA.w6 p (by omega) ((((up2 (up2 (up2 (up2 (up2 (up2 (up2 (up2 (up2 (up2 D 16 r (nI (2))) 17 r (nI (b))) 18 r (D 0 0)) 21 r (((up2 (up2 (up2 D 16 r (nI (2))) 17 r (nI (b))) 18 r (D 0 0)) 1 p))) 0 1 ((((up2 (up2 (up2 (up2 D 16 r (nI (2))) 17 r (nI (b))) 18 r (D 0 0)) 21 r (((up2 (up2 (up2 D 16 r (nI (2))) 17 r (nI (b))) 18 r (D 0 0)) 1 p))) 0 1) + ((up2 (up2 (up2 (up2 D 16 r (nI (2))) 17 r (nI (b))) 18 r (D 0 0)) 21 r (((up2 (up2 (up2 D 16 r (nI (2))) 17 r (nI (b))) 18 r (D 0 0)) 1 p))) 1 p)))) 22 r (((D 0 0) + (way t p q)))) 23 r (nI (q))) 11 b (nI (1))) 12 b (nI (q))) 3 p ((((up2 (up2 (up2 (up2 (up2 (up2 (up2 (up2 (up2 D 16 r (nI (2))) 17 r (nI (b))) 18 r (D 0 0)) 21 r (((up2 (up2 (up2 D 16 r (nI (2))) 17 r (nI (b))) 18 r (D 0 0)) 1 p))) 0 1 ((((up2 (up2 (up2 (up2 D 16 r (nI (2))) 17 r (nI (b))) 18 r (D 0 0)) 21 r (((up2 (up2 (up2 D 16 r (nI (2))) 17 r (nI (b))) 18 r (D 0 0)) 1 p))) 0 1) + ((up2 (up2 (up2 (up2 D 16 r (nI (2))) 17 r (nI (b))) 18 r (D 0 0)) 21 r (((up2 (up2 (up2 D 16 r (nI (2))) 17 r (nI (b))) 18 r (D 0 0)) 1 p))) 1 p)))) 22 r (((D 0 0) + (way t p q)))) 23 r (nI (q))) 11 b (nI (1))) 12 b (nI (q))) 3 p) + (nI (1))))) 6 p) + (nI (1))))
            refine ⟨(by decide), 80 + ((24 * p) + ((nN (D 0 0)) / 60)), (add_nr (add_n rfl (mul_n rfl rfl)) (div_n hm rfl ⟨by omega, by omega, by omega⟩)), (by show _ < 23184; omega), ?_⟩
            rw [hA.r7 ((24 * p) + ((nN (D 0 0)) / 60)) (by omega)]
            refine ⟨80 + ((24 * p) + ((nN (D 0 0)) / 60)), (add_nr (add_n rfl (mul_n rfl rfl)) (div_n hm rfl ⟨by omega, by omega, by omega⟩)), (by show _ < 23184; omega), _, rfl, ?_⟩
            replace hA := hA.w7 ((24 * p) + ((nN (D 0 0)) / 60)) (by omega) ((((up2 (up2 (up2 (up2 (up2 (up2 (up2 (up2 (up2 (up2 (up2 D 16 r (nI (2))) 17 r (nI (b))) 18 r (D 0 0)) 21 r (((up2 (up2 (up2 D 16 r (nI (2))) 17 r (nI (b))) 18 r (D 0 0)) 1 p))) 0 1 ((((up2 (up2 (up2 (up2 D 16 r (nI (2))) 17 r (nI (b))) 18 r (D 0 0)) 21 r (((up2 (up2 (up2 D 16 r (nI (2))) 17 r (nI (b))) 18 r (D 0 0)) 1 p))) 0 1) + ((up2 (up2 (up2 (up2 D 16 r (nI (2))) 17 r (nI (b))) 18 r (D 0 0)) 21 r (((up2 (up2 (up2 D 16 r (nI (2))) 17 r (nI (b))) 18 r (D 0 0)) 1 p))) 1 p)))) 22 r (((D 0 0) + (way t p q)))) 23 r (nI (q))) 11 b (nI (1))) 12 b (nI (q))) 3 p ((((up2 (up2 (up2 (up2 (up2 (up2 (up2 (up2 (up2 D 16 r (nI (2))) 17 r (nI (b))) 18 r (D 0 0)) 21 r (((up2 (up2 (up2 D 16 r (nI (2))) 17 r (nI (b))) 18 r (D 0 0)) 1 p))) 0 1 ((((up2 (up2 (up2 (up2 D 16 r (nI (2))) 17 r (nI (b))) 18 r (D 0 0)) 21 r (((up2 (up2 (up2 D 16 r (nI (2))) 17 r (nI (b))) 18 r (D 0 0)) 1 p))) 0 1) + ((up2 (up2 (up2 (up2 D 16 r (nI (2))) 17 r (nI (b))) 18 r (D 0 0)) 21 r (((up2 (up2 (up2 D 16 r (nI (2))) 17 r (nI (b))) 18 r (D 0 0)) 1 p))) 1 p)))) 22 r (((D 0 0) + (way t p q)))) 23 r (nI (q))) 11 b (nI (1))) 12 b (nI (q))) 3 p) + (nI (1))))) 6 p ((((up2 (up2 (up2 (up2 (up2 (up2 (up2 (up2 (up2 (up2 D 16 r (nI (2))) 17 r (nI (b))) 18 r (D 0 0)) 21 r (((up2 (up2 (up2 D 16 r (nI (2))) 17 r (nI (b))) 18 r (D 0 0)) 1 p))) 0 1 ((((up2 (up2 (up2 (up2 D 16 r (nI (2))) 17 r (nI (b))) 18 r (D 0 0)) 21 r (((up2 (up2 (up2 D 16 r (nI (2))) 17 r (nI (b))) 18 r (D 0 0)) 1 p))) 0 1) + ((up2 (up2 (up2 (up2 D 16 r (nI (2))) 17 r (nI (b))) 18 r (D 0 0)) 21 r (((up2 (up2 (up2 D 16 r (nI (2))) 17 r (nI (b))) 18 r (D 0 0)) 1 p))) 1 p)))) 22 r (((D 0 0) + (way t p q)))) 23 r (nI (q))) 11 b (nI (1))) 12 b (nI (q))) 3 p ((((up2 (up2 (up2 (up2 (up2 (up2 (up2 (up2 (up2 D 16 r (nI (2))) 17 r (nI (b))) 18 r (D 0 0)) 21 r (((up2 (up2 (up2 D 16 r (nI (2))) 17 r (nI (b))) 18 r (D 0 0)) 1 p))) 0 1 ((((up2 (up2 (up2 (up2 D 16 r (nI (2))) 17 r (nI (b))) 18 r (D 0 0)) 21 r (((up2 (up2 (up2 D 16 r (nI (2))) 17 r (nI (b))) 18 r (D 0 0)) 1 p))) 0 1) + ((up2 (up2 (up2 (up2 D 16 r (nI (2))) 17 r (nI (b))) 18 r (D 0 0)) 21 r (((up2 (up2 (up2 D 16 r (nI (2))) 17 r (nI (b))) 18 r (D 0 0)) 1 p))) 1 p)))) 22 r (((D 0 0) + (way t p q)))) 23 r (nI (q))) 11 b (nI (1))) 12 b (nI (q))) 3 p) + (nI (1))))) 6 p) + (nI (1))))) 7 ((24 * p) + ((nN (D 0 0)) / 60))) + (nI (1))))
            have h7 : Is ((up2 (up2 (up2 (up2 (up2 (up2 (up2 (up2 (up2 (up2 (up2 (up2 D 16 r (nI (2))) 17 r (nI (b))) 18 r (D 0 0)) 21 r (((up2 (up2 (up2 D 16 r (nI (2))) 17 r (nI (b))) 18 r (D 0 0)) 1 p))) 0 1 ((((up2 (up2 (up2 (up2 D 16 r (nI (2))) 17 r (nI (b))) 18 r (D 0 0)) 21 r (((up2 (up2 (up2 D 16 r (nI (2))) 17 r (nI (b))) 18 r (D 0 0)) 1 p))) 0 1) + ((up2 (up2 (up2 (up2 D 16 r (nI (2))) 17 r (nI (b))) 18 r (D 0 0)) 21 r (((up2 (up2 (up2 D 16 r (nI (2))) 17 r (nI (b))) 18 r (D 0 0)) 1 p))) 1 p)))) 22 r (((D 0 0) + (way t p q)))) 23 r (nI (q))) 11 b (nI (1))) 12 b (nI (q))) 3 p ((((up2 (up2 (up2 (up2 (up2 (up2 (up2 (up2 (up2 D 16 r (nI (2))) 17 r (nI (b))) 18 r (D 0 0)) 21 r (((up2 (up2 (up2 D 16 r (nI (2))) 17 r (nI (b))) 18 r (D 0 0)) 1 p))) 0 1 ((((up2 (up2 (up2 (up2 D 16 r (nI (2))) 17 r (nI (b))) 18 r (D 0 0)) 21 r (((up2 (up2 (up2 D 16 r (nI (2))) 17 r (nI (b))) 18 r (D 0 0)) 1 p))) 0 1) + ((up2 (up2 (up2 (up2 D 16 r (nI (2))) 17 r (nI (b))) 18 r (D 0 0)) 21 r (((up2 (up2 (up2 D 16 r (nI (2))) 17 r (nI (b))) 18 r (D 0 0)) 1 p))) 1 p)))) 22 r (((D 0 0) + (way t p q)))) 23 r (nI (q))) 11 b (nI (1))) 12 b (nI (q))) 3 p) + (nI (1))))) 6 p ((((up2 (up2 (up2 (up2 (up2 (up2 (up2 (up2 (up2 (up2 D 16 r (nI (2))) 17 r (nI (b))) 18 r (D 0 0)) 21 r (((up2 (up2 (up2 D 16 r (nI (2))) 17 r (nI (b))) 18 r (D 0 0)) 1 p))) 0 1 ((((up2 (up2 (up2 (up2 D 16 r (nI (2))) 17 r (nI (b))) 18 r (D 0 0)) 21 r (((up2 (up2 (up2 D 16 r (nI (2))) 17 r (nI (b))) 18 r (D 0 0)) 1 p))) 0 1) + ((up2 (up2 (up2 (up2 D 16 r (nI (2))) 17 r (nI (b))) 18 r (D 0 0)) 21 r (((up2 (up2 (up2 D 16 r (nI (2))) 17 r (nI (b))) 18 r (D 0 0)) 1 p))) 1 p)))) 22 r (((D 0 0) + (way t p q)))) 23 r (nI (q))) 11 b (nI (1))) 12 b (nI (q))) 3 p ((((up2 (up2 (up2 (up2 (up2 (up2 (up2 (up2 (up2 D 16 r (nI (2))) 17 r (nI (b))) 18 r (D 0 0)) 21 r (((up2 (up2 (up2 D 16 r (nI (2))) 17 r (nI (b))) 18 r (D 0 0)) 1 p))) 0 1 ((((up2 (up2 (up2 (up2 D 16 r (nI (2))) 17 r (nI (b))) 18 r (D 0 0)) 21 r (((up2 (up2 (up2 D 16 r (nI (2))) 17 r (nI (b))) 18 r (D 0 0)) 1 p))) 0 1) + ((up2 (up2 (up2 (up2 D 16 r (nI (2))) 17 r (nI (b))) 18 r (D 0 0)) 21 r (((up2 (up2 (up2 D 16 r (nI (2))) 17 r (nI (b))) 18 r (D 0 0)) 1 p))) 1 p)))) 22 r (((D 0 0) + (way t p q)))) 23 r (nI (q))) 11 b (nI (1))) 12 b (nI (q))) 3 p) + (nI (1))))) 6 p) + (nI (1))))) 7 ((24 * p) + ((nN (D 0 0)) / 60)) ((((up2 (up2 (up2 (up2 (up2 (up2 (up2 (up2 (up2 (up2 (up2 D 16 r (nI (2))) 17 r (nI (b))) 18 r (D 0 0)) 21 r (((up2 (up2 (up2 D 16 r (nI (2))) 17 r (nI (b))) 18 r (D 0 0)) 1 p))) 0 1 ((((up2 (up2 (up2 (up2 D 16 r (nI (2))) 17 r (nI (b))) 18 r (D 0 0)) 21 r (((up2 (up2 (up2 D 16 r (nI (2))) 17 r (nI (b))) 18 r (D 0 0)) 1 p))) 0 1) + ((up2 (up2 (up2 (up2 D 16 r (nI (2))) 17 r (nI (b))) 18 r (D 0 0)) 21 r (((up2 (up2 (up2 D 16 r (nI (2))) 17 r (nI (b))) 18 r (D 0 0)) 1 p))) 1 p)))) 22 r (((D 0 0) + (way t p q)))) 23 r (nI (q))) 11 b (nI (1))) 12 b (nI (q))) 3 p ((((up2 (up2 (up2 (up2 (up2 (up2 (up2 (up2 (up2 D 16 r (nI (2))) 17 r (nI (b))) 18 r (D 0 0)) 21 r (((up2 (up2 (up2 D 16 r (nI (2))) 17 r (nI (b))) 18 r (D 0 0)) 1 p))) 0 1 ((((up2 (up2 (up2 (up2 D 16 r (nI (2))) 17 r (nI (b))) 18 r (D 0 0)) 21 r (((up2 (up2 (up2 D 16 r (nI (2))) 17 r (nI (b))) 18 r (D 0 0)) 1 p))) 0 1) + ((up2 (up2 (up2 (up2 D 16 r (nI (2))) 17 r (nI (b))) 18 r (D 0 0)) 21 r (((up2 (up2 (up2 D 16 r (nI (2))) 17 r (nI (b))) 18 r (D 0 0)) 1 p))) 1 p)))) 22 r (((D 0 0) + (way t p q)))) 23 r (nI (q))) 11 b (nI (1))) 12 b (nI (q))) 3 p) + (nI (1))))) 6 p ((((up2 (up2 (up2 (up2 (up2 (up2 (up2 (up2 (up2 (up2 D 16 r (nI (2))) 17 r (nI (b))) 18 r (D 0 0)) 21 r (((up2 (up2 (up2 D 16 r (nI (2))) 17 r (nI (b))) 18 r (D 0 0)) 1 p))) 0 1 ((((up2 (up2 (up2 (up2 D 16 r (nI (2))) 17 r (nI (b))) 18 r (D 0 0)) 21 r (((up2 (up2 (up2 D 16 r (nI (2))) 17 r (nI (b))) 18 r (D 0 0)) 1 p))) 0 1) + ((up2 (up2 (up2 (up2 D 16 r (nI (2))) 17 r (nI (b))) 18 r (D 0 0)) 21 r (((up2 (up2 (up2 D 16 r (nI (2))) 17 r (nI (b))) 18 r (D 0 0)) 1 p))) 1 p)))) 22 r (((D 0 0) + (way t p q)))) 23 r (nI (q))) 11 b (nI (1))) 12 b (nI (q))) 3 p ((((up2 (up2 (up2 (up2 (up2 (up2 (up2 (up2 (up2 D 16 r (nI (2))) 17 r (nI (b))) 18 r (D 0 0)) 21 r (((up2 (up2 (up2 D 16 r (nI (2))) 17 r (nI (b))) 18 r (D 0 0)) 1 p))) 0 1 ((((up2 (up2 (up2 (up2 D 16 r (nI (2))) 17 r (nI (b))) 18 r (D 0 0)) 21 r (((up2 (up2 (up2 D 16 r (nI (2))) 17 r (nI (b))) 18 r (D 0 0)) 1 p))) 0 1) + ((up2 (up2 (up2 (up2 D 16 r (nI (2))) 17 r (nI (b))) 18 r (D 0 0)) 21 r (((up2 (up2 (up2 D 16 r (nI (2))) 17 r (nI (b))) 18 r (D 0 0)) 1 p))) 1 p)))) 22 r (((D 0 0) + (way t p q)))) 23 r (nI (q))) 11 b (nI (1))) 12 b (nI (q))) 3 p) + (nI (1))))) 6 p) + (nI (1))))) 7 ((24 * p) + ((nN (D 0 0)) / 60))) + (nI (1))))) 0 7) 4000 := by simp [up2]; exact h7
            obtain ⟨τ1, ev1, hA⟩ := mv_logs hA h7 (v1 := (nI (1))) (v2 := (nI (p))) (v3 := (nI (r))) (v4 := (nI (b)))
            refine ⟨_, _, ev1, ?_⟩
            refine ⟨rfl, ?_⟩
            have e : cms t D r p q k = (lgs (up2 (up2 (up2 (up2 (up2 (up2 (up2 (up2 (up2 (up2 (up2 (up2 D 16 r (nI (2))) 17 r (nI (b))) 18 r (D 0 0)) 21 r (((up2 (up2 (up2 D 16 r (nI (2))) 17 r (nI (b))) 18 r (D 0 0)) 1 p))) 0 1 ((((up2 (up2 (up2 (up2 D 16 r (nI (2))) 17 r (nI (b))) 18 r (D 0 0)) 21 r (((up2 (up2 (up2 D 16 r (nI (2))) 17 r (nI (b))) 18 r (D 0 0)) 1 p))) 0 1) + ((up2 (up2 (up2 (up2 D 16 r (nI (2))) 17 r (nI (b))) 18 r (D 0 0)) 21 r (((up2 (up2 (up2 D 16 r (nI (2))) 17 r (nI (b))) 18 r (D 0 0)) 1 p))) 1 p)))) 22 r (((D 0 0) + (way t p q)))) 23 r (nI (q))) 11 b (nI (1))) 12 b (nI (q))) 3 p ((((up2 (up2 (up2 (up2 (up2 (up2 (up2 (up2 (up2 D 16 r (nI (2))) 17 r (nI (b))) 18 r (D 0 0)) 21 r (((up2 (up2 (up2 D 16 r (nI (2))) 17 r (nI (b))) 18 r (D 0 0)) 1 p))) 0 1 ((((up2 (up2 (up2 (up2 D 16 r (nI (2))) 17 r (nI (b))) 18 r (D 0 0)) 21 r (((up2 (up2 (up2 D 16 r (nI (2))) 17 r (nI (b))) 18 r (D 0 0)) 1 p))) 0 1) + ((up2 (up2 (up2 (up2 D 16 r (nI (2))) 17 r (nI (b))) 18 r (D 0 0)) 21 r (((up2 (up2 (up2 D 16 r (nI (2))) 17 r (nI (b))) 18 r (D 0 0)) 1 p))) 1 p)))) 22 r (((D 0 0) + (way t p q)))) 23 r (nI (q))) 11 b (nI (1))) 12 b (nI (q))) 3 p) + (nI (1))))) 6 p ((((up2 (up2 (up2 (up2 (up2 (up2 (up2 (up2 (up2 (up2 D 16 r (nI (2))) 17 r (nI (b))) 18 r (D 0 0)) 21 r (((up2 (up2 (up2 D 16 r (nI (2))) 17 r (nI (b))) 18 r (D 0 0)) 1 p))) 0 1 ((((up2 (up2 (up2 (up2 D 16 r (nI (2))) 17 r (nI (b))) 18 r (D 0 0)) 21 r (((up2 (up2 (up2 D 16 r (nI (2))) 17 r (nI (b))) 18 r (D 0 0)) 1 p))) 0 1) + ((up2 (up2 (up2 (up2 D 16 r (nI (2))) 17 r (nI (b))) 18 r (D 0 0)) 21 r (((up2 (up2 (up2 D 16 r (nI (2))) 17 r (nI (b))) 18 r (D 0 0)) 1 p))) 1 p)))) 22 r (((D 0 0) + (way t p q)))) 23 r (nI (q))) 11 b (nI (1))) 12 b (nI (q))) 3 p ((((up2 (up2 (up2 (up2 (up2 (up2 (up2 (up2 (up2 D 16 r (nI (2))) 17 r (nI (b))) 18 r (D 0 0)) 21 r (((up2 (up2 (up2 D 16 r (nI (2))) 17 r (nI (b))) 18 r (D 0 0)) 1 p))) 0 1 ((((up2 (up2 (up2 (up2 D 16 r (nI (2))) 17 r (nI (b))) 18 r (D 0 0)) 21 r (((up2 (up2 (up2 D 16 r (nI (2))) 17 r (nI (b))) 18 r (D 0 0)) 1 p))) 0 1) + ((up2 (up2 (up2 (up2 D 16 r (nI (2))) 17 r (nI (b))) 18 r (D 0 0)) 21 r (((up2 (up2 (up2 D 16 r (nI (2))) 17 r (nI (b))) 18 r (D 0 0)) 1 p))) 1 p)))) 22 r (((D 0 0) + (way t p q)))) 23 r (nI (q))) 11 b (nI (1))) 12 b (nI (q))) 3 p) + (nI (1))))) 6 p) + (nI (1))))) 7 ((24 * p) + ((nN (D 0 0)) / 60)) ((((up2 (up2 (up2 (up2 (up2 (up2 (up2 (up2 (up2 (up2 (up2 D 16 r (nI (2))) 17 r (nI (b))) 18 r (D 0 0)) 21 r (((up2 (up2 (up2 D 16 r (nI (2))) 17 r (nI (b))) 18 r (D 0 0)) 1 p))) 0 1 ((((up2 (up2 (up2 (up2 D 16 r (nI (2))) 17 r (nI (b))) 18 r (D 0 0)) 21 r (((up2 (up2 (up2 D 16 r (nI (2))) 17 r (nI (b))) 18 r (D 0 0)) 1 p))) 0 1) + ((up2 (up2 (up2 (up2 D 16 r (nI (2))) 17 r (nI (b))) 18 r (D 0 0)) 21 r (((up2 (up2 (up2 D 16 r (nI (2))) 17 r (nI (b))) 18 r (D 0 0)) 1 p))) 1 p)))) 22 r (((D 0 0) + (way t p q)))) 23 r (nI (q))) 11 b (nI (1))) 12 b (nI (q))) 3 p ((((up2 (up2 (up2 (up2 (up2 (up2 (up2 (up2 (up2 D 16 r (nI (2))) 17 r (nI (b))) 18 r (D 0 0)) 21 r (((up2 (up2 (up2 D 16 r (nI (2))) 17 r (nI (b))) 18 r (D 0 0)) 1 p))) 0 1 ((((up2 (up2 (up2 (up2 D 16 r (nI (2))) 17 r (nI (b))) 18 r (D 0 0)) 21 r (((up2 (up2 (up2 D 16 r (nI (2))) 17 r (nI (b))) 18 r (D 0 0)) 1 p))) 0 1) + ((up2 (up2 (up2 (up2 D 16 r (nI (2))) 17 r (nI (b))) 18 r (D 0 0)) 21 r (((up2 (up2 (up2 D 16 r (nI (2))) 17 r (nI (b))) 18 r (D 0 0)) 1 p))) 1 p)))) 22 r (((D 0 0) + (way t p q)))) 23 r (nI (q))) 11 b (nI (1))) 12 b (nI (q))) 3 p) + (nI (1))))) 6 p ((((up2 (up2 (up2 (up2 (up2 (up2 (up2 (up2 (up2 (up2 D 16 r (nI (2))) 17 r (nI (b))) 18 r (D 0 0)) 21 r (((up2 (up2 (up2 D 16 r (nI (2))) 17 r (nI (b))) 18 r (D 0 0)) 1 p))) 0 1 ((((up2 (up2 (up2 (up2 D 16 r (nI (2))) 17 r (nI (b))) 18 r (D 0 0)) 21 r (((up2 (up2 (up2 D 16 r (nI (2))) 17 r (nI (b))) 18 r (D 0 0)) 1 p))) 0 1) + ((up2 (up2 (up2 (up2 D 16 r (nI (2))) 17 r (nI (b))) 18 r (D 0 0)) 21 r (((up2 (up2 (up2 D 16 r (nI (2))) 17 r (nI (b))) 18 r (D 0 0)) 1 p))) 1 p)))) 22 r (((D 0 0) + (way t p q)))) 23 r (nI (q))) 11 b (nI (1))) 12 b (nI (q))) 3 p ((((up2 (up2 (up2 (up2 (up2 (up2 (up2 (up2 (up2 D 16 r (nI (2))) 17 r (nI (b))) 18 r (D 0 0)) 21 r (((up2 (up2 (up2 D 16 r (nI (2))) 17 r (nI (b))) 18 r (D 0 0)) 1 p))) 0 1 ((((up2 (up2 (up2 (up2 D 16 r (nI (2))) 17 r (nI (b))) 18 r (D 0 0)) 21 r (((up2 (up2 (up2 D 16 r (nI (2))) 17 r (nI (b))) 18 r (D 0 0)) 1 p))) 0 1) + ((up2 (up2 (up2 (up2 D 16 r (nI (2))) 17 r (nI (b))) 18 r (D 0 0)) 21 r (((up2 (up2 (up2 D 16 r (nI (2))) 17 r (nI (b))) 18 r (D 0 0)) 1 p))) 1 p)))) 22 r (((D 0 0) + (way t p q)))) 23 r (nI (q))) 11 b (nI (1))) 12 b (nI (q))) 3 p) + (nI (1))))) 6 p) + (nI (1))))) 7 ((24 * p) + ((nN (D 0 0)) / 60))) + (nI (1))))) (nI (1)) (nI (p)) (nI (r)) (nI (b))) := by
              unfold cms
              rw [if_neg (fun q => q.elim h45 (fun q => absurd q (Int32.not_lt.mpr h59)))]
              rw [hpk]
              dsimp only
              unfold tak
              simp [up2]
            rw [e]
            exact hA
          · exact absurd h80 (nI_m1 (by omega))
        · refine br_eq rfl rfl (by omega) (by omega) (fun h61 => ?_) (fun h61 => ?_)
          · exact absurd h61 (by omega)
          · obtain ⟨τ1, ev1, hA⟩ := mv_loses4 hA hT rfl hr hp hF h7 hm hm2
            refine ⟨_, _, ev1, ?_⟩
            refine ⟨rfl, ?_⟩
            have e : cms t D r p q k = (los D r p (nI 4)) := by
              unfold cms
              rw [if_pos (Or.inr (i_nle h59))]
              rw [if_pos h16]
            rw [e]
            exact hA
theorem mv_comes {t : Sg} {D : Dy} {τ : Sg} (hA : Ag t D τ) (hT : WN t) {r p q k : Nat} {x : Int32} (hx : x = nI r) (hr : r < 200) (hp : p < nP t) (hF : t 77 false 0 r = nI p) (hG : t 78 false 0 r = nI q) (hq : q < nP t) (hK : t 79 false 0 r = nI k) (hk : k < 4) (h7 : Is (D 0 7) 4000) (hm : D 0 0 = nI (nN (D 0 0))) (hm2 : nN (D 0 0) < 1440) : ∃ τ', Ev true 158 [.inr (.inr (69, false, 0)), .inl x] τ none τ' ∧ Ag t (cms t D r p q k) τ' := by
  cases hpk : pik D p (nB t) with
  | none => exact mv_comes_none (b := 0) hA hT hx hr hp hF hG hq hK hk h7 hm hm2 hpk
  | some b => exact mv_comes_some hA hT hx hr hp hF hG hq hK hk h7 hm hm2 hpk
