/-! Where a text's fault is, on the model's state. -/
def TX (t : Sg) : Prop := Is (t 69 false 0 20) 40 ∧ ∀ i, i < 40 → Is (t 83 false 0 i) 30
def tx (t : Sg) (i : Nat) : Nat := if i < nSaid t then nN (t 83 false 0 i) else 99
def flR (f : Nat → Nat) (n : Nat) : Nat → Nat → Nat × Nat × Nat → Int32
  | 0, _, q => if q.1 = 6 ∨ q.1 = 10 then -1 else nI n
  | m + 1, i, q => match nx q (f i) with
    | none => nI i
    | some q' => flR f n m (i + 1) q'
theorem flR_S (f : Nat → Nat) (n m i : Nat) (q : Nat × Nat × Nat) : flR f n (m + 1) i q = match nx q (f i) with
    | none => nI i
    | some q' => flR f n m (i + 1) q' := rfl
theorem flR_ok {f : Nat → Nat} {n : Nat} (hn : n ≤ 40) : ∀ (m i : Nat) (q : Nat × Nat × Nat), i + m = n → au f i = some q → flR f n m i q = -1 → ∃ q', au f n = some q' ∧ (q'.1 = 6 ∨ q'.1 = 10)
  | 0, i, q, h, ha, e => by
    unfold flR at e
    split at e
    next hc => exact ⟨q, by rw [← ha]; congr 1; omega, hc⟩
    next => exact absurd e (nI_m1 (by omega))
  | m + 1, i, q, h, ha, e => by
    rw [flR_S] at e
    split at e
    next => exact absurd e (nI_m1 (by omega))
    next q' hq => exact flR_ok hn m (i + 1) q' (by omega) (by rw [au_S, ha]; exact hq) e
def oO : Option (Nat × Nat) → Int32
  | none => -1
  | some r => nI r.1
theorem nx_eq {st op dg s : Nat} : nx (st, op, dg) s = (nxs st op dg s).map (fun r => (r.1, r.2, if s < 10 then dg + 1 else 0)) := rfl
theorem mv_behind  {τ : Sg} {s op : Nat} (hs : s ≤ 99) (hop : op ≤ 8) : Ev true 52 [.inl (nI (s)), .inl (nI (op))] τ (some (.inl (oO (beh op s)))) τ := by
  refine Ev_wp 64 [] rfl rfl ?_
  refine br_eq rfl rfl (by omega) (by omega) (fun h2 => ?_) (fun h2 => ?_)
  · refine ⟨?_, rfl⟩
    unfold beh
    rw [if_pos (by omega)]
    rfl
  · refine br_ne rfl rfl (by omega) (by omega) (fun h5 => ?_) (fun h5 => ?_)
    · refine br_ne rfl rfl (by omega) (by omega) (fun h10 => ?_) (fun h10 => ?_)
      · refine br_ne rfl rfl (by omega) (by omega) (fun h17 => ?_) (fun h17 => ?_)
        · refine ⟨?_, rfl⟩
          unfold beh
          rw [if_neg (by omega), if_neg (by omega), if_neg (by omega)]
          rfl
        · refine br_ne rfl rfl (by omega) (by omega) (fun h19 => ?_) (fun h19 => ?_)
          · refine ⟨?_, rfl⟩
            unfold beh
            rw [if_neg (by omega), if_neg (by omega), if_neg (by omega)]
            rfl
          · refine ⟨?_, rfl⟩
            unfold beh
            rw [if_neg (by omega), if_neg (by omega), if_pos (by omega)]
            rfl
      · refine br_le rfl rfl (by omega) (by omega) (fun h12 => ?_) (fun h12 => ?_)
        · refine br_ne rfl rfl (by omega) (by omega) (fun h17 => ?_) (fun h17 => ?_)
          · refine ⟨?_, rfl⟩
            unfold beh
            rw [if_neg (by omega), if_neg (by omega), if_neg (by omega)]
            rfl
          · refine br_ne rfl rfl (by omega) (by omega) (fun h19 => ?_) (fun h19 => ?_)
            · refine ⟨?_, rfl⟩
              unfold beh
              rw [if_neg (by omega), if_neg (by omega), if_neg (by omega)]
              rfl
            · refine ⟨?_, rfl⟩
              unfold beh
              rw [if_neg (by omega), if_neg (by omega), if_pos (by omega)]
              rfl
        · refine ⟨?_, rfl⟩
          unfold beh
          rw [if_neg (by omega), if_pos (by omega)]
          rfl
    · refine ⟨?_, rfl⟩
      unfold beh
      rw [if_pos (by omega)]
      rfl
theorem beh_7 {op s r1 r2 : Nat} (h : beh op s = some (r1, r2)) : (r1 = 7 ∧ 0 < op ∧ r2 = op - 1) ∨ (¬ r1 = 7 ∧ r2 = op ∧ r1 ≤ 8) := by
  unfold beh at h
  split at h
  · cases h; omega
  · split at h
    · cases h; omega
    · split at h
      · cases h; omega
      · cases h
theorem in_nn {a b s : Nat} (ha : a < 1000) (hb : b < 1000) (hs : s < 1000) : (nI a ≤ nI s ∧ nI s ≤ nI b) ↔ (a ≤ s ∧ s ≤ b) := by
  rw [nI_leI (by omega) (by omega), nI_leI (by omega) (by omega)]
theorem fo_b126 {P : Option AV → Sg → Prop} {τ : Sg} {st op dg i s : Nat} (hop : op ≤ 8) (hs : s ≤ 99) (hK1 : ∀ r, beh op s = some r → G true 116 P 185 [some (.inr (.inr (69, false, 0))), some (.inl (nI st)), some (.inl (nI r.2)), some (.inl (nI dg)), some (.inl (nI i)), some (.inl (nI s)), some (.inl (bI (isU s))), some (.inl (bI (s < 10 ∧ 0 < dg))), some (.inl (nI r.1))] [] τ) (hK0 : beh op s = none → ∀ o : Nat, G true 116 P 185 [some (.inr (.inr (69, false, 0))), some (.inl (nI st)), some (.inl (nI o)), some (.inl (nI dg)), some (.inl (nI i)), some (.inl (nI s)), some (.inl (bI (isU s))), some (.inl (bI (s < 10 ∧ 0 < dg))), some (.inl (-1))] [] τ) : G true 116 P 126 [some (.inr (.inr (69, false, 0))), some (.inl (nI st)), some (.inl (nI op)), some (.inl (nI dg)), some (.inl (nI i)), some (.inl (nI s)), some (.inl (bI (isU s))), some (.inl (bI (s < 10 ∧ 0 < dg))), some (.inl (-1))] [] τ := by
  cases hb : beh op s with
  | none =>
    rw [hb] at hK0
    refine G_wp 60 [185] rfl ?_
    have ev := mv_behind (τ := τ) hs hop
    rw [hb] at ev
    refine ⟨_, _, ev, _, rfl, ?_⟩
    refine ⟨fun h133 => ?_, fun h133 => ?_⟩
    · refine ⟨nI (op - 0), (sub_n rfl rfl (by omega)), ?_⟩
      exact hK0 rfl _
    · exact absurd h133 (by decide)
  | some r =>
    obtain ⟨r1, r2⟩ := r
    rcases beh_7 hb with ⟨b1, b2, b3⟩ | ⟨b1, b2, b3⟩
    · rw [hb] at hK1
      refine G_wp 60 [185] rfl ?_
      have ev := mv_behind (τ := τ) hs hop
      rw [hb] at ev
      refine ⟨_, _, ev, _, rfl, ?_⟩
      refine br_ne rfl rfl (by omega) (by omega) (fun h133 => ?_) (fun h133 => ?_)
      · exact absurd h133 (by omega)
      · refine ⟨nI (op - 1), (sub_n rfl rfl (by omega)), ?_⟩
        have e : op - 1 = r2 := by omega
        rw [e]
        exact hK1 (r1, r2) rfl
    · rw [hb] at hK1
      refine G_wp 60 [185] rfl ?_
      have ev := mv_behind (τ := τ) hs hop
      rw [hb] at ev
      refine ⟨_, _, ev, _, rfl, ?_⟩
      refine br_ne rfl rfl (by omega) (by omega) (fun h133 => ?_) (fun h133 => ?_)
      · refine ⟨nI (op - 0), (sub_n rfl rfl (by omega)), ?_⟩
        have e : op - 0 = r2 := by omega
        rw [e]
        exact hK1 (r1, r2) rfl
      · exact absurd h133 (by omega)
theorem fo_b143 {P : Option AV → Sg → Prop} {τ : Sg} {st op dg i s : Nat} (hop : op ≤ 8) (hs : s ≤ 99) (hK1 : ∀ r, beh op s = some r → G true 116 P 185 [some (.inr (.inr (69, false, 0))), some (.inl (nI st)), some (.inl (nI r.2)), some (.inl (nI dg)), some (.inl (nI i)), some (.inl (nI s)), some (.inl (bI (isU s))), some (.inl (bI (s < 10 ∧ 0 < dg))), some (.inl (nI r.1))] [] τ) (hK0 : beh op s = none → ∀ o : Nat, G true 116 P 185 [some (.inr (.inr (69, false, 0))), some (.inl (nI st)), some (.inl (nI o)), some (.inl (nI dg)), some (.inl (nI i)), some (.inl (nI s)), some (.inl (bI (isU s))), some (.inl (bI (s < 10 ∧ 0 < dg))), some (.inl (-1))] [] τ) : G true 116 P 143 [some (.inr (.inr (69, false, 0))), some (.inl (nI st)), some (.inl (nI op)), some (.inl (nI dg)), some (.inl (nI i)), some (.inl (nI s)), some (.inl (bI (isU s))), some (.inl (bI (s < 10 ∧ 0 < dg))), some (.inl (-1))] [] τ := by
  cases hb : beh op s with
  | none =>
    rw [hb] at hK0
    refine G_wp 60 [185] rfl ?_
    have ev := mv_behind (τ := τ) hs hop
    rw [hb] at ev
    refine ⟨_, _, ev, _, rfl, ?_⟩
    refine ⟨fun h150 => ?_, fun h150 => ?_⟩
    · refine ⟨nI (op - 0), (sub_n rfl rfl (by omega)), ?_⟩
      exact hK0 rfl _
    · exact absurd h150 (by decide)
  | some r =>
    obtain ⟨r1, r2⟩ := r
    rcases beh_7 hb with ⟨b1, b2, b3⟩ | ⟨b1, b2, b3⟩
    · rw [hb] at hK1
      refine G_wp 60 [185] rfl ?_
      have ev := mv_behind (τ := τ) hs hop
      rw [hb] at ev
      refine ⟨_, _, ev, _, rfl, ?_⟩
      refine br_ne rfl rfl (by omega) (by omega) (fun h150 => ?_) (fun h150 => ?_)
      · exact absurd h150 (by omega)
      · refine ⟨nI (op - 1), (sub_n rfl rfl (by omega)), ?_⟩
        have e : op - 1 = r2 := by omega
        rw [e]
        exact hK1 (r1, r2) rfl
    · rw [hb] at hK1
      refine G_wp 60 [185] rfl ?_
      have ev := mv_behind (τ := τ) hs hop
      rw [hb] at ev
      refine ⟨_, _, ev, _, rfl, ?_⟩
      refine br_ne rfl rfl (by omega) (by omega) (fun h150 => ?_) (fun h150 => ?_)
      · refine ⟨nI (op - 0), (sub_n rfl rfl (by omega)), ?_⟩
        have e : op - 0 = r2 := by omega
        rw [e]
        exact hK1 (r1, r2) rfl
      · exact absurd h150 (by omega)
theorem fo_38 {P : Option AV → Sg → Prop} {τ : Sg} {st op dg i s : Nat} (hst : st ≤ 10) (hop : op ≤ 8) (hdg : dg ≤ 3) (hs : s ≤ 99) (hK1 : ∀ r, nxs st op dg s = some r → G true 116 P 185 [some (.inr (.inr (69, false, 0))), some (.inl (nI st)), some (.inl (nI r.2)), some (.inl (nI dg)), some (.inl (nI i)), some (.inl (nI s)), some (.inl (bI (isU s))), some (.inl (bI (s < 10 ∧ 0 < dg))), some (.inl (nI r.1))] [] τ) (hK0 : nxs st op dg s = none → ∀ o : Nat, G true 116 P 185 [some (.inr (.inr (69, false, 0))), some (.inl (nI st)), some (.inl (nI o)), some (.inl (nI dg)), some (.inl (nI i)), some (.inl (nI s)), some (.inl (bI (isU s))), some (.inl (bI (s < 10 ∧ 0 < dg))), some (.inl (-1))] [] τ) : G true 116 P 38 [some (.inr (.inr (69, false, 0))), some (.inl (nI st)), some (.inl (nI op)), some (.inl (nI dg)), some (.inl (nI i)), some (.inl (nI s)), some (.inl (bI (isU s))), some (.inl (bI (s < 10 ∧ 0 < dg))), none] [] τ := by
  refine G_wp 300 [126, 143, 185] rfl ?_
  refine ⟨_, rfl, ?_⟩
  refine br_ne rfl rfl (by omega) (by omega) (fun h41 => ?_) (fun h41 => ?_)
  · refine br_ge rfl rfl (by omega) (by omega) (fun h76 => ?_) (fun h76 => ?_)
    · refine br_ge rfl rfl (by omega) (by omega) (fun h88 => ?_) (fun h88 => ?_)
      · refine br_ne rfl rfl (by omega) (by omega) (fun h142 => ?_) (fun h142 => ?_)
        · refine br_ne rfl rfl (by omega) (by omega) (fun h159 => ?_) (fun h159 => ?_)
          · refine br_ne rfl rfl (by omega) (by omega) (fun h177 => ?_) (fun h177 => ?_)
            · exact hK0 (by unfold nxs; rw [if_neg h41, if_neg (by omega), if_neg (by omega), if_neg h142, if_neg h159, if_neg h177]) _
            · refine br_ne rfl rfl (by omega) (by omega) (fun h180 => ?_) (fun h180 => ?_)
              · refine ⟨_, rfl, ?_⟩
                exact hK0 (by unfold nxs; rw [if_neg h41, if_neg (by omega), if_neg (by omega), if_neg h142, if_neg h159, if_pos h177, if_neg h180]) _
              · refine ⟨_, rfl, ?_⟩
                exact hK1 (3, op) (by unfold nxs; (rw [if_neg h41, if_neg (by omega), if_neg (by omega), if_neg h142, if_neg h159, if_pos h177, if_pos h180] <;> first | rfl | (exfalso; omega)))
          · refine br_ne rfl rfl (by omega) (by omega) (fun h162 => ?_) (fun h162 => ?_)
            · refine ⟨_, _, mv_in, ?_⟩
              refine brb_eq (fun h169 => ?_) (fun h169 => ?_)
              · refine ⟨_, rfl, ?_⟩
                exact hK0 (by unfold nxs; rw [if_neg h41, if_neg (by omega), if_neg (by omega), if_neg h142, if_pos h159, if_neg h162, if_neg (fun q => h169 ((in_nn (by omega) (by omega) (by omega)).mpr q))]) _
              · refine ⟨_, rfl, ?_⟩
                exact hK1 (10, op) (by unfold nxs; (rw [if_neg h41, if_neg (by omega), if_neg (by omega), if_neg h142, if_pos h159, if_neg h162, if_pos ((in_nn (by omega) (by omega) (by omega)).mp h169)] <;> first | rfl | (exfalso; omega)))
            · refine ⟨_, rfl, ?_⟩
              exact hK1 (9, op) (by unfold nxs; (rw [if_neg h41, if_neg (by omega), if_neg (by omega), if_neg h142, if_pos h159, if_pos h162] <;> first | rfl | (exfalso; omega)))
        · have e : nxs st op dg s = beh op s := by
            unfold nxs
            rw [if_neg h41, if_neg (by omega), if_neg (by omega), if_pos h142]
          rw [e] at hK1 hK0
          exact fo_b143 hop hs hK1 hK0
      · refine brb_eq (fun h90 => ?_) (fun h90 => ?_)
        · refine br_eq rfl rfl (by omega) (by omega) (fun h101 => ?_) (fun h101 => ?_)
          · refine ⟨nI (st - 3), (sub_n rfl rfl (by omega)), ?_⟩
            exact hK1 (st - 3, op) (by unfold nxs; (rw [if_neg h41, if_neg (by omega), if_pos (by omega), if_neg h90, if_pos (by omega)] <;> first | rfl | (exfalso; omega)))
          · refine br_ne rfl rfl (by omega) (by omega) (fun h104 => ?_) (fun h104 => ?_)
            · refine br_ne rfl rfl (by omega) (by omega) (fun h112 => ?_) (fun h112 => ?_)
              · refine br_ne rfl rfl (by omega) (by omega) (fun h125 => ?_) (fun h125 => ?_)
                · exact hK0 (by unfold nxs; rw [if_neg h41, if_neg (by omega), if_pos (by omega), if_neg h90, if_neg (by omega), if_neg h112, if_neg h125]) _
                · have e : nxs st op dg s = beh op s := by
                    unfold nxs
                    rw [if_neg h41, if_neg (by omega), if_pos (by omega), if_neg h90, if_neg (by omega), if_neg h112, if_pos h125]
                  rw [e] at hK1 hK0
                  exact fo_b126 hop hs hK1 hK0
              · refine ⟨_, _, mv_in, ?_⟩
                refine brb_eq (fun h117 => ?_) (fun h117 => ?_)
                · refine ⟨_, rfl, ?_⟩
                  exact hK0 (by unfold nxs; rw [if_neg h41, if_neg (by omega), if_pos (by omega), if_neg h90, if_neg (by omega), if_pos h112, if_neg (fun q => h117 ((in_nn (by omega) (by omega) (by omega)).mpr q))]) _
                · refine ⟨_, rfl, ?_⟩
                  exact hK1 (2, op) (by unfold nxs; (rw [if_neg h41, if_neg (by omega), if_pos (by omega), if_neg h90, if_neg (by omega), if_pos h112, if_pos ((in_nn (by omega) (by omega) (by omega)).mp h117)] <;> first | rfl | (exfalso; omega)))
            · refine ⟨nI (st - 3), (sub_n rfl rfl (by omega)), ?_⟩
              exact hK1 (st - 3, op) (by unfold nxs; (rw [if_neg h41, if_neg (by omega), if_pos (by omega), if_neg h90, if_pos (by omega)] <;> first | rfl | (exfalso; omega)))
        · refine br_ge rfl rfl (by omega) (by omega) (fun h93 => ?_) (fun h93 => ?_)
          · refine ⟨_, rfl, ?_⟩
            exact hK0 (by unfold nxs; rw [if_neg h41, if_neg (by omega), if_pos (by omega), if_pos h90, if_neg (by omega)]) _
          · refine ⟨_, rfl, ?_⟩
            exact hK1 (st, op) (by unfold nxs; (rw [if_neg h41, if_neg (by omega), if_pos (by omega), if_pos h90, if_pos (by omega)] <;> first | rfl | (exfalso; omega)))
    · refine brb_eq (fun h78 => ?_) (fun h78 => ?_)
      · refine ⟨_, rfl, ?_⟩
        exact hK0 (by unfold nxs; rw [if_neg h41, if_pos (by omega), if_neg h78]) _
      · refine ⟨nI (st + 3), (add_n rfl rfl), ?_⟩
        exact hK1 (st + 3, op) (by unfold nxs; (rw [if_neg h41, if_pos (by omega), if_pos h78] <;> first | rfl | (exfalso; omega)))
  · refine br_ne rfl rfl (by omega) (by omega) (fun h44 => ?_) (fun h44 => ?_)
    · refine br_ne rfl rfl (by omega) (by omega) (fun h49 => ?_) (fun h49 => ?_)
      · refine brb_eq (fun h56 => ?_) (fun h56 => ?_)
        · refine ⟨_, rfl, ?_⟩
          refine br_ne rfl rfl (by omega) (by omega) (fun h64 => ?_) (fun h64 => ?_)
          · refine ⟨nI (op + 0), (add_n rfl rfl), ?_⟩
            exact hK0 (by unfold nxs; rw [if_pos h41, if_neg h44, if_neg (by omega), if_neg h56]) _
          · refine br_ge rfl rfl (by omega) (by omega) (fun h67 => ?_) (fun h67 => ?_)
            · refine ⟨nI (op + 0), (add_n rfl rfl), ?_⟩
              exact hK0 (by unfold nxs; rw [if_pos h41, if_neg h44, if_neg (by omega), if_neg h56]) _
            · refine ⟨nI (op + 1), (add_n rfl rfl), ?_⟩
              exact hK0 (by unfold nxs; rw [if_pos h41, if_neg h44, if_neg (by omega), if_neg h56]) _
        · refine ⟨_, rfl, ?_⟩
          refine br_ne rfl rfl (by omega) (by omega) (fun h64 => ?_) (fun h64 => ?_)
          · refine ⟨nI (op + 0), (add_n rfl rfl), ?_⟩
            exact hK1 (4, op + 0) (by unfold nxs; (rw [if_pos h41, if_neg h44, if_neg (by omega), if_pos h56] <;> first | rfl | (exfalso; omega)))
          · refine br_ge rfl rfl (by omega) (by omega) (fun h67 => ?_) (fun h67 => ?_)
            · refine ⟨nI (op + 0), (add_n rfl rfl), ?_⟩
              exact hK1 (4, op + 0) (by unfold nxs; (rw [if_pos h41, if_neg h44, if_neg (by omega), if_pos h56] <;> first | rfl | (exfalso; omega)))
            · refine ⟨nI (op + 1), (add_n rfl rfl), ?_⟩
              exact hK1 (4, op + 1) (by unfold nxs; (rw [if_pos h41, if_neg h44, if_neg (by omega), if_pos h56] <;> first | rfl | (exfalso; omega)))
      · refine br_ge rfl rfl (by omega) (by omega) (fun h52 => ?_) (fun h52 => ?_)
        · refine brb_eq (fun h56 => ?_) (fun h56 => ?_)
          · refine ⟨_, rfl, ?_⟩
            refine br_ne rfl rfl (by omega) (by omega) (fun h64 => ?_) (fun h64 => ?_)
            · refine ⟨nI (op + 0), (add_n rfl rfl), ?_⟩
              exact hK0 (by unfold nxs; rw [if_pos h41, if_neg h44, if_neg (by omega), if_neg h56]) _
            · refine br_ge rfl rfl (by omega) (by omega) (fun h67 => ?_) (fun h67 => ?_)
              · refine ⟨nI (op + 0), (add_n rfl rfl), ?_⟩
                exact hK0 (by unfold nxs; rw [if_pos h41, if_neg h44, if_neg (by omega), if_neg h56]) _
              · refine ⟨nI (op + 1), (add_n rfl rfl), ?_⟩
                exact hK0 (by unfold nxs; rw [if_pos h41, if_neg h44, if_neg (by omega), if_neg h56]) _
          · refine ⟨_, rfl, ?_⟩
            refine br_ne rfl rfl (by omega) (by omega) (fun h64 => ?_) (fun h64 => ?_)
            · refine ⟨nI (op + 0), (add_n rfl rfl), ?_⟩
              exact hK1 (4, op + 0) (by unfold nxs; (rw [if_pos h41, if_neg h44, if_neg (by omega), if_pos h56] <;> first | rfl | (exfalso; omega)))
            · refine br_ge rfl rfl (by omega) (by omega) (fun h67 => ?_) (fun h67 => ?_)
              · refine ⟨nI (op + 0), (add_n rfl rfl), ?_⟩
                exact hK1 (4, op + 0) (by unfold nxs; (rw [if_pos h41, if_neg h44, if_neg (by omega), if_pos h56] <;> first | rfl | (exfalso; omega)))
              · refine ⟨nI (op + 1), (add_n rfl rfl), ?_⟩
                exact hK1 (4, op + 1) (by unfold nxs; (rw [if_pos h41, if_neg h44, if_neg (by omega), if_pos h56] <;> first | rfl | (exfalso; omega)))
        · refine ⟨_, rfl, ?_⟩
          refine br_ne rfl rfl (by omega) (by omega) (fun h64 => ?_) (fun h64 => ?_)
          · refine ⟨nI (op + 0), (add_n rfl rfl), ?_⟩
            exact hK1 (0, op + 0) (by unfold nxs; (rw [if_pos h41, if_neg h44, if_pos ⟨h49, by omega⟩] <;> first | rfl | (exfalso; omega)))
          · refine br_ge rfl rfl (by omega) (by omega) (fun h67 => ?_) (fun h67 => ?_)
            · refine ⟨nI (op + 0), (add_n rfl rfl), ?_⟩
              exact hK1 (0, op + 0) (by unfold nxs; (rw [if_pos h41, if_neg h44, if_pos ⟨h49, by omega⟩] <;> first | rfl | (exfalso; omega)))
            · refine ⟨nI (op + 1), (add_n rfl rfl), ?_⟩
              exact hK1 (0, op + 1) (by unfold nxs; (rw [if_pos h41, if_neg h44, if_pos ⟨h49, by omega⟩] <;> first | rfl | (exfalso; omega)))
    · refine ⟨_, rfl, ?_⟩
      refine br_ne rfl rfl (by omega) (by omega) (fun h64 => ?_) (fun h64 => ?_)
      · refine ⟨nI (op + 0), (add_n rfl rfl), ?_⟩
        exact hK1 (0, op + 0) (by unfold nxs; (rw [if_pos h41, if_pos h44] <;> first | rfl | (exfalso; omega)))
      · refine br_ge rfl rfl (by omega) (by omega) (fun h67 => ?_) (fun h67 => ?_)
        · refine ⟨nI (op + 0), (add_n rfl rfl), ?_⟩
          exact hK1 (0, op + 0) (by unfold nxs; (rw [if_pos h41, if_pos h44] <;> first | rfl | (exfalso; omega)))
        · refine ⟨nI (op + 1), (add_n rfl rfl), ?_⟩
          exact hK1 (0, op + 1) (by unfold nxs; (rw [if_pos h41, if_pos h44] <;> first | rfl | (exfalso; omega)))
theorem fo_185 {P : Option AV → Sg → Prop} {τ : Sg} {st op2 dg i s st2 : Nat} (hst : st2 ≤ 10) (hs : s ≤ 99) (hK : G true 116 P 8 [some (.inr (.inr (69, false, 0))), some (.inl (nI st2)), some (.inl (nI op2)), some (.inl (nI (if s < 10 then dg + 1 else 0))), some (.inl (nI (i + 1))), none, none, none, none] [] τ) : G true 116 P 185 [some (.inr (.inr (69, false, 0))), some (.inl (nI st)), some (.inl (nI op2)), some (.inl (nI dg)), some (.inl (nI i)), some (.inl (nI s)), some (.inl (bI (isU s))), some (.inl (bI (s < 10 ∧ 0 < dg))), some (.inl (nI st2))] [] τ := by
  refine G_wp 60 [8] rfl ?_
  refine ⟨fun h187 => ?_, fun h187 => ?_⟩
  · refine br_ge rfl rfl (by omega) (by omega) (fun h192 => ?_) (fun h192 => ?_)
    · refine ⟨_, rfl, _, rfl, nI (i + 1), nI_add _ _, ?_⟩
      rw [if_neg (by omega)] at hK
      exact G_fg 5 (G_fg 6 (G_fg 7 (G_fg 8 hK)))
    · refine brb_eq (fun h194 => ?_) (fun h194 => ?_)
      · refine ⟨_, rfl, _, rfl, nI (i + 1), nI_add _ _, ?_⟩
        rw [if_pos (by omega), show dg = 0 by omega] at hK
        exact G_fg 5 (G_fg 6 (G_fg 7 (G_fg 8 hK)))
      · refine ⟨nI (dg + 1), (add_n rfl rfl), _, rfl, nI (i + 1), nI_add _ _, ?_⟩
        rw [if_pos (by omega)] at hK
        exact G_fg 5 (G_fg 6 (G_fg 7 (G_fg 8 hK)))
  · exact absurd h187 (nI_m1 (by omega))
theorem fo_185n {P : Option AV → Sg → Prop} {τ : Sg} {st op2 dg i s : Nat} (hK : P (some (.inl (nI i))) τ) : G true 116 P 185 [some (.inr (.inr (69, false, 0))), some (.inl (nI st)), some (.inl (nI op2)), some (.inl (nI dg)), some (.inl (nI i)), some (.inl (nI s)), some (.inl (bI (isU s))), some (.inl (bI (s < 10 ∧ 0 < dg))), some (.inl (-1))] [] τ := by
  refine G_wp 60 [8] rfl ?_
  refine ⟨fun h187 => ?_, fun h187 => ?_⟩
  · exact absurd rfl h187
  · exact hK
theorem nxs_le {st op dg s : Nat} {r : Nat × Nat} (h : nxs st op dg s = some r) (hop : op ≤ 8) (hst : st ≤ 10) : r.1 ≤ 10 ∧ r.2 ≤ 8 := by
  unfold nxs beh at h
  repeat' split at h
  all_goals first | (cases h; done) | (cases h; exact ⟨by omega, by omega⟩)
theorem nxs_dg {st op dg s : Nat} {r : Nat × Nat} (h : nxs st op dg s = some r) {r' : Nat × Nat} {s' : Nat} (h' : nxs r.1 r.2 (if s < 10 then dg + 1 else 0) s' = some r') : (if s' < 10 then (if s < 10 then dg + 1 else 0) + 1 else 0) ≤ 3 := by
  by_cases q' : s' < 10
  · rw [if_pos q']
    by_cases q : s < 10
    · rw [if_pos q] at h' ⊢
      have hr : r.1 = 4 ∨ r.1 = 5 ∨ r.1 = 6 := by
        unfold nxs beh at h
        repeat' split at h
        all_goals first | (cases h; done) | (cases h; dsimp only; omega)
      unfold nxs at h'
      rw [if_neg (by omega), if_neg (by omega), if_pos (by omega), if_pos ⟨q', by omega⟩] at h'
      split at h'
      · omega
      · cases h'
    · rw [if_neg q]
      omega
  · rw [if_neg q']
    omega
theorem mv_faultOf_l {t : Sg} {D : Dy} {τ : Sg} (hA : Ag t D τ) (hX : TX t) : ∀ (m i st op dg : Nat), i + m = nSaid t → st ≤ 10 → op ≤ 8 → dg ≤ 3 → (3 ≤ st → st < 7 → True) → (∀ r s, nxs st op dg s = some r → (if s < 10 then dg + 1 else 0) ≤ 3) → G true 116 (fun r' s' => r' = some (.inl (flR (tx t) (nSaid t) m i (st, op, dg))) ∧ s' = τ) 8 [some (.inr (.inr (69, false, 0))), some (.inl (nI st)), some (.inl (nI op)), some (.inl (nI dg)), some (.inl (nI i)), none, none, none, none] [] τ := by
  have eSaid : τ 69 false 0 20 = nI (nSaid t) := (hA.2 69 _ _ _ (by decide) rfl).trans hX.1.1
  have hN : nSaid t ≤ 40 := hX.1.2
  intro m
  induction m with
  | zero =>
    intro i st op dg hi h1 h2 h3 h4 h5
    refine G_wp 100 [8, 38] rfl ?_
    refine br_ge rfl eSaid (by omega) (by omega) (fun h11 => ?_) (fun h11 => ?_)
    · refine br_eq rfl rfl (by omega) (by omega) (fun h209 => ?_) (fun h209 => ?_)
      · refine ⟨?_, rfl⟩
        unfold flR
        rw [if_pos (by show _ ∨ _; omega)]
      · refine br_ne rfl rfl (by omega) (by omega) (fun h212 => ?_) (fun h212 => ?_)
        · refine ⟨?_, rfl⟩
          unfold flR
          rw [if_neg (by show ¬ (_ ∨ _); omega), eSaid]
        · refine ⟨?_, rfl⟩
          unfold flR
          rw [if_pos (by show _ ∨ _; omega)]
    · exact absurd h11 (by omega)
  | succ m ih =>
    intro i st op dg hi h1 h2 h3 h4 h5
    obtain ⟨s, e0⟩ : ∃ s, s = nN (t 83 false 0 i) := ⟨_, rfl⟩
    have hs : s ≤ 30 := by rw [e0]; exact (hX.2 i (by omega)).2
    have es : τ 83 false 0 i = nI s := by rw [e0]; exact (hA.2 83 _ _ _ (by decide) rfl).trans (hX.2 i (by omega)).1
    have ef : tx t i = s := by rw [e0]; exact if_pos (by omega)
    have STEP : G true 116 (fun r' s' => r' = some (.inl (flR (tx t) (nSaid t) (m + 1) i (st, op, dg))) ∧ s' = τ) 38 [some (.inr (.inr (69, false, 0))), some (.inl (nI st)), some (.inl (nI op)), some (.inl (nI dg)), some (.inl (nI i)), some (.inl (nI s)), some (.inl (bI (isU s))), some (.inl (bI (s < 10 ∧ 0 < dg))), none] [] τ := by
      refine fo_38 h1 h2 h3 (by omega) (fun r hr => ?_) (fun hr o => ?_)
      · have hle := nxs_le hr h2 h1
        refine fo_185 hle.1 (by omega) ?_
        rw [flR_S, ef, nx_eq, hr]
        refine ih (i + 1) r.1 r.2 (if s < 10 then dg + 1 else 0) (by omega) hle.1 hle.2 (h5 r s hr) (fun _ _ => trivial) (fun r' s' hr' => ?_)
        exact nxs_dg hr hr'
      · refine fo_185n ⟨?_, rfl⟩
        rw [flR_S, ef, nx_eq, hr]
        rfl
    refine G_wp 100 [8, 38] rfl ?_
    refine br_ge rfl eSaid (by omega) (by omega) (fun h11 => ?_) (fun h11 => ?_)
    · exact absurd h11 (by omega)
    · refine ⟨i, rfl, (by show _ < 40; omega), nI (s), es, ?_⟩
      refine br_lt rfl rfl (by omega) (by omega) (fun h19 => ?_) (fun h19 => ?_)
      · refine ⟨bI (isU s), (bI_t (Or.inl h19)).symm, ?_⟩
        refine br_ge rfl rfl (by omega) (by omega) (fun h31 => ?_) (fun h31 => ?_)
        · refine ⟨bI (s < 10 ∧ 0 < dg), (bI_f (by omega)).symm, ?_⟩
          exact STEP
        · refine br_le rfl rfl (by omega) (by omega) (fun h33 => ?_) (fun h33 => ?_)
          · refine ⟨bI (s < 10 ∧ 0 < dg), (bI_f (by omega)).symm, ?_⟩
            exact STEP
          · refine ⟨bI (s < 10 ∧ 0 < dg), (bI_t ⟨by omega, by omega⟩).symm, ?_⟩
            exact STEP
      · refine ⟨_, _, mv_in, ?_⟩
        refine brb_eq (fun h24 => ?_) (fun h24 => ?_)
        · refine ⟨bI (isU s), (bI_f (fun q => q.elim (fun z => absurd z (by omega)) (fun z => h24 ((in_nn (by omega) (by omega) (by omega)).mpr z)))).symm, ?_⟩
          refine br_ge rfl rfl (by omega) (by omega) (fun h31 => ?_) (fun h31 => ?_)
          · refine ⟨bI (s < 10 ∧ 0 < dg), (bI_f (by omega)).symm, ?_⟩
            exact STEP
          · refine br_le rfl rfl (by omega) (by omega) (fun h33 => ?_) (fun h33 => ?_)
            · refine ⟨bI (s < 10 ∧ 0 < dg), (bI_f (by omega)).symm, ?_⟩
              exact STEP
            · refine ⟨bI (s < 10 ∧ 0 < dg), (bI_t ⟨by omega, by omega⟩).symm, ?_⟩
              exact STEP
        · refine ⟨bI (isU s), (bI_t (Or.inr ((in_nn (by omega) (by omega) (by omega)).mp h24))).symm, ?_⟩
          refine br_ge rfl rfl (by omega) (by omega) (fun h31 => ?_) (fun h31 => ?_)
          · refine ⟨bI (s < 10 ∧ 0 < dg), (bI_f (by omega)).symm, ?_⟩
            exact STEP
          · refine br_le rfl rfl (by omega) (by omega) (fun h33 => ?_) (fun h33 => ?_)
            · refine ⟨bI (s < 10 ∧ 0 < dg), (bI_f (by omega)).symm, ?_⟩
              exact STEP
            · refine ⟨bI (s < 10 ∧ 0 < dg), (bI_t ⟨by omega, by omega⟩).symm, ?_⟩
              exact STEP
theorem mv_faultOf {t : Sg} {D : Dy} {τ : Sg} (hA : Ag t D τ) (hX : TX t) : Ev true 116 [.inr (.inr (69, false, 0))] τ (some (.inl (flR (tx t) (nSaid t) (nSaid t) 0 (0, 0, 0)))) τ := by
  refine Ev_wp 28 [8] rfl rfl ?_
  refine ⟨_, rfl, _, rfl, _, rfl, _, rfl, ?_⟩
  refine mv_faultOf_l hA hX (nSaid t) 0 0 0 0 (by omega) (by omega) (by omega) (by omega) (fun _ _ => trivial) (fun r s _ => ?_)
  split <;> omega
