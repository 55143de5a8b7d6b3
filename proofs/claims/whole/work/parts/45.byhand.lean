/-! The class's things by hand. -/
theorem cv_can0 {d : Bool} {s t : Sg} {D : Dy} {Z : Zt} {σ : Sg} (hC : Cg d s t D 60 200 Z σ) (hT : WN t) {a : Nat} {b : Int32} : Ev false 72 [.inr (.inr (26, d, 0)), .inl (nI (0)), .inl (nI (a)), .inl (b)] σ (some (.inl (bD (True)))) σ := by
  have hP := hT.P
  have hB := hT.B
  have hR := hT.R
  refine Ev_wp 24 [] rfl rfl ?_
  refine ⟨fun h1 => ?_, fun h1 => ?_, fun h1 => ?_, fun h1 => ?_, fun h1 => ?_, ?_⟩
  · exact absurd h1 (by decide)
  · exact absurd h1 (by decide)
  · exact absurd h1 (by decide)
  · exact absurd h1 (by decide)
  · exact absurd h1 (by decide)
  · intro h1
    refine ⟨Or.inr rfl, ?_⟩
    exact ⟨by rw [bD_t trivial], rfl⟩
theorem cv_can10 {d : Bool} {s t : Sg} {D : Dy} {Z : Zt} {σ : Sg} (hC : Cg d s t D 60 200 Z σ) (hT : WN t) {a : Nat} (ha : a < nP t) (hO : OI t D) : Ev false 72 [.inr (.inr (26, d, 0)), .inl (nI (1)), .inl (nI (a)), .inl (nI (0))] σ (some (.inl (bD (¬ D 2 a = nI 0)))) σ := by
  have hP := hT.P
  have hB := hT.B
  have hR := hT.R
  refine Ev_wp 35 [] rfl rfl ?_
  refine ⟨fun h1 => ?_, fun h1 => ?_, fun h1 => ?_, fun h1 => ?_, fun h1 => ?_, ?_⟩
  · refine ⟨a, rfl, (by show _ < 12; omega), ?_⟩
    rw [(hC.p a (by omega)).2]
    refine br_eq rfl rfl (by omega) (by omega) (fun h7 => ?_) (fun h7 => ?_)
    · refine ⟨fun h11 => ?_, fun h11 => ?_⟩
      · refine ⟨Or.inl rfl, ?_⟩
        exact ⟨by rw [bD_f (fun q => q h11)], rfl⟩
      · refine ⟨Or.inr rfl, ?_⟩
        exact ⟨by rw [bD_t h11], rfl⟩
    · exact absurd h7 (by omega)
  · exact absurd h1 (by decide)
  · exact absurd h1 (by decide)
  · exact absurd h1 (by decide)
  · exact absurd h1 (by decide)
  · intro h1; exact absurd rfl h1.1
theorem cv_can11 {d : Bool} {s t : Sg} {D : Dy} {Z : Zt} {σ : Sg} (hC : Cg d s t D 60 200 Z σ) (hT : WN t) {a : Nat} (ha : a < nP t) (hO : OI t D) : Ev false 72 [.inr (.inr (26, d, 0)), .inl (nI (1)), .inl (nI (a)), .inl (nI (1))] σ (some (.inl (bD (¬ D 2 a = nI 1)))) σ := by
  have hP := hT.P
  have hB := hT.B
  have hR := hT.R
  refine Ev_wp 36 [] rfl rfl ?_
  refine ⟨fun h1 => ?_, fun h1 => ?_, fun h1 => ?_, fun h1 => ?_, fun h1 => ?_, ?_⟩
  · refine ⟨a, rfl, (by show _ < 12; omega), ?_⟩
    rw [(hC.p a (by omega)).2]
    refine br_eq rfl rfl (by omega) (by omega) (fun h7 => ?_) (fun h7 => ?_)
    · exact absurd h7 (by omega)
    · refine ⟨fun h11 => ?_, fun h11 => ?_⟩
      · refine ⟨Or.inl rfl, ?_⟩
        exact ⟨by rw [bD_f (fun q => q h11)], rfl⟩
      · refine ⟨Or.inr rfl, ?_⟩
        exact ⟨by rw [bD_t h11], rfl⟩
  · exact absurd h1 (by decide)
  · exact absurd h1 (by decide)
  · exact absurd h1 (by decide)
  · exact absurd h1 (by decide)
  · intro h1; exact absurd rfl h1.1
theorem cv_can2 {d : Bool} {s t : Sg} {D : Dy} {Z : Zt} {σ : Sg} (hC : Cg d s t D 60 200 Z σ) (hT : WN t) {a : Nat} {b : Int32} (ha : a < nB t) : Ev false 72 [.inr (.inr (26, d, 0)), .inl (nI (2)), .inl (nI (a)), .inl (b)] σ (some (.inl (bD (D 11 a = nI 0 ∧ D 14 a = nI 0)))) σ := by
  have hP := hT.P
  have hB := hT.B
  have hR := hT.R
  refine Ev_wp 43 [] rfl rfl ?_
  refine ⟨fun h1 => ?_, fun h1 => ?_, fun h1 => ?_, fun h1 => ?_, fun h1 => ?_, ?_⟩
  · exact absurd h1 (by decide)
  · refine ⟨0, rfl, (by show _ < 4; omega), (show 0 < 4 by omega), a, rfl, (by show _ < 60; omega), ?_⟩
    rw [hC.b0 a (by omega)]
    refine ⟨fun h22 => ?_, fun h22 => ?_⟩
    · refine ⟨Or.inl rfl, ?_⟩
      exact ⟨by rw [bD_f (fun q => h22 q.1)], rfl⟩
    · refine ⟨3, rfl, (by show _ < 4; omega), (show 3 < 4 by omega), a, rfl, (by show _ < 60; omega), ?_⟩
      rw [hC.b3 a (by omega)]
      refine ⟨fun h29 => ?_, fun h29 => ?_⟩
      · refine ⟨Or.inl rfl, ?_⟩
        exact ⟨by rw [bD_f (fun q => h29 q.2)], rfl⟩
      · refine ⟨Or.inr rfl, ?_⟩
        exact ⟨by rw [bD_t ⟨h22, h29⟩], rfl⟩
  · exact absurd h1 (by decide)
  · exact absurd h1 (by decide)
  · exact absurd h1 (by decide)
  · intro h1; exact absurd rfl h1.2.1
theorem cv_can3 {d : Bool} {s t : Sg} {D : Dy} {Z : Zt} {σ : Sg} (hC : Cg d s t D 60 200 Z σ) (hT : WN t) {a : Nat} {b : Int32} (ha : a < nB t) : Ev false 72 [.inr (.inr (26, d, 0)), .inl (nI (3)), .inl (nI (a)), .inl (b)] σ (some (.inl (bD (D 11 a = nI 0)))) σ := by
  have hP := hT.P
  have hB := hT.B
  have hR := hT.R
  refine Ev_wp 34 [] rfl rfl ?_
  refine ⟨fun h1 => ?_, fun h1 => ?_, fun h1 => ?_, fun h1 => ?_, fun h1 => ?_, ?_⟩
  · exact absurd h1 (by decide)
  · exact absurd h1 (by decide)
  · refine ⟨0, rfl, (by show _ < 4; omega), (show 0 < 4 by omega), a, rfl, (by show _ < 60; omega), ?_⟩
    rw [hC.b0 a (by omega)]
    refine ⟨fun h40 => ?_, fun h40 => ?_⟩
    · refine ⟨Or.inl rfl, ?_⟩
      exact ⟨by rw [bD_f h40], rfl⟩
    · refine ⟨Or.inr rfl, ?_⟩
      exact ⟨by rw [bD_t h40], rfl⟩
  · exact absurd h1 (by decide)
  · exact absurd h1 (by decide)
  · intro h1; exact absurd rfl h1.2.2.1
theorem cv_can4 {d : Bool} {s t : Sg} {D : Dy} {Z : Zt} {σ : Sg} (hC : Cg d s t D 60 200 Z σ) (hT : WN t) {a p : Nat} (ha : a < nB t) (hp : p < nP t) : Ev false 72 [.inr (.inr (26, d, 0)), .inl (nI (4)), .inl (nI (a)), .inl (nI (p))] σ (some (.inl (bD (D 11 a = nI 4 ∧ nI 0 < fre t D (nN (nI p)))))) σ := by
  have hP := hT.P
  have hB := hT.B
  have hR := hT.R
  refine Ev_wp 41 [] rfl rfl ?_
  refine ⟨fun h1 => ?_, fun h1 => ?_, fun h1 => ?_, fun h1 => ?_, fun h1 => ?_, ?_⟩
  · exact absurd h1 (by decide)
  · exact absurd h1 (by decide)
  · exact absurd h1 (by decide)
  · refine ⟨0, rfl, (by show _ < 4; omega), (show 0 < 4 by omega), a, rfl, (by show _ < 60; omega), ?_⟩
    rw [hC.b0 a (by omega)]
    refine ⟨fun h52 => ?_, fun h52 => ?_⟩
    · refine ⟨Or.inl rfl, ?_⟩
      exact ⟨by rw [bD_f (fun q => h52 q.1)], rfl⟩
    · refine ⟨_, _, cv_free hC hT rfl hp, ?_⟩
      refine ⟨fun h56 => ?_, fun h56 => ?_⟩
      · refine ⟨Or.inl rfl, ?_⟩
        exact ⟨by rw [bD_f (fun q => absurd q.2 (by rw [nN_nI (by omega)]; exact Int32.not_lt.mpr h56))], rfl⟩
      · refine ⟨Or.inr rfl, ?_⟩
        exact ⟨by rw [bD_t ⟨h52, by rw [nN_nI (by omega)]; exact i_nle h56⟩], rfl⟩
  · exact absurd h1 (by decide)
  · intro h1; exact absurd rfl h1.2.2.2.1
theorem cv_can5 {d : Bool} {s t : Sg} {D : Dy} {Z : Zt} {σ : Sg} (hC : Cg d s t D 60 200 Z σ) (hT : WN t) {a n : Nat} {b : Int32} (hn : D 0 6 = nI n) (hn2 : n ≤ 20) : Ev false 72 [.inr (.inr (26, d, 0)), .inl (nI (5)), .inl (nI (a)), .inl (b)] σ (some (.inl (bD (nN (D 0 6) < 20)))) σ := by
  have hP := hT.P
  have hB := hT.B
  have hR := hT.R
  refine Ev_wp 32 [] rfl rfl ?_
  refine ⟨fun h1 => ?_, fun h1 => ?_, fun h1 => ?_, fun h1 => ?_, fun h1 => ?_, ?_⟩
  · exact absurd h1 (by decide)
  · exact absurd h1 (by decide)
  · exact absurd h1 (by decide)
  · exact absurd h1 (by decide)
  · refine br_ge (hC.v.2.2.1.trans hn) rfl (by omega) (by omega) (fun h65 => ?_) (fun h65 => ?_)
    · refine ⟨Or.inl rfl, ?_⟩
      exact ⟨by rw [bD_f (by rw [hn, nN_nI (by omega)]; omega)], rfl⟩
    · refine ⟨Or.inr rfl, ?_⟩
      exact ⟨by rw [bD_t (by rw [hn, nN_nI (by omega)]; omega)], rfl⟩
  · intro h1; exact absurd rfl h1.2.2.2.2.1
theorem cv_can {d : Bool} {s t : Sg} {D : Dy} {Z : Zt} {σ : Sg} (hC : Cg d s t D 60 200 Z σ) (hT : WN t) (hO : OI t D) (h6 : Is (D 0 6) 20) : ∀ {w a : Nat} {b : Int32}, hOk t w a b → Ev false 72 [.inr (.inr (26, d, 0)), .inl (nI w), .inl (nI a), .inl b] σ (some (.inl (bD (canB t D w a b)))) σ
  | 0, a, b, _ => cv_can0 hC hT
  | 1, a, b, h => by
    rcases h.2 with e | e
    · rw [e]; exact cv_can10 hC hT h.1 hO
    · rw [e]; exact cv_can11 hC hT h.1 hO
  | 2, a, b, h => cv_can2 hC hT h
  | 3, a, b, h => cv_can3 hC hT h
  | 4, a, b, h => by
    obtain ⟨h1, p, h2, h3⟩ := h
    subst h2
    exact cv_can4 hC hT h1 h3
  | 5, a, b, h => cv_can5 hC hT h6.1 h6.2
  | n + 6, a, b, h => h.elim
theorem cv_do0 {d : Bool} {s t : Sg} {D : Dy} {Z : Zt} {σ : Sg} (hC : Cg d s t D 60 200 Z σ) (hT : WN t) (h7 : Is (D 0 7) 4000) {a : Nat} {b : Int32} (ha : a < nP t) : ∃ σ', Ev false 129 [.inr (.inr (26, d, 0)), .inl (nI (0)), .inl (nI (a)), .inl (b)] σ none σ' ∧ Cg d s t (up2 D 1 a b) 60 200 Z σ' := by
  have hP := hT.P
  have hB := hT.B
  have hR := hT.R
  refine EvQ_wp 29 [] rfl rfl ?_
  refine ⟨fun h1 => ?_, fun h1 => ?_, fun h1 => ?_, fun h1 => ?_, fun h1 => ?_, ?_⟩
  · refine ⟨a, rfl, (by show _ < 12; omega), _, rfl, ?_⟩
    replace hC : Cg d s t (up2 D 1 a b) 60 200 Z (up4 σ 27 d 0 a b) := st_price hC
    exact ⟨rfl, hC⟩
  · exact absurd h1 (by decide)
  · exact absurd h1 (by decide)
  · exact absurd h1 (by decide)
  · exact absurd h1 (by decide)
  · intro h1; exact absurd rfl h1.1
theorem cv_do10 {d : Bool} {s t : Sg} {D : Dy} {Z : Zt} {σ : Sg} (hC : Cg d s t D 60 200 Z σ) (hT : WN t) (h7 : Is (D 0 7) 4000) {a : Nat} (ha : a < nP t) : ∃ σ', Ev false 129 [.inr (.inr (26, d, 0)), .inl (nI (1)), .inl (nI (a)), .inl (nI (0))] σ none σ' ∧ Cg d s t (opn D a (nI 0)) 60 200 Z σ' := by
  have hP := hT.P
  have hB := hT.B
  have hR := hT.R
  refine EvQ_wp 30 [] rfl rfl ?_
  refine ⟨fun h1 => ?_, fun h1 => ?_, fun h1 => ?_, fun h1 => ?_, fun h1 => ?_, ?_⟩
  · exact absurd h1 (by decide)
  · refine br_eq rfl rfl (by omega) (by omega) (fun h11 => ?_) (fun h11 => ?_)
    · obtain ⟨σ1, ev1, hC⟩ := cv_setOpen0 hC hT (x := nI a) rfl ha h7
      refine ⟨_, _, ev1, ?_⟩
      exact ⟨rfl, hC⟩
    · exact absurd h11 (by omega)
  · exact absurd h1 (by decide)
  · exact absurd h1 (by decide)
  · exact absurd h1 (by decide)
  · intro h1; exact absurd rfl h1.2.1
theorem cv_do11 {d : Bool} {s t : Sg} {D : Dy} {Z : Zt} {σ : Sg} (hC : Cg d s t D 60 200 Z σ) (hT : WN t) (h7 : Is (D 0 7) 4000) {a : Nat} (ha : a < nP t) : ∃ σ', Ev false 129 [.inr (.inr (26, d, 0)), .inl (nI (1)), .inl (nI (a)), .inl (nI (1))] σ none σ' ∧ Cg d s t (opn D a (nI 1)) 60 200 Z σ' := by
  have hP := hT.P
  have hB := hT.B
  have hR := hT.R
  refine EvQ_wp 31 [] rfl rfl ?_
  refine ⟨fun h1 => ?_, fun h1 => ?_, fun h1 => ?_, fun h1 => ?_, fun h1 => ?_, ?_⟩
  · exact absurd h1 (by decide)
  · refine br_eq rfl rfl (by omega) (by omega) (fun h11 => ?_) (fun h11 => ?_)
    · exact absurd h11 (by omega)
    · obtain ⟨σ1, ev1, hC⟩ := cv_setOpen1 hC hT (x := nI a) rfl ha h7
      refine ⟨_, _, ev1, ?_⟩
      exact ⟨rfl, hC⟩
  · exact absurd h1 (by decide)
  · exact absurd h1 (by decide)
  · exact absurd h1 (by decide)
  · intro h1; exact absurd rfl h1.2.1
theorem cv_do2 {d : Bool} {s t : Sg} {D : Dy} {Z : Zt} {σ : Sg} (hC : Cg d s t D 60 200 Z σ) (hT : WN t) (h7 : Is (D 0 7) 4000) {a p : Nat} {b : Int32} (ha : a < nB t) (hp : p < nP t) (h11 : D 11 a = nI 0) (h12 : D 12 a = nI p) (h14 : D 14 a = nI 0) : ∃ σ', Ev false 129 [.inr (.inr (26, d, 0)), .inl (nI (2)), .inl (nI (a)), .inl (b)] σ none σ' ∧ Cg d s t (up2 D 14 a (nI 1)) 60 200 Z σ' := by
  have hP := hT.P
  have hB := hT.B
  have hR := hT.R
  refine EvQ_wp 27 [] rfl rfl ?_
  refine ⟨fun h1 => ?_, fun h1 => ?_, fun h1 => ?_, fun h1 => ?_, fun h1 => ?_, ?_⟩
  · exact absurd h1 (by decide)
  · exact absurd h1 (by decide)
  · obtain ⟨σ1, ev1, hC⟩ := cv_tell hC hT (x := nI a) rfl ha hp h11 h12 h14
    refine ⟨_, _, ev1, ?_⟩
    exact ⟨rfl, hC⟩
  · exact absurd h1 (by decide)
  · exact absurd h1 (by decide)
  · intro h1; exact absurd rfl h1.2.2.1
theorem cv_do3 {d : Bool} {s t : Sg} {D : Dy} {Z : Zt} {σ : Sg} (hC : Cg d s t D 60 200 Z σ) (hT : WN t) (h7 : Is (D 0 7) 4000) {a p : Nat} {b : Int32} (ha : a < nB t) (hp : p < nP t) (h11 : D 11 a = nI 0) (h12 : D 12 a = nI p) : ∃ σ', Ev false 129 [.inr (.inr (26, d, 0)), .inl (nI (3)), .inl (nI (a)), .inl (b)] σ none σ' ∧ Cg d s t (lgs (up2 D 11 a (nI 4)) (nI 9) (D 12 a) (-1) (nI a)) 60 200 Z σ' := by
  have hP := hT.P
  have hB := hT.B
  have hR := hT.R
  refine EvQ_wp 42 [] rfl rfl ?_
  refine ⟨fun h1 => ?_, fun h1 => ?_, fun h1 => ?_, fun h1 => ?_, fun h1 => ?_, ?_⟩
  · exact absurd h1 (by decide)
  · exact absurd h1 (by decide)
  · exact absurd h1 (by decide)
  · obtain ⟨σ1, ev1, hC, e12⟩ := cv_lift hC hT (b := a) (p := p) (q := 4) rfl ha rfl hp h11 h12 (by decide) (by decide)
    replace hC := st_eb hC (fun _ => ⟨by rw [up2_s, if_neg (by decide), up2_n (by omega)]; exact e12, fun q => by rw [up2_s] at q; exact absurd q (by decide)⟩)
    refine ⟨_, _, ev1, 1, rfl, (by show _ < 4; omega), (show 1 < 4 by omega), a, rfl, (by show _ < 60; omega), ?_⟩
    rw [hC.b1 a (by omega) ⟨by omega, by rw [up2_s]; decide⟩]
    obtain ⟨σ2, ev2, hC⟩ := cv_add hC (v0 := (nI (9))) (v2 := ((up2 D 11 a (nI 4)) 12 a)) (v3 := (-1)) (v4 := (nI (a))) (by (repeat rw [up2_n (by omega)]); exact h7) hC.m.1
    refine ⟨_, _, ev2, ?_⟩
    rw [up2_n (by omega)] at hC
    exact ⟨rfl, hC⟩
  · exact absurd h1 (by decide)
  · intro h1; exact absurd rfl h1.2.2.2.1
theorem cv_do4 {d : Bool} {s t : Sg} {D : Dy} {Z : Zt} {σ : Sg} (hC : Cg d s t D 60 200 Z σ) (hT : WN t) (h7 : Is (D 0 7) 4000) {a p : Nat} (ha : a < nB t) (hp : p < nP t) (h11 : D 11 a = nI 4) : ∃ σ', Ev false 129 [.inr (.inr (26, d, 0)), .inl (nI (4)), .inl (nI (a)), .inl (nI (p))] σ none σ' ∧ Cg d s t (lgs (up2 (up2 D 11 a (nI 0)) 12 a (nI p)) (nI 10) (nI p) (-1) (nI a)) 60 200 Z σ' := by
  have hP := hT.P
  have hB := hT.B
  have hR := hT.R
  refine EvQ_wp 37 [] rfl rfl ?_
  refine ⟨fun h1 => ?_, fun h1 => ?_, fun h1 => ?_, fun h1 => ?_, fun h1 => ?_, ?_⟩
  · exact absurd h1 (by decide)
  · exact absurd h1 (by decide)
  · exact absurd h1 (by decide)
  · exact absurd h1 (by decide)
  · obtain ⟨σ1, ev1, hC⟩ := cv_settle hC hT (b := a) (p := p) rfl ha rfl hp (by rw [h11]; decide) (fun c hc q => by omega)
    refine ⟨_, _, ev1, ?_⟩
    obtain ⟨σ2, ev2, hC⟩ := cv_add hC (v0 := (nI (10))) (v2 := (nI (p))) (v3 := (-1)) (v4 := (nI (a))) (by (repeat rw [up2_n (by omega)]); exact h7) hC.m.1
    refine ⟨_, _, ev2, ?_⟩
    exact ⟨rfl, hC⟩
  · intro h1; exact absurd rfl h1.2.2.2.2.1
theorem cv_do5 {d : Bool} {s t : Sg} {D : Dy} {Z : Zt} {σ : Sg} (hC : Cg d s t D 60 200 Z σ) (hT : WN t) (h7 : Is (D 0 7) 4000) {a n : Nat} {b : Int32} (hn : D 0 6 = nI n) (hn2 : n < 20) : ∃ σ', Ev false 129 [.inr (.inr (26, d, 0)), .inl (nI (5)), .inl (nI (a)), .inl (b)] σ none σ' ∧ Cg d s t (up2 (up2 (up2 D 25 n (nI a)) 26 n b) 0 6 (nI (n + 1))) 60 200 Z σ' := by
  have hP := hT.P
  have hB := hT.B
  have hR := hT.R
  refine EvQ_wp 28 [] rfl rfl ?_
  refine ⟨fun h1 => ?_, fun h1 => ?_, fun h1 => ?_, fun h1 => ?_, fun h1 => ?_, ?_⟩
  · exact absurd h1 (by decide)
  · exact absurd h1 (by decide)
  · exact absurd h1 (by decide)
  · exact absurd h1 (by decide)
  · exact absurd h1 (by decide)
  · intro h1
    obtain ⟨σ1, ev1, hC⟩ := cv_addStop hC (x := nI a) (y := b) rfl hn hn2
    refine ⟨_, _, ev1, ?_⟩
    exact ⟨rfl, hC⟩
theorem cv_do {d : Bool} {s t : Sg} {D : Dy} {Z : Zt} {σ : Sg} (hC : Cg d s t D 60 200 Z σ) (hT : WN t) (hW : WI t D) : ∀ {w a : Nat} {b : Int32}, hOk t w a b → canB t D w a b → ∃ σ', Ev false 129 [.inr (.inr (26, d, 0)), .inl (nI w), .inl (nI a), .inl b] σ none σ' ∧ Cg d s t (dos D w a b) 60 200 Z σ'
  | 0, a, b, h, _ => cv_do0 hC hT hW.1.2.1 h
  | 1, a, b, h, c => by
    have c1 : ¬ D 2 a = b := c
    rcases h.2 with e | e
    · rw [e] at c1 ⊢
      obtain ⟨σ1, ev1, hC1⟩ := cv_do10 hC hT hW.1.2.1 h.1
      unfold opn at hC1
      rw [if_neg c1] at hC1
      exact ⟨σ1, ev1, hC1⟩
    · rw [e] at c1 ⊢
      obtain ⟨σ1, ev1, hC1⟩ := cv_do11 hC hT hW.1.2.1 h.1
      unfold opn at hC1
      rw [if_neg c1] at hC1
      exact ⟨σ1, ev1, hC1⟩
  | 2, a, b, h, c => by
    obtain ⟨p, hp, h12⟩ := (hW.2.1 a h).2
    exact cv_do2 hC hT hW.1.2.1 h hp c.1 h12 c.2
  | 3, a, b, h, c => by
    obtain ⟨p, hp, h12⟩ := (hW.2.1 a h).2
    exact cv_do3 hC hT hW.1.2.1 h hp c h12
  | 4, a, b, h, c => by
    obtain ⟨h1, p, h2, h3⟩ := h
    subst h2
    exact cv_do4 hC hT hW.1.2.1 h1 h3 c.1
  | 5, a, b, h, c => cv_do5 hC hT hW.1.2.1 hW.1.2.2.1.1 c
  | n + 6, a, b, h, _ => h.elim
