/-! The class's day: posts and bikes. -/
theorem WN.eP {t : Sg} (h : WN t) : t 69 false 0 3 = nI (nP t) := h.1.1
theorem WN.eB {t : Sg} (h : WN t) : t 69 false 0 7 = nI (nB t) := h.2.1.1
theorem WN.eR {t : Sg} (h : WN t) : t 69 false 0 9 = nI (nR t) := h.2.2.1
theorem XT.eRu {t : Sg} (h : XT t) : t 69 false 0 22 = nI (nRu t) := h.1.1
theorem TX.eSa {t : Sg} (h : TX t) : t 69 false 0 20 = nI (nSaid t) := h.1.1
theorem HV.eH {t : Sg} (h : HV t) : t 69 false 0 18 = nI (nH t) := h.1.1
theorem up4_nj2 {σ : Sg} {k : Nat} {d : Bool} {i j : Nat} {v : Int32} {k' : Nat} {d' : Bool} {i' j' : Nat} (h : ¬ i' = i) : up4 σ k d i j v k' d' i' j' = σ k' d' i' j' := by
  unfold up4
  rw [if_neg (fun q => h q.2.2.1)]
theorem st_nm {d : Bool} {s t : Sg} {D : Dy} {eb er : Nat} {Z : Zt} {σ : Sg} (h : Cg d s t D eb er Z σ) {r i : Nat} {v : Int32} : Cg d s t D eb er Z (up4 σ 36 d r i v) :=
  ⟨h.1, Fr_w h.2.1 _ (by omega), Rm_c h.m (fun _ _ _ _ => up4_nk (by omega)) (fun _ _ => rfl), Rp_c h.p (fun _ _ _ _ => up4_nk (by omega)) (fun _ _ _ => rfl), Rc_c h.c (fun _ _ _ _ => up4_nk (by omega)) (fun _ _ _ => rfl), Rw_c h.w (fun _ _ _ _ => up4_nk (by omega)) (fun _ _ => rfl), Rb_c h.b (fun _ _ _ _ => up4_nk (by omega)) (fun _ _ _ => rfl), Rr_c h.r (fun _ _ _ _ => up4_nk (by omega)) (fun _ _ _ => rfl), Rg_c h.g (fun _ _ _ _ => up4_nk (by omega)) (fun _ _ _ => rfl), Rz_c h.z (fun _ _ _ _ => up4_nk (by omega)), Rl_c h.l (fun _ _ _ _ => up4_nk (by omega)) (fun _ _ _ => rfl), Rv_c h.v (fun _ _ _ _ => up4_nk (by omega)) (fun _ _ _ => rfl)⟩
theorem st_x {d : Bool} {s t : Sg} {D : Dy} {eb er : Nat} {Z : Zt} {σ : Sg} (h : Cg d s t D eb er Z σ) {k r i : Nat} {d2 : Bool} {v : Int32} (hk : scc k i = true) (hk2 : Nat.blt k 26 = true) : Cg d s t D eb er Z (up4 σ k d2 r i v) := by
  have hk3 : k < 26 := Nat.blt_eq.mp hk2
  exact ⟨h.1, Fr_x h.2.1 _ hk, Rm_c h.m (fun _ _ _ _ => up4_nk (by omega)) (fun _ _ => rfl), Rp_c h.p (fun _ _ _ _ => up4_nk (by omega)) (fun _ _ _ => rfl), Rc_c h.c (fun _ _ _ _ => up4_nk (by omega)) (fun _ _ _ => rfl), Rw_c h.w (fun _ _ _ _ => up4_nk (by omega)) (fun _ _ => rfl), Rb_c h.b (fun _ _ _ _ => up4_nk (by omega)) (fun _ _ _ => rfl), Rr_c h.r (fun _ _ _ _ => up4_nk (by omega)) (fun _ _ _ => rfl), Rg_c h.g (fun _ _ _ _ => up4_nk (by omega)) (fun _ _ _ => rfl), Rz_c h.z (fun _ _ _ _ => up4_nk (by omega)), Rl_c h.l (fun _ _ _ _ => up4_nk (by omega)) (fun _ _ _ => rfl), Rv_c h.v (fun _ _ _ _ => up4_nk (by omega)) (fun _ _ _ => rfl)⟩
theorem Cg.b0 {d : Bool} {s t : Sg} {D : Dy} {eb er : Nat} {Z : Zt} {σ : Sg} (h : Cg d s t D eb er Z σ) (b : Nat) (hb : b < nB t) : σ 32 d (0 + 1) b = D 11 b := (h.b b hb).1.1
theorem Cg.b2 {d : Bool} {s t : Sg} {D : Dy} {eb er : Nat} {Z : Zt} {σ : Sg} (h : Cg d s t D eb er Z σ) (b : Nat) (hb : b < nB t) : σ 32 d (2 + 1) b = D 13 b := (h.b b hb).1.2.1
theorem Cg.b3 {d : Bool} {s t : Sg} {D : Dy} {eb er : Nat} {Z : Zt} {σ : Sg} (h : Cg d s t D eb er Z σ) (b : Nat) (hb : b < nB t) : σ 32 d (3 + 1) b = D 14 b := (h.b b hb).1.2.2
theorem Cg.b1 {d : Bool} {s t : Sg} {D : Dy} {eb er : Nat} {Z : Zt} {σ : Sg} (h : Cg d s t D eb er Z σ) (b : Nat) (hb : b < nB t) (he : ¬ b = eb ∧ ¬ D 11 b = nI 2) : σ 32 d (1 + 1) b = D 12 b := by have h1 := ((h.b b hb).2 he.1).1; rw [if_neg he.2] at h1; exact h1
theorem Cg.b33 {d : Bool} {s t : Sg} {D : Dy} {eb er : Nat} {Z : Zt} {σ : Sg} (h : Cg d s t D eb er Z σ) (b : Nat) (hb : b < nB t) (he : ¬ b = eb) (h3 : D 11 b = nI 3) : σ 33 d 0 b = D 15 b := ((h.b b hb).2 he).2 h3
theorem Cg.r0 {d : Bool} {s t : Sg} {D : Dy} {eb er : Nat} {Z : Zt} {σ : Sg} (h : Cg d s t D eb er Z σ) (r : Nat) (hr : r < nR t) : σ 34 d (0 + 1) r = D 16 r := (h.r r hr).1 0 (by decide)
theorem Cg.r1 {d : Bool} {s t : Sg} {D : Dy} {eb er : Nat} {Z : Zt} {σ : Sg} (h : Cg d s t D eb er Z σ) (r : Nat) (hr : r < nR t) : σ 34 d (1 + 1) r = D 17 r := (h.r r hr).1 1 (by decide)
theorem Cg.r2 {d : Bool} {s t : Sg} {D : Dy} {eb er : Nat} {Z : Zt} {σ : Sg} (h : Cg d s t D eb er Z σ) (r : Nat) (hr : r < nR t) : σ 34 d (2 + 1) r = D 18 r := (h.r r hr).1 2 (by decide)
theorem Cg.r3 {d : Bool} {s t : Sg} {D : Dy} {eb er : Nat} {Z : Zt} {σ : Sg} (h : Cg d s t D eb er Z σ) (r : Nat) (hr : r < nR t) : σ 34 d (3 + 1) r = D 19 r := (h.r r hr).1 3 (by decide)
theorem Cg.r4 {d : Bool} {s t : Sg} {D : Dy} {eb er : Nat} {Z : Zt} {σ : Sg} (h : Cg d s t D eb er Z σ) (r : Nat) (hr : r < nR t) : σ 34 d (4 + 1) r = D 20 r := (h.r r hr).1 4 (by decide)
theorem Cg.r5 {d : Bool} {s t : Sg} {D : Dy} {eb er : Nat} {Z : Zt} {σ : Sg} (h : Cg d s t D eb er Z σ) (r : Nat) (hr : r < nR t) : σ 34 d (5 + 1) r = D 21 r := (h.r r hr).1 5 (by decide)
theorem Cg.g39 {d : Bool} {s t : Sg} {D : Dy} {eb er : Nat} {Z : Zt} {σ : Sg} (h : Cg d s t D eb er Z σ) (p x : Nat) (hp : p < 12) (hx : x < 24) : σ 39 d (p + 1) x = D 7 (24 * p + x) := (h.g p x hp hx).1
theorem Cg.g40 {d : Bool} {s t : Sg} {D : Dy} {eb er : Nat} {Z : Zt} {σ : Sg} (h : Cg d s t D eb er Z σ) (p x : Nat) (hp : p < 12) (hx : x < 24) : σ 40 d (p + 1) x = D 8 (24 * p + x) := (h.g p x hp hx).2.1
theorem Cg.g41 {d : Bool} {s t : Sg} {D : Dy} {eb er : Nat} {Z : Zt} {σ : Sg} (h : Cg d s t D eb er Z σ) (p x : Nat) (hp : p < 12) (hx : x < 24) : σ 41 d (p + 1) x = D 9 (24 * p + x) := (h.g p x hp hx).2.2
theorem cv_isPost {t : Sg} {σ : Sg} (e : σ 1 false 0 0 = nI (nP t)) (hn : nP t < 2147483648) {x : Int32} : Ev false 25 [.inr (.inr (1, false, 0)), .inl x] σ (some (.inl (bD (isPo t x)))) σ := by
  refine Ev_wp 30 [] rfl rfl ?_
  refine ⟨fun h1 => ?_, fun h1 => ?_⟩
  · refine ⟨Or.inl rfl, ?_⟩
    exact ⟨by rw [bD_f (fun (q : isPo t x) => by obtain ⟨p, e9, hp⟩ := q; rw [e9, nI_0] at h1; exact nI_pos (by omega) h1)], rfl⟩
  · refine ⟨fun h5 => ?_, fun h5 => ?_⟩
    · refine ⟨Or.inl rfl, ?_⟩
      exact ⟨by rw [bD_f (fun (q : isPo t x) => by obtain ⟨p, e9, hp⟩ := q; rw [e9, e] at h5; have := (nI_leI (a := nP t) (b := p) (by omega) (by omega)).mp h5; omega)], rfl⟩
    · refine ⟨Or.inr rfl, ?_⟩
      have hx : ∃ p, x = nI p ∧ p < nP t := by
        obtain ⟨j, hj, e9⟩ := nI_of (x := x) (by rw [nI_0] at h1; exact h1)
        refine ⟨j, e9, ?_⟩
        rw [e9, e] at h5
        have := (nI_leI (a := nP t) (b := j) (by omega) hj)
        rcases Nat.lt_or_ge j (nP t) with q | q
        · exact q
        · exact absurd (this.mpr q) h5
      exact ⟨by rw [bD_t (show isPo t x from hx)], rfl⟩
theorem cv_isBike {t : Sg} {σ : Sg} (e : σ 1 false 0 1 = nI (nB t)) (hn : nB t < 2147483648) {x : Int32} : Ev false 26 [.inr (.inr (1, false, 0)), .inl x] σ (some (.inl (bD (isBk t x)))) σ := by
  refine Ev_wp 30 [] rfl rfl ?_
  refine ⟨fun h1 => ?_, fun h1 => ?_⟩
  · refine ⟨Or.inl rfl, ?_⟩
    exact ⟨by rw [bD_f (fun (q : isBk t x) => by obtain ⟨p, e9, hp⟩ := q; rw [e9, nI_0] at h1; exact nI_pos (by omega) h1)], rfl⟩
  · refine ⟨fun h5 => ?_, fun h5 => ?_⟩
    · refine ⟨Or.inl rfl, ?_⟩
      exact ⟨by rw [bD_f (fun (q : isBk t x) => by obtain ⟨p, e9, hp⟩ := q; rw [e9, e] at h5; have := (nI_leI (a := nB t) (b := p) (by omega) (by omega)).mp h5; omega)], rfl⟩
    · refine ⟨Or.inr rfl, ?_⟩
      have hx : ∃ p, x = nI p ∧ p < nB t := by
        obtain ⟨j, hj, e9⟩ := nI_of (x := x) (by rw [nI_0] at h1; exact h1)
        refine ⟨j, e9, ?_⟩
        rw [e9, e] at h5
        have := (nI_leI (a := nB t) (b := j) (by omega) hj)
        rcases Nat.lt_or_ge j (nB t) with q | q
        · exact q
        · exact absurd (this.mpr q) h5
      exact ⟨by rw [bD_t (show isBk t x from hx)], rfl⟩
theorem cv_way {d : Bool} {s t : Sg} {D : Dy} {eb er : Nat} {Z : Zt} {σ : Sg} (hC : Cg d s t D eb er Z σ) (hT : WN t) {x y : Int32} {p q : Nat} (hx : x = nI p) (hp : p < 12) (hy : y = nI q) (hq : q < 12) : Ev false 89 [.inr (.inr (1, false, 0)), .inl (x), .inl (y)] σ (some (.inl (way t p q))) σ := by
  refine Ev_wp 46 [] rfl rfl ?_
  refine ⟨p, hx, (by show _ < 12; omega), ?_⟩
  rw [hC.c2 p (by omega)]
  refine ⟨q, hy, (by show _ < 12; omega), ?_⟩
  rw [hC.c2 q (by omega)]
  refine ⟨p, hx, (by show _ < 12; omega), ?_⟩
  rw [hC.c3 p (by omega)]
  refine ⟨q, hy, (by show _ < 12; omega), ?_⟩
  rw [hC.c3 q (by omega)]
  refine ⟨(by decide), ?_⟩
  exact ⟨rfl, rfl⟩
theorem cv_free {d : Bool} {s t : Sg} {D : Dy} {eb er : Nat} {Z : Zt} {σ : Sg} (hC : Cg d s t D eb er Z σ) (hT : WN t) {x : Int32} {p : Nat} (hx : x = nI p) (hp : p < nP t) : Ev false 2 [.inr (.inr (26, d, 0)), .inl (x)] σ (some (.inl (fre t D p))) σ := by
  have hP := hT.P
  have hB := hT.B
  have hR := hT.R
  refine Ev_wp 31 [] rfl rfl ?_
  refine ⟨p, hx, (by show _ < 12; omega), ?_⟩
  rw [hC.c4 p (by omega)]
  refine ⟨p, hx, (by show _ < 12; omega), ?_⟩
  rw [(hC.c p (by omega)).1]
  exact ⟨rfl, rfl⟩
theorem cv_takes {d : Bool} {s t : Sg} {D : Dy} {eb er : Nat} {Z : Zt} {σ : Sg} (hC : Cg d s t D eb er Z σ) (hT : WN t) {x : Int32} {p : Nat} (hx : x = nI p) (hp : p < nP t) (h01 : D 2 p = nI 0 ∨ D 2 p = nI 1) : Ev false 65 [.inr (.inr (26, d, 0)), .inl (x)] σ (some (.inl (bD (D 2 p = nI 1 ∧ nI 0 < fre t D p)))) σ := by
  have hP := hT.P
  have hB := hT.B
  have hR := hT.R
  refine Ev_wp 36 [] rfl rfl ?_
  refine ⟨p, hx, (by show _ < 12; omega), ?_⟩
  rw [(hC.p p (by omega)).2]
  refine ⟨fun h4 => ?_, fun h4 => ?_⟩
  · refine ⟨Or.inl rfl, ?_⟩
    exact ⟨by rw [bD_f (fun q => absurd (h4.symm.trans q.1) (by decide))], rfl⟩
  · refine ⟨_, _, cv_free hC hT hx hp, ?_⟩
    refine ⟨fun h8 => ?_, fun h8 => ?_⟩
    · refine ⟨Or.inl rfl, ?_⟩
      exact ⟨by rw [bD_f (fun q => absurd q.2 (Int32.not_lt.mpr h8))], rfl⟩
    · refine ⟨Or.inr rfl, ?_⟩
      exact ⟨by rw [bD_t ⟨h01.resolve_left h4, i_nle h8⟩], rfl⟩
theorem cv_hour {d : Bool} {s t : Sg} {D : Dy} {eb er : Nat} {Z : Zt} {σ : Sg} (hC : Cg d s t D eb er Z σ) {m : Nat} (hm : D 0 0 = nI m) (hm2 : m < 2000) : Ev false 5 [.inr (.inr (26, d, 0))] σ (some (.inl (nI (m / 60)))) σ := by
  refine Ev_wp 25 [] rfl rfl ?_
  refine ⟨(by decide), ?_⟩
  exact ⟨congrArg (fun z => some (Sum.inl z)) (div_n (hC.m.1.trans hm) rfl ⟨by omega, by omega, by omega⟩), rfl⟩
theorem cv_settle {d : Bool} {s t : Sg} {D : Dy} {eb er : Nat} {Z : Zt} {σ : Sg} (hC : Cg d s t D eb er Z σ) (hT : WN t) {x y : Int32} {b p : Nat} (hx : x = nI b) (hb : b < nB t) (hy : y = nI p) (hp : p < nP t) (h11 : ¬ D 11 b = nI 0) (heb : ∀ c, c < nB t → ¬ c = b → ¬ c = eb) : ∃ σ', Ev false 3 [.inr (.inr (26, d, 0)), .inl (x), .inl (y)] σ none σ' ∧ Cg d s t (up2 (up2 D 11 b (nI 0)) 12 b (nI p)) 60 er Z σ' := by
  have hP := hT.P
  have hB := hT.B
  have hR := hT.R
  refine EvQ_wp 59 [] rfl rfl ?_
  refine ⟨0, rfl, (by show _ < 4; omega), (show 0 < 4 by omega), b, hx, (by show _ < 60; omega), _, rfl, 1, rfl, (by show _ < 4; omega), (show 1 < 4 by omega), b, hx, (by show _ < 60; omega), nI (p), hy, p, hy, (by show _ < 12; omega), ?_⟩
  rw [show (up4 (up4 σ 32 d (0 + 1) b (nI 0)) 32 d (1 + 1) b (nI p)) 29 d 0 p = nI (thr t D p) from (hC.c p hp).1]
  refine ⟨p, hy, (by show _ < 12; omega), nI ((thr t D p) + 1), (add_n rfl rfl), 3, rfl, (by show _ < 4; omega), (show 3 < 4 by omega), b, hx, (by show _ < 60; omega), ?_⟩
  have e14 : (up4 (up4 (up4 σ 32 d (0 + 1) b (nI 0)) 32 d (1 + 1) b (nI p)) 29 d 0 p (nI (thr t D p + 1))) 32 d (3 + 1) b = D 14 b := (up4_nk (by decide)).trans ((up4_nj2 (by decide)).trans ((up4_nj2 (by decide)).trans (hC.b3 b hb)))
  rw [e14]
  refine ⟨fun h28 => ?_, fun h28 => ?_⟩
  · exact ⟨rfl, st_settle1 hC hb hp hP h11 h28 heb⟩
  · refine ⟨p, hy, (by show _ < 12; omega), ?_⟩
    rw [show (up4 (up4 (up4 σ 32 d (0 + 1) b (nI 0)) 32 d (1 + 1) b (nI p)) 29 d 0 p (nI (thr t D p + 1))) 30 d 0 p = nI (gdn t D p) from (hC.c p hp).2]
    refine ⟨p, hy, (by show _ < 12; omega), nI ((gdn t D p) + 1), (add_n rfl rfl), ?_⟩
    exact ⟨rfl, st_settle0 hC hb hp hP h11 h28 heb⟩
theorem cv_lift {d : Bool} {s t : Sg} {D : Dy} {er : Nat} {Z : Zt} {σ : Sg} (hC : Cg d s t D 60 er Z σ) (hT : WN t) {x y : Int32} {b p q : Nat} (hx : x = nI b) (hb : b < nB t) (hy : y = nI q) (hp : p < nP t) (h11 : D 11 b = nI 0) (h12 : D 12 b = nI p) (hq : ¬ q = 0) (hq4 : q ≤ 4) : ∃ σ', Ev false 66 [.inr (.inr (26, d, 0)), .inl (x), .inl (y)] σ none σ' ∧ Cg d s t (up2 D 11 b (nI q)) b er Z σ' ∧ σ' 32 d 2 b = D 12 b := by
  have hP := hT.P
  have hB := hT.B
  have hR := hT.R
  have ht1 : 1 ≤ thr t D p := ct_pos (i := b) hb (by unfold isA; simp [h11, h12])
  have e12 : σ 32 d 2 b = D 12 b := hC.b1 b hb ⟨by omega, by rw [h11]; decide⟩
  refine EvQ_wp 71 [] rfl rfl ?_
  refine ⟨1, rfl, (by show _ < 4; omega), (show 1 < 4 by omega), b, hx, (by show _ < 60; omega), ?_⟩
  rw [hC.b1 b (by omega) ⟨by omega, by rw [h11]; decide⟩]
  refine ⟨nI (p), h12, 0, rfl, (by show _ < 4; omega), (show 0 < 4 by omega), b, hx, (by show _ < 60; omega), ?_⟩
  rw [hC.b0 b (by omega)]
  refine br_ne h11 rfl (by omega) (by omega) (fun h13 => ?_) (fun h13 => ?_)
  · exact absurd h13 (by omega)
  · refine ⟨_, _, cv_isPost (hC.c1_0.trans hT.1.1) (by omega), ?_⟩
    refine brd_ne (fun h18 => ?_) (fun h18 => ?_)
    · refine ⟨0, rfl, (by show _ < 4; omega), (show 0 < 4 by omega), b, hx, (by show _ < 60; omega), nI (q), hy, p, rfl, (by show _ < 12; omega), ?_⟩
      rw [show (up4 σ 32 d (0 + 1) b (nI q)) 29 d 0 p = nI (thr t D p) from (hC.c p hp).1]
      refine ⟨p, rfl, (by show _ < 12; omega), nI ((thr t D p) - 1), (sub_n rfl rfl (by omega)), 3, rfl, (by show _ < 4; omega), (show 3 < 4 by omega), b, hx, (by show _ < 60; omega), ?_⟩
      rw [show (up4 (up4 σ 32 d (0 + 1) b (nI q)) 29 d 0 p (nI (thr t D p - 1))) 32 d (3 + 1) b = D 14 b from ((up4_nk (by decide)).trans ((up4_nj2 (by decide)).trans (hC.b3 b hb)))]
      refine ⟨fun h41 => ?_, fun h41 => ?_⟩
      · exact ⟨rfl, st_lift1 hC hb hp hP h11 h12 hq hq4 h41 (fun c hc => by omega), (up4_nk (by decide)).trans ((up4_nj2 (by decide)).trans e12)⟩
      · have hg1 : 1 ≤ gdn t D p := ct_pos (i := b) hb (by unfold isG isA; simp [h11, h12, h41])
        refine ⟨p, rfl, (by show _ < 12; omega), ?_⟩
        rw [show (up4 (up4 σ 32 d (0 + 1) b (nI q)) 29 d 0 p (nI (thr t D p - 1))) 30 d 0 p = nI (gdn t D p) from (hC.c p hp).2]
        refine ⟨p, rfl, (by show _ < 12; omega), nI ((gdn t D p) - 1), (sub_n rfl rfl (by omega)), ?_⟩
        exact ⟨rfl, st_lift0 hC hb hp hP h11 h12 hq hq4 h41 (fun c hc => by omega), (up4_nk (by decide)).trans ((up4_nk (by decide)).trans ((up4_nj2 (by decide)).trans e12))⟩
    · exact absurd (show isPo t (nI p) from ⟨p, rfl, hp⟩) h18
