/-! The class's day: looks, the log, the van's lists, by hand. -/
theorem st_eb {d : Bool} {s t : Sg} {D : Dy} {eb er : Nat} {Z : Zt} {σ : Sg} (h : Cg d s t D eb er Z σ) (h1 : eb < nB t → σ 32 d 2 eb = (if D 11 eb = nI 2 then -1 else D 12 eb) ∧ (D 11 eb = nI 3 → σ 33 d 0 eb = D 15 eb)) : Cg d s t D 60 er Z σ := by
  refine ⟨h.1, h.2.1, h.m, h.p, h.c, h.w, fun c hc => ⟨(h.b c hc).1, fun _ => ?_⟩, h.r, h.g, h.z, h.l, h.v⟩
  by_cases e : c = eb
  · rw [e] at hc ⊢
    exact h1 hc
  · exact (h.b c hc).2 e
theorem cv_isAt {d : Bool} {s t : Sg} {D : Dy} {er : Nat} {Z : Zt} {σ : Sg} (hC : Cg d s t D 60 er Z σ) (hT : WN t) {x y : Int32} {b p : Nat} (hx : x = nI b) (hb : b < nB t) (hy : y = nI p) : Ev false 4 [.inr (.inr (26, d, 0)), .inl (x), .inl (y)] σ (some (.inl (bD (isA D p b = true)))) σ := by
  have hP := hT.P
  have hB := hT.B
  have hR := hT.R
  refine Ev_wp 42 [] rfl rfl ?_
  refine ⟨0, rfl, (by show _ < 4; omega), (show 0 < 4 by omega), b, hx, (by show _ < 60; omega), ?_⟩
  rw [hC.b0 b (by omega)]
  refine ⟨fun h6 => ?_, fun h6 => ?_⟩
  · refine ⟨Or.inl rfl, ?_⟩
    exact ⟨by rw [bD_f (by unfold isA; simp [h6])], rfl⟩
  · refine ⟨1, rfl, (by show _ < 4; omega), (show 1 < 4 by omega), b, hx, (by show _ < 60; omega), ?_⟩
    rw [hC.b1 b (by omega) ⟨by omega, by rw [h6]; decide⟩]
    refine ⟨fun h14 => ?_, fun h14 => ?_⟩
    · refine ⟨Or.inl rfl, ?_⟩
      exact ⟨by rw [bD_f (by unfold isA; rw [hy] at h14; simp [h14])], rfl⟩
    · refine ⟨Or.inr rfl, ?_⟩
      exact ⟨by rw [bD_t (by unfold isA; rw [hy] at h14; simp [h6, h14])], rfl⟩
theorem pik_none {t : Sg} {D : Dy} {p : Nat} (h : gdn t D p = 0) : pik D p (nB t) = none := by
  cases hp : pik D p (nB t) with
  | none => rfl
  | some m =>
    have h1 := pik_lt D p (nB t) m hp
    have h2 := ct_zero h m h1.1
    rw [h1.2] at h2
    cases h2
theorem cv_best_l {d : Bool} {s t : Sg} {D : Dy} {er : Nat} {Z : Zt} {σ : Sg} (hC : Cg d s t D 60 er Z σ) (hT : WN t) {x : Int32} {p : Nat} (hx : x = nI p) : ∀ (k b : Nat), b + k = nB t → G false 67 (fun r' s' => r' = some (.inl (oI (pik D p (nB t)))) ∧ s' = σ) 11 [some (.inr (.inr (26, d, 0))), some (.inl x), some (.inl (oI (pik D p b))), some (.inl (nI b))] [] σ := by
  have hP := hT.P
  have hB := hT.B
  intro k
  induction k with
  | zero =>
    intro b hb
    refine G_wp 100 [11] rfl ?_
    cases hpk : pik D p b with
    | none =>
      refine br_ge rfl (hC.c1_1.trans hT.eB) (by omega) (by omega) (fun h15 => ?_) (fun h15 => ?_)
      · exact ⟨by rw [show b = nB t by omega] at hpk; rw [hpk], rfl⟩
      · exact absurd h15 (by omega)
    | some m =>
      refine br_ge rfl (hC.c1_1.trans hT.eB) (by omega) (by omega) (fun h15 => ?_) (fun h15 => ?_)
      · exact ⟨by rw [show b = nB t by omega] at hpk; rw [hpk], rfl⟩
      · exact absurd h15 (by omega)
  | succ k ih =>
    intro b hb
    refine G_wp 100 [11] rfl ?_
    cases hpk : pik D p b with
    | none =>
      refine br_ge rfl (hC.c1_1.trans hT.eB) (by omega) (by omega) (fun h15 => ?_) (fun h15 => ?_)
      · exact absurd h15 (by omega)
      · refine ⟨_, _, cv_isAt hC hT rfl (by omega) hx, ?_⟩
        refine brd_eq (fun h20 => ?_) (fun h20 => ?_)
        · refine ⟨nI (b + 1), nI_add _ _, ?_⟩
          have h9 := ih (b + 1) (by omega)
          rw [pik_S, if_neg (by simp_all [isG]), hpk] at h9
          exact h9
        · refine ⟨3, rfl, (by show _ < 4; omega), (show 3 < 4 by omega), b, rfl, (by show _ < 60; omega), ?_⟩
          rw [hC.b3 b (by omega)]
          refine ⟨fun h27 => ?_, fun h27 => ?_⟩
          · refine ⟨fun h31 => ?_, fun h31 => ?_⟩
            · refine ⟨oI (pik D p (b + 1)), (by rw [pik_S, if_pos (by simp_all [isG])]; rfl), nI (b + 1), nI_add _ _, ?_⟩
              exact ih (b + 1) (by omega)
            · exact absurd h31 (by simp [oI])
          · refine ⟨nI (b + 1), nI_add _ _, ?_⟩
            have h9 := ih (b + 1) (by omega)
            rw [pik_S, if_neg (by simp_all [isG]), hpk] at h9
            exact h9
    | some m =>
      have hm := (pik_lt D p b m hpk).1
      refine br_ge rfl (hC.c1_1.trans hT.eB) (by omega) (by omega) (fun h15 => ?_) (fun h15 => ?_)
      · exact absurd h15 (by omega)
      · refine ⟨_, _, cv_isAt hC hT rfl (by omega) hx, ?_⟩
        refine brd_eq (fun h20 => ?_) (fun h20 => ?_)
        · refine ⟨nI (b + 1), nI_add _ _, ?_⟩
          have h9 := ih (b + 1) (by omega)
          rw [pik_S, if_neg (by simp_all [isG]), hpk] at h9
          exact h9
        · refine ⟨3, rfl, (by show _ < 4; omega), (show 3 < 4 by omega), b, rfl, (by show _ < 60; omega), ?_⟩
          rw [hC.b3 b (by omega)]
          refine ⟨fun h27 => ?_, fun h27 => ?_⟩
          · refine ⟨fun h31 => ?_, fun h31 => ?_⟩
            · exact absurd h31 (nI_m1 (by omega))
            · refine ⟨2, rfl, (by show _ < 4; omega), (show 2 < 4 by omega), b, rfl, (by show _ < 60; omega), ?_⟩
              rw [hC.b2 b (by omega)]
              refine ⟨2, rfl, (by show _ < 4; omega), (show 2 < 4 by omega), m, rfl, (by show _ < 60; omega), ?_⟩
              rw [hC.b2 m (by omega)]
              refine ⟨fun h44 => ?_, fun h44 => ?_⟩
              · refine ⟨nI (b + 1), nI_add _ _, ?_⟩
                have h9 := ih (b + 1) (by omega)
                rw [pik_S, if_neg (by simp_all [isG]), hpk] at h9
                exact h9
              · refine ⟨oI (pik D p (b + 1)), (by rw [pik_S, if_pos (by simp_all [isG])]; rfl), nI (b + 1), nI_add _ _, ?_⟩
                exact ih (b + 1) (by omega)
          · refine ⟨nI (b + 1), nI_add _ _, ?_⟩
            have h9 := ih (b + 1) (by omega)
            rw [pik_S, if_neg (by simp_all [isG]), hpk] at h9
            exact h9
theorem cv_best {d : Bool} {s t : Sg} {D : Dy} {er : Nat} {Z : Zt} {σ : Sg} (hC : Cg d s t D 60 er Z σ) (hT : WN t) {x : Int32} {p : Nat} (hx : x = nI p) (hp : p < nP t) : Ev false 67 [.inr (.inr (26, d, 0)), .inl (x)] σ (some (.inl (oI (pik D p (nB t))))) σ := by
  have hP := hT.P
  have hB := hT.B
  have hR := hT.R
  have hg : gdn t D p ≤ nB t := ct_le _ _
  refine Ev_wp 31 [11] rfl rfl ?_
  refine ⟨_, rfl, p, hx, (by show _ < 12; omega), ?_⟩
  rw [(hC.c p (by omega)).2]
  refine br_gt rfl rfl (by omega) (by omega) (fun h6 => ?_) (fun h6 => ?_)
  · refine ⟨_, rfl, ?_⟩
    exact cv_best_l hC hT hx (nB t) 0 (by omega)
  · exact ⟨by rw [pik_none (by omega)]; rfl, rfl⟩
def ffI (t : Sg) (D : Dy) (p : Nat) : Int32 := if ff D p (nB t) 0 < nB t then nI (ff D p (nB t) 0) else -1
theorem cv_ff_l {d : Bool} {s t : Sg} {D : Dy} {er : Nat} {Z : Zt} {σ : Sg} (hC : Cg d s t D 60 er Z σ) (hT : WN t) {x : Int32} {p : Nat} (hx : x = nI p) : ∀ (k b : Nat), b + k = nB t → ff D p k b = ff D p (nB t) 0 → G false 69 (fun r' s' => r' = some (.inl (ffI t D p)) ∧ s' = σ) 2 [some (.inr (.inr (26, d, 0))), some (.inl x), some (.inl (nI b))] [] σ := by
  have hP := hT.P
  have hB := hT.B
  intro k
  induction k with
  | zero =>
    intro b hb hf
    refine G_wp 100 [2] rfl ?_
    refine br_ge rfl (hC.c1_1.trans hT.eB) (by omega) (by omega) (fun h6 => ?_) (fun h6 => ?_)
    · have e9 : ff D p 0 b = b := rfl
      exact ⟨by unfold ffI; rw [← hf, e9, if_neg (by omega)], rfl⟩
    · exact absurd h6 (by omega)
  | succ k ih =>
    intro b hb hf
    refine G_wp 100 [2] rfl ?_
    refine br_ge rfl (hC.c1_1.trans hT.eB) (by omega) (by omega) (fun h6 => ?_) (fun h6 => ?_)
    · exact absurd h6 (by omega)
    · refine ⟨_, _, cv_isAt hC hT rfl (by omega) hx, ?_⟩
      refine brd_eq (fun h11 => ?_) (fun h11 => ?_)
      · refine ⟨nI (b + 1), nI_add _ _, ?_⟩
        rw [ff_S, if_neg (fun q => h11 q.1)] at hf
        exact ih (b + 1) (by omega) hf
      · refine ⟨3, rfl, (by show _ < 4; omega), (show 3 < 4 by omega), b, rfl, (by show _ < 60; omega), ?_⟩
        rw [hC.b3 b (by omega)]
        refine ⟨fun h18 => ?_, fun h18 => ?_⟩
        · refine ⟨nI (b + 1), nI_add _ _, ?_⟩
          rw [ff_S, if_neg (fun q => q.2 h18)] at hf
          exact ih (b + 1) (by omega) hf
        · rw [ff_S, if_pos ⟨h11, h18⟩] at hf
          exact ⟨by unfold ffI; rw [← hf, if_pos (by omega)], rfl⟩
theorem cv_ff {d : Bool} {s t : Sg} {D : Dy} {er : Nat} {Z : Zt} {σ : Sg} (hC : Cg d s t D 60 er Z σ) (hT : WN t) {x : Int32} {p : Nat} (hx : x = nI p) : Ev false 69 [.inr (.inr (26, d, 0)), .inl (x)] σ (some (.inl (ffI t D p))) σ := by
  have hP := hT.P
  have hB := hT.B
  have hR := hT.R
  refine Ev_wp 22 [2] rfl rfl ?_
  refine ⟨_, rfl, ?_⟩
  exact cv_ff_l hC hT hx (nB t) 0 (by omega) rfl
theorem cv_tell {d : Bool} {s t : Sg} {D : Dy} {er : Nat} {Z : Zt} {σ : Sg} (hC : Cg d s t D 60 er Z σ) (hT : WN t) {x : Int32} {b p : Nat} (hx : x = nI b) (hb : b < nB t) (hp : p < nP t) (h11 : D 11 b = nI 0) (h12 : D 12 b = nI p) (h14 : D 14 b = nI 0) : ∃ σ', Ev false 68 [.inr (.inr (26, d, 0)), .inl (x)] σ none σ' ∧ Cg d s t (up2 D 14 b (nI 1)) 60 er Z σ' := by
  have hP := hT.P
  have hB := hT.B
  have hR := hT.R
  have hg1 : 1 ≤ gdn t D p := ct_pos (i := b) hb (by unfold isG isA; simp [h11, h12, h14])
  refine EvQ_wp 60 [] rfl rfl ?_
  refine ⟨1, rfl, (by show _ < 4; omega), (show 1 < 4 by omega), b, hx, (by show _ < 60; omega), ?_⟩
  rw [hC.b1 b (by omega) ⟨by omega, by rw [h11]; decide⟩]
  refine ⟨nI (p), h12, _, _, cv_isPost (hC.c1_0.trans hT.1.1) (by omega), ?_⟩
  refine brd_eq (fun h11x => ?_) (fun h11x => ?_)
  · exact absurd (show isPo t (nI p) from ⟨p, rfl, hp⟩) h11x
  · refine ⟨_, _, cv_isAt hC hT hx hb rfl, ?_⟩
    refine brd_eq (fun h16 => ?_) (fun h16 => ?_)
    · exact absurd (by unfold isA; simp [h11, h12]) h16
    · refine ⟨3, rfl, (by show _ < 4; omega), (show 3 < 4 by omega), b, hx, (by show _ < 60; omega), ?_⟩
      rw [hC.b3 b (by omega)]
      refine br_eq h14 rfl (by omega) (by omega) (fun h23 => ?_) (fun h23 => ?_)
      · refine ⟨3, rfl, (by show _ < 4; omega), (show 3 < 4 by omega), b, hx, (by show _ < 60; omega), _, rfl, p, rfl, (by show _ < 12; omega), ?_⟩
        rw [show (up4 σ 32 d (3 + 1) b (nI 1)) 30 d 0 p = nI (gdn t D p) from (hC.c p hp).2]
        refine ⟨p, rfl, (by show _ < 12; omega), nI ((gdn t D p) - 1), (sub_n rfl rfl (by omega)), ?_⟩
        exact ⟨rfl, st_tell hC hb hp hP h11 h12 h14⟩
      · exact absurd h23 (by omega)
theorem st_log {d : Bool} {s t : Sg} {D : Dy} {eb er : Nat} {Z : Zt} {σ : Sg} (h : Cg d s t D eb er Z σ) {n : Nat} {v0 v2 v3 v4 : Int32} (hn : D 0 7 = nI n) (hn2 : n < 4000) (hd : d = false) : Cg d s t (up2 (up2 (up2 (up2 (up2 (up2 D 27 (5 * n) v0) 27 (5 * n + 1) (D 0 0)) 27 (5 * n + 2) v2) 27 (5 * n + 3) v3) 27 (5 * n + 4) v4) 0 7 (nI (n + 1))) eb er Z (up4 (up4 (up4 (up4 (up4 (up4 σ 38 d (0 + 1) n v0) 38 d (1 + 1) n (D 0 0)) 38 d (2 + 1) n v2) 38 d (3 + 1) n v3) 38 d (4 + 1) n v4) 37 d 0 1 (nI (n + 1))) := by
  refine ⟨h.1, Fr_w (Fr_w (Fr_w (Fr_w (Fr_w (Fr_w (h.2.1) _ (by omega)) _ (by omega)) _ (by omega)) _ (by omega)) _ (by omega)) _ (by omega), ?_, ?_, ?_, ?_, ?_, ?_, ?_, ?_, ?_, ?_⟩
  · have h0 := h.m
    subst hd
    refine ⟨?_, ?_, ?_, ?_, ?_⟩
    · rw [up4_nk (by decide)]; rw [up4_nk (by decide)]; rw [up4_nk (by decide)]; rw [up4_nk (by decide)]; rw [up4_nk (by decide)]; rw [up4_nk (by decide)]; rw [up2_n (by omega)]; rw [up2_n (by omega)]; rw [up2_n (by omega)]; rw [up2_n (by omega)]; rw [up2_n (by omega)]; rw [up2_n (by omega)]; exact h0.1
    · rw [up4_nk (by decide)]; rw [up4_nk (by decide)]; rw [up4_nk (by decide)]; rw [up4_nk (by decide)]; rw [up4_nk (by decide)]; rw [up4_nk (by decide)]; exact h0.2.1
    · rw [up4_nj (by decide)]; rw [up4_nk (by decide)]; rw [up4_nk (by decide)]; rw [up4_nk (by decide)]; rw [up4_nk (by decide)]; rw [up4_nk (by decide)]; rw [up2_n (by omega)]; rw [up2_n (by omega)]; rw [up2_n (by omega)]; rw [up2_n (by omega)]; rw [up2_n (by omega)]; rw [up2_n (by omega)]; exact h0.2.2.1
    · rw [up4_nj (by decide)]; rw [up4_nk (by decide)]; rw [up4_nk (by decide)]; rw [up4_nk (by decide)]; rw [up4_nk (by decide)]; rw [up4_nk (by decide)]; exact h0.2.2.2.1
    · rw [up4_s, up2_s]
      rfl
  · exact Rp_c h.p (fun k r i q => by rw [up4_nk (by omega)]; rw [up4_nk (by omega)]; rw [up4_nk (by omega)]; rw [up4_nk (by omega)]; rw [up4_nk (by omega)]; rw [up4_nk (by omega)]) (fun f i q => by rw [up2_n (by omega)]; rw [up2_n (by omega)]; rw [up2_n (by omega)]; rw [up2_n (by omega)]; rw [up2_n (by omega)]; rw [up2_n (by omega)])
  · exact Rc_c h.c (fun k r i q => by rw [up4_nk (by omega)]; rw [up4_nk (by omega)]; rw [up4_nk (by omega)]; rw [up4_nk (by omega)]; rw [up4_nk (by omega)]; rw [up4_nk (by omega)]) (fun f i q => by rw [up2_n (by omega)]; rw [up2_n (by omega)]; rw [up2_n (by omega)]; rw [up2_n (by omega)]; rw [up2_n (by omega)]; rw [up2_n (by omega)])
  · exact Rw_c h.w (fun k r i q => by rw [up4_nk (by omega)]; rw [up4_nk (by omega)]; rw [up4_nk (by omega)]; rw [up4_nk (by omega)]; rw [up4_nk (by omega)]; rw [up4_nk (by omega)]) (fun r q => by rw [up2_n (by omega)]; rw [up2_n (by omega)]; rw [up2_n (by omega)]; rw [up2_n (by omega)]; rw [up2_n (by omega)]; rw [up2_n (by omega)])
  · exact Rb_c h.b (fun k r i q => by rw [up4_nk (by omega)]; rw [up4_nk (by omega)]; rw [up4_nk (by omega)]; rw [up4_nk (by omega)]; rw [up4_nk (by omega)]; rw [up4_nk (by omega)]) (fun f i q => by rw [up2_n (by omega)]; rw [up2_n (by omega)]; rw [up2_n (by omega)]; rw [up2_n (by omega)]; rw [up2_n (by omega)]; rw [up2_n (by omega)])
  · exact Rr_c h.r (fun k r i q => by rw [up4_nk (by omega)]; rw [up4_nk (by omega)]; rw [up4_nk (by omega)]; rw [up4_nk (by omega)]; rw [up4_nk (by omega)]; rw [up4_nk (by omega)]) (fun f i q => by rw [up2_n (by omega)]; rw [up2_n (by omega)]; rw [up2_n (by omega)]; rw [up2_n (by omega)]; rw [up2_n (by omega)]; rw [up2_n (by omega)])
  · exact Rg_c h.g (fun k r i q => by rw [up4_nk (by omega)]; rw [up4_nk (by omega)]; rw [up4_nk (by omega)]; rw [up4_nk (by omega)]; rw [up4_nk (by omega)]; rw [up4_nk (by omega)]) (fun f i q => by rw [up2_n (by omega)]; rw [up2_n (by omega)]; rw [up2_n (by omega)]; rw [up2_n (by omega)]; rw [up2_n (by omega)]; rw [up2_n (by omega)])
  · exact Rz_c h.z (fun k r i q => by rw [up4_nk (by omega)]; rw [up4_nk (by omega)]; rw [up4_nk (by omega)]; rw [up4_nk (by omega)]; rw [up4_nk (by omega)]; rw [up4_nk (by omega)]) 
  · intro hd2 i w hi hw
    rw [up2_s, nN_nI (by omega)] at hi
    rw [up4_nk (by decide), up2_n (by omega)]
    by_cases e : i = n
    · subst e
      rcases (show w = 0 ∨ w = 1 ∨ w = 2 ∨ w = 3 ∨ w = 4 by omega) with rfl | rfl | rfl | rfl | rfl <;> simp [up4, up2]
    · have h0 := h.l hd2 i w (by rw [hn, nN_nI (by omega)]; omega) hw
      rw [up4_nj e]
      rw [up4_nj e]
      rw [up4_nj e]
      rw [up4_nj e]
      rw [up4_nj e]
      rw [up2_n (by omega)]
      rw [up2_n (by omega)]
      rw [up2_n (by omega)]
      rw [up2_n (by omega)]
      rw [up2_n (by omega)]
      exact h0
  · exact Rv_c h.v (fun k r i q => by rw [up4_nk (by omega)]; rw [up4_nk (by omega)]; rw [up4_nk (by omega)]; rw [up4_nk (by omega)]; rw [up4_nk (by omega)]; rw [up4_nk (by omega)]) (fun f i q => by rw [up2_n (by omega)]; rw [up2_n (by omega)]; rw [up2_n (by omega)]; rw [up2_n (by omega)]; rw [up2_n (by omega)]; rw [up2_n (by omega)])
theorem cv_add_f {s t : Sg} {D : Dy} {eb er : Nat} {Z : Zt} {σ : Sg} (hC : Cg false s t D eb er Z σ) {v0 x1 v2 v3 v4 : Int32} (h7 : Is (D 0 7) 4000) (hx : x1 = D 0 0) : ∃ σ', Ev false 8 [.inr (.inr (37, false, 0)), .inl v0, .inl x1, .inl v2, .inl v3, .inl v4] σ none σ' ∧ Cg false s t (lgs D v0 v2 v3 v4) eb er Z σ' := by
  obtain ⟨n, hn2⟩ : ∃ n, nN (D 0 7) = n := ⟨_, rfl⟩
  have hn : D 0 7 = nI n := by rw [← hn2]; exact h7.1
  have h72 := h7.2
  have eL : σ 37 false 0 1 = nI n := hC.m.2.2.2.2.trans hn
  have eM : σ 37 false 0 0 = nI 4000 := hC.m.2.2.2.1
  refine EvQ_wp 90 [] rfl rfl ?_
  refine br_lt eL eM (by omega) (by omega) (fun h4 => ?_) (fun h4 => ?_)
  · refine ⟨0, rfl, (by show _ < 5; omega), (show 0 < 5 by omega), n, eL, (show n < 4000 by omega), _, rfl, 1, rfl, (by show _ < 5; omega), (show 1 < 5 by omega), n, eL, (show n < 4000 by omega), _, rfl, 2, rfl, (by show _ < 5; omega), (show 2 < 5 by omega), n, eL, (show n < 4000 by omega), _, rfl, 3, rfl, (by show _ < 5; omega), (show 3 < 5 by omega), n, eL, (show n < 4000 by omega), _, rfl, 4, rfl, (by show _ < 5; omega), (show 4 < 5 by omega), n, eL, (show n < 4000 by omega), _, rfl, nI (n + 1), (add_n eL rfl), ?_⟩
    refine ⟨rfl, ?_⟩
    unfold lgs
    rw [if_pos (by rw [hn2]; omega), hn2]
    rw [hx]
    exact st_log hC hn h4 rfl
  · refine ⟨rfl, ?_⟩
    unfold lgs
    rw [if_neg (by rw [hn2]; omega)]
    exact hC
theorem lgs_t {s t : Sg} {D : Dy} {eb er : Nat} {Z : Zt} {σ : Sg} (h : Cg true s t D eb er Z σ) {v0 v2 v3 v4 : Int32} : Cg true s t (lgs D v0 v2 v3 v4) eb er Z σ := by
  have e : ∀ g i, ¬ g = 27 → ¬ (g = 0 ∧ i = 7) → lgs D v0 v2 v3 v4 g i = D g i := fun g i a b => lgs_o a b
  refine ⟨h.1, h.2.1, ?_, Rp_c h.p (fun _ _ _ _ => rfl) (fun f i q => e f i (by omega) (by omega)), Rc_c h.c (fun _ _ _ _ => rfl) (fun f i q => e f i (by omega) (by omega)), Rw_c h.w (fun _ _ _ _ => rfl) (fun r _ => e 16 r (by omega) (by omega)), Rb_c h.b (fun _ _ _ _ => rfl) (fun f i q => e f i (by omega) (by omega)), Rr_c h.r (fun _ _ _ _ => rfl) (fun f i q => e f i (by omega) (by omega)), Rg_c h.g (fun _ _ _ _ => rfl) (fun f i q => e f i (by omega) (by omega)), Rz_c h.z (fun _ _ _ _ => rfl), (fun (q : true = false) => absurd q (by decide)), Rv_c h.v (fun _ _ _ _ => rfl) (fun f i q => e f i (by omega) (by omega))⟩
  have h0 := h.m
  exact ⟨by rw [e 0 0 (by omega) (by omega)]; exact h0.1, h0.2.1, by rw [e 0 1 (by omega) (by omega)]; exact h0.2.2.1, h0.2.2.2.1, h0.2.2.2.2⟩
theorem cv_add_t {s t : Sg} {D : Dy} {eb er : Nat} {Z : Zt} {σ : Sg} (hC : Cg true s t D eb er Z σ) {v0 x1 v2 v3 v4 : Int32} : ∃ σ', Ev false 8 [.inr (.inr (37, true, 0)), .inl v0, .inl x1, .inl v2, .inl v3, .inl v4] σ none σ' ∧ Cg true s t (lgs D v0 v2 v3 v4) eb er Z σ' := by
  have eL : σ 37 true 0 1 = nI 0 := hC.m.2.2.2.2
  have eM : σ 37 true 0 0 = nI 0 := hC.m.2.2.2.1
  refine EvQ_wp 90 [] rfl rfl ?_
  refine br_lt eL eM (by omega) (by omega) (fun h4 => ?_) (fun h4 => ?_)
  · exact absurd h4 (by omega)
  · exact ⟨rfl, lgs_t hC⟩
theorem cv_add {d : Bool} {s t : Sg} {D : Dy} {eb er : Nat} {Z : Zt} {σ : Sg} (hC : Cg d s t D eb er Z σ) {v0 x1 v2 v3 v4 : Int32} (h7 : Is (D 0 7) 4000) (hx : x1 = D 0 0) : ∃ σ', Ev false 8 [.inr (.inr (37, d, 0)), .inl v0, .inl x1, .inl v2, .inl v3, .inl v4] σ none σ' ∧ Cg d s t (lgs D v0 v2 v3 v4) eb er Z σ' := by
  cases d with
  | false => exact cv_add_f hC h7 hx
  | true => exact cv_add_t hC
theorem cv_setOpen0 {d : Bool} {s t : Sg} {D : Dy} {eb er : Nat} {Z : Zt} {σ : Sg} (hC : Cg d s t D eb er Z σ) (hT : WN t) {x : Int32} {p : Nat} (hx : x = nI p) (hp : p < nP t) (h7 : Is (D 0 7) 4000) : ∃ σ', Ev false 70 [.inr (.inr (26, d, 0)), .inl (x), .inl (nI (0))] σ none σ' ∧ Cg d s t (opn D p (nI 0)) eb er Z σ' := by
  subst hx
  have hP := hT.P
  have hB := hT.B
  have hR := hT.R
  refine EvQ_wp 44 [] rfl rfl ?_
  refine ⟨p, rfl, (by show _ < 12; omega), ?_⟩
  rw [(hC.p p (by omega)).2]
  refine ⟨fun h5 => ?_, fun h5 => ?_⟩
  · refine ⟨p, rfl, (by show _ < 12; omega), (nI 0), rfl, ?_⟩
    replace hC : Cg d s t (up2 D 2 p (nI 0)) eb er Z (up4 σ 28 d 0 p (nI 0)) := st_open hC
    refine br_eq rfl rfl (by omega) (by omega) (fun h15 => ?_) (fun h15 => ?_)
    · obtain ⟨σ1, ev1, hC⟩ := cv_add hC (v0 := (nI (11))) (v2 := (nI (p))) (v3 := (-1)) (v4 := (-1)) (by rw [up2_n (by omega)]; exact h7) hC.m.1
      refine ⟨_, _, ev1, ?_⟩
      refine ⟨rfl, ?_⟩
      unfold opn
      rw [if_neg h5]
      show Cg d s t (lgs (up2 D 2 p (nI 0)) (if nI 0 = nI 1 then nI 12 else nI 11) (nI p) (-1) (-1)) eb er Z σ1
      rw [if_neg (by decide)]
      exact hC
    · exact absurd h15 (by omega)
  · exact ⟨rfl, by unfold opn; rw [if_pos h5]; exact hC⟩
theorem cv_setOpen1 {d : Bool} {s t : Sg} {D : Dy} {eb er : Nat} {Z : Zt} {σ : Sg} (hC : Cg d s t D eb er Z σ) (hT : WN t) {x : Int32} {p : Nat} (hx : x = nI p) (hp : p < nP t) (h7 : Is (D 0 7) 4000) : ∃ σ', Ev false 70 [.inr (.inr (26, d, 0)), .inl (x), .inl (nI (1))] σ none σ' ∧ Cg d s t (opn D p (nI 1)) eb er Z σ' := by
  subst hx
  have hP := hT.P
  have hB := hT.B
  have hR := hT.R
  refine EvQ_wp 45 [] rfl rfl ?_
  refine ⟨p, rfl, (by show _ < 12; omega), ?_⟩
  rw [(hC.p p (by omega)).2]
  refine ⟨fun h5 => ?_, fun h5 => ?_⟩
  · refine ⟨p, rfl, (by show _ < 12; omega), (nI 1), rfl, ?_⟩
    replace hC : Cg d s t (up2 D 2 p (nI 1)) eb er Z (up4 σ 28 d 0 p (nI 1)) := st_open hC
    refine br_eq rfl rfl (by omega) (by omega) (fun h15 => ?_) (fun h15 => ?_)
    · exact absurd h15 (by omega)
    · obtain ⟨σ1, ev1, hC⟩ := cv_add hC (v0 := (nI (12))) (v2 := (nI (p))) (v3 := (-1)) (v4 := (-1)) (by rw [up2_n (by omega)]; exact h7) hC.m.1
      refine ⟨_, _, ev1, ?_⟩
      refine ⟨rfl, ?_⟩
      unfold opn
      rw [if_neg h5]
      show Cg d s t (lgs (up2 D 2 p (nI 1)) (if nI 1 = nI 1 then nI 12 else nI 11) (nI p) (-1) (-1)) eb er Z σ1
      rw [if_pos rfl]
      exact hC
  · exact ⟨rfl, by unfold opn; rw [if_pos h5]; exact hC⟩
theorem st_put {d : Bool} {s t : Sg} {D : Dy} {eb er : Nat} {Z : Zt} {σ : Sg} (h : Cg d s t D eb er Z σ) {n : Nat} {v : Int32} (hn : D 0 3 = nI n) (hn2 : n < 12) : Cg d s t (up2 (up2 D 24 n v) 0 3 (nI (n + 1))) eb er Z (up4 (up4 σ 45 d 0 n v) 44 d 0 1 (nI (n + 1))) := by
  refine ⟨h.1, Fr_w (Fr_w (h.2.1) _ (by omega)) _ (by omega), ?_, ?_, ?_, ?_, ?_, ?_, ?_, ?_, ?_, ?_⟩
  · exact Rm_c h.m (fun k r i q => by rw [up4_nk (by omega)]; rw [up4_nk (by omega)]) (fun i q => by rw [up2_n (by omega)]; rw [up2_n (by omega)])
  · exact Rp_c h.p (fun k r i q => by rw [up4_nk (by omega)]; rw [up4_nk (by omega)]) (fun f i q => by rw [up2_n (by omega)]; rw [up2_n (by omega)])
  · exact Rc_c h.c (fun k r i q => by rw [up4_nk (by omega)]; rw [up4_nk (by omega)]) (fun f i q => by rw [up2_n (by omega)]; rw [up2_n (by omega)])
  · exact Rw_c h.w (fun k r i q => by rw [up4_nk (by omega)]; rw [up4_nk (by omega)]) (fun r q => by rw [up2_n (by omega)]; rw [up2_n (by omega)])
  · exact Rb_c h.b (fun k r i q => by rw [up4_nk (by omega)]; rw [up4_nk (by omega)]) (fun f i q => by rw [up2_n (by omega)]; rw [up2_n (by omega)])
  · exact Rr_c h.r (fun k r i q => by rw [up4_nk (by omega)]; rw [up4_nk (by omega)]) (fun f i q => by rw [up2_n (by omega)]; rw [up2_n (by omega)])
  · exact Rg_c h.g (fun k r i q => by rw [up4_nk (by omega)]; rw [up4_nk (by omega)]) (fun f i q => by rw [up2_n (by omega)]; rw [up2_n (by omega)])
  · exact Rz_c h.z (fun k r i q => by rw [up4_nk (by omega)]; rw [up4_nk (by omega)]) 
  · exact Rl_c h.l (fun k r i q => by rw [up4_nk (by omega)]; rw [up4_nk (by omega)]) (fun f i q => by rw [up2_n (by omega)]; rw [up2_n (by omega)])
  · have h0 := h.v
    refine ⟨?_, ?_, ?_, ?_, fun i hi => ?_, fun i hi => ?_⟩
    · rw [up4_nj (by decide), up4_nk (by decide), up2_n (by omega), up2_n (by omega)]; exact h0.1
    · rw [up4_s, up2_s]
    · rw [up4_nj (by decide), up4_nk (by decide), up2_n (by omega), up2_n (by omega)]; exact h0.2.2.1
    · rw [up4_nj (by decide), up4_nk (by decide), up2_n (by omega), up2_n (by omega)]; exact h0.2.2.2.1
    · rw [up2_s, nN_nI (by omega)] at hi
      rw [up4_nk (by decide), up2_n (by omega)]
      exact par_u (fun e => h0.2.2.2.2.1 i (by rw [hn, nN_nI (by omega)]; omega))
    · rw [up2_n (by omega), up2_n (by omega)] at hi
      rw [up4_nk (by decide), up4_nk (by decide), up4_nk (by decide), up4_nk (by decide), up2_n (by omega), up2_n (by omega), up2_n (by omega), up2_n (by omega)]
      exact h0.2.2.2.2.2 i hi
theorem st_sto {d : Bool} {s t : Sg} {D : Dy} {eb er : Nat} {Z : Zt} {σ : Sg} (h : Cg d s t D eb er Z σ) {n : Nat} {v1 v2 : Int32} (hn : D 0 6 = nI n) (hn2 : n < 20) : Cg d s t (up2 (up2 (up2 D 25 n v1) 26 n v2) 0 6 (nI (n + 1))) eb er Z (up4 (up4 (up4 σ 46 d 0 n v1) 47 d 0 n v2) 44 d 0 2 (nI (n + 1))) := by
  refine ⟨h.1, Fr_w (Fr_w (Fr_w (h.2.1) _ (by omega)) _ (by omega)) _ (by omega), ?_, ?_, ?_, ?_, ?_, ?_, ?_, ?_, ?_, ?_⟩
  · exact Rm_c h.m (fun k r i q => by rw [up4_nk (by omega)]; rw [up4_nk (by omega)]; rw [up4_nk (by omega)]) (fun i q => by rw [up2_n (by omega)]; rw [up2_n (by omega)]; rw [up2_n (by omega)])
  · exact Rp_c h.p (fun k r i q => by rw [up4_nk (by omega)]; rw [up4_nk (by omega)]; rw [up4_nk (by omega)]) (fun f i q => by rw [up2_n (by omega)]; rw [up2_n (by omega)]; rw [up2_n (by omega)])
  · exact Rc_c h.c (fun k r i q => by rw [up4_nk (by omega)]; rw [up4_nk (by omega)]; rw [up4_nk (by omega)]) (fun f i q => by rw [up2_n (by omega)]; rw [up2_n (by omega)]; rw [up2_n (by omega)])
  · exact Rw_c h.w (fun k r i q => by rw [up4_nk (by omega)]; rw [up4_nk (by omega)]; rw [up4_nk (by omega)]) (fun r q => by rw [up2_n (by omega)]; rw [up2_n (by omega)]; rw [up2_n (by omega)])
  · exact Rb_c h.b (fun k r i q => by rw [up4_nk (by omega)]; rw [up4_nk (by omega)]; rw [up4_nk (by omega)]) (fun f i q => by rw [up2_n (by omega)]; rw [up2_n (by omega)]; rw [up2_n (by omega)])
  · exact Rr_c h.r (fun k r i q => by rw [up4_nk (by omega)]; rw [up4_nk (by omega)]; rw [up4_nk (by omega)]) (fun f i q => by rw [up2_n (by omega)]; rw [up2_n (by omega)]; rw [up2_n (by omega)])
  · exact Rg_c h.g (fun k r i q => by rw [up4_nk (by omega)]; rw [up4_nk (by omega)]; rw [up4_nk (by omega)]) (fun f i q => by rw [up2_n (by omega)]; rw [up2_n (by omega)]; rw [up2_n (by omega)])
  · exact Rz_c h.z (fun k r i q => by rw [up4_nk (by omega)]; rw [up4_nk (by omega)]; rw [up4_nk (by omega)]) 
  · exact Rl_c h.l (fun k r i q => by rw [up4_nk (by omega)]; rw [up4_nk (by omega)]; rw [up4_nk (by omega)]) (fun f i q => by rw [up2_n (by omega)]; rw [up2_n (by omega)]; rw [up2_n (by omega)])
  · have h0 := h.v
    refine ⟨?_, ?_, ?_, ?_, fun i hi => ?_, fun i hi => ?_⟩
    · rw [up4_nj (by decide), up4_nk (by decide), up4_nk (by decide), up2_n (by omega), up2_n (by omega), up2_n (by omega)]; exact h0.1
    · rw [up4_nj (by decide), up4_nk (by decide), up4_nk (by decide), up2_n (by omega), up2_n (by omega), up2_n (by omega)]; exact h0.2.1
    · rw [up4_s, up2_s]
    · rw [up4_nj (by decide), up4_nk (by decide), up4_nk (by decide), up2_n (by omega), up2_n (by omega), up2_n (by omega)]; exact h0.2.2.2.1
    · rw [up2_n (by omega), up2_n (by omega), up2_n (by omega)] at hi
      rw [up4_nk (by decide), up4_nk (by decide), up4_nk (by decide), up2_n (by omega), up2_n (by omega), up2_n (by omega)]
      exact h0.2.2.2.2.1 i hi
    · rw [up2_s, nN_nI (by omega)] at hi
      have h1 : ¬ i = n → σ 46 d 0 i = D 25 i ∧ σ 47 d 0 i = D 26 i := fun e => h0.2.2.2.2.2 i (by rw [hn, nN_nI (by omega)]; omega)
      refine ⟨?_, ?_⟩
      · rw [up4_nk (by decide), up4_nk (by decide), up2_n (by omega), up2_n (by omega)]
        exact par_u (fun e => (h1 e).1)
      · rw [up4_nk (by decide), up2_n (by omega)]
        unfold up4 up2
        by_cases e : i = n
        · rw [if_pos ⟨rfl, rfl, rfl, e⟩, if_pos ⟨rfl, e⟩]
        · rw [if_neg (fun q => e q.2.2.2), if_neg (fun q => absurd q.1 (by decide)), if_neg (fun q => e q.2), if_neg (fun q => absurd q.1 (by decide))]
          exact (h1 e).2
theorem cv_put {d : Bool} {s t : Sg} {D : Dy} {eb er : Nat} {Z : Zt} {σ : Sg} (hC : Cg d s t D eb er Z σ) {x : Int32} {n b : Nat} (hx : x = nI b) (hn : D 0 3 = nI n) (hn2 : n < 12) : ∃ σ', Ev false 36 [.inr (.inr (44, d, 0)), .inl (x)] σ none σ' ∧ Cg d s t (up2 (up2 D 24 n (nI b)) 0 3 (nI (n + 1))) eb er Z σ' := by
  refine EvQ_wp 37 [] rfl rfl ?_
  refine br_lt (hC.v.2.1.trans hn) rfl (by omega) (by omega) (fun h3 => ?_) (fun h3 => ?_)
  · refine ⟨n, (hC.v.2.1.trans hn), (by show _ < 12; omega), nI (b), hx, nI (n + 1), (add_n ((up4_nk (by decide)).trans (hC.v.2.1.trans hn)) rfl), ?_⟩
    exact ⟨rfl, st_put hC hn hn2⟩
  · exact absurd h3 (by omega)
theorem cv_addStop {d : Bool} {s t : Sg} {D : Dy} {eb er : Nat} {Z : Zt} {σ : Sg} (hC : Cg d s t D eb er Z σ) {x y : Int32} {n a : Nat} (hx : x = nI a) (hn : D 0 6 = nI n) (hn2 : n < 20) : ∃ σ', Ev false 34 [.inr (.inr (44, d, 0)), .inl (x), .inl (y)] σ none σ' ∧ Cg d s t (up2 (up2 (up2 D 25 n (nI a)) 26 n y) 0 6 (nI (n + 1))) eb er Z σ' := by
  refine EvQ_wp 43 [] rfl rfl ?_
  refine br_lt (hC.v.2.2.1.trans hn) rfl (by omega) (by omega) (fun h3 => ?_) (fun h3 => ?_)
  · refine ⟨n, (hC.v.2.2.1.trans hn), (by show _ < 20; omega), nI (a), hx, n, ((up4_nk (by decide)).trans (hC.v.2.2.1.trans hn)), (by show _ < 20; omega), _, rfl, nI (n + 1), (add_n ((up4_nk (by decide)).trans ((up4_nk (by decide)).trans (hC.v.2.2.1.trans hn))) rfl), ?_⟩
    exact ⟨rfl, st_sto hC hn hn2⟩
  · exact absurd h3 (by omega)
