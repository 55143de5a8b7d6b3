/-! The class's van. -/
theorem shf_up {D : Dy} {f i g c : Nat} {v : Int32} (h : ¬ f = g) : shf (up2 D f i v) g c = up2 (shf D g c) f i v := by
  funext a j
  unfold shf up2
  by_cases e : a = f
  · subst e
    simp [h]
  · by_cases e2 : a = g
    · subst e2
      simp [e]
    · simp [e, e2]
theorem shf2_S (D : Dy) (j : Nat) : up2 (up2 (shf (shf D 25 j) 26 j) 25 j (D 25 (j + 1))) 26 j (D 26 (j + 1)) = shf (shf D 25 (j + 1)) 26 (j + 1) := by
  have e : shf (shf D 25 (j + 1)) 26 (j + 1) = up2 (shf (up2 (shf D 25 j) 25 j (D 25 (j + 1))) 26 j) 26 j (D 26 (j + 1)) := by
    rw [shf_S _ 26, shf_S D 25, up2_n (by omega), shf_o (by omega)]
  rw [e, shf_up (by decide)]
theorem st_ldi {d : Bool} {s t : Sg} {D : Dy} {eb er : Nat} {Z : Zt} {σ : Sg} (h : Cg d s t D eb er Z σ) {i : Nat} {v : Int32}  : Cg d s t (up2 D 24 i v) eb er Z (up4 σ 45 d 0 i v) := by
  refine ⟨h.1, Fr_w (h.2.1) _ (by omega), ?_, ?_, ?_, ?_, ?_, ?_, ?_, ?_, ?_, ?_⟩
  · exact Rm_c h.m (fun k r i q => by rw [up4_nk (by omega)]) (fun i q => by rw [up2_n (by omega)])
  · exact Rp_c h.p (fun k r i q => by rw [up4_nk (by omega)]) (fun f i q => by rw [up2_n (by omega)])
  · exact Rc_c h.c (fun k r i q => by rw [up4_nk (by omega)]) (fun f i q => by rw [up2_n (by omega)])
  · exact Rw_c h.w (fun k r i q => by rw [up4_nk (by omega)]) (fun r q => by rw [up2_n (by omega)])
  · exact Rb_c h.b (fun k r i q => by rw [up4_nk (by omega)]) (fun f i q => by rw [up2_n (by omega)])
  · exact Rr_c h.r (fun k r i q => by rw [up4_nk (by omega)]) (fun f i q => by rw [up2_n (by omega)])
  · exact Rg_c h.g (fun k r i q => by rw [up4_nk (by omega)]) (fun f i q => by rw [up2_n (by omega)])
  · exact Rz_c h.z (fun k r i q => by rw [up4_nk (by omega)]) 
  · exact Rl_c h.l (fun k r i q => by rw [up4_nk (by omega)]) (fun f i q => by rw [up2_n (by omega)])
  · have h0 := h.v
    refine ⟨?_, ?_, ?_, ?_, fun j hj => ?_, fun j hj => ?_⟩
    · rw [up4_nk (by decide), up2_n (by omega)]; exact h0.1
    · rw [up4_nk (by decide), up2_n (by omega)]; exact h0.2.1
    · rw [up4_nk (by decide), up2_n (by omega)]; exact h0.2.2.1
    · rw [up4_nk (by decide), up2_n (by omega)]; exact h0.2.2.2.1
    · rw [up2_n (by omega)] at hj
      exact par_u (fun _ => h0.2.2.2.2.1 j hj)
    · rw [up2_n (by omega)] at hj
      rw [up4_nk (by decide), up4_nk (by decide), up2_n (by omega), up2_n (by omega)]; exact h0.2.2.2.2.2 j hj
theorem st_spi {d : Bool} {s t : Sg} {D : Dy} {eb er : Nat} {Z : Zt} {σ : Sg} (h : Cg d s t D eb er Z σ) {i : Nat} {v : Int32}  : Cg d s t (up2 D 25 i v) eb er Z (up4 σ 46 d 0 i v) := by
  refine ⟨h.1, Fr_w (h.2.1) _ (by omega), ?_, ?_, ?_, ?_, ?_, ?_, ?_, ?_, ?_, ?_⟩
  · exact Rm_c h.m (fun k r i q => by rw [up4_nk (by omega)]) (fun i q => by rw [up2_n (by omega)])
  · exact Rp_c h.p (fun k r i q => by rw [up4_nk (by omega)]) (fun f i q => by rw [up2_n (by omega)])
  · exact Rc_c h.c (fun k r i q => by rw [up4_nk (by omega)]) (fun f i q => by rw [up2_n (by omega)])
  · exact Rw_c h.w (fun k r i q => by rw [up4_nk (by omega)]) (fun r q => by rw [up2_n (by omega)])
  · exact Rb_c h.b (fun k r i q => by rw [up4_nk (by omega)]) (fun f i q => by rw [up2_n (by omega)])
  · exact Rr_c h.r (fun k r i q => by rw [up4_nk (by omega)]) (fun f i q => by rw [up2_n (by omega)])
  · exact Rg_c h.g (fun k r i q => by rw [up4_nk (by omega)]) (fun f i q => by rw [up2_n (by omega)])
  · exact Rz_c h.z (fun k r i q => by rw [up4_nk (by omega)]) 
  · exact Rl_c h.l (fun k r i q => by rw [up4_nk (by omega)]) (fun f i q => by rw [up2_n (by omega)])
  · have h0 := h.v
    refine ⟨?_, ?_, ?_, ?_, fun j hj => ?_, fun j hj => ?_⟩
    · rw [up4_nk (by decide), up2_n (by omega)]; exact h0.1
    · rw [up4_nk (by decide), up2_n (by omega)]; exact h0.2.1
    · rw [up4_nk (by decide), up2_n (by omega)]; exact h0.2.2.1
    · rw [up4_nk (by decide), up2_n (by omega)]; exact h0.2.2.2.1
    · rw [up2_n (by omega)] at hj
      rw [up4_nk (by decide), up2_n (by omega)]; exact h0.2.2.2.2.1 j hj
    · rw [up2_n (by omega)] at hj
      exact ⟨par_u (fun _ => (h0.2.2.2.2.2 j hj).1), by rw [up4_nk (by decide), up2_n (by omega)]; exact (h0.2.2.2.2.2 j hj).2⟩
theorem st_sni {d : Bool} {s t : Sg} {D : Dy} {eb er : Nat} {Z : Zt} {σ : Sg} (h : Cg d s t D eb er Z σ) {i : Nat} {v : Int32}  : Cg d s t (up2 D 26 i v) eb er Z (up4 σ 47 d 0 i v) := by
  refine ⟨h.1, Fr_w (h.2.1) _ (by omega), ?_, ?_, ?_, ?_, ?_, ?_, ?_, ?_, ?_, ?_⟩
  · exact Rm_c h.m (fun k r i q => by rw [up4_nk (by omega)]) (fun i q => by rw [up2_n (by omega)])
  · exact Rp_c h.p (fun k r i q => by rw [up4_nk (by omega)]) (fun f i q => by rw [up2_n (by omega)])
  · exact Rc_c h.c (fun k r i q => by rw [up4_nk (by omega)]) (fun f i q => by rw [up2_n (by omega)])
  · exact Rw_c h.w (fun k r i q => by rw [up4_nk (by omega)]) (fun r q => by rw [up2_n (by omega)])
  · exact Rb_c h.b (fun k r i q => by rw [up4_nk (by omega)]) (fun f i q => by rw [up2_n (by omega)])
  · exact Rr_c h.r (fun k r i q => by rw [up4_nk (by omega)]) (fun f i q => by rw [up2_n (by omega)])
  · exact Rg_c h.g (fun k r i q => by rw [up4_nk (by omega)]) (fun f i q => by rw [up2_n (by omega)])
  · exact Rz_c h.z (fun k r i q => by rw [up4_nk (by omega)]) 
  · exact Rl_c h.l (fun k r i q => by rw [up4_nk (by omega)]) (fun f i q => by rw [up2_n (by omega)])
  · have h0 := h.v
    refine ⟨?_, ?_, ?_, ?_, fun j hj => ?_, fun j hj => ?_⟩
    · rw [up4_nk (by decide), up2_n (by omega)]; exact h0.1
    · rw [up4_nk (by decide), up2_n (by omega)]; exact h0.2.1
    · rw [up4_nk (by decide), up2_n (by omega)]; exact h0.2.2.1
    · rw [up4_nk (by decide), up2_n (by omega)]; exact h0.2.2.2.1
    · rw [up2_n (by omega)] at hj
      rw [up4_nk (by decide), up2_n (by omega)]; exact h0.2.2.2.2.1 j hj
    · rw [up2_n (by omega)] at hj
      exact ⟨by rw [up4_nk (by decide), up2_n (by omega)]; exact (h0.2.2.2.2.2 j hj).1, par_u (fun _ => (h0.2.2.2.2.2 j hj).2)⟩
theorem st_lod {d : Bool} {s t : Sg} {D : Dy} {eb er : Nat} {Z : Zt} {σ : Sg} (h : Cg d s t D eb er Z σ) {n : Nat} (hn : n ≤ nN (D 0 3)) (hn2 : n < 2147483648) : Cg d s t (up2 D 0 3 (nI n)) eb er Z (up4 σ 44 d 0 1 (nI n)) := by
  refine ⟨h.1, Fr_w (h.2.1) _ (by omega), ?_, ?_, ?_, ?_, ?_, ?_, ?_, ?_, ?_, ?_⟩
  · exact Rm_c h.m (fun k r i q => by rw [up4_nk (by omega)]) (fun i q => by rw [up2_n (by omega)])
  · exact Rp_c h.p (fun k r i q => by rw [up4_nk (by omega)]) (fun f i q => by rw [up2_n (by omega)])
  · exact Rc_c h.c (fun k r i q => by rw [up4_nk (by omega)]) (fun f i q => by rw [up2_n (by omega)])
  · exact Rw_c h.w (fun k r i q => by rw [up4_nk (by omega)]) (fun r q => by rw [up2_n (by omega)])
  · exact Rb_c h.b (fun k r i q => by rw [up4_nk (by omega)]) (fun f i q => by rw [up2_n (by omega)])
  · exact Rr_c h.r (fun k r i q => by rw [up4_nk (by omega)]) (fun f i q => by rw [up2_n (by omega)])
  · exact Rg_c h.g (fun k r i q => by rw [up4_nk (by omega)]) (fun f i q => by rw [up2_n (by omega)])
  · exact Rz_c h.z (fun k r i q => by rw [up4_nk (by omega)]) 
  · exact Rl_c h.l (fun k r i q => by rw [up4_nk (by omega)]) (fun f i q => by rw [up2_n (by omega)])
  · have h0 := h.v
    refine ⟨?_, ?_, ?_, ?_, fun j hj => ?_, fun j hj => ?_⟩
    · rw [up4_nj (by decide), up2_n (by omega)]; exact h0.1
    · rw [up4_s, up2_s]
    · rw [up4_nj (by decide), up2_n (by omega)]; exact h0.2.2.1
    · rw [up4_nj (by decide), up2_n (by omega)]; exact h0.2.2.2.1
    · rw [up2_s, nN_nI hn2] at hj
      rw [up4_nk (by decide), up2_n (by omega)]; exact h0.2.2.2.2.1 j (by omega)
    · rw [up2_n (by omega)] at hj
      rw [up4_nk (by decide), up4_nk (by decide), up2_n (by omega), up2_n (by omega)]; exact h0.2.2.2.2.2 j (by omega)
theorem st_cnt {d : Bool} {s t : Sg} {D : Dy} {eb er : Nat} {Z : Zt} {σ : Sg} (h : Cg d s t D eb er Z σ) {n : Nat} (hn : n ≤ nN (D 0 6)) (hn2 : n < 2147483648) : Cg d s t (up2 D 0 6 (nI n)) eb er Z (up4 σ 44 d 0 2 (nI n)) := by
  refine ⟨h.1, Fr_w (h.2.1) _ (by omega), ?_, ?_, ?_, ?_, ?_, ?_, ?_, ?_, ?_, ?_⟩
  · exact Rm_c h.m (fun k r i q => by rw [up4_nk (by omega)]) (fun i q => by rw [up2_n (by omega)])
  · exact Rp_c h.p (fun k r i q => by rw [up4_nk (by omega)]) (fun f i q => by rw [up2_n (by omega)])
  · exact Rc_c h.c (fun k r i q => by rw [up4_nk (by omega)]) (fun f i q => by rw [up2_n (by omega)])
  · exact Rw_c h.w (fun k r i q => by rw [up4_nk (by omega)]) (fun r q => by rw [up2_n (by omega)])
  · exact Rb_c h.b (fun k r i q => by rw [up4_nk (by omega)]) (fun f i q => by rw [up2_n (by omega)])
  · exact Rr_c h.r (fun k r i q => by rw [up4_nk (by omega)]) (fun f i q => by rw [up2_n (by omega)])
  · exact Rg_c h.g (fun k r i q => by rw [up4_nk (by omega)]) (fun f i q => by rw [up2_n (by omega)])
  · exact Rz_c h.z (fun k r i q => by rw [up4_nk (by omega)]) 
  · exact Rl_c h.l (fun k r i q => by rw [up4_nk (by omega)]) (fun f i q => by rw [up2_n (by omega)])
  · have h0 := h.v
    refine ⟨?_, ?_, ?_, ?_, fun j hj => ?_, fun j hj => ?_⟩
    · rw [up4_nj (by decide), up2_n (by omega)]; exact h0.1
    · rw [up4_nj (by decide), up2_n (by omega)]; exact h0.2.1
    · rw [up4_s, up2_s]
    · rw [up4_nj (by decide), up2_n (by omega)]; exact h0.2.2.2.1
    · rw [up2_n (by omega)] at hj
      rw [up4_nk (by decide), up2_n (by omega)]; exact h0.2.2.2.2.1 j (by omega)
    · rw [up2_s, nN_nI hn2] at hj
      rw [up4_nk (by decide), up4_nk (by decide), up2_n (by omega), up2_n (by omega)]; exact h0.2.2.2.2.2 j (by omega)
theorem cv_tf_l {d : Bool} {s t : Sg} {D : Dy} {eb er : Nat} {Z : Zt} {n : Nat} {v : Int32} (hn : D 0 3 = nI n) (hn2 : n ≤ 12) : ∀ (k j : Nat) (σ : Sg), j + 1 + k = n → Cg d s t (shf D 24 j) eb er Z σ → G false 37 (fun r' s' => r' = some (.inl v) ∧ Cg d s t (up2 (shf D 24 (n - 1)) 0 3 (nI (n - 1))) eb er Z s') 12 [some (.inr (.inr (44, d, 0))), some (.inl v), some (.inl (nI (j + 1)))] [] σ := by
  intro k
  induction k with
  | zero =>
    intro j σ hj hC
    have hj2 : j + 1 = n := hj
    subst hj2
    refine G_wp 60 [12] rfl ?_
    refine br_ge rfl (hC.v.2.1.trans ((shf_o (by omega)).trans hn)) (by omega) (by omega) (fun h15 => ?_) (fun h15 => ?_)
    · refine ⟨nI ((j + 1) - 1), (sub_n (hC.v.2.1.trans ((shf_o (by omega)).trans hn)) rfl (by omega)), ?_⟩
      replace hC : Cg d s t (up2 (shf D 24 j) 0 3 (nI j)) eb er Z (up4 σ 44 d 0 1 (nI ((j + 1) - 1))) := st_lod hC (by rw [shf_o (by omega), hn, nN_nI (by omega)]; omega) (by omega)
      exact ⟨rfl, hC⟩
    · exact absurd h15 (by omega)
  | succ k ih =>
    intro j σ hj hC
    refine G_wp 60 [12] rfl ?_
    refine br_ge rfl (hC.v.2.1.trans ((shf_o (by omega)).trans hn)) (by omega) (by omega) (fun h15 => ?_) (fun h15 => ?_)
    · exact absurd h15 (by omega)
    · refine ⟨j + 1, rfl, (by show _ < 12; omega), ?_⟩
      rw [hC.v.2.2.2.2.1 (j + 1) (by rw [shf_o (by omega), hn, nN_nI (by omega)]; omega), shf_o (by omega)]
      refine ⟨(j + 1) - 1, (sub_n rfl rfl (by omega)), (by show _ < 12; omega), _, rfl, ?_⟩
      replace hC : Cg d s t (up2 (shf D 24 j) 24 j (D 24 (j + 1))) eb er Z (up4 σ 45 d 0 ((j + 1) - 1) (D 24 (j + 1))) := st_ldi hC
      rw [← shf_S] at hC
      refine ⟨nI (j + 1 + 1), nI_add _ _, ?_⟩
      exact ih (j + 1) _ (by omega) hC
theorem cv_tf {d : Bool} {s t : Sg} {D : Dy} {eb er : Nat} {Z : Zt} {σ : Sg} (hC : Cg d s t D eb er Z σ) {n : Nat} (hn : D 0 3 = nI n) (hn2 : n ≤ 12) (h1 : 1 ≤ n) : ∃ σ', Ev false 37 [.inr (.inr (44, d, 0))] σ (some (.inl (D 24 0))) σ' ∧ Cg d s t (up2 (shf D 24 (n - 1)) 0 3 (nI (n - 1))) eb er Z σ' := by
  refine EvQ_wp 30 [12] rfl rfl ?_
  refine br_gt (hC.v.2.1.trans hn) rfl (by omega) (by omega) (fun h2 => ?_) (fun h2 => ?_)
  · refine ⟨0, rfl, (by show _ < 12; omega), ?_⟩
    rw [hC.v.2.2.2.2.1 0 (by rw [hn, nN_nI (by omega)]; omega)]
    refine ⟨_, rfl, _, rfl, ?_⟩
    exact cv_tf_l hn hn2 (n - 1) 0 σ (by omega) (by rw [shf_0]; exact hC)
  · exact absurd h2 (by omega)
theorem cv_tf0 {d : Bool} {s t : Sg} {D : Dy} {eb er : Nat} {Z : Zt} {σ : Sg} (hC : Cg d s t D eb er Z σ) (hn : D 0 3 = nI 0) : Ev false 37 [.inr (.inr (44, d, 0))] σ (some (.inl (-1))) σ := by
  refine Ev_wp 25 [12] rfl rfl ?_
  refine br_gt (hC.v.2.1.trans hn) rfl (by omega) (by omega) (fun h2 => ?_) (fun h2 => ?_)
  · exact absurd h2 (by omega)
  · exact ⟨rfl, rfl⟩
theorem cv_df_l {d : Bool} {s t : Sg} {D : Dy} {eb er : Nat} {Z : Zt} {n : Nat} (hn : D 0 6 = nI n) (hn2 : n ≤ 20) : ∀ (k j : Nat) (σ : Sg), j + 1 + k = n → Cg d s t (shf (shf D 25 j) 26 j) eb er Z σ → G false 35 (fun r' s' => r' = none ∧ Cg d s t (up2 (shf (shf D 25 (n - 1)) 26 (n - 1)) 0 6 (nI (n - 1))) eb er Z s') 2 [some (.inr (.inr (44, d, 0))), some (.inl (nI (j + 1)))] [] σ := by
  intro k
  induction k with
  | zero =>
    intro j σ hj hC
    have hj2 : j + 1 = n := hj
    subst hj2
    refine G_wp 60 [2] rfl ?_
    refine br_ge rfl (hC.v.2.2.1.trans ((shf_o (by omega)).trans ((shf_o (by omega)).trans hn))) (by omega) (by omega) (fun h5 => ?_) (fun h5 => ?_)
    · refine br_le (hC.v.2.2.1.trans ((shf_o (by omega)).trans ((shf_o (by omega)).trans hn))) rfl (by omega) (by omega) (fun h30 => ?_) (fun h30 => ?_)
      · exact absurd h30 (by omega)
      · refine ⟨nI ((j + 1) - 1), (sub_n (hC.v.2.2.1.trans ((shf_o (by omega)).trans ((shf_o (by omega)).trans hn))) rfl (by omega)), ?_⟩
        replace hC : Cg d s t (up2 (shf (shf D 25 j) 26 j) 0 6 (nI j)) eb er Z (up4 σ 44 d 0 2 (nI ((j + 1) - 1))) := st_cnt hC (by rw [shf_o (by omega), shf_o (by omega), hn, nN_nI (by omega)]; omega) (by omega)
        exact ⟨rfl, hC⟩
    · exact absurd h5 (by omega)
  | succ k ih =>
    intro j σ hj hC
    refine G_wp 60 [2] rfl ?_
    refine br_ge rfl (hC.v.2.2.1.trans ((shf_o (by omega)).trans ((shf_o (by omega)).trans hn))) (by omega) (by omega) (fun h5 => ?_) (fun h5 => ?_)
    · exact absurd h5 (by omega)
    · refine ⟨j + 1, rfl, (by show _ < 20; omega), ?_⟩
      rw [(hC.v.2.2.2.2.2 (j + 1) (by (repeat rw [up2_n (by omega)]); rw [shf_o (by omega), shf_o (by omega), hn, nN_nI (by omega)]; omega)).1, shf_o (by omega), shf_o (by omega)]
      refine ⟨(j + 1) - 1, (sub_n rfl rfl (by omega)), (by show _ < 20; omega), _, rfl, ?_⟩
      replace hC : Cg d s t (up2 (shf (shf D 25 j) 26 j) 25 j (D 25 (j + 1))) eb er Z (up4 σ 46 d 0 ((j + 1) - 1) (D 25 (j + 1))) := st_spi hC
      refine ⟨j + 1, rfl, (by show _ < 20; omega), ?_⟩
      rw [(hC.v.2.2.2.2.2 (j + 1) (by (repeat rw [up2_n (by omega)]); rw [shf_o (by omega), shf_o (by omega), hn, nN_nI (by omega)]; omega)).2, up2_n (by omega), shf_o (by omega), shf_o (by omega)]
      refine ⟨(j + 1) - 1, (sub_n rfl rfl (by omega)), (by show _ < 20; omega), _, rfl, ?_⟩
      replace hC : Cg d s t (up2 (up2 (shf (shf D 25 j) 26 j) 25 j (D 25 (j + 1))) 26 j (D 26 (j + 1))) eb er Z (up4 (up4 σ 46 d 0 ((j + 1) - 1) (D 25 (j + 1))) 47 d 0 ((j + 1) - 1) (D 26 (j + 1))) := st_sni hC
      rw [shf2_S] at hC
      refine ⟨nI (j + 1 + 1), nI_add _ _, ?_⟩
      exact ih (j + 1) _ (by omega) hC
theorem cv_df0 {d : Bool} {s t : Sg} {D : Dy} {eb er : Nat} {Z : Zt} {σ : Sg} (hC : Cg d s t D eb er Z σ) {n : Nat} (hn : D 0 6 = nI n) (hn2 : n ≤ 20) (h1 : 1 ≤ n) : ∃ σ', Ev false 35 [.inr (.inr (44, d, 0))] σ none σ' ∧ Cg d s t (up2 (shf (shf D 25 (n - 1)) 26 (n - 1)) 0 6 (nI (n - 1))) eb er Z σ' := by
  refine EvQ_wp 22 [2] rfl rfl ?_
  refine ⟨_, rfl, ?_⟩
  exact cv_df_l hn hn2 (n - 1) 0 σ (by omega) (by rw [shf_0, shf_0]; exact hC)
theorem cv_df {d : Bool} {s t : Sg} {D : Dy} {eb er : Nat} {Z : Zt} {σ : Sg} (hC : Cg d s t D eb er Z σ) (h6 : Is (D 0 6) 20) (h1 : 1 ≤ nN (D 0 6)) : ∃ σ', Ev false 35 [.inr (.inr (44, d, 0))] σ none σ' ∧ Cg d s t (drp D) eb er Z σ' := by
  obtain ⟨σ1, ev1, hC1⟩ := cv_df0 hC h6.1 h6.2 h1
  refine ⟨σ1, ev1, ?_⟩
  unfold drp
  rw [shf_up (by decide), shf_up (by decide)]
  exact hC1
theorem cv_vt {d : Bool} {s t : Sg} {D : Dy} {er : Nat} {Z : Zt} {σ : Sg} (hC : Cg d s t D 60 er Z σ) (hT : WN t) {x : Int32} {p : Nat} (hx : x = nI p) (hp : p < nP t) (h3 : Is (D 0 3) 12) (h7 : Is (D 0 7) 4000) : ∃ σ', Ev false 132 [.inr (.inr (26, d, 0)), .inl x] σ none σ' ∧ Cg d s t (tk1 t p D) 60 er Z σ' := by
  subst hx
  have hP := hT.P
  have hB := hT.B
  obtain ⟨n, hn0⟩ : ∃ n, nN (D 0 3) = n := ⟨_, rfl⟩
  have hn : D 0 3 = nI n := by rw [← hn0]; exact h3.1
  have hn2 : n ≤ 12 := by rw [← hn0]; exact h3.2
  refine EvQ_wp 68 [] rfl rfl ?_
  rcases Nat.lt_or_ge n 12 with h12 | h12
  · cases hpk : pik D p (nB t) with
    | none =>
      refine br_ge (hC.v.2.1.trans hn) rfl (by omega) (by omega) (fun h4 => ?_) (fun h4 => ?_)
      · exact absurd h4 (by omega)
      · have hb0 := cv_best hC hT (x := nI p) rfl hp
        rw [hpk] at hb0
        refine ⟨_, _, hb0, _, rfl, ?_⟩
        refine ⟨fun h13 => ?_, fun h13 => ?_⟩
        · exact absurd rfl h13
        · exact ⟨rfl, by unfold tk1; rw [if_pos (by rw [hn, nN_nI (by omega)]; omega), hpk]; exact hC⟩
    | some b =>
      have hb := pik_at hpk
      have hb1 := hb.1
      refine br_ge (hC.v.2.1.trans hn) rfl (by omega) (by omega) (fun h4 => ?_) (fun h4 => ?_)
      · exact absurd h4 (by omega)
      · have hb0 := cv_best hC hT (x := nI p) rfl hp
        rw [hpk] at hb0
        refine ⟨_, _, hb0, _, rfl, ?_⟩
        refine ⟨fun h13 => ?_, fun h13 => ?_⟩
        · obtain ⟨σ1, ev1, hC, e12⟩ := cv_lift hC hT (b := b) (p := p) (q := 2) rfl hb.1 rfl hp hb.2.1 hb.2.2.1 (by decide) (by decide)
          refine ⟨_, _, ev1, 1, rfl, (by show _ < 4; omega), (show 1 < 4 by omega), b, rfl, (by show _ < 60; omega), _, rfl, ?_⟩
          replace hC : Cg d s t (up2 D 11 b (nI 2)) 60 er Z (up4 σ1 32 d ((1) + 1) b (-1)) := st_posv hC (up2_s _ _ _ _) (fun c _ q => q)
          obtain ⟨σ2, ev2, hC⟩ := cv_put hC (x := nI b) (n := n) rfl ((up2_n (by omega)).trans hn) (by omega)
          refine ⟨_, _, ev2, ?_⟩
          obtain ⟨σ3, ev3, hC⟩ := cv_add hC (v0 := (nI (5))) (v2 := (nI (p))) (v3 := (-1)) (v4 := (nI (b))) (by (repeat rw [up2_n (by omega)]); exact h7) hC.m.1
          refine ⟨_, _, ev3, ?_⟩
          exact ⟨rfl, by unfold tk1; rw [if_pos (by rw [hn, nN_nI (by omega)]; omega), hpk, hn, nN_nI (by omega)]; exact hC⟩
        · exact absurd h13 (nI_m1 (by omega))
  · skip
    refine br_ge (hC.v.2.1.trans hn) rfl (by omega) (by omega) (fun h4 => ?_) (fun h4 => ?_)
    · refine ⟨_, rfl, ?_⟩
      refine ⟨fun h13 => ?_, fun h13 => ?_⟩
      · exact absurd rfl h13
      · exact ⟨rfl, by unfold tk1; rw [if_neg (by rw [hn, nN_nI (by omega)]; omega)]; exact hC⟩
    · exact absurd h4 (by omega)
theorem cv_vl {d : Bool} {s t : Sg} {D : Dy} {er : Nat} {Z : Zt} {σ : Sg} (hC : Cg d s t D 60 er Z σ) (hT : WN t) {x : Int32} {p : Nat} (hx : x = nI p) (hp : p < nP t) (h3 : Is (D 0 3) 12) (h7 : Is (D 0 7) 4000) (hK : KI t D) : ∃ σ', Ev false 76 [.inr (.inr (26, d, 0)), .inl x] σ none σ' ∧ Cg d s t (lv1 t p D) 60 er Z σ' := by
  subst hx
  have hP := hT.P
  have hB := hT.B
  obtain ⟨n, hn0⟩ : ∃ n, nN (D 0 3) = n := ⟨_, rfl⟩
  have hn : D 0 3 = nI n := by rw [← hn0]; exact h3.1
  have hn2 : n ≤ 12 := by rw [← hn0]; exact h3.2
  refine EvQ_wp 62 [] rfl rfl ?_
  rcases Nat.eq_zero_or_pos n with hz | hz
  · subst hz
    refine ⟨_, _, cv_free hC hT rfl hp, ?_⟩
    refine ⟨fun h3 => ?_, fun h3 => ?_⟩
    · refine ⟨_, rfl, ?_⟩
      refine ⟨fun h12 => ?_, fun h12 => ?_⟩
      · exact absurd rfl h12
      · exact ⟨rfl, by unfold lv1; rw [if_neg (by rw [hn]; exact fun q => absurd q.1 (by decide))]; exact hC⟩
    · have ev0 := cv_tf0 hC hn
      refine ⟨_, _, ev0, ?_⟩
      refine ⟨_, rfl, ?_⟩
      refine ⟨fun h12 => ?_, fun h12 => ?_⟩
      · exact absurd rfl h12
      · exact ⟨rfl, by unfold lv1; rw [if_neg (by rw [hn]; exact fun q => absurd q.1 (by decide))]; exact hC⟩
  · obtain ⟨b, hbB, hb, h11, _⟩ := hK 0 (by omega)
    refine ⟨_, _, cv_free hC hT rfl hp, ?_⟩
    refine ⟨fun h3 => ?_, fun h3 => ?_⟩
    · refine ⟨_, rfl, ?_⟩
      refine ⟨fun h12 => ?_, fun h12 => ?_⟩
      · exact absurd rfl h12
      · exact ⟨rfl, by unfold lv1; rw [if_neg (fun q => absurd q.2 (Int32.not_lt.mpr h3))]; exact hC⟩
    · obtain ⟨σ1, ev1, hC⟩ := cv_tf hC hn hn2 (by omega)
      rw [hb] at ev1
      refine ⟨_, _, ev1, ?_⟩
      refine ⟨_, rfl, ?_⟩
      refine ⟨fun h12 => ?_, fun h12 => ?_⟩
      · obtain ⟨σ2, ev2, hC⟩ := cv_settle hC hT (b := b) (p := p) rfl hbB rfl hp (by rw [up2_n (by omega), shf_o (by omega), h11]; decide) (fun c hc q => by omega)
        refine ⟨_, _, ev2, ?_⟩
        obtain ⟨σ3, ev3, hC⟩ := cv_add hC (v0 := (nI (6))) (v2 := (nI (p))) (v3 := (-1)) (v4 := (nI (b))) (by (repeat rw [up2_n (by omega)]); rw [shf_o (by omega)]; exact h7) hC.m.1
        refine ⟨_, _, ev3, ?_⟩
        exact ⟨rfl, by unfold lv1; rw [if_pos ⟨by rw [hn, nN_nI (by omega)]; omega, i_nle h3⟩, hn, nN_nI (by omega), shf_up (by decide), hb, nN_nI (by omega)]; exact hC⟩
      · exact absurd h12 (nI_m1 (by omega))
