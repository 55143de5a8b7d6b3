/-! The class's digest. -/
theorem dg_flat (f : Nat → Int32) (h : Int64) : ∀ n, dgF f (5 * n) h = dg2 (fun i w => f (5 * i + w)) 5 n h
  | 0 => rfl
  | n + 1 => by
    rw [dg2_S, ← dg_flat f h n, show 5 * (n + 1) = 5 * n + 1 + 1 + 1 + 1 + 1 by omega, dgF_S, dgF_S, dgF_S, dgF_S, dgF_S]
    rfl
theorem dgF_cong {f g : Nat → Int32} (h : Int64) : ∀ n, (∀ i, i < n → f i = g i) → dgF f n h = dgF g n h
  | 0, _ => rfl
  | n + 1, e => by rw [dgF_S, dgF_S, dgF_cong h n (fun i hi => e i (by omega)), e n (by omega)]
theorem bk_cell {t : Sg} {D : Dy} {Z : Zt} {σ : Sg} (hC : Cg false σ t D 60 200 Z σ) (hT : WN t) {b w : Nat} (hb : b < nB t) (hw : w < 4) : bikR t D (nI b) (nI w) = σ 32 false (w + 1) b := by
  have hB := hT.B
  have h := hC.b b hb
  have e : nN (nI b) = b := nN_nI (by omega)
  unfold bikR
  rw [ifC_t ⟨⟨b, rfl, hb⟩, (nI_leI (by omega) (by omega)).mpr (by omega), (nI_leI (by omega) (by omega)).mpr (by omega)⟩, e]
  rcases (show w = 0 ∨ w = 1 ∨ w = 2 ∨ w = 3 by omega) with rfl | rfl | rfl | rfl
  · rw [ifC_t rfl]; exact h.1.1.symm
  · rw [ifC_f (by decide), ifC_t rfl, ifC_i]; exact (h.2 (by omega)).1.symm
  · rw [ifC_f (by decide), ifC_f (by decide), ifC_t rfl]; exact h.1.2.1.symm
  · rw [ifC_f (by decide), ifC_f (by decide), ifC_f (by decide)]; exact h.1.2.2.symm
theorem ri_cell {t : Sg} {D : Dy} {Z : Zt} {σ : Sg} (hC : Cg false σ t D 60 200 Z σ) (hT : WN t) {r w : Nat} (hr : r < nR t) (hw : w < 6) : rdaR t D (nI r) (nI w) = σ 34 false (w + 1) r := by
  have hR := hT.R
  have e1 : t 69 false 0 9 = nI (nR t) := hT.2.2.1
  unfold rdaR
  rw [ifC_t ⟨by rw [e1]; exact (in_lt (by omega)).mpr ⟨r, rfl, hr⟩, (nI_leI (by omega) (by omega)).mpr (by omega), (nI_leI (by omega) (by omega)).mpr (by omega)⟩, nN_nI (by omega), nN_nI (by omega)]
  exact ((hC.r r hr).1 w hw).symm
theorem cv_at32_l {σ : Sg} {i : Nat} {h0 : Int64} (hi : i < 60) : ∀ (n j : Nat) (h : Int64), j + n = 4 → h = (dgF (fun w => σ 32 false (w + 1) i) j h0) → G false 44 (fun r' s' => r' = some (.inr (.inl (dgF (fun w => σ 32 false (w + 1) i) 4 h0))) ∧ s' = σ) 4 [some (.inr (.inl h0)), none, some (.inr (.inr (32, false, 0))), some (.inl (nI i)), some (.inr (.inl h)), none, some (.inl (nI j))] [] σ := by
  intro n
  induction n with
  | zero =>
    intro j h hj hh
    refine G_wp 60 [4] rfl ?_
    refine br_ge rfl rfl (by omega) (by omega) (fun h7 => ?_) (fun h7 => ?_)
    · exact ⟨by rw [hh, show 4 = j by omega], rfl⟩
    · exact absurd h7 (by omega)
  | succ n ih =>
    intro j h hj hh
    refine G_wp 60 [4] rfl ?_
    refine br_ge rfl rfl (by omega) (by omega) (fun h7 => ?_) (fun h7 => ?_)
    · exact absurd h7 (by omega)
    · refine ⟨j, rfl, (by show _ < 4; omega), (by show j < 4; omega), i, rfl, (by show i < 60; omega), nI (j + 1), nI_add _ _, ?_⟩
      exact ih (j + 1) _ (by omega) (by rw [dgF_S, ← hh])
theorem cv_at32 {σ : Sg} {i : Nat} {h0 : Int64} (hi : i < 60) : Ev false 44 [.inr (.inl h0), .inr (.inr (32, false, 0)), .inl (nI i)] σ (some (.inr (.inl (dgF (fun w => σ 32 false (w + 1) i) 4 h0)))) σ := by
  refine Ev_wp 60 [4] rfl rfl ?_
  refine ⟨_, rfl, ?_⟩
  exact cv_at32_l hi 4 0 h0 (by omega) rfl
theorem cv_at34_l {σ : Sg} {i : Nat} {h0 : Int64} (hi : i < 200) : ∀ (n j : Nat) (h : Int64), j + n = 6 → h = (dgF (fun w => σ 34 false (w + 1) i) j h0) → G false 44 (fun r' s' => r' = some (.inr (.inl (dgF (fun w => σ 34 false (w + 1) i) 6 h0))) ∧ s' = σ) 4 [some (.inr (.inl h0)), none, some (.inr (.inr (34, false, 0))), some (.inl (nI i)), some (.inr (.inl h)), none, some (.inl (nI j))] [] σ := by
  intro n
  induction n with
  | zero =>
    intro j h hj hh
    refine G_wp 60 [4] rfl ?_
    refine br_ge rfl rfl (by omega) (by omega) (fun h7 => ?_) (fun h7 => ?_)
    · exact ⟨by rw [hh, show 6 = j by omega], rfl⟩
    · exact absurd h7 (by omega)
  | succ n ih =>
    intro j h hj hh
    refine G_wp 60 [4] rfl ?_
    refine br_ge rfl rfl (by omega) (by omega) (fun h7 => ?_) (fun h7 => ?_)
    · exact absurd h7 (by omega)
    · refine ⟨j, rfl, (by show _ < 6; omega), (by show j < 6; omega), i, rfl, (by show i < 200; omega), nI (j + 1), nI_add _ _, ?_⟩
      exact ih (j + 1) _ (by omega) (by rw [dgF_S, ← hh])
theorem cv_at34 {σ : Sg} {i : Nat} {h0 : Int64} (hi : i < 200) : Ev false 44 [.inr (.inl h0), .inr (.inr (34, false, 0)), .inl (nI i)] σ (some (.inr (.inl (dgF (fun w => σ 34 false (w + 1) i) 6 h0)))) σ := by
  refine Ev_wp 60 [4] rfl rfl ?_
  refine ⟨_, rfl, ?_⟩
  exact cv_at34_l hi 6 0 h0 (by omega) rfl
theorem cv_at38_l {σ : Sg} {i : Nat} {h0 : Int64} (hi : i < 4000) : ∀ (n j : Nat) (h : Int64), j + n = 5 → h = (dgF (fun w => σ 38 false (w + 1) i) j h0) → G false 44 (fun r' s' => r' = some (.inr (.inl (dgF (fun w => σ 38 false (w + 1) i) 5 h0))) ∧ s' = σ) 4 [some (.inr (.inl h0)), none, some (.inr (.inr (38, false, 0))), some (.inl (nI i)), some (.inr (.inl h)), none, some (.inl (nI j))] [] σ := by
  intro n
  induction n with
  | zero =>
    intro j h hj hh
    refine G_wp 60 [4] rfl ?_
    refine br_ge rfl rfl (by omega) (by omega) (fun h7 => ?_) (fun h7 => ?_)
    · exact ⟨by rw [hh, show 5 = j by omega], rfl⟩
    · exact absurd h7 (by omega)
  | succ n ih =>
    intro j h hj hh
    refine G_wp 60 [4] rfl ?_
    refine br_ge rfl rfl (by omega) (by omega) (fun h7 => ?_) (fun h7 => ?_)
    · exact absurd h7 (by omega)
    · refine ⟨j, rfl, (by show _ < 5; omega), (by show j < 5; omega), i, rfl, (by show i < 4000; omega), nI (j + 1), nI_add _ _, ?_⟩
      exact ih (j + 1) _ (by omega) (by rw [dgF_S, ← hh])
theorem cv_at38 {σ : Sg} {i : Nat} {h0 : Int64} (hi : i < 4000) : Ev false 44 [.inr (.inl h0), .inr (.inr (38, false, 0)), .inl (nI i)] σ (some (.inr (.inl (dgF (fun w => σ 38 false (w + 1) i) 5 h0)))) σ := by
  refine Ev_wp 60 [4] rfl rfl ?_
  refine ⟨_, rfl, ?_⟩
  exact cv_at38_l hi 5 0 h0 (by omega) rfl
theorem dgc_count {t : Sg} {D : Dy} {Z : Zt} {σ : Sg} (hK : CK t D Z σ) (hT : WN t) (hS : S3 D) (h7 : Is (D 0 7) 4000) {P : Option AV → Sg → Prop} {h0 : Int64} (hQ : ∀ o4, G false 148 P 20 [some (.inr (.inr (0, false, 0))), some (.inr (.inl (dgF (fun w => cntR t D (nI w)) 10 h0))), none, some (.inl (nI 0)), o4] [] σ) : ∀ (n j : Nat) (h : Int64) (o4 : Option AV), j + n = 10 → h = dgF (fun w => cntR t D (nI w)) j h0 → G false 148 P 4 [some (.inr (.inr (0, false, 0))), some (.inr (.inl h)), none, some (.inl (nI j)), o4] [] σ := by
  have hC := hK.1.1
  have hP := hT.P
  have hB := hT.B
  have hR := hT.R
  have h72 := h7.2
  intro n
  induction n with
  | zero =>
    intro j h o4 hj hh
    refine G_wp 60 [4, 20] rfl ?_
    refine br_gt rfl rfl (by omega) (by omega) (fun h6 => ?_) (fun h6 => ?_)
    · refine ⟨_, rfl, ?_⟩
      have hh2 : h = dgF (fun w => cntR t D (nI w)) 10 h0 := by rw [hh, show j = 10 by omega]
      rw [hh2]
      exact hQ o4
    · exact absurd h6 (by omega)
  | succ n ih =>
    intro j h o4 hj hh
    refine G_wp 60 [4, 20] rfl ?_
    refine br_gt rfl rfl (by omega) (by omega) (fun h6 => ?_) (fun h6 => ?_)
    · exact absurd h6 (by omega)
    · refine ⟨_, _, cv_count hK hT, nI (j + 1), nI_add _ _, ?_⟩
      exact ih (j + 1) _ o4 (by omega) (by rw [dgF_S, ← hh])
theorem dgc_post1 {t : Sg} {D : Dy} {Z : Zt} {σ : Sg} (hK : CK t D Z σ) (hT : WN t) (hS : S3 D) (h7 : Is (D 0 7) 4000) {P : Option AV → Sg → Prop} {h0 : Int64} {p : Nat} (hp : p < nP t) (hQ : ∀ o4, G false 148 P 43 [some (.inr (.inr (0, false, 0))), some (.inr (.inl (dgF (fun w => pstR t D (nI p) (nI w)) 9 h0))), none, some (.inl (nI p)), o4] [] σ) : ∀ (n j : Nat) (h : Int64), j + n = 9 → h = dgF (fun w => pstR t D (nI p) (nI w)) j h0 → G false 148 P 27 [some (.inr (.inr (0, false, 0))), some (.inr (.inl h)), none, some (.inl (nI p)), some (.inl (nI j))] [] σ := by
  have hC := hK.1.1
  have hP := hT.P
  intro n
  induction n with
  | zero =>
    intro j h hj hh
    refine G_wp 60 [27, 43] rfl ?_
    refine br_gt rfl rfl (by omega) (by omega) (fun h29 => ?_) (fun h29 => ?_)
    · rw [hh, show j = 9 by omega]
      exact hQ _
    · exact absurd h29 (by omega)
  | succ n ih =>
    intro j h hj hh
    refine G_wp 60 [27, 43] rfl ?_
    refine br_gt rfl rfl (by omega) (by omega) (fun h29 => ?_) (fun h29 => ?_)
    · exact absurd h29 (by omega)
    · have e9 : nN (nI j) = j := nN_nI (by omega)
      refine ⟨_, _, cv_tellPost hK hT hS hp (by rw [e9]) (by omega), nI (j + 1), nI_add _ _, ?_⟩
      exact ih (j + 1) _ (by omega) (by rw [dgF_S, ← hh])
theorem dgc_posts {t : Sg} {D : Dy} {Z : Zt} {σ : Sg} (hK : CK t D Z σ) (hT : WN t) (hS : S3 D) (h7 : Is (D 0 7) 4000) {P : Option AV → Sg → Prop} {h0 : Int64} (hQ : ∀ o4, G false 148 P 47 [some (.inr (.inr (0, false, 0))), some (.inr (.inl (dg2 (fun p w => pstR t D (nI p) (nI w)) 9 (nP t) h0))), none, some (.inl (nI 0)), o4] [] σ) : ∀ (n j : Nat) (h : Int64) (o4 : Option AV), j + n = nP t → h = dg2 (fun p w => pstR t D (nI p) (nI w)) 9 j h0 → G false 148 P 20 [some (.inr (.inr (0, false, 0))), some (.inr (.inl h)), none, some (.inl (nI j)), o4] [] σ := by
  have hC := hK.1.1
  have hP := hT.P
  intro n
  induction n with
  | zero =>
    intro j h o4 hj hh
    refine G_wp 60 [20, 27, 47] rfl ?_
    refine br_ge rfl (hC.c1_0.trans hT.eP) (by omega) (by omega) (fun h24 => ?_) (fun h24 => ?_)
    · refine ⟨_, rfl, ?_⟩
      rw [hh, show j = nP t by omega]
      exact hQ o4
    · exact absurd h24 (by omega)
  | succ n ih =>
    intro j h o4 hj hh
    refine G_wp 60 [20, 27, 47] rfl ?_
    refine br_ge rfl (hC.c1_0.trans hT.eP) (by omega) (by omega) (fun h24 => ?_) (fun h24 => ?_)
    · exact absurd h24 (by omega)
    · refine ⟨_, rfl, ?_⟩
      refine dgc_post1 hK hT hS h7 (p := j) (by omega) (fun o5 => ?_) 9 0 h (by omega) rfl
      refine G_wp 60 [20] rfl ?_
      refine ⟨nI (j + 1), nI_add _ _, ?_⟩
      exact ih (j + 1) _ o5 (by omega) (by rw [dg2_S, ← hh])
theorem dgc_bikes {t : Sg} {D : Dy} {Z : Zt} {σ : Sg} (hK : CK t D Z σ) (hT : WN t) (hS : S3 D) (h7 : Is (D 0 7) 4000) {P : Option AV → Sg → Prop} {h0 : Int64} (hQ : ∀ o4, G false 148 P 63 [some (.inr (.inr (0, false, 0))), some (.inr (.inl (dg2 (fun b w => bikR t D (nI b) (nI w)) 4 (nB t) h0))), none, some (.inl (nI 0)), o4] [] σ) : ∀ (n j : Nat) (h : Int64) (o4 : Option AV), j + n = nB t → h = dg2 (fun b w => bikR t D (nI b) (nI w)) 4 j h0 → G false 148 P 47 [some (.inr (.inr (0, false, 0))), some (.inr (.inl h)), none, some (.inl (nI j)), o4] [] σ := by
  have hC := hK.1.1
  have hP := hT.P
  have hB := hT.B
  have hR := hT.R
  have h72 := h7.2
  intro n
  induction n with
  | zero =>
    intro j h o4 hj hh
    refine G_wp 60 [47, 63] rfl ?_
    refine br_ge rfl (hC.c1_1.trans hT.eB) (by omega) (by omega) (fun h51 => ?_) (fun h51 => ?_)
    · refine ⟨_, rfl, ?_⟩
      have hh2 : h = dg2 (fun b w => bikR t D (nI b) (nI w)) 4 (nB t) h0 := by rw [hh, show j = nB t by omega]
      rw [hh2]
      exact hQ o4
    · exact absurd h51 (by omega)
  | succ n ih =>
    intro j h o4 hj hh
    refine G_wp 60 [47, 63] rfl ?_
    refine br_ge rfl (hC.c1_1.trans hT.eB) (by omega) (by omega) (fun h51 => ?_) (fun h51 => ?_)
    · exact absurd h51 (by omega)
    · have ev := cv_at32 (σ := σ) (i := j) (h0 := h) (by omega)
      rw [dgF_cong h 4 (fun w hw => (bk_cell hC hT (by omega) hw).symm)] at ev
      refine ⟨_, _, ev, nI (j + 1), nI_add _ _, ?_⟩
      exact ih (j + 1) _ o4 (by omega) (by rw [dg2_S, ← hh])
theorem dgc_riders {t : Sg} {D : Dy} {Z : Zt} {σ : Sg} (hK : CK t D Z σ) (hT : WN t) (hS : S3 D) (h7 : Is (D 0 7) 4000) {P : Option AV → Sg → Prop} {h0 : Int64} (hQ : ∀ o4, G false 148 P 79 [some (.inr (.inr (0, false, 0))), some (.inr (.inl (dg2 (fun r w => rdaR t D (nI r) (nI w)) 6 (nR t) h0))), none, some (.inl (nI 0)), o4] [] σ) : ∀ (n j : Nat) (h : Int64) (o4 : Option AV), j + n = nR t → h = dg2 (fun r w => rdaR t D (nI r) (nI w)) 6 j h0 → G false 148 P 63 [some (.inr (.inr (0, false, 0))), some (.inr (.inl h)), none, some (.inl (nI j)), o4] [] σ := by
  have hC := hK.1.1
  have hP := hT.P
  have hB := hT.B
  have hR := hT.R
  have h72 := h7.2
  intro n
  induction n with
  | zero =>
    intro j h o4 hj hh
    refine G_wp 60 [63, 79] rfl ?_
    refine br_ge rfl (hC.c1_2.trans hT.eR) (by omega) (by omega) (fun h67 => ?_) (fun h67 => ?_)
    · refine ⟨_, rfl, ?_⟩
      have hh2 : h = dg2 (fun r w => rdaR t D (nI r) (nI w)) 6 (nR t) h0 := by rw [hh, show j = nR t by omega]
      rw [hh2]
      exact hQ o4
    · exact absurd h67 (by omega)
  | succ n ih =>
    intro j h o4 hj hh
    refine G_wp 60 [63, 79] rfl ?_
    refine br_ge rfl (hC.c1_2.trans hT.eR) (by omega) (by omega) (fun h67 => ?_) (fun h67 => ?_)
    · exact absurd h67 (by omega)
    · have ev := cv_at34 (σ := σ) (i := j) (h0 := h) (by omega)
      rw [dgF_cong h 6 (fun w hw => (ri_cell hC hT (by omega) hw).symm)] at ev
      refine ⟨_, _, ev, nI (j + 1), nI_add _ _, ?_⟩
      exact ih (j + 1) _ o4 (by omega) (by rw [dg2_S, ← hh])
theorem dgc_van {t : Sg} {D : Dy} {Z : Zt} {σ : Sg} (hK : CK t D Z σ) (hT : WN t) (hS : S3 D) (h7 : Is (D 0 7) 4000) {P : Option AV → Sg → Prop} {h0 : Int64} (hQ : ∀ o4, G false 148 P 95 [some (.inr (.inr (0, false, 0))), some (.inr (.inl (dgF (fun w => vanR D (nI w)) 4 h0))), none, some (.inl (nI 0)), o4] [] σ) : ∀ (n j : Nat) (h : Int64) (o4 : Option AV), j + n = 4 → h = dgF (fun w => vanR D (nI w)) j h0 → G false 148 P 79 [some (.inr (.inr (0, false, 0))), some (.inr (.inl h)), none, some (.inl (nI j)), o4] [] σ := by
  have hC := hK.1.1
  have hP := hT.P
  have hB := hT.B
  have hR := hT.R
  have h72 := h7.2
  intro n
  induction n with
  | zero =>
    intro j h o4 hj hh
    refine G_wp 60 [79, 95] rfl ?_
    refine br_gt rfl rfl (by omega) (by omega) (fun h81 => ?_) (fun h81 => ?_)
    · refine ⟨_, rfl, ?_⟩
      have hh2 : h = dgF (fun w => vanR D (nI w)) 4 h0 := by rw [hh, show j = 4 by omega]
      rw [hh2]
      exact hQ o4
    · exact absurd h81 (by omega)
  | succ n ih =>
    intro j h o4 hj hh
    refine G_wp 60 [79, 95] rfl ?_
    refine br_gt rfl rfl (by omega) (by omega) (fun h81 => ?_) (fun h81 => ?_)
    · exact absurd h81 (by omega)
    · refine ⟨_, _, cv_van hK.1, nI (j + 1), nI_add _ _, ?_⟩
      exact ih (j + 1) _ o4 (by omega) (by rw [dgF_S, ← hh])
theorem dgc_lines {t : Sg} {D : Dy} {Z : Zt} {σ : Sg} (hK : CK t D Z σ) (hT : WN t) (hS : S3 D) (h7 : Is (D 0 7) 4000) {P : Option AV → Sg → Prop} {h0 : Int64} (hQ : P (some (.inr (.inl (dg2 (fun i w => D 27 (5 * i + w)) 5 (nN (D 0 7)) h0)))) σ) : ∀ (n j : Nat) (h : Int64) (o4 : Option AV), j + n = nN (D 0 7) → h = dg2 (fun i w => D 27 (5 * i + w)) 5 j h0 → G false 148 P 95 [some (.inr (.inr (0, false, 0))), some (.inr (.inl h)), none, some (.inl (nI j)), o4] [] σ := by
  have hC := hK.1.1
  have hP := hT.P
  have hB := hT.B
  have hR := hT.R
  have h72 := h7.2
  intro n
  induction n with
  | zero =>
    intro j h o4 hj hh
    refine G_wp 60 [95] rfl ?_
    refine br_ge rfl ((hC.m.2.2.2.2.trans (if_neg (by decide))).trans h7.1) (by omega) (by omega) (fun h100 => ?_) (fun h100 => ?_)
    · have hh2 : h = dg2 (fun i w => D 27 (5 * i + w)) 5 (nN (D 0 7)) h0 := by rw [hh, show j = nN (D 0 7) by omega]
      rw [hh2]
      exact hQ
    · exact absurd h100 (by omega)
  | succ n ih =>
    intro j h o4 hj hh
    refine G_wp 60 [95] rfl ?_
    refine br_ge rfl ((hC.m.2.2.2.2.trans (if_neg (by decide))).trans h7.1) (by omega) (by omega) (fun h100 => ?_) (fun h100 => ?_)
    · exact absurd h100 (by omega)
    · have ev := cv_at38 (σ := σ) (i := j) (h0 := h) (by omega)
      rw [dgF_cong h 5 (fun w hw => hC.l rfl j w (by omega) hw)] at ev
      refine ⟨_, _, ev, nI (j + 1), nI_add _ _, ?_⟩
      exact ih (j + 1) _ o4 (by omega) (by rw [dg2_S, ← hh])
theorem cv_digest {t : Sg} {D : Dy} {Z : Zt} {σ : Sg} (hK : CK t D Z σ) (hT : WN t) (hS : S3 D) (h7 : Is (D 0 7) 4000) : Ev false 148 [.inr (.inr (0, false, 0))] σ (some (.inr (.inl (dgH t D)))) σ := by
  have hQ : (some (Sum.inr (Sum.inl (dg2 (fun i w => D 27 (5 * i + w)) 5 (nN (D 0 7)) (dgF (fun w => vanR D (nI w)) 4 (dg2 (fun r w => rdaR t D (nI r) (nI w)) 6 (nR t) (dg2 (fun b w => bikR t D (nI b) (nI w)) 4 (nB t) (dg2 (fun p w => pstR t D (nI p) (nI w)) 9 (nP t) (dgF (fun w => cntR t D (nI w)) 10 ((nI 277).toInt64))))))))) : Option AV) = some (Sum.inr (Sum.inl (dgH t D))) ∧ σ = σ := ⟨by unfold dgH; rw [dg_flat], rfl⟩
  obtain ⟨B0, hB0⟩ : ∃ B, B = ((nI 277).toInt64) := ⟨_, rfl⟩
  rw [← hB0] at hQ
  obtain ⟨B1, hB1⟩ : ∃ B, B = (dgF (fun w => cntR t D (nI w)) 10 B0) := ⟨_, rfl⟩
  rw [← hB1] at hQ
  obtain ⟨B2, hB2⟩ : ∃ B, B = (dg2 (fun p w => pstR t D (nI p) (nI w)) 9 (nP t) B1) := ⟨_, rfl⟩
  rw [← hB2] at hQ
  obtain ⟨B3, hB3⟩ : ∃ B, B = (dg2 (fun b w => bikR t D (nI b) (nI w)) 4 (nB t) B2) := ⟨_, rfl⟩
  rw [← hB3] at hQ
  obtain ⟨B4, hB4⟩ : ∃ B, B = (dg2 (fun r w => rdaR t D (nI r) (nI w)) 6 (nR t) B3) := ⟨_, rfl⟩
  rw [← hB4] at hQ
  obtain ⟨B5, hB5⟩ : ∃ B, B = (dgF (fun w => vanR D (nI w)) 4 B4) := ⟨_, rfl⟩
  rw [← hB5] at hQ
  obtain ⟨B6, hB6⟩ : ∃ B, B = (dg2 (fun i w => D 27 (5 * i + w)) 5 (nN (D 0 7)) B5) := ⟨_, rfl⟩
  rw [← hB6] at hQ
  refine Ev_wp 30 [4] rfl rfl ?_
  refine ⟨_, rfl, ?_⟩
  refine dgc_count hK hT hS h7 (h0 := B0) (fun o4 => ?_) 10 0 _ none (by omega) hB0.symm
  rw [← hB1]
  refine dgc_posts hK hT hS h7 (h0 := B1) (fun o4 => ?_) (nP t) 0 B1 o4 (by omega) rfl
  rw [← hB2]
  refine dgc_bikes hK hT hS h7 (h0 := B2) (fun o4 => ?_) (nB t) 0 B2 o4 (by omega) rfl
  rw [← hB3]
  refine dgc_riders hK hT hS h7 (h0 := B3) (fun o4 => ?_) (nR t) 0 B3 o4 (by omega) rfl
  rw [← hB4]
  refine dgc_van hK hT hS h7 (h0 := B4) (fun o4 => ?_) 4 0 B4 o4 (by omega) rfl
  rw [← hB5]
  refine dgc_lines hK hT hS h7 (h0 := B5) ?_ (nN (D 0 7)) 0 B5 o4 (by omega) rfl
  rw [← hB6]
  exact hQ
