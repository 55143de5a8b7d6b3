/-! What is told changes: both sides. -/
theorem mp_out {k r i k' j : Nat} (h : mp k r i = some (k', j)) : ¬ (26 ≤ k ∧ k ≤ 47) ∧ scc k i = false := by
  unfold mp at h
  split at h
  all_goals (repeat' split at h)
  all_goals first | (cases h; done) | (refine ⟨by omega, ?_⟩; first | rfl | (rename_i hc; obtain ⟨-, rfl⟩ := hc; rfl))
theorem TR_base {d : Bool} {s t σ : Sg} (h : TR s t) (hF : Fr d s σ) : TR σ t := fun k r i k' j hm => (hF k false r i (fun q => (mp_out hm).1 ⟨q.1, q.2.1⟩) (mp_out hm).2).trans (h k r i k' j hm)
theorem Cg_base {d : Bool} {s t : Sg} {D : Dy} {eb er : Nat} {Z : Zt} {σ : Sg} (h : Cg d s t D eb er Z σ) : Cg d σ t D eb er Z σ := ⟨TR_base h.1 h.2.1, Fr_rf d σ, h.2.2⟩
theorem OF_base {d : Bool} {s t σ : Sg} {z : Int32} (h : OF s t z) (hF : Fr d s σ) : OF σ t z := fun k hk => by
  rw [hF 17 false 0 k (by omega) rfl]
  exact h k hk
theorem TH_base {d : Bool} {s t σ : Sg} (h : TH s t) (hF : Fr d s σ) : TH σ t := fun k hk => by
  rw [hF 16 false 0 k (by omega) rfl]
  exact h k hk
theorem DK_base {d : Bool} {s t : Sg} {D : Dy} {Z : Zt} {σ : Sg} (h : DK d s t D Z σ) : DK d σ t D Z σ := ⟨Cg_base h.1, h.2.1, h.2.2.1, OF_base h.2.2.2.1 h.1.2.1, h.2.2.2.2⟩
/-- the class holds what the model holds, between calls -/
def CK (t : Sg) (D : Dy) (Z : Zt) (σ : Sg) : Prop := DK false σ t D Z σ ∧ TH σ t ∧ Z.2.2 = -1 ∧ σ 37 true 0 0 = nI 0
theorem CK_of {s t : Sg} {D : Dy} {Z : Zt} {σ : Sg} (h : DK false s t D Z σ) (hH : TH s t) (hz : Z.2.2 = -1) (h37 : s 37 true 0 0 = nI 0) : CK t D Z σ := ⟨DK_base h, TH_base hH h.1.2.1, hz, (h.1.2.1 37 true 0 0 (fun q => absurd q.2.2 (by decide)) rfl).trans h37⟩
/-- as many posts, bikes and riders, and they come to the same posts -/
def SC (t' t : Sg) : Prop := (t' 69 false 0 3 = t 69 false 0 3 ∧ t' 69 false 0 7 = t 69 false 0 7 ∧ t' 69 false 0 9 = t 69 false 0 9) ∧ ∀ r, t' 77 false 0 r = t 77 false 0 r
theorem SC.P {t t' : Sg} (h : SC t' t) : nP t' = nP t := congrArg nN h.1.1
theorem SC.B {t t' : Sg} (h : SC t' t) : nB t' = nB t := congrArg nN h.1.2.1
theorem SC.R {t t' : Sg} (h : SC t' t) : nR t' = nR t := congrArg nN h.1.2.2
theorem RD_t {d : Bool} {t t' : Sg} {D : Dy} {eb er : Nat} {Z : Zt} {σ σ' : Sg} (h : RD d t D eb er Z σ) (hs : SC t' t) (hw : ∀ k r i, 26 ≤ k → k ≤ 47 → σ' k d r i = σ k d r i) : RD d t' D eb er Z σ' := by
  have hP := hs.P
  have hB := hs.B
  have hR := hs.R
  have h1 : thr t' = thr t := by
    funext D p
    unfold thr
    rw [hB]
  have h2 : gdn t' = gdn t := by
    funext D p
    unfold gdn
    rw [hB]
  have h3 : wtx t' = wtx t := by
    funext D er p
    unfold wtx
    rw [hR]
    congr 1
    funext r
    rw [hs.2]
  have e26 : σ' 26 d = σ 26 d := by
    funext r i
    exact hw 26 r i (by omega) (by omega)
  have e27 : σ' 27 d = σ 27 d := by
    funext r i
    exact hw 27 r i (by omega) (by omega)
  have e28 : σ' 28 d = σ 28 d := by
    funext r i
    exact hw 28 r i (by omega) (by omega)
  have e29 : σ' 29 d = σ 29 d := by
    funext r i
    exact hw 29 r i (by omega) (by omega)
  have e30 : σ' 30 d = σ 30 d := by
    funext r i
    exact hw 30 r i (by omega) (by omega)
  have e31 : σ' 31 d = σ 31 d := by
    funext r i
    exact hw 31 r i (by omega) (by omega)
  have e32 : σ' 32 d = σ 32 d := by
    funext r i
    exact hw 32 r i (by omega) (by omega)
  have e33 : σ' 33 d = σ 33 d := by
    funext r i
    exact hw 33 r i (by omega) (by omega)
  have e34 : σ' 34 d = σ 34 d := by
    funext r i
    exact hw 34 r i (by omega) (by omega)
  have e35 : σ' 35 d = σ 35 d := by
    funext r i
    exact hw 35 r i (by omega) (by omega)
  have e36 : σ' 36 d = σ 36 d := by
    funext r i
    exact hw 36 r i (by omega) (by omega)
  have e37 : σ' 37 d = σ 37 d := by
    funext r i
    exact hw 37 r i (by omega) (by omega)
  have e38 : σ' 38 d = σ 38 d := by
    funext r i
    exact hw 38 r i (by omega) (by omega)
  have e39 : σ' 39 d = σ 39 d := by
    funext r i
    exact hw 39 r i (by omega) (by omega)
  have e40 : σ' 40 d = σ 40 d := by
    funext r i
    exact hw 40 r i (by omega) (by omega)
  have e41 : σ' 41 d = σ 41 d := by
    funext r i
    exact hw 41 r i (by omega) (by omega)
  have e42 : σ' 42 d = σ 42 d := by
    funext r i
    exact hw 42 r i (by omega) (by omega)
  have e43 : σ' 43 d = σ 43 d := by
    funext r i
    exact hw 43 r i (by omega) (by omega)
  have e44 : σ' 44 d = σ 44 d := by
    funext r i
    exact hw 44 r i (by omega) (by omega)
  have e45 : σ' 45 d = σ 45 d := by
    funext r i
    exact hw 45 r i (by omega) (by omega)
  have e46 : σ' 46 d = σ 46 d := by
    funext r i
    exact hw 46 r i (by omega) (by omega)
  have e47 : σ' 47 d = σ 47 d := by
    funext r i
    exact hw 47 r i (by omega) (by omega)
  simp only [RD, Rm, Rp, Rc, Rw, Rb, Rr, Rg, Rz, Rl, Rv, hP, hB, hR, h1, h2, h3, e26, e27, e28, e29, e30, e31, e32, e33, e34, e35, e36, e37, e38, e39, e40, e41, e42, e43, e44, e45, e46, e47]
  exact h
theorem MI_t {t t' : Sg} {D : Dy} (h : MI t D) (hs : SC t' t) : MI t' D := by
  have hP := hs.P
  have hB := hs.B
  have hR := hs.R
  simp only [MI, WI, VI, JI, SI, CG, BI, RI, DI, KI, hP, hB, hR]
  exact h
theorem OI_t {t t' : Sg} {D : Dy} (h : OI t D) (hs : SC t' t) : OI t' D := fun p hp => h p (by rw [← hs.P]; exact hp)
theorem SC_k {t : Sg} {k j : Nat} {v : Int32} (h : ¬ k = 77 ∧ ¬ (k = 69 ∧ (j = 3 ∨ j = 7 ∨ j = 9))) : SC (up4 t k false 0 j v) t := by
  unfold SC up4
  rw [if_neg (by omega), if_neg (by omega), if_neg (by omega)]
  exact ⟨⟨rfl, rfl, rfl⟩, fun r => if_neg (by omega)⟩
/-- a cell of the class that no day and no rule's act looks at, and the model's like it -/
theorem CK_w {t : Sg} {D : Dy} {Z : Zt} {σ : Sg} (h : CK t D Z σ) {k r i k' j : Nat} (v : Int32) (hm : mp k r i = some (k', j)) (hk : ¬ k' = 77 ∧ ¬ k' = 84 ∧ ¬ k' = 85 ∧ ¬ (k' = 69 ∧ (j = 3 ∨ j = 7 ∨ j = 9 ∨ j = 22))) : CK (up4 t k' false 0 j v) D Z (up4 σ k false r i v) := by
  obtain ⟨⟨⟨hT, hF, hD⟩, hM, hO, hOF, hZ⟩, hH, hz⟩ := h
  have hs : SC (up4 t k' false 0 j v) t := SC_k (by omega)
  have ho := mp_out hm
  have hi := mp_ip hm
  have hne : ¬ k = 17 ∧ ¬ k = 16 := by
    refine ⟨fun q => ?_, fun q => ?_⟩
    · subst q; cases hm
    · subst q; cases hm
  have h86 : ¬ k' = 86 := fun q => by subst q; cases hi; cases hm
  have e86 : ∀ n, up4 t k' false 0 j v 86 false 0 n = t 86 false 0 n := fun n => if_neg (fun q => h86 q.1.symm)
  have e84 : ∀ n, up4 t k' false 0 j v 84 false 0 n = t 84 false 0 n := fun n => if_neg (fun q => hk.2.1 q.1.symm)
  have e85 : ∀ n, up4 t k' false 0 j v 85 false 0 n = t 85 false 0 n := fun n => if_neg (fun q => hk.2.2.1 q.1.symm)
  have eRu : nRu (up4 t k' false 0 j v) = nRu t := congrArg nN (if_neg (fun q => hk.2.2.2 ⟨q.1.symm, Or.inr (Or.inr (Or.inr q.2.2.2.symm))⟩))
  have e17 : ∀ n, up4 σ k false r i v 17 false 0 n = σ 17 false 0 n := fun n => if_neg (fun q => hne.1 q.1.symm)
  have e16 : ∀ n, up4 σ k false r i v 16 false 0 n = σ 16 false 0 n := fun n => if_neg (fun q => hne.2 q.1.symm)
  refine ⟨⟨⟨TR_w hT hm v, Fr_rf _ _, RD_t hD hs (fun k2 r2 i2 q1 q2 => if_neg (fun q => ho.1 (by omega)))⟩, MI_t hM hs, OI_t hO hs, fun n hn => ?_, hZ⟩, fun n hn => ?_, hz.1, (show up4 σ k false r i v 37 true 0 0 = σ 37 true 0 0 from if_neg (fun q => absurd q.2.1 (by decide))).trans hz.2⟩
  · rw [e17, e86]
    exact hOF n (by rw [← eRu]; exact hn)
  · obtain ⟨e, q1, q2, q3⟩ := hH n (by rw [← eRu]; exact hn)
    refine ⟨e, by rw [e84]; exact q1, ?_, by rw [e16]; exact q3⟩
    unfold sy
    rw [e84, e85]
    exact q2
/-- the turned way of a rule, and what the class uses over and over -/
theorem CK_u {t : Sg} {D : Dy} {Z : Zt} {σ : Sg} (h : CK t D Z σ) {k r i : Nat} {d : Bool} (v : Int32) (hm : mp k r i = none ∨ d = true) (hk : ¬ (26 ≤ k ∧ k ≤ 47 ∧ d = false) ∧ ¬ k = 16 ∧ ¬ k = 17 ∧ ¬ k = 37) : CK t D Z (up4 σ k d r i v) := by
  obtain ⟨⟨⟨hT, hF, hD⟩, hM, hO, hOF, hZ⟩, hH, hz⟩ := h
  refine ⟨⟨⟨TR_s hT hm, Fr_rf _ _, RD_t hD ⟨⟨rfl, rfl, rfl⟩, fun _ => rfl⟩ (fun k2 r2 i2 q1 q2 => if_neg (fun q => hk.1 ⟨by omega, by omega, q.2.1.symm⟩))⟩, hM, hO, fun n hn => ?_, hZ⟩, fun n hn => ?_, hz.1, (show up4 σ k d r i v 37 true 0 0 = σ 37 true 0 0 from if_neg (fun q => hk.2.2.2 q.1.symm)).trans hz.2⟩
  · rw [show up4 σ k d r i v 17 false 0 n = σ 17 false 0 n from if_neg (fun q => hk.2.2.1 q.1.symm)]
    exact hOF n hn
  · obtain ⟨e, q1, q2, q3⟩ := hH n hn
    exact ⟨e, q1, q2, (show up4 σ k d r i v 16 false 0 n = σ 16 false 0 n from if_neg (fun q => hk.2.1 q.1.symm)).trans q3⟩
theorem mp57 {r i : Nat} (hr : r < 2) (hi : i < 25) : mp 57 (r + 1) i = some (90, 25 * r + i) := if_pos ⟨by omega, by omega, hi⟩
theorem cv_say {t : Sg} {D : Dy} {Z : Zt} {σ : Sg} (hK : CK t D Z σ) (hT : WN t) (hX2 : TX t) {x : Int32} : ∃ σ', Ev false 95 [.inr (.inr (0, false, 0)), .inl (x)] σ (some (.inl (sayR t x))) σ' ∧ CK (sayT t x) D Z σ' := by
  have hC := hK.1.1
  have hP := hT.P
  have hB := hT.B
  have hR := hT.R
  have hN : nSaid t ≤ 40 := hX2.1.2
  refine EvQ_wp 53 [] rfl rfl ?_
  refine ⟨_, _, cv_in, ?_⟩
  refine brd_ne (fun h4 => ?_) (fun h4 => ?_)
  · refine br_lt (hC.c12_1.trans hX2.eSa) rfl (by omega) (by omega) (fun h11 => ?_) (fun h11 => ?_)
    · refine ⟨nSaid t, (hC.c12_1.trans hX2.eSa), (by show _ < 40; omega), _, rfl, ?_⟩
      replace hK := CK_w hK (k := 13) (r := 0) (i := nSaid t) (k' := 83) (j := nSaid t) x (if_pos ⟨rfl, by omega⟩) (by omega)
      refine ⟨nI ((nSaid t) + 1), (add_n (hC.c12_1.trans hX2.eSa) rfl), ?_⟩
      replace hK := CK_w hK (k := 12) (r := 0) (i := 1) (k' := 69) (j := 20) (nI ((nSaid t) + 1)) rfl (by omega)
      exact ⟨by unfold sayR; rw [ifC_t h4, ifC_f (by omega)]; exact congrArg (fun z => some (Sum.inl z)) (up4_s _ _ _ _ _ _), by unfold sayT; rw [ifC_t h4, ifC_f (by omega)]; exact hK⟩
    · exact ⟨by unfold sayR; rw [ifC_t h4, ifC_t (by omega)], by unfold sayT; rw [ifC_t h4, ifC_t (by omega)]; exact hK⟩
  · exact ⟨by unfold sayR; rw [ifC_f h4], by unfold sayT; rw [ifC_f h4]; exact hK⟩
theorem cv_hush {t : Sg} {D : Dy} {Z : Zt} {σ : Sg} (hK : CK t D Z σ) (hT : WN t) (hX2 : TX t) : ∃ σ', Ev false 41 [.inr (.inr (0, false, 0))] σ (some (.inl (nI (nSaid t)))) σ' ∧ CK (hushT t) D Z σ' := by
  have hC := hK.1.1
  have hP := hT.P
  have hB := hT.B
  have hR := hT.R
  refine EvQ_wp 30 [] rfl rfl ?_
  refine ⟨nI (nSaid t), (hC.c12_1.trans hX2.eSa), _, rfl, ?_⟩
  replace hK := CK_w hK (k := 12) (r := 0) (i := 1) (k' := 69) (j := 20) (nI (0)) rfl (by omega)
  exact ⟨rfl, hK⟩
