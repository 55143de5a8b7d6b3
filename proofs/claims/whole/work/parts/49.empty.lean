/-! The class counts what is empty, begins a minute. -/
def Zf (Z : Zt) (j : Nat) : Zt := (Z.1, fun q => if q < j then nI 0 else Z.2.1 q, Z.2.2)
theorem Zf_0 (Z : Zt) : Zf Z 0 = Z := by
  unfold Zf
  have e : (fun q => if q < 0 then nI 0 else Z.2.1 q) = Z.2.1 := funext fun q => if_neg (Nat.not_lt_zero _)
  rw [e]
theorem st_tz {d : Bool} {s t : Sg} {D : Dy} {eb er : Nat} {Z : Zt} {σ : Sg} {j : Nat} (h : Cg d s t D eb er (Zf Z j) σ)  : Cg d s t D eb er (Zf Z (j + 1)) (up4 σ 43 d 0 j (nI 0)) := by
  refine ⟨h.1, Fr_w (h.2.1) _ (by omega), ?_, ?_, ?_, ?_, ?_, ?_, ?_, ?_, ?_, ?_⟩
  · exact Rm_c (Z := Zf Z j) h.m (fun k r i q => by rw [up4_nk (by omega)]) (fun i q => rfl)
  · exact Rp_c h.p (fun k r i q => by rw [up4_nk (by omega)]) (fun f i q => rfl)
  · exact Rc_c h.c (fun k r i q => by rw [up4_nk (by omega)]) (fun f i q => rfl)
  · exact Rw_c h.w (fun k r i q => by rw [up4_nk (by omega)]) (fun r q => rfl)
  · exact Rb_c h.b (fun k r i q => by rw [up4_nk (by omega)]) (fun f i q => rfl)
  · exact Rr_c h.r (fun k r i q => by rw [up4_nk (by omega)]) (fun f i q => rfl)
  · exact Rg_c h.g (fun k r i q => by rw [up4_nk (by omega)]) (fun f i q => rfl)
  · have h0 := h.z
    refine ⟨fun q y hq hy => ?_, fun q hq => ?_⟩
    · rw [up4_nk (by decide)]
      exact h0.1 q y hq hy
    · show _ = (if q < j + 1 then nI 0 else Z.2.1 q)
      have h1 : σ 43 d 0 q = (if q < j then nI 0 else Z.2.1 q) := h0.2 q hq
      unfold up4
      by_cases e : q = j
      · rw [if_pos ⟨rfl, rfl, rfl, e⟩, if_pos (by omega)]
      · rw [if_neg (fun z => e z.2.2.2), h1]
        by_cases e2 : q < j
        · rw [if_pos e2, if_pos (by omega)]
        · rw [if_neg e2, if_neg (by omega)]
  · exact Rl_c h.l (fun k r i q => by rw [up4_nk (by omega)]) (fun f i q => rfl)
  · exact Rv_c h.v (fun k r i q => by rw [up4_nk (by omega)]) (fun f i q => rfl)
theorem cv_fill_l {d : Bool} {s t : Sg} {D : Dy} {eb er : Nat} {Z : Zt} : ∀ (k j : Nat) (σ : Sg), j + k = 12 → Cg d s t D eb er (Zf Z j) σ → G false 63 (fun r' s' => r' = none ∧ Cg d s t D eb er (Zf Z 12) s') 5 [some (.inr (.inr (43, d, 0))), some (.inl (nI 0)), some (.inl (nI j)), some (.inl (nI 12))] [] σ := by
  intro k
  induction k with
  | zero =>
    intro j σ hj hC
    refine G_wp 60 [5] rfl ?_
    refine br_ge rfl rfl (by omega) (by omega) (fun h7 => ?_) (fun h7 => ?_)
    · exact ⟨rfl, by rw [show (12 : Nat) = j by omega]; exact hC⟩
    · exact absurd h7 (by omega)
  | succ k ih =>
    intro j σ hj hC
    refine G_wp 60 [5] rfl ?_
    refine br_ge rfl rfl (by omega) (by omega) (fun h7 => ?_) (fun h7 => ?_)
    · exact absurd h7 (by omega)
    · refine ⟨j, rfl, (by show _ < 12; omega), _, rfl, ?_⟩
      replace hC : Cg d s t D eb er (Zf Z (j + 1)) (up4 σ 43 d 0 j (nI (0))) := st_tz hC
      refine ⟨nI (j + 1), nI_add _ _, ?_⟩
      exact ih (j + 1) _ (by omega) hC
theorem cv_fill {d : Bool} {s t : Sg} {D : Dy} {eb er : Nat} {Z : Zt} {σ : Sg} (hC : Cg d s t D eb er Z σ) : ∃ σ', Ev false 63 [.inr (.inr (43, d, 0)), .inl (nI 0)] σ none σ' ∧ Cg d s t D eb er (Zf Z 12) σ' := by
  refine EvQ_wp 60 [5] rfl rfl ?_
  refine ⟨_, rfl, _, rfl, ?_⟩
  exact cv_fill_l 12 0 σ (by omega) (by rw [Zf_0]; exact hC)
theorem cv_bm {d : Bool} {s t : Sg} {D : Dy} {eb er : Nat} {Z : Zt} {σ : Sg} (hC : Cg d s t D eb er Z σ) : ∃ σ', Ev false 81 [.inr (.inr (37, d, 0))] σ none σ' ∧ Cg d s t D eb er (Zf Z 12) σ' := by
  refine EvQ_wp 25 [] rfl rfl ?_
  obtain ⟨σ1, ev1, hC⟩ := cv_fill hC
  refine ⟨_, _, ev1, ?_⟩
  exact ⟨rfl, hC⟩
theorem ge_1 {t : Sg} {X : Dy} {p f i : Nat} (h : gdn t X p = 0) (hf : ¬ f = 5 ∧ ¬ f = 10) : ge t p X f i = up2 X 9 (24 * p + nN (X 0 0) / 60) (X 9 (24 * p + nN (X 0 0) / 60) + nI 1) f i := by
  unfold ge
  rw [up2_n (by omega), if_pos h]
  by_cases e : f = 9 ∧ i = 24 * p + nN (X 0 0) / 60
  · rw [e.1, e.2, up2_s, up2_s]
  · rw [up2_n e, up2_n e, up2_n (by omega)]
theorem ge_0 {t : Sg} {X : Dy} {p f i : Nat} (h : ¬ gdn t X p = 0) (hf : ¬ f = 5 ∧ ¬ f = 10) : ge t p X f i = X f i := by
  unfold ge
  rw [up2_n (by omega), if_neg h]
  by_cases e : f = 9 ∧ i = 24 * p + nN (X 0 0) / 60
  · rw [e.1, e.2, up2_s, nI_0, Int32.add_zero]
  · rw [up2_n e, up2_n (by omega)]
theorem cv_empty_l {d : Bool} {s t : Sg} {D : Dy} {Z : Zt} (hT : WN t) (hm : D 0 0 = nI (nN (D 0 0))) (hm2 : nN (D 0 0) < 1440) : ∀ (k j : Nat) (σ : Sg), j + k = nP t → Cg d s t (fr (ge t) j D) 60 200 Z σ → G false 78 (fun r' s' => r' = none ∧ Cg d s t (fr (ge t) (nP t) D) 60 200 Z s') 2 [some (.inr (.inr (26, d, 0))), some (.inl (nI j))] [] σ := by
  have hP := hT.P
  have hB := hT.B
  intro k
  induction k with
  | zero =>
    intro j σ hj hC
    refine G_wp 100 [2] rfl ?_
    refine br_ge rfl (hC.c1_0.trans hT.eP) (by omega) (by omega) (fun h6 => ?_) (fun h6 => ?_)
    · exact ⟨rfl, by rw [show nP t = j by omega]; exact hC⟩
    · exact absurd h6 (by omega)
  | succ k ih =>
    intro j σ hj hC
    obtain ⟨X, hX⟩ : ∃ X, X = fr (ge t) j D := ⟨_, rfl⟩
    rw [← hX] at hC
    have e0 : X 0 0 = D 0 0 := by rw [hX]; exact fr_e (fun _ _ => ge_o (by omega)) _ _
    have hmX : X 0 0 = nI (nN (X 0 0)) := by rw [e0]; exact hm
    have hm2X : nN (X 0 0) < 1440 := by rw [e0]; exact hm2
    have hgl : gdn t X j ≤ nB t := ct_le _ _
    refine G_wp 100 [2] rfl ?_
    refine br_ge rfl (hC.c1_0.trans hT.eP) (by omega) (by omega) (fun h6 => ?_) (fun h6 => ?_)
    · exact absurd h6 (by omega)
    · refine ⟨j, rfl, (by show _ < 12; omega), ?_⟩
      rw [(hC.c j (by omega)).2]
      refine br_ne rfl rfl (by omega) (by omega) (fun h11 => ?_) (fun h11 => ?_)
      · refine ⟨nI (j + 1), nI_add _ _, ?_⟩
        refine ih (j + 1) _ (by omega) ?_
        rw [fr_S, ← hX]
        exact st_D hC (fun f i q => ge_0 h11 (by omega))
      · refine ⟨j, rfl, (by show _ < 12; omega), _, _, cv_hour hC hmX (by omega), (show j < 12 by omega), nN (X 0 0) / 60, rfl, (by show _ < 24; omega), ?_⟩
        rw [hC.g41 j (nN (X 0 0) / 60) (by omega) (by omega)]
        refine ⟨(show j < 12 by omega), nN (X 0 0) / 60, rfl, (by show _ < 24; omega), _, rfl, ?_⟩
        replace hC : Cg d s t (up2 X 9 (24 * j + (nN (X 0 0) / 60)) (((X 9 (24 * j + (nN (X 0 0) / 60))) + (nI (1))))) 60 200 Z (up4 σ 41 d ((j) + 1) (nN (X 0 0) / 60) ((X 9 (24 * j + (nN (X 0 0) / 60))) + (nI (1)))) := st_emp hC (by omega)
        refine ⟨nI (j + 1), nI_add _ _, ?_⟩
        refine ih (j + 1) _ (by omega) ?_
        rw [fr_S, ← hX]
        exact st_D hC (fun f i q => ge_1 h11 (by omega))
theorem cv_empty {d : Bool} {s t : Sg} {D : Dy} {Z : Zt} {σ : Sg} (hC : Cg d s t D 60 200 Z σ) (hT : WN t) (hm : D 0 0 = nI (nN (D 0 0))) (hm2 : nN (D 0 0) < 1440) : ∃ σ', Ev false 78 [.inr (.inr (26, d, 0))] σ none σ' ∧ Cg d s t (fr (ge t) (nP t) D) 60 200 Z σ' := by
  have hP := hT.P
  have hB := hT.B
  have hR := hT.R
  refine EvQ_wp 22 [2] rfl rfl ?_
  refine ⟨_, rfl, ?_⟩
  exact cv_empty_l hT hm hm2 (nP t) 0 σ (by omega) hC
theorem ge_10 {t : Sg} {D : Dy} {p y x : Nat} (hx : x = nN (D 0 0) / 60) (hx2 : x < 24) (hy : y < 24) : ∀ n, fr (ge t) n D 10 (24 * p + y) = if p < n ∧ y = x then mMax (D 10 (24 * p + y)) (D 6 p) else D 10 (24 * p + y)
  | 0 => by rw [if_neg (fun q => Nat.not_lt_zero _ q.1)]; rfl
  | n + 1 => by
    have ih := ge_10 (t := t) (p := p) hx hx2 hy n
    have e0 : fr (ge t) n D 0 0 = D 0 0 := fr_e (fun _ _ => ge_o (by omega)) _ _
    have e6 : fr (ge t) n D 6 n = D 6 n := fr_e (fun _ _ => ge_o (by omega)) _ _
    rw [fr_S]
    generalize fr (ge t) n D = X at ih e0 e6 ⊢
    unfold ge
    rw [e0, e6, ← hx]
    by_cases e : p = n ∧ y = x
    · obtain ⟨e1, e2⟩ := e
      subst e1
      subst e2
      rw [if_neg (fun q => Nat.lt_irrefl _ q.1)] at ih
      rw [up2_s, ih, if_pos (show p < p + 1 ∧ y = y from ⟨by omega, rfl⟩)]
      rfl
    · rw [up2_n (by omega), up2_n (by omega), up2_n (by omega), ih]
      by_cases e2 : p < n ∧ y = x
      · rw [if_pos e2, if_pos ⟨by omega, e2.2⟩]
      · rw [if_neg e2, if_neg (by omega)]
theorem ZB_end {t : Sg} {D : Dy} {Z : Zt} (hP : nP t ≤ 12) (hm2 : nN (D 0 0) < 1440) (h : ZI t D Z (nN (D 0 0) / 60)) : ZB (fr (ge t) (nP t) D) Z := by
  intro p y hp hy
  rw [ge_10 rfl (by omega) hy]
  by_cases e : p < nP t
  · rw [((h p hp).1 e).2 y hy]
    by_cases e2 : y = nN (D 0 0) / 60
    · rw [if_pos e2, if_pos ⟨e, e2⟩]
    · rw [if_neg e2, if_neg (fun q => e2 q.2)]
  · rw [if_neg (fun q => e q.1), (h p hp).2 e y hy]
theorem N10_end {t : Sg} {D : Dy} {j : Nat} (hm2 : nN (D 0 0) < 1440) (hj : j ≤ 200) (hS : S6 t D j) (h : N10 D) : N10 (fr (ge t) (nP t) D) := by
  intro p y hp hy
  rw [ge_10 rfl (by omega) hy]
  split
  next e =>
    obtain ⟨k, hk, ek⟩ := hS p e.1
    obtain ⟨c1, c2⟩ := h p y hp hy
    rw [ek, c1, mMax_n (by omega) (by omega)]
    exact Is_of (by omega) (by omega)
  next => exact h p y hp hy
theorem ZI_begin {t : Sg} {D : Dy} {Z : Zt} {x : Nat} (hP : nP t ≤ 12) (h : ZB D Z) (hN : N10 D) : ZI t (gz (nP t) D) (Zf Z 12) x ∧ S6 t (gz (nP t) D) 0 := by
  have e6 : ∀ p, p < nP t → gz (nP t) D 6 p = nI 0 := fun p hp => if_pos ⟨by omega, hp⟩
  refine ⟨fun p hp => ⟨fun q => ⟨?_, fun y hy => ?_⟩, fun q y hy => ?_⟩, fun p hp => ⟨0, Nat.le_refl _, e6 p hp⟩⟩
  · rw [e6 p q]
    exact if_pos hp
  · show Z.1 p y = _
    rw [e6 p q, gz_o (by omega), h p y hp hy]
    split
    next =>
      obtain ⟨c1, c2⟩ := hN p y hp hy
      rw [c1, mMax_n (by omega) (by omega)]
      congr 1
      omega
    next => rfl
  · show Z.1 p y = _
    rw [gz_o (by omega)]
    exact h p y hp hy
