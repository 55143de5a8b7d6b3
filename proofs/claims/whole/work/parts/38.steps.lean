/-! The class's day, step by step. -/
theorem par_u {σ : Sg} {D : Dy} {k : Nat} {d : Bool} {r j j2 f : Nat} {v : Int32} (h : ¬ j2 = j → σ k d r j2 = D f j2) : up4 σ k d r j v k d r j2 = up2 D f j v f j2 := by
  unfold up4 up2
  by_cases e : j2 = j
  · rw [if_pos ⟨rfl, rfl, rfl, e⟩, if_pos ⟨rfl, e⟩]
  · rw [if_neg (fun q => e q.2.2.2), if_neg (fun q => e q.2)]
    exact h e
theorem par_g {σ : Sg} {D : Dy} {k : Nat} {d : Bool} {p h p2 h2 f : Nat} {v : Int32} (hh : h < 24) (hh2 : h2 < 24) (e0 : σ k d (p2 + 1) h2 = D f (24 * p2 + h2)) : up4 σ k d (p + 1) h v k d (p2 + 1) h2 = up2 D f (24 * p + h) v f (24 * p2 + h2) := by
  unfold up4 up2
  by_cases e : p2 = p ∧ h2 = h
  · rw [if_pos ⟨rfl, rfl, by omega, e.2⟩, if_pos ⟨rfl, by omega⟩]
  · rw [if_neg (fun q => e ⟨by omega, q.2.2.2⟩), if_neg (fun q => e (by have := q.2; omega))]
    exact e0
/-- a bike that isn't at a post: the counts don't look at it -/
theorem thr_na {t : Sg} {D D' : Dy} {b p : Nat} (h : ∀ c f, ¬ c = b → (f = 11 ∨ f = 12 ∨ f = 14) → D' f c = D f c) (h1 : ¬ D 11 b = nI 0) (h2 : ¬ D' 11 b = nI 0) : thr t D' p = thr t D p ∧ gdn t D' p = gdn t D p := by
  refine ⟨ct_cong (fun c _ => ?_), ct_cong (fun c _ => ?_)⟩
  · unfold isA
    by_cases e : c = b
    · rw [e, decide_eq_false h1, decide_eq_false h2]; rfl
    · rw [h c 11 e (by omega), h c 12 e (by omega)]
  · unfold isG isA
    by_cases e : c = b
    · rw [e, decide_eq_false h1, decide_eq_false h2]; rfl
    · rw [h c 11 e (by omega), h c 12 e (by omega), h c 14 e (by omega)]
theorem thr_in {t : Sg} {D D' : Dy} {b p : Nat} (hb : b < nB t) (h : ∀ c f, ¬ c = b → (f = 11 ∨ f = 12 ∨ f = 14) → D' f c = D f c) (p2 : Nat) (h1 : ¬ D 11 b = nI 0) (h2 : D' 11 b = nI 0) (h3 : D' 12 b = nI p) (hp : p < 12) (hp2 : p2 < 12) : thr t D' p2 = thr t D p2 + (if p2 = p then 1 else 0) ∧ gdn t D' p2 = gdn t D p2 + (if p2 = p ∧ D' 14 b = nI 0 then 1 else 0) := by
  have e1 := ct_one (p := isA D' p2) (q := isA D p2) (i := b) (n := nB t) hb (fun c _ hc => by unfold isA; rw [h c 11 hc (by omega), h c 12 hc (by omega)])
  have e2 := ct_one (p := isG D' p2) (q := isG D p2) (i := b) (n := nB t) hb (fun c _ hc => by unfold isG isA; rw [h c 11 hc (by omega), h c 12 hc (by omega), h c 14 hc (by omega)])
  have f1 : isA D p2 b = false := by unfold isA; rw [decide_eq_false h1]; rfl
  have f2 : isG D p2 b = false := by unfold isG; rw [f1]; rfl
  rw [f1] at e1
  rw [f2] at e2
  have hq : (nI p = nI p2) ↔ p2 = p := by rw [nI_eq (by omega) (by omega)]; exact ⟨fun z => z.symm, fun z => z.symm⟩
  have g1 : isA D' p2 b = decide (p2 = p) := by
    unfold isA
    rw [h2, h3, decide_eq_true rfl, Bool.true_and]
    exact decide_eq_decide.mpr hq
  have g2 : isG D' p2 b = (decide (p2 = p) && decide (D' 14 b = nI 0)) := by unfold isG; rw [g1]
  rw [g1] at e1
  rw [g2] at e2
  unfold thr gdn
  refine ⟨?_, ?_⟩
  · by_cases q : p2 = p
    · simp [q] at e1 ⊢; omega
    · simp [q] at e1 ⊢; omega
  · by_cases q : p2 = p
    · by_cases q2 : D' 14 b = nI 0
      · simp [q, q2] at e2 ⊢; omega
      · simp [q, q2] at e2 ⊢; omega
    · simp [q] at e2 ⊢; omega
theorem st_price {d : Bool} {s t : Sg} {D : Dy} {eb er : Nat} {Z : Zt} {σ : Sg} (h : Cg d s t D eb er Z σ) {p : Nat} {v : Int32}  : Cg d s t (up2 D 1 p v) eb er Z (up4 σ 27 d 0 p v) := by
  refine ⟨h.1, Fr_w (h.2.1) _ (by omega), ?_, ?_, ?_, ?_, ?_, ?_, ?_, ?_, ?_, ?_⟩
  · exact Rm_c h.m (fun k r i q => by rw [up4_nk (by omega)]) (fun i q => by rw [up2_n (by omega)])
  · intro p2 hp2
    exact ⟨par_u (fun _ => (h.p p2 hp2).1), by rw [up4_nk (by decide), up2_n (by omega)]; exact (h.p p2 hp2).2⟩
  · exact Rc_c h.c (fun k r i q => by rw [up4_nk (by omega)]) (fun f i q => by rw [up2_n (by omega)])
  · exact Rw_c h.w (fun k r i q => by rw [up4_nk (by omega)]) (fun r q => by rw [up2_n (by omega)])
  · exact Rb_c h.b (fun k r i q => by rw [up4_nk (by omega)]) (fun f i q => by rw [up2_n (by omega)])
  · exact Rr_c h.r (fun k r i q => by rw [up4_nk (by omega)]) (fun f i q => by rw [up2_n (by omega)])
  · exact Rg_c h.g (fun k r i q => by rw [up4_nk (by omega)]) (fun f i q => by rw [up2_n (by omega)])
  · exact Rz_c h.z (fun k r i q => by rw [up4_nk (by omega)]) 
  · exact Rl_c h.l (fun k r i q => by rw [up4_nk (by omega)]) (fun f i q => by rw [up2_n (by omega)])
  · exact Rv_c h.v (fun k r i q => by rw [up4_nk (by omega)]) (fun f i q => by rw [up2_n (by omega)])
theorem st_open {d : Bool} {s t : Sg} {D : Dy} {eb er : Nat} {Z : Zt} {σ : Sg} (h : Cg d s t D eb er Z σ) {p : Nat} {v : Int32}  : Cg d s t (up2 D 2 p v) eb er Z (up4 σ 28 d 0 p v) := by
  refine ⟨h.1, Fr_w (h.2.1) _ (by omega), ?_, ?_, ?_, ?_, ?_, ?_, ?_, ?_, ?_, ?_⟩
  · exact Rm_c h.m (fun k r i q => by rw [up4_nk (by omega)]) (fun i q => by rw [up2_n (by omega)])
  · intro p2 hp2
    exact ⟨by rw [up4_nk (by decide), up2_n (by omega)]; exact (h.p p2 hp2).1, par_u (fun _ => (h.p p2 hp2).2)⟩
  · exact Rc_c h.c (fun k r i q => by rw [up4_nk (by omega)]) (fun f i q => by rw [up2_n (by omega)])
  · exact Rw_c h.w (fun k r i q => by rw [up4_nk (by omega)]) (fun r q => by rw [up2_n (by omega)])
  · exact Rb_c h.b (fun k r i q => by rw [up4_nk (by omega)]) (fun f i q => by rw [up2_n (by omega)])
  · exact Rr_c h.r (fun k r i q => by rw [up4_nk (by omega)]) (fun f i q => by rw [up2_n (by omega)])
  · exact Rg_c h.g (fun k r i q => by rw [up4_nk (by omega)]) (fun f i q => by rw [up2_n (by omega)])
  · exact Rz_c h.z (fun k r i q => by rw [up4_nk (by omega)]) 
  · exact Rl_c h.l (fun k r i q => by rw [up4_nk (by omega)]) (fun f i q => by rw [up2_n (by omega)])
  · exact Rv_c h.v (fun k r i q => by rw [up4_nk (by omega)]) (fun f i q => by rw [up2_n (by omega)])
theorem st_settle0 {d : Bool} {s t : Sg} {D : Dy} {eb er : Nat} {Z : Zt} {σ : Sg} (h : Cg d s t D eb er Z σ) {b p : Nat} (hb : b < nB t) (hp : p < nP t) (hP : nP t ≤ 12) (h11 : ¬ D 11 b = nI 0) (h14 : D 14 b = nI 0) (heb : ∀ c, c < nB t → ¬ c = b → ¬ c = eb) : Cg d s t (up2 (up2 D 11 b (nI 0)) 12 b (nI p)) 60 er Z (up4 (up4 (up4 (up4 σ 32 d 1 b (nI 0)) 32 d 2 b (nI p)) 29 d 0 p (nI (thr t D p + 1))) 30 d 0 p (nI (gdn t D p + 1))) := by
  refine ⟨h.1, Fr_w (Fr_w (Fr_w (Fr_w (h.2.1) _ (by omega)) _ (by omega)) _ (by omega)) _ (by omega), ?_, ?_, ?_, ?_, ?_, ?_, ?_, ?_, ?_, ?_⟩
  · exact Rm_c h.m (fun k r i q => by rw [up4_nk (by omega)]; rw [up4_nk (by omega)]; rw [up4_nk (by omega)]; rw [up4_nk (by omega)]) (fun i q => by rw [up2_n (by omega)]; rw [up2_n (by omega)])
  · exact Rp_c h.p (fun k r i q => by rw [up4_nk (by omega)]; rw [up4_nk (by omega)]; rw [up4_nk (by omega)]; rw [up4_nk (by omega)]) (fun f i q => by rw [up2_n (by omega)]; rw [up2_n (by omega)])
  · intro p2 hp2
    obtain ⟨a1, a2⟩ := thr_in (D := D) (D' := up2 (up2 D 11 b (nI 0)) 12 b (nI p)) hb (fun c f hc hf => by rw [up2_n (by omega), up2_n (by omega)]) p2 h11 (by rw [up2_n (by omega), up2_s]) (up2_s _ _ _ _) (by omega) (by omega)
    rw [a1, a2, up2_n (f := 12) (g := 14) (by omega), up2_n (f := 11) (g := 14) (by omega)]
    have h0 := h.c p2 hp2
    refine ⟨?_, ?_⟩
    · rw [up4_nk (by decide)]; unfold up4
      by_cases e : p2 = p
      · rw [if_pos ⟨rfl, rfl, rfl, e⟩, if_pos e, e]
      · rw [if_neg (fun q => e q.2.2.2), if_neg (fun q => absurd q.1 (by decide)), if_neg (fun q => absurd q.1 (by decide)), if_neg e]
        exact h0.1
    · by_cases e : p2 = p
      · rw [if_pos ⟨e, h14⟩, e, up4_s]
      · rw [if_neg (fun q => e q.1), up4_nj e, up4_nk (by decide), up4_nk (by decide), up4_nk (by decide)]
        exact h0.2
  · exact Rw_c h.w (fun k r i q => by rw [up4_nk (by omega)]; rw [up4_nk (by omega)]; rw [up4_nk (by omega)]; rw [up4_nk (by omega)]) (fun r q => by rw [up2_n (by omega)]; rw [up2_n (by omega)])
  · intro c hc
    have h0 := h.b c hc
    by_cases e : c = b
    · subst e
      refine ⟨⟨?_, ?_, ?_⟩, fun _ => ⟨?_, ?_⟩⟩
      · simp [up4, up2]
      · simp [up4, up2]; exact h0.1.2.1
      · simp [up4, up2]; exact h0.1.2.2
      · simp [up4, up2, show ¬ nI 0 = nI 2 by decide]
      · simp [up2, show ¬ nI 0 = nI 3 by decide]
    · refine ⟨⟨?_, ?_, ?_⟩, fun h9 => ⟨?_, ?_⟩⟩
      · simp [up4, up2, e]; exact h0.1.1
      · simp [up4, up2, e]; exact h0.1.2.1
      · simp [up4, up2, e]; exact h0.1.2.2
      · have h8 := (h0.2 (heb c hc e)).1
        simp [up4, up2, e]; exact h8
      · have h8 := (h0.2 (heb c hc e)).2
        simp [up4, up2, e]; exact h8
  · exact Rr_c h.r (fun k r i q => by rw [up4_nk (by omega)]; rw [up4_nk (by omega)]; rw [up4_nk (by omega)]; rw [up4_nk (by omega)]) (fun f i q => by rw [up2_n (by omega)]; rw [up2_n (by omega)])
  · exact Rg_c h.g (fun k r i q => by rw [up4_nk (by omega)]; rw [up4_nk (by omega)]; rw [up4_nk (by omega)]; rw [up4_nk (by omega)]) (fun f i q => by rw [up2_n (by omega)]; rw [up2_n (by omega)])
  · exact Rz_c h.z (fun k r i q => by rw [up4_nk (by omega)]; rw [up4_nk (by omega)]; rw [up4_nk (by omega)]; rw [up4_nk (by omega)]) 
  · exact Rl_c h.l (fun k r i q => by rw [up4_nk (by omega)]; rw [up4_nk (by omega)]; rw [up4_nk (by omega)]; rw [up4_nk (by omega)]) (fun f i q => by rw [up2_n (by omega)]; rw [up2_n (by omega)])
  · exact Rv_c h.v (fun k r i q => by rw [up4_nk (by omega)]; rw [up4_nk (by omega)]; rw [up4_nk (by omega)]; rw [up4_nk (by omega)]) (fun f i q => by rw [up2_n (by omega)]; rw [up2_n (by omega)])
theorem st_settle1 {d : Bool} {s t : Sg} {D : Dy} {eb er : Nat} {Z : Zt} {σ : Sg} (h : Cg d s t D eb er Z σ) {b p : Nat} (hb : b < nB t) (hp : p < nP t) (hP : nP t ≤ 12) (h11 : ¬ D 11 b = nI 0) (h14 : ¬ D 14 b = nI 0) (heb : ∀ c, c < nB t → ¬ c = b → ¬ c = eb) : Cg d s t (up2 (up2 D 11 b (nI 0)) 12 b (nI p)) 60 er Z (up4 (up4 (up4 σ 32 d 1 b (nI 0)) 32 d 2 b (nI p)) 29 d 0 p (nI (thr t D p + 1))) := by
  refine ⟨h.1, Fr_w (Fr_w (Fr_w (h.2.1) _ (by omega)) _ (by omega)) _ (by omega), ?_, ?_, ?_, ?_, ?_, ?_, ?_, ?_, ?_, ?_⟩
  · exact Rm_c h.m (fun k r i q => by rw [up4_nk (by omega)]; rw [up4_nk (by omega)]; rw [up4_nk (by omega)]) (fun i q => by rw [up2_n (by omega)]; rw [up2_n (by omega)])
  · exact Rp_c h.p (fun k r i q => by rw [up4_nk (by omega)]; rw [up4_nk (by omega)]; rw [up4_nk (by omega)]) (fun f i q => by rw [up2_n (by omega)]; rw [up2_n (by omega)])
  · intro p2 hp2
    obtain ⟨a1, a2⟩ := thr_in (D := D) (D' := up2 (up2 D 11 b (nI 0)) 12 b (nI p)) hb (fun c f hc hf => by rw [up2_n (by omega), up2_n (by omega)]) p2 h11 (by rw [up2_n (by omega), up2_s]) (up2_s _ _ _ _) (by omega) (by omega)
    rw [a1, a2, up2_n (f := 12) (g := 14) (by omega), up2_n (f := 11) (g := 14) (by omega)]
    have h0 := h.c p2 hp2
    refine ⟨?_, ?_⟩
    · unfold up4
      by_cases e : p2 = p
      · rw [if_pos ⟨rfl, rfl, rfl, e⟩, if_pos e, e]
      · rw [if_neg (fun q => e q.2.2.2), if_neg (fun q => absurd q.1 (by decide)), if_neg (fun q => absurd q.1 (by decide)), if_neg e]
        exact h0.1
    · by_cases e : p2 = p
      · rw [if_neg (fun q => h14 q.2), up4_nk (by decide), up4_nk (by decide), up4_nk (by decide)]
        exact h0.2
      · rw [if_neg (fun q => h14 q.2), up4_nk (by decide), up4_nk (by decide), up4_nk (by decide)]
        exact h0.2
  · exact Rw_c h.w (fun k r i q => by rw [up4_nk (by omega)]; rw [up4_nk (by omega)]; rw [up4_nk (by omega)]) (fun r q => by rw [up2_n (by omega)]; rw [up2_n (by omega)])
  · intro c hc
    have h0 := h.b c hc
    by_cases e : c = b
    · subst e
      refine ⟨⟨?_, ?_, ?_⟩, fun _ => ⟨?_, ?_⟩⟩
      · simp [up4, up2]
      · simp [up4, up2]; exact h0.1.2.1
      · simp [up4, up2]; exact h0.1.2.2
      · simp [up4, up2, show ¬ nI 0 = nI 2 by decide]
      · simp [up2, show ¬ nI 0 = nI 3 by decide]
    · refine ⟨⟨?_, ?_, ?_⟩, fun h9 => ⟨?_, ?_⟩⟩
      · simp [up4, up2, e]; exact h0.1.1
      · simp [up4, up2, e]; exact h0.1.2.1
      · simp [up4, up2, e]; exact h0.1.2.2
      · have h8 := (h0.2 (heb c hc e)).1
        simp [up4, up2, e]; exact h8
      · have h8 := (h0.2 (heb c hc e)).2
        simp [up4, up2, e]; exact h8
  · exact Rr_c h.r (fun k r i q => by rw [up4_nk (by omega)]; rw [up4_nk (by omega)]; rw [up4_nk (by omega)]) (fun f i q => by rw [up2_n (by omega)]; rw [up2_n (by omega)])
  · exact Rg_c h.g (fun k r i q => by rw [up4_nk (by omega)]; rw [up4_nk (by omega)]; rw [up4_nk (by omega)]) (fun f i q => by rw [up2_n (by omega)]; rw [up2_n (by omega)])
  · exact Rz_c h.z (fun k r i q => by rw [up4_nk (by omega)]; rw [up4_nk (by omega)]; rw [up4_nk (by omega)]) 
  · exact Rl_c h.l (fun k r i q => by rw [up4_nk (by omega)]; rw [up4_nk (by omega)]; rw [up4_nk (by omega)]) (fun f i q => by rw [up2_n (by omega)]; rw [up2_n (by omega)])
  · exact Rv_c h.v (fun k r i q => by rw [up4_nk (by omega)]; rw [up4_nk (by omega)]; rw [up4_nk (by omega)]) (fun f i q => by rw [up2_n (by omega)]; rw [up2_n (by omega)])
theorem st_lift0 {d : Bool} {s t : Sg} {D : Dy} {eb er : Nat} {Z : Zt} {σ : Sg} (h : Cg d s t D eb er Z σ) {b p q : Nat} (hb : b < nB t) (hp : p < nP t) (hP : nP t ≤ 12) (h11 : D 11 b = nI 0) (h12 : D 12 b = nI p) (hq : ¬ q = 0) (hq4 : q ≤ 4) (h14 : D 14 b = nI 0) (heb : ∀ c, c < nB t → ¬ c = eb) : Cg d s t (up2 D 11 b (nI q)) b er Z (up4 (up4 (up4 σ 32 d 1 b (nI q)) 29 d 0 p (nI (thr t D p - 1))) 30 d 0 p (nI (gdn t D p - 1))) := by
  refine ⟨h.1, Fr_w (Fr_w (Fr_w (h.2.1) _ (by omega)) _ (by omega)) _ (by omega), ?_, ?_, ?_, ?_, ?_, ?_, ?_, ?_, ?_, ?_⟩
  · exact Rm_c h.m (fun k r i q => by rw [up4_nk (by omega)]; rw [up4_nk (by omega)]; rw [up4_nk (by omega)]) (fun i q => by rw [up2_n (by omega)])
  · exact Rp_c h.p (fun k r i q => by rw [up4_nk (by omega)]; rw [up4_nk (by omega)]; rw [up4_nk (by omega)]) (fun f i q => by rw [up2_n (by omega)])
  · intro p2 hp2
    have hq0 : ¬ nI q = nI 0 := fun z => hq (nI_inj z (by omega) (by omega))
    obtain ⟨a1, a2⟩ := thr_in (D := up2 D 11 b (nI q)) (D' := D) hb (fun c f hc hf => (up2_n (by omega)).symm) p2 (by rw [up2_s]; exact hq0) h11 h12 (by omega) (by omega)
    have h0 := h.c p2 hp2
    refine ⟨?_, ?_⟩
    · rw [up4_nk (by decide)]; unfold up4
      by_cases e : p2 = p
      · rw [if_pos ⟨rfl, rfl, rfl, e⟩]
        rw [if_pos e] at a1
        rw [← e, a1, Nat.add_sub_cancel]
      · rw [if_neg e, Nat.add_zero] at a1
        rw [if_neg (fun q => e q.2.2.2), if_neg (fun q => absurd q.1 (by decide)), ← a1]
        exact h0.1
    · by_cases e : p2 = p
      · rw [if_pos ⟨e, h14⟩] at a2
        rw [e, up4_s]
        rw [e] at a2
        rw [a2, Nat.add_sub_cancel]
      · rw [if_neg (fun q => e q.1), Nat.add_zero] at a2
        rw [up4_nj e, up4_nk (by decide), up4_nk (by decide), ← a2]
        exact h0.2
  · exact Rw_c h.w (fun k r i q => by rw [up4_nk (by omega)]; rw [up4_nk (by omega)]; rw [up4_nk (by omega)]) (fun r q => by rw [up2_n (by omega)])
  · intro c hc
    have h0 := h.b c hc
    by_cases e : c = b
    · subst e
      refine ⟨⟨?_, ?_, ?_⟩, fun h9 => absurd rfl h9⟩
      · simp [up4, up2]
      · simp [up4, up2]; exact h0.1.2.1
      · simp [up4, up2]; exact h0.1.2.2
    · refine ⟨⟨?_, ?_, ?_⟩, fun h9 => ⟨?_, ?_⟩⟩
      · simp [up4, up2, e]; exact h0.1.1
      · simp [up4, up2, e]; exact h0.1.2.1
      · simp [up4, up2, e]; exact h0.1.2.2
      · have h8 := (h0.2 (heb c hc)).1
        simp [up4, up2, e]; exact h8
      · have h8 := (h0.2 (heb c hc)).2
        simp [up4, up2, e]; exact h8
  · exact Rr_c h.r (fun k r i q => by rw [up4_nk (by omega)]; rw [up4_nk (by omega)]; rw [up4_nk (by omega)]) (fun f i q => by rw [up2_n (by omega)])
  · exact Rg_c h.g (fun k r i q => by rw [up4_nk (by omega)]; rw [up4_nk (by omega)]; rw [up4_nk (by omega)]) (fun f i q => by rw [up2_n (by omega)])
  · exact Rz_c h.z (fun k r i q => by rw [up4_nk (by omega)]; rw [up4_nk (by omega)]; rw [up4_nk (by omega)]) 
  · exact Rl_c h.l (fun k r i q => by rw [up4_nk (by omega)]; rw [up4_nk (by omega)]; rw [up4_nk (by omega)]) (fun f i q => by rw [up2_n (by omega)])
  · exact Rv_c h.v (fun k r i q => by rw [up4_nk (by omega)]; rw [up4_nk (by omega)]; rw [up4_nk (by omega)]) (fun f i q => by rw [up2_n (by omega)])
theorem st_lift1 {d : Bool} {s t : Sg} {D : Dy} {eb er : Nat} {Z : Zt} {σ : Sg} (h : Cg d s t D eb er Z σ) {b p q : Nat} (hb : b < nB t) (hp : p < nP t) (hP : nP t ≤ 12) (h11 : D 11 b = nI 0) (h12 : D 12 b = nI p) (hq : ¬ q = 0) (hq4 : q ≤ 4) (h14 : ¬ D 14 b = nI 0) (heb : ∀ c, c < nB t → ¬ c = eb) : Cg d s t (up2 D 11 b (nI q)) b er Z (up4 (up4 σ 32 d 1 b (nI q)) 29 d 0 p (nI (thr t D p - 1))) := by
  refine ⟨h.1, Fr_w (Fr_w (h.2.1) _ (by omega)) _ (by omega), ?_, ?_, ?_, ?_, ?_, ?_, ?_, ?_, ?_, ?_⟩
  · exact Rm_c h.m (fun k r i q => by rw [up4_nk (by omega)]; rw [up4_nk (by omega)]) (fun i q => by rw [up2_n (by omega)])
  · exact Rp_c h.p (fun k r i q => by rw [up4_nk (by omega)]; rw [up4_nk (by omega)]) (fun f i q => by rw [up2_n (by omega)])
  · intro p2 hp2
    have hq0 : ¬ nI q = nI 0 := fun z => hq (nI_inj z (by omega) (by omega))
    obtain ⟨a1, a2⟩ := thr_in (D := up2 D 11 b (nI q)) (D' := D) hb (fun c f hc hf => (up2_n (by omega)).symm) p2 (by rw [up2_s]; exact hq0) h11 h12 (by omega) (by omega)
    have h0 := h.c p2 hp2
    refine ⟨?_, ?_⟩
    · unfold up4
      by_cases e : p2 = p
      · rw [if_pos ⟨rfl, rfl, rfl, e⟩]
        rw [if_pos e] at a1
        rw [← e, a1, Nat.add_sub_cancel]
      · rw [if_neg e, Nat.add_zero] at a1
        rw [if_neg (fun q => e q.2.2.2), if_neg (fun q => absurd q.1 (by decide)), ← a1]
        exact h0.1
    · by_cases e : p2 = p
      · rw [if_neg (fun q => h14 q.2), Nat.add_zero] at a2
        rw [up4_nk (by decide), up4_nk (by decide), ← a2]
        exact h0.2
      · rw [if_neg (fun q => h14 q.2), Nat.add_zero] at a2
        rw [up4_nk (by decide), up4_nk (by decide), ← a2]
        exact h0.2
  · exact Rw_c h.w (fun k r i q => by rw [up4_nk (by omega)]; rw [up4_nk (by omega)]) (fun r q => by rw [up2_n (by omega)])
  · intro c hc
    have h0 := h.b c hc
    by_cases e : c = b
    · subst e
      refine ⟨⟨?_, ?_, ?_⟩, fun h9 => absurd rfl h9⟩
      · simp [up4, up2]
      · simp [up4, up2]; exact h0.1.2.1
      · simp [up4, up2]; exact h0.1.2.2
    · refine ⟨⟨?_, ?_, ?_⟩, fun h9 => ⟨?_, ?_⟩⟩
      · simp [up4, up2, e]; exact h0.1.1
      · simp [up4, up2, e]; exact h0.1.2.1
      · simp [up4, up2, e]; exact h0.1.2.2
      · have h8 := (h0.2 (heb c hc)).1
        simp [up4, up2, e]; exact h8
      · have h8 := (h0.2 (heb c hc)).2
        simp [up4, up2, e]; exact h8
  · exact Rr_c h.r (fun k r i q => by rw [up4_nk (by omega)]; rw [up4_nk (by omega)]) (fun f i q => by rw [up2_n (by omega)])
  · exact Rg_c h.g (fun k r i q => by rw [up4_nk (by omega)]; rw [up4_nk (by omega)]) (fun f i q => by rw [up2_n (by omega)])
  · exact Rz_c h.z (fun k r i q => by rw [up4_nk (by omega)]; rw [up4_nk (by omega)]) 
  · exact Rl_c h.l (fun k r i q => by rw [up4_nk (by omega)]; rw [up4_nk (by omega)]) (fun f i q => by rw [up2_n (by omega)])
  · exact Rv_c h.v (fun k r i q => by rw [up4_nk (by omega)]; rw [up4_nk (by omega)]) (fun f i q => by rw [up2_n (by omega)])
theorem st_pos {d : Bool} {s t : Sg} {D : Dy} {eb er : Nat} {Z : Zt} {σ : Sg} (h : Cg d s t D eb er Z σ) {b : Nat} {v2 : Int32} (h11 : ¬ D 11 b = nI 0) (h112 : ¬ D 11 b = nI 2) (h33 : D 11 b = nI 3 → σ 33 d 0 b = D 15 b) (heb : ∀ c, c < nB t → ¬ c = b → ¬ c = eb) : Cg d s t (up2 D 12 b v2) 60 er Z (up4 σ 32 d 2 b v2) := by
  refine ⟨h.1, Fr_w (h.2.1) _ (by omega), ?_, ?_, ?_, ?_, ?_, ?_, ?_, ?_, ?_, ?_⟩
  · exact Rm_c h.m (fun k r i q => by rw [up4_nk (by omega)]) (fun i q => by rw [up2_n (by omega)])
  · exact Rp_c h.p (fun k r i q => by rw [up4_nk (by omega)]) (fun f i q => by rw [up2_n (by omega)])
  · intro p2 hp2
    obtain ⟨a1, a2⟩ := thr_na (t := t) (D := D) (D' := up2 D 12 b v2) (b := b) (p := p2) (fun c f hc hf => up2_n (by omega)) h11 (by rw [up2_n (by omega)]; exact h11)
    rw [a1, a2, up4_nk (by decide), up4_nk (by decide)]
    exact h.c p2 hp2
  · exact Rw_c h.w (fun k r i q => by rw [up4_nk (by omega)]) (fun r q => by rw [up2_n (by omega)])
  · intro c hc
    have h0 := h.b c hc
    by_cases e : c = b
    · subst e
      refine ⟨⟨?_, ?_, ?_⟩, fun _ => ⟨?_, ?_⟩⟩
      · simp [up4, up2]; exact h0.1.1
      · simp [up4, up2]; exact h0.1.2.1
      · simp [up4, up2]; exact h0.1.2.2
      · rw [up4_s, up2_n (by omega), if_neg h112, up2_s]
      · rw [up4_nk (by decide), up2_n (by omega), up2_n (by omega)]
        exact h33
    · refine ⟨⟨?_, ?_, ?_⟩, fun h9 => ⟨?_, ?_⟩⟩
      · simp [up4, up2]; exact h0.1.1
      · simp [up4, up2]; exact h0.1.2.1
      · simp [up4, up2]; exact h0.1.2.2
      · have h8 := (h0.2 (heb c hc e)).1
        simp [up4, up2, e]; exact h8
      · have h8 := (h0.2 (heb c hc e)).2
        simp [up4, up2]; exact h8
  · exact Rr_c h.r (fun k r i q => by rw [up4_nk (by omega)]) (fun f i q => by rw [up2_n (by omega)])
  · exact Rg_c h.g (fun k r i q => by rw [up4_nk (by omega)]) (fun f i q => by rw [up2_n (by omega)])
  · exact Rz_c h.z (fun k r i q => by rw [up4_nk (by omega)]) 
  · exact Rl_c h.l (fun k r i q => by rw [up4_nk (by omega)]) (fun f i q => by rw [up2_n (by omega)])
  · exact Rv_c h.v (fun k r i q => by rw [up4_nk (by omega)]) (fun f i q => by rw [up2_n (by omega)])
theorem st_posv {d : Bool} {s t : Sg} {D : Dy} {eb er : Nat} {Z : Zt} {σ : Sg} (h : Cg d s t D eb er Z σ) {b : Nat} (h11 : D 11 b = nI 2) (heb : ∀ c, c < nB t → ¬ c = b → ¬ c = eb) : Cg d s t D 60 er Z (up4 σ 32 d 2 b (-1)) := by
  refine ⟨h.1, Fr_w (h.2.1) _ (by omega), ?_, ?_, ?_, ?_, ?_, ?_, ?_, ?_, ?_, ?_⟩
  · exact Rm_c h.m (fun k r i q => by rw [up4_nk (by omega)]) (fun i q => rfl)
  · exact Rp_c h.p (fun k r i q => by rw [up4_nk (by omega)]) (fun f i q => rfl)
  · exact Rc_c h.c (fun k r i q => by rw [up4_nk (by omega)]) (fun f i q => rfl)
  · exact Rw_c h.w (fun k r i q => by rw [up4_nk (by omega)]) (fun r q => rfl)
  · intro c hc
    have h0 := h.b c hc
    by_cases e : c = b
    · subst e
      refine ⟨⟨?_, ?_, ?_⟩, fun _ => ⟨?_, ?_⟩⟩
      · simp [up4]; exact h0.1.1
      · simp [up4]; exact h0.1.2.1
      · simp [up4]; exact h0.1.2.2
      · rw [up4_s, if_pos h11]
      · rw [h11]
        exact fun z => absurd z (by decide)
    · refine ⟨⟨?_, ?_, ?_⟩, fun h9 => ⟨?_, ?_⟩⟩
      · simp [up4]; exact h0.1.1
      · simp [up4]; exact h0.1.2.1
      · simp [up4]; exact h0.1.2.2
      · have h8 := (h0.2 (heb c hc e)).1
        simp [up4, e]; exact h8
      · have h8 := (h0.2 (heb c hc e)).2
        simp [up4]; exact h8
  · exact Rr_c h.r (fun k r i q => by rw [up4_nk (by omega)]) (fun f i q => rfl)
  · exact Rg_c h.g (fun k r i q => by rw [up4_nk (by omega)]) (fun f i q => rfl)
  · exact Rz_c h.z (fun k r i q => by rw [up4_nk (by omega)]) 
  · exact Rl_c h.l (fun k r i q => by rw [up4_nk (by omega)]) (fun f i q => rfl)
  · exact Rv_c h.v (fun k r i q => by rw [up4_nk (by omega)]) (fun f i q => rfl)
theorem st_wear {d : Bool} {s t : Sg} {D : Dy} {eb er : Nat} {Z : Zt} {σ : Sg} (h : Cg d s t D eb er Z σ) {b : Nat} {v : Int32}  : Cg d s t (up2 D 13 b v) eb er Z (up4 σ 32 d 3 b v) := by
  refine ⟨h.1, Fr_w (h.2.1) _ (by omega), ?_, ?_, ?_, ?_, ?_, ?_, ?_, ?_, ?_, ?_⟩
  · exact Rm_c h.m (fun k r i q => by rw [up4_nk (by omega)]) (fun i q => by rw [up2_n (by omega)])
  · exact Rp_c h.p (fun k r i q => by rw [up4_nk (by omega)]) (fun f i q => by rw [up2_n (by omega)])
  · exact Rc_c h.c (fun k r i q => by rw [up4_nk (by omega)]) (fun f i q => by rw [up2_n (by omega)])
  · exact Rw_c h.w (fun k r i q => by rw [up4_nk (by omega)]) (fun r q => by rw [up2_n (by omega)])
  · intro c hc
    have h0 := h.b c hc
    refine ⟨⟨?_, par_u (fun _ => h0.1.2.1), ?_⟩, fun h9 => ⟨?_, ?_⟩⟩
    · simp [up4, up2]; exact h0.1.1
    · simp [up4, up2]; exact h0.1.2.2
    · have h8 := (h0.2 h9).1
      simp [up4, up2]; exact h8
    · have h8 := (h0.2 h9).2
      simp [up4, up2]; exact h8
  · exact Rr_c h.r (fun k r i q => by rw [up4_nk (by omega)]) (fun f i q => by rw [up2_n (by omega)])
  · exact Rg_c h.g (fun k r i q => by rw [up4_nk (by omega)]) (fun f i q => by rw [up2_n (by omega)])
  · exact Rz_c h.z (fun k r i q => by rw [up4_nk (by omega)]) 
  · exact Rl_c h.l (fun k r i q => by rw [up4_nk (by omega)]) (fun f i q => by rw [up2_n (by omega)])
  · exact Rv_c h.v (fun k r i q => by rw [up4_nk (by omega)]) (fun f i q => by rw [up2_n (by omega)])
theorem st_fty {d : Bool} {s t : Sg} {D : Dy} {eb er : Nat} {Z : Zt} {σ : Sg} (h : Cg d s t D eb er Z σ) {b : Nat} {v2 : Int32} (h11 : ¬ D 11 b = nI 0) : Cg d s t (up2 D 14 b v2) eb er Z (up4 σ 32 d 4 b v2) := by
  refine ⟨h.1, Fr_w (h.2.1) _ (by omega), ?_, ?_, ?_, ?_, ?_, ?_, ?_, ?_, ?_, ?_⟩
  · exact Rm_c h.m (fun k r i q => by rw [up4_nk (by omega)]) (fun i q => by rw [up2_n (by omega)])
  · exact Rp_c h.p (fun k r i q => by rw [up4_nk (by omega)]) (fun f i q => by rw [up2_n (by omega)])
  · intro p2 hp2
    obtain ⟨a1, a2⟩ := thr_na (t := t) (D := D) (D' := up2 D 14 b v2) (b := b) (p := p2) (fun c f hc hf => up2_n (by omega)) h11 (by rw [up2_n (by omega)]; exact h11)
    rw [a1, a2, up4_nk (by decide), up4_nk (by decide)]
    exact h.c p2 hp2
  · exact Rw_c h.w (fun k r i q => by rw [up4_nk (by omega)]) (fun r q => by rw [up2_n (by omega)])
  · intro c hc
    have h0 := h.b c hc
    refine ⟨⟨?_, ?_, par_u (fun _ => h0.1.2.2)⟩, fun h9 => ⟨?_, ?_⟩⟩
    · simp [up4, up2]; exact h0.1.1
    · simp [up4, up2]; exact h0.1.2.1
    · have h8 := (h0.2 h9).1
      simp [up4, up2]; exact h8
    · have h8 := (h0.2 h9).2
      simp [up4, up2]; exact h8
  · exact Rr_c h.r (fun k r i q => by rw [up4_nk (by omega)]) (fun f i q => by rw [up2_n (by omega)])
  · exact Rg_c h.g (fun k r i q => by rw [up4_nk (by omega)]) (fun f i q => by rw [up2_n (by omega)])
  · exact Rz_c h.z (fun k r i q => by rw [up4_nk (by omega)]) 
  · exact Rl_c h.l (fun k r i q => by rw [up4_nk (by omega)]) (fun f i q => by rw [up2_n (by omega)])
  · exact Rv_c h.v (fun k r i q => by rw [up4_nk (by omega)]) (fun f i q => by rw [up2_n (by omega)])
theorem st_tell {d : Bool} {s t : Sg} {D : Dy} {eb er : Nat} {Z : Zt} {σ : Sg} (h : Cg d s t D eb er Z σ) {b p : Nat} (hb : b < nB t) (hp : p < nP t) (hP : nP t ≤ 12) (h11 : D 11 b = nI 0) (h12 : D 12 b = nI p) (h14 : D 14 b = nI 0) : Cg d s t (up2 D 14 b (nI 1)) eb er Z (up4 (up4 σ 32 d 4 b (nI 1)) 30 d 0 p (nI (gdn t D p - 1))) := by
  refine ⟨h.1, Fr_w (Fr_w (h.2.1) _ (by omega)) _ (by omega), ?_, ?_, ?_, ?_, ?_, ?_, ?_, ?_, ?_, ?_⟩
  · exact Rm_c h.m (fun k r i q => by rw [up4_nk (by omega)]; rw [up4_nk (by omega)]) (fun i q => by rw [up2_n (by omega)])
  · exact Rp_c h.p (fun k r i q => by rw [up4_nk (by omega)]; rw [up4_nk (by omega)]) (fun f i q => by rw [up2_n (by omega)])
  · intro p2 hp2
    have h0 := h.c p2 hp2
    have e2 := ct_one (p := isG (up2 D 14 b (nI 1)) p2) (q := isG D p2) (i := b) (n := nB t) hb (fun c _ hc => by unfold isG isA; rw [up2_n (by omega), up2_n (by omega), up2_n (by omega)])
    have f1 : isG (up2 D 14 b (nI 1)) p2 b = false := by unfold isG; rw [up2_s]; simp [show ¬ nI 1 = nI 0 by decide]
    have f2 : isG D p2 b = decide (p2 = p) := by
      unfold isG isA
      rw [h11, h12, h14, decide_eq_true rfl, Bool.true_and, Bool.and_true]
      exact decide_eq_decide.mpr (by rw [nI_eq (by omega) (by omega)]; exact ⟨fun z => z.symm, fun z => z.symm⟩)
    rw [f1, f2] at e2
    refine ⟨?_, ?_⟩
    · rw [up4_nk (by decide), up4_nk (by decide)]
      have e1 : thr t (up2 D 14 b (nI 1)) p2 = thr t D p2 := thr_cong (fun c => ⟨up2_n (by omega), up2_n (by omega)⟩)
      rw [e1]
      exact h0.1
    · by_cases e : p2 = p
      · rw [e, up4_s]
        simp [e] at e2
        unfold gdn
        rw [← e2, Nat.add_sub_cancel]
      · rw [up4_nj e, up4_nk (by decide)]
        simp [e] at e2
        have e3 : gdn t (up2 D 14 b (nI 1)) p2 = gdn t D p2 := e2
        rw [e3]
        exact h0.2
  · exact Rw_c h.w (fun k r i q => by rw [up4_nk (by omega)]; rw [up4_nk (by omega)]) (fun r q => by rw [up2_n (by omega)])
  · intro c hc
    have h0 := h.b c hc
    refine ⟨⟨?_, ?_, ?_⟩, fun h9 => ⟨?_, ?_⟩⟩
    · simp [up4, up2]; exact h0.1.1
    · simp [up4, up2]; exact h0.1.2.1
    · rw [up4_nk (by decide)]; exact par_u (fun _ => h0.1.2.2)
    · have h8 := (h0.2 h9).1
      simp [up4, up2]; exact h8
    · have h8 := (h0.2 h9).2
      simp [up4, up2]; exact h8
  · exact Rr_c h.r (fun k r i q => by rw [up4_nk (by omega)]; rw [up4_nk (by omega)]) (fun f i q => by rw [up2_n (by omega)])
  · exact Rg_c h.g (fun k r i q => by rw [up4_nk (by omega)]; rw [up4_nk (by omega)]) (fun f i q => by rw [up2_n (by omega)])
  · exact Rz_c h.z (fun k r i q => by rw [up4_nk (by omega)]; rw [up4_nk (by omega)]) 
  · exact Rl_c h.l (fun k r i q => by rw [up4_nk (by omega)]; rw [up4_nk (by omega)]) (fun f i q => by rw [up2_n (by omega)])
  · exact Rv_c h.v (fun k r i q => by rw [up4_nk (by omega)]; rw [up4_nk (by omega)]) (fun f i q => by rw [up2_n (by omega)])
theorem st_rdy {d : Bool} {s t : Sg} {D : Dy} {eb er : Nat} {Z : Zt} {σ : Sg} (h : Cg d s t D eb er Z σ) {b : Nat} {v : Int32} (hpos : b < nB t → σ 32 d 2 b = (if D 11 b = nI 2 then -1 else D 12 b)) (heb : ∀ c, c < nB t → ¬ c = b → ¬ c = eb) : Cg d s t (up2 D 15 b v) 60 er Z (up4 σ 33 d 0 b v) := by
  refine ⟨h.1, Fr_w (h.2.1) _ (by omega), ?_, ?_, ?_, ?_, ?_, ?_, ?_, ?_, ?_, ?_⟩
  · exact Rm_c h.m (fun k r i q => by rw [up4_nk (by omega)]) (fun i q => by rw [up2_n (by omega)])
  · exact Rp_c h.p (fun k r i q => by rw [up4_nk (by omega)]) (fun f i q => by rw [up2_n (by omega)])
  · exact Rc_c h.c (fun k r i q => by rw [up4_nk (by omega)]) (fun f i q => by rw [up2_n (by omega)])
  · exact Rw_c h.w (fun k r i q => by rw [up4_nk (by omega)]) (fun r q => by rw [up2_n (by omega)])
  · intro c hc
    have h0 := h.b c hc
    by_cases e : c = b
    · subst e
      refine ⟨⟨?_, ?_, ?_⟩, fun _ => ⟨?_, fun _ => ?_⟩⟩
      · simp [up4, up2]; exact h0.1.1
      · simp [up4, up2]; exact h0.1.2.1
      · simp [up4, up2]; exact h0.1.2.2
      · have h8 := hpos hc
        simp [up4, up2]; exact h8
      · rw [up4_s, up2_s]
    · refine ⟨⟨?_, ?_, ?_⟩, fun h9 => ⟨?_, ?_⟩⟩
      · simp [up4, up2]; exact h0.1.1
      · simp [up4, up2]; exact h0.1.2.1
      · simp [up4, up2]; exact h0.1.2.2
      · have h8 := (h0.2 (heb c hc e)).1
        simp [up4, up2]; exact h8
      · have h8 := (h0.2 (heb c hc e)).2
        simp [up4, up2, e]; exact h8
  · exact Rr_c h.r (fun k r i q => by rw [up4_nk (by omega)]) (fun f i q => by rw [up2_n (by omega)])
  · exact Rg_c h.g (fun k r i q => by rw [up4_nk (by omega)]) (fun f i q => by rw [up2_n (by omega)])
  · exact Rz_c h.z (fun k r i q => by rw [up4_nk (by omega)]) 
  · exact Rl_c h.l (fun k r i q => by rw [up4_nk (by omega)]) (fun f i q => by rw [up2_n (by omega)])
  · exact Rv_c h.v (fun k r i q => by rw [up4_nk (by omega)]) (fun f i q => by rw [up2_n (by omega)])
theorem st_rid {d : Bool} {s t : Sg} {D : Dy} {eb er : Nat} {Z : Zt} {σ : Sg} (h : Cg d s t D eb er Z σ) {r : Nat} {v : Int32} (w : Nat) (hw6 : w < 6) (hw0 : w = 0 → er = r) : Cg d s t (up2 D (16 + w) r v) eb er Z (up4 σ 34 d (w + 1) r v) := by
  refine ⟨h.1, Fr_w (h.2.1) _ (by omega), ?_, ?_, ?_, ?_, ?_, ?_, ?_, ?_, ?_, ?_⟩
  · exact Rm_c h.m (fun k r i q => by rw [up4_nk (by omega)]) (fun i q => by rw [up2_n (by omega)])
  · exact Rp_c h.p (fun k r i q => by rw [up4_nk (by omega)]) (fun f i q => by rw [up2_n (by omega)])
  · exact Rc_c h.c (fun k r i q => by rw [up4_nk (by omega)]) (fun f i q => by rw [up2_n (by omega)])
  · exact Rw_c h.w (fun k r i q => by rw [up4_nk (by omega)]) (fun r q => by rw [up2_n (by omega)])
  · exact Rb_c h.b (fun k r i q => by rw [up4_nk (by omega)]) (fun f i q => by rw [up2_n (by omega)])
  · intro r2 hr2
    have h0 := h.r r2 hr2
    refine ⟨fun w2 hw2 => ?_, fun h1 h2 => ?_⟩
    · have h8 := h0.1 w2 hw2
      unfold up4 up2
      by_cases e : w2 = w ∧ r2 = r
      · rw [if_pos ⟨rfl, rfl, by omega, e.2⟩, if_pos ⟨by omega, e.2⟩]
      · rw [if_neg (fun q => e ⟨by omega, q.2.2.2⟩), if_neg (fun q => e ⟨by omega, q.2⟩)]
        exact h8
    · rw [up4_nk (by decide), up2_n (by omega)]
      rw [up2_n (by omega)] at h2
      exact h0.2 h1 h2
  · exact Rg_c h.g (fun k r i q => by rw [up4_nk (by omega)]) (fun f i q => by rw [up2_n (by omega)])
  · exact Rz_c h.z (fun k r i q => by rw [up4_nk (by omega)]) 
  · exact Rl_c h.l (fun k r i q => by rw [up4_nk (by omega)]) (fun f i q => by rw [up2_n (by omega)])
  · exact Rv_c h.v (fun k r i q => by rw [up4_nk (by omega)]) (fun f i q => by rw [up2_n (by omega)])
theorem st_end {d : Bool} {s t : Sg} {D : Dy} {eb er : Nat} {Z : Zt} {σ : Sg} (h : Cg d s t D eb er Z σ) {r : Nat} {v : Int32}  : Cg d s t (up2 D 22 r v) eb er Z (up4 σ 35 d 0 r v) := by
  refine ⟨h.1, Fr_w (h.2.1) _ (by omega), ?_, ?_, ?_, ?_, ?_, ?_, ?_, ?_, ?_, ?_⟩
  · exact Rm_c h.m (fun k r i q => by rw [up4_nk (by omega)]) (fun i q => by rw [up2_n (by omega)])
  · exact Rp_c h.p (fun k r i q => by rw [up4_nk (by omega)]) (fun f i q => by rw [up2_n (by omega)])
  · exact Rc_c h.c (fun k r i q => by rw [up4_nk (by omega)]) (fun f i q => by rw [up2_n (by omega)])
  · exact Rw_c h.w (fun k r i q => by rw [up4_nk (by omega)]) (fun r q => by rw [up2_n (by omega)])
  · exact Rb_c h.b (fun k r i q => by rw [up4_nk (by omega)]) (fun f i q => by rw [up2_n (by omega)])
  · intro r2 hr2
    have h0 := h.r r2 hr2
    refine ⟨fun w2 hw2 => ?_, fun h1 h2 => ?_⟩
    · rw [up4_nk (by decide), up2_n (by omega)]
      exact h0.1 w2 hw2
    · rw [up2_n (by omega)] at h2
      exact par_u (fun _ => h0.2 h1 h2)
  · exact Rg_c h.g (fun k r i q => by rw [up4_nk (by omega)]) (fun f i q => by rw [up2_n (by omega)])
  · exact Rz_c h.z (fun k r i q => by rw [up4_nk (by omega)]) 
  · exact Rl_c h.l (fun k r i q => by rw [up4_nk (by omega)]) (fun f i q => by rw [up2_n (by omega)])
  · exact Rv_c h.v (fun k r i q => by rw [up4_nk (by omega)]) (fun f i q => by rw [up2_n (by omega)])
theorem wtx_out {t : Sg} {D : Dy} {r p : Nat} (hr : r < nR t) (hR : nR t ≤ 200) : wtx t D 200 p = wtx t D r p + (if D 16 r = nI 1 ∧ t 77 false 0 r = nI p then 1 else 0) := by
  have e := ct_one (p := fun c => !(c == 200) && (decide (D 16 c = nI 1) && decide (t 77 false 0 c = nI p))) (q := fun c => !(c == r) && (decide (D 16 c = nI 1) && decide (t 77 false 0 c = nI p))) (i := r) (n := nR t) hr (fun c h1 h2 => by
    have e1 : (c == 200) = false := by simp; omega
    have e2 : (c == r) = false := by simp [h2]
    rw [e1, e2])
  have e1 : (r == 200) = false := by simp; omega
  have e2 : (r == r) = true := by simp
  simp only [e1, e2, Bool.not_false, Bool.not_true, Bool.true_and, Bool.false_and] at e
  unfold wtx
  by_cases q : D 16 r = nI 1 ∧ t 77 false 0 r = nI p
  · rw [if_pos q]
    simp [q.1, q.2] at e
    exact e
  · rw [if_neg q]
    have e3 : (decide (D 16 r = nI 1) && decide (t 77 false 0 r = nI p)) = false := by
      rcases Decidable.not_and_iff_or_not.mp q with z | z
      · rw [decide_eq_false z]; rfl
      · rw [decide_eq_false z]; simp
    rw [e3] at e
    simp at e
    simpa using e
theorem wtx_n (t : Sg) (D : Dy) (p : Nat) (hR : nR t ≤ 200) : wtx t D 200 p = wtn t D p := ct_cong (fun r hr => by
  have e1 : (r == 200) = false := by simp; omega
  rw [e1]
  rfl)
theorem st_out {d : Bool} {s t : Sg} {D : Dy} {eb er : Nat} {Z : Zt} {σ : Sg} (h : Cg d s t D eb er Z σ) {r : Nat} (hr : r < nR t) (hR : nR t ≤ 200) (her : er = r) (h1 : ¬ D 16 r = nI 1) (h2 : D 16 r = nI 2 → σ 35 d 0 r = D 22 r) : Cg d s t D eb 200 Z σ := by
  refine ⟨h.1, h.2.1, ?_, ?_, ?_, ?_, ?_, ?_, ?_, ?_, ?_, ?_⟩
  · exact Rm_c h.m (fun k r i q => rfl) (fun i q => rfl)
  · exact Rp_c h.p (fun k r i q => rfl) (fun f i q => rfl)
  · exact Rc_c h.c (fun k r i q => rfl) (fun f i q => rfl)
  · intro p hp
    rw [wtx_out hr hR, if_neg (fun q => h1 q.1), Nat.add_zero, ← her]
    exact h.w p hp
  · exact Rb_c h.b (fun k r i q => rfl) (fun f i q => rfl)
  · intro r2 hr2
    have h0 := h.r r2 hr2
    refine ⟨h0.1, fun _ q => ?_⟩
    by_cases e : r2 = r
    · rw [e] at q ⊢
      exact h2 q
    · exact h0.2 (by rw [her]; exact e) q
  · exact Rg_c h.g (fun k r i q => rfl) (fun f i q => rfl)
  · exact Rz_c h.z (fun k r i q => rfl) 
  · exact Rl_c h.l (fun k r i q => rfl) (fun f i q => rfl)
  · exact Rv_c h.v (fun k r i q => rfl) (fun f i q => rfl)
theorem st_outw {d : Bool} {s t : Sg} {D : Dy} {eb er : Nat} {Z : Zt} {σ : Sg} (h : Cg d s t D eb er Z σ) {r p : Nat} (hr : r < nR t) (hR : nR t ≤ 200) (her : er = r) (hF : t 77 false 0 r = nI p) (hp : p < nP t) (hP : nP t ≤ 12) (h1 : D 16 r = nI 1) : Cg d s t D eb 200 Z (up4 σ 31 d 0 p (nI (wtx t D er p + 1))) := by
  refine ⟨h.1, Fr_w (h.2.1) _ (by omega), ?_, ?_, ?_, ?_, ?_, ?_, ?_, ?_, ?_, ?_⟩
  · exact Rm_c h.m (fun k r i q => by rw [up4_nk (by omega)]) (fun i q => rfl)
  · exact Rp_c h.p (fun k r i q => by rw [up4_nk (by omega)]) (fun f i q => rfl)
  · exact Rc_c h.c (fun k r i q => by rw [up4_nk (by omega)]) (fun f i q => rfl)
  · intro p2 hp2
    rw [wtx_out hr hR]
    by_cases e : p2 = p
    · rw [e, up4_s, if_pos ⟨h1, hF⟩, her]
    · rw [up4_nj e, if_neg (fun q => e (nI_inj (hF.symm.trans q.2) (by omega) (by omega)).symm), Nat.add_zero, ← her]
      exact h.w p2 hp2
  · exact Rb_c h.b (fun k r i q => by rw [up4_nk (by omega)]) (fun f i q => rfl)
  · intro r2 hr2
    have h0 := h.r r2 hr2
    refine ⟨fun w hw => by rw [up4_nk (by decide)]; exact h0.1 w hw, fun _ q => ?_⟩
    rw [up4_nk (by decide)]
    by_cases e : r2 = r
    · rw [e, h1] at q
      exact absurd q (by decide)
    · exact h0.2 (by rw [her]; exact e) q
  · exact Rg_c h.g (fun k r i q => by rw [up4_nk (by omega)]) (fun f i q => rfl)
  · exact Rz_c h.z (fun k r i q => by rw [up4_nk (by omega)]) 
  · exact Rl_c h.l (fun k r i q => by rw [up4_nk (by omega)]) (fun f i q => rfl)
  · exact Rv_c h.v (fun k r i q => by rw [up4_nk (by omega)]) (fun f i q => rfl)
theorem st_in {d : Bool} {s t : Sg} {D : Dy} {eb er : Nat} {Z : Zt} {σ : Sg} (h : Cg d s t D eb er Z σ) {r : Nat} (hr : r < nR t) (hR : nR t ≤ 200) (her : er = 200) (h1 : ¬ D 16 r = nI 1) : Cg d s t D eb r Z σ := by
  refine ⟨h.1, h.2.1, ?_, ?_, ?_, ?_, ?_, ?_, ?_, ?_, ?_, ?_⟩
  · exact Rm_c h.m (fun k r i q => rfl) (fun i q => rfl)
  · exact Rp_c h.p (fun k r i q => rfl) (fun f i q => rfl)
  · exact Rc_c h.c (fun k r i q => rfl) (fun f i q => rfl)
  · intro p hp
    have e := wtx_out (D := D) (p := p) hr hR
    rw [if_neg (fun q => h1 q.1), Nat.add_zero] at e
    rw [← e, ← her]
    exact h.w p hp
  · exact Rb_c h.b (fun k r i q => rfl) (fun f i q => rfl)
  · intro r2 hr2
    have h0 := h.r r2 hr2
    exact ⟨h0.1, fun _ q => h0.2 (by omega) q⟩
  · exact Rg_c h.g (fun k r i q => rfl) (fun f i q => rfl)
  · exact Rz_c h.z (fun k r i q => rfl) 
  · exact Rl_c h.l (fun k r i q => rfl) (fun f i q => rfl)
  · exact Rv_c h.v (fun k r i q => rfl) (fun f i q => rfl)
theorem st_inw {d : Bool} {s t : Sg} {D : Dy} {eb er : Nat} {Z : Zt} {σ : Sg} (h : Cg d s t D eb er Z σ) {r p : Nat} (hr : r < nR t) (hR : nR t ≤ 200) (her : er = 200) (hF : t 77 false 0 r = nI p) (hp : p < nP t) (hP : nP t ≤ 12) (h1 : D 16 r = nI 1) : Cg d s t D eb r Z (up4 σ 31 d 0 p (nI (wtx t D er p - 1))) := by
  refine ⟨h.1, Fr_w (h.2.1) _ (by omega), ?_, ?_, ?_, ?_, ?_, ?_, ?_, ?_, ?_, ?_⟩
  · exact Rm_c h.m (fun k r i q => by rw [up4_nk (by omega)]) (fun i q => rfl)
  · exact Rp_c h.p (fun k r i q => by rw [up4_nk (by omega)]) (fun f i q => rfl)
  · exact Rc_c h.c (fun k r i q => by rw [up4_nk (by omega)]) (fun f i q => rfl)
  · intro p2 hp2
    have e9 := wtx_out (D := D) (p := p2) hr hR
    by_cases e : p2 = p
    · rw [e] at e9 ⊢
      rw [if_pos ⟨h1, hF⟩] at e9
      rw [up4_s, her, e9, Nat.add_sub_cancel]
    · rw [if_neg (fun q => e (nI_inj (hF.symm.trans q.2) (by omega) (by omega)).symm), Nat.add_zero] at e9
      rw [up4_nj e, ← e9, ← her]
      exact h.w p2 hp2
  · exact Rb_c h.b (fun k r i q => by rw [up4_nk (by omega)]) (fun f i q => rfl)
  · intro r2 hr2
    have h0 := h.r r2 hr2
    exact ⟨fun w hw => by rw [up4_nk (by decide)]; exact h0.1 w hw, fun _ q => by rw [up4_nk (by decide)]; exact h0.2 (by omega) q⟩
  · exact Rg_c h.g (fun k r i q => by rw [up4_nk (by omega)]) (fun f i q => rfl)
  · exact Rz_c h.z (fun k r i q => by rw [up4_nk (by omega)]) 
  · exact Rl_c h.l (fun k r i q => by rw [up4_nk (by omega)]) (fun f i q => rfl)
  · exact Rv_c h.v (fun k r i q => by rw [up4_nk (by omega)]) (fun f i q => rfl)
theorem st_tak {d : Bool} {s t : Sg} {D : Dy} {eb er : Nat} {Z : Zt} {σ : Sg} (h : Cg d s t D eb er Z σ) {p x : Nat} {v : Int32} (hh : x < 24) : Cg d s t (up2 D 7 (24 * p + x) v) eb er Z (up4 σ 39 d (p + 1) x v) := by
  refine ⟨h.1, Fr_w (h.2.1) _ (by omega), ?_, ?_, ?_, ?_, ?_, ?_, ?_, ?_, ?_, ?_⟩
  · exact Rm_c h.m (fun k r i q => by rw [up4_nk (by omega)]) (fun i q => by rw [up2_n (by omega)])
  · exact Rp_c h.p (fun k r i q => by rw [up4_nk (by omega)]) (fun f i q => by rw [up2_n (by omega)])
  · exact Rc_c h.c (fun k r i q => by rw [up4_nk (by omega)]) (fun f i q => by rw [up2_n (by omega)])
  · exact Rw_c h.w (fun k r i q => by rw [up4_nk (by omega)]) (fun r q => by rw [up2_n (by omega)])
  · exact Rb_c h.b (fun k r i q => by rw [up4_nk (by omega)]) (fun f i q => by rw [up2_n (by omega)])
  · exact Rr_c h.r (fun k r i q => by rw [up4_nk (by omega)]) (fun f i q => by rw [up2_n (by omega)])
  · intro p2 x2 hp2 hx
    have h0 := h.g p2 x2 hp2 hx
    exact ⟨par_g hh hx h0.1, by rw [up4_nk (by decide), up2_n (by omega)]; exact h0.2.1, by rw [up4_nk (by decide), up2_n (by omega)]; exact h0.2.2⟩
  · exact Rz_c h.z (fun k r i q => by rw [up4_nk (by omega)]) 
  · exact Rl_c h.l (fun k r i q => by rw [up4_nk (by omega)]) (fun f i q => by rw [up2_n (by omega)])
  · exact Rv_c h.v (fun k r i q => by rw [up4_nk (by omega)]) (fun f i q => by rw [up2_n (by omega)])
theorem st_los {d : Bool} {s t : Sg} {D : Dy} {eb er : Nat} {Z : Zt} {σ : Sg} (h : Cg d s t D eb er Z σ) {p x : Nat} {v : Int32} (hh : x < 24) : Cg d s t (up2 D 8 (24 * p + x) v) eb er Z (up4 σ 40 d (p + 1) x v) := by
  refine ⟨h.1, Fr_w (h.2.1) _ (by omega), ?_, ?_, ?_, ?_, ?_, ?_, ?_, ?_, ?_, ?_⟩
  · exact Rm_c h.m (fun k r i q => by rw [up4_nk (by omega)]) (fun i q => by rw [up2_n (by omega)])
  · exact Rp_c h.p (fun k r i q => by rw [up4_nk (by omega)]) (fun f i q => by rw [up2_n (by omega)])
  · exact Rc_c h.c (fun k r i q => by rw [up4_nk (by omega)]) (fun f i q => by rw [up2_n (by omega)])
  · exact Rw_c h.w (fun k r i q => by rw [up4_nk (by omega)]) (fun r q => by rw [up2_n (by omega)])
  · exact Rb_c h.b (fun k r i q => by rw [up4_nk (by omega)]) (fun f i q => by rw [up2_n (by omega)])
  · exact Rr_c h.r (fun k r i q => by rw [up4_nk (by omega)]) (fun f i q => by rw [up2_n (by omega)])
  · intro p2 x2 hp2 hx
    have h0 := h.g p2 x2 hp2 hx
    exact ⟨by rw [up4_nk (by decide), up2_n (by omega)]; exact h0.1, par_g hh hx h0.2.1, by rw [up4_nk (by decide), up2_n (by omega)]; exact h0.2.2⟩
  · exact Rz_c h.z (fun k r i q => by rw [up4_nk (by omega)]) 
  · exact Rl_c h.l (fun k r i q => by rw [up4_nk (by omega)]) (fun f i q => by rw [up2_n (by omega)])
  · exact Rv_c h.v (fun k r i q => by rw [up4_nk (by omega)]) (fun f i q => by rw [up2_n (by omega)])
theorem st_emp {d : Bool} {s t : Sg} {D : Dy} {eb er : Nat} {Z : Zt} {σ : Sg} (h : Cg d s t D eb er Z σ) {p x : Nat} {v : Int32} (hh : x < 24) : Cg d s t (up2 D 9 (24 * p + x) v) eb er Z (up4 σ 41 d (p + 1) x v) := by
  refine ⟨h.1, Fr_w (h.2.1) _ (by omega), ?_, ?_, ?_, ?_, ?_, ?_, ?_, ?_, ?_, ?_⟩
  · exact Rm_c h.m (fun k r i q => by rw [up4_nk (by omega)]) (fun i q => by rw [up2_n (by omega)])
  · exact Rp_c h.p (fun k r i q => by rw [up4_nk (by omega)]) (fun f i q => by rw [up2_n (by omega)])
  · exact Rc_c h.c (fun k r i q => by rw [up4_nk (by omega)]) (fun f i q => by rw [up2_n (by omega)])
  · exact Rw_c h.w (fun k r i q => by rw [up4_nk (by omega)]) (fun r q => by rw [up2_n (by omega)])
  · exact Rb_c h.b (fun k r i q => by rw [up4_nk (by omega)]) (fun f i q => by rw [up2_n (by omega)])
  · exact Rr_c h.r (fun k r i q => by rw [up4_nk (by omega)]) (fun f i q => by rw [up2_n (by omega)])
  · intro p2 x2 hp2 hx
    have h0 := h.g p2 x2 hp2 hx
    exact ⟨by rw [up4_nk (by decide), up2_n (by omega)]; exact h0.1, by rw [up4_nk (by decide), up2_n (by omega)]; exact h0.2.1, par_g hh hx h0.2.2⟩
  · exact Rz_c h.z (fun k r i q => by rw [up4_nk (by omega)]) 
  · exact Rl_c h.l (fun k r i q => by rw [up4_nk (by omega)]) (fun f i q => by rw [up2_n (by omega)])
  · exact Rv_c h.v (fun k r i q => by rw [up4_nk (by omega)]) (fun f i q => by rw [up2_n (by omega)])
theorem st_min {d : Bool} {s t : Sg} {D : Dy} {eb er : Nat} {Z : Zt} {σ : Sg} (h : Cg d s t D eb er Z σ) {v : Int32}  : Cg d s t (up2 D 0 0 v) eb er Z (up4 σ 26 d 0 4 v) := by
  refine ⟨h.1, Fr_w (h.2.1) _ (by omega), ?_, ?_, ?_, ?_, ?_, ?_, ?_, ?_, ?_, ?_⟩
  · have h0 := h.m
    refine ⟨?_, ?_, ?_, ?_, ?_⟩
    · rw [up4_s, up2_s]
    · rw [up4_nj (by decide)]; exact h0.2.1
    · rw [up4_nk (by decide), up2_n (by omega)]; exact h0.2.2.1
    · rw [up4_nk (by decide)]; exact h0.2.2.2.1
    · rw [up4_nk (by decide), up2_n (by omega)]; exact h0.2.2.2.2
  · exact Rp_c h.p (fun k r i q => by rw [up4_nk (by omega)]) (fun f i q => by rw [up2_n (by omega)])
  · exact Rc_c h.c (fun k r i q => by rw [up4_nk (by omega)]) (fun f i q => by rw [up2_n (by omega)])
  · exact Rw_c h.w (fun k r i q => by rw [up4_nk (by omega)]) (fun r q => by rw [up2_n (by omega)])
  · exact Rb_c h.b (fun k r i q => by rw [up4_nk (by omega)]) (fun f i q => by rw [up2_n (by omega)])
  · exact Rr_c h.r (fun k r i q => by rw [up4_nk (by omega)]) (fun f i q => by rw [up2_n (by omega)])
  · exact Rg_c h.g (fun k r i q => by rw [up4_nk (by omega)]) (fun f i q => by rw [up2_n (by omega)])
  · exact Rz_c h.z (fun k r i q => by rw [up4_nk (by omega)]) 
  · exact Rl_c h.l (fun k r i q => by rw [up4_nk (by omega)]) (fun f i q => by rw [up2_n (by omega)])
  · exact Rv_c h.v (fun k r i q => by rw [up4_nk (by omega)]) (fun f i q => by rw [up2_n (by omega)])
theorem st_paid {d : Bool} {s t : Sg} {D : Dy} {eb er : Nat} {Z : Zt} {σ : Sg} (h : Cg d s t D eb er Z σ) {v : Int32}  : Cg d s t (up2 D 0 1 v) eb er Z (up4 σ 37 d 0 2 v) := by
  refine ⟨h.1, Fr_w (h.2.1) _ (by omega), ?_, ?_, ?_, ?_, ?_, ?_, ?_, ?_, ?_, ?_⟩
  · have h0 := h.m
    refine ⟨?_, ?_, ?_, ?_, ?_⟩
    · rw [up4_nk (by decide), up2_n (by omega)]; exact h0.1
    · rw [up4_nk (by decide)]; exact h0.2.1
    · rw [up4_s, up2_s]
    · rw [up4_nj (by decide)]; exact h0.2.2.2.1
    · rw [up4_nj (by decide), up2_n (by omega)]; exact h0.2.2.2.2
  · exact Rp_c h.p (fun k r i q => by rw [up4_nk (by omega)]) (fun f i q => by rw [up2_n (by omega)])
  · exact Rc_c h.c (fun k r i q => by rw [up4_nk (by omega)]) (fun f i q => by rw [up2_n (by omega)])
  · exact Rw_c h.w (fun k r i q => by rw [up4_nk (by omega)]) (fun r q => by rw [up2_n (by omega)])
  · exact Rb_c h.b (fun k r i q => by rw [up4_nk (by omega)]) (fun f i q => by rw [up2_n (by omega)])
  · exact Rr_c h.r (fun k r i q => by rw [up4_nk (by omega)]) (fun f i q => by rw [up2_n (by omega)])
  · exact Rg_c h.g (fun k r i q => by rw [up4_nk (by omega)]) (fun f i q => by rw [up2_n (by omega)])
  · exact Rz_c h.z (fun k r i q => by rw [up4_nk (by omega)]) 
  · exact Rl_c h.l (fun k r i q => by rw [up4_nk (by omega)]) (fun f i q => by rw [up2_n (by omega)])
  · exact Rv_c h.v (fun k r i q => by rw [up4_nk (by omega)]) (fun f i q => by rw [up2_n (by omega)])
theorem st_vat {d : Bool} {s t : Sg} {D : Dy} {eb er : Nat} {Z : Zt} {σ : Sg} (h : Cg d s t D eb er Z σ) {v : Int32}  : Cg d s t (up2 D 0 2 v) eb er Z (up4 σ 44 d 0 0 v) := by
  refine ⟨h.1, Fr_w (h.2.1) _ (by omega), ?_, ?_, ?_, ?_, ?_, ?_, ?_, ?_, ?_, ?_⟩
  · exact Rm_c h.m (fun k r i q => by rw [up4_nk (by omega)]) (fun i q => by rw [up2_n (by omega)])
  · exact Rp_c h.p (fun k r i q => by rw [up4_nk (by omega)]) (fun f i q => by rw [up2_n (by omega)])
  · exact Rc_c h.c (fun k r i q => by rw [up4_nk (by omega)]) (fun f i q => by rw [up2_n (by omega)])
  · exact Rw_c h.w (fun k r i q => by rw [up4_nk (by omega)]) (fun r q => by rw [up2_n (by omega)])
  · exact Rb_c h.b (fun k r i q => by rw [up4_nk (by omega)]) (fun f i q => by rw [up2_n (by omega)])
  · exact Rr_c h.r (fun k r i q => by rw [up4_nk (by omega)]) (fun f i q => by rw [up2_n (by omega)])
  · exact Rg_c h.g (fun k r i q => by rw [up4_nk (by omega)]) (fun f i q => by rw [up2_n (by omega)])
  · exact Rz_c h.z (fun k r i q => by rw [up4_nk (by omega)]) 
  · exact Rl_c h.l (fun k r i q => by rw [up4_nk (by omega)]) (fun f i q => by rw [up2_n (by omega)])
  · have h0 := h.v
    refine ⟨?_, ?_, ?_, ?_, fun i hi => ?_, fun i hi => ?_⟩
    · rw [up4_s, up2_s]
    · rw [up4_nj (by decide), up2_n (by omega)]; exact h0.2.1
    · rw [up4_nj (by decide), up2_n (by omega)]; exact h0.2.2.1
    · rw [up4_nj (by decide), up2_n (by omega)]; exact h0.2.2.2.1
    · rw [up2_n (by omega)] at hi
      rw [up4_nk (by decide), up2_n (by omega)]
      exact h0.2.2.2.2.1 i hi
    · rw [up2_n (by omega)] at hi
      rw [up4_nk (by decide), up4_nk (by decide), up2_n (by omega), up2_n (by omega)]
      exact h0.2.2.2.2.2 i hi
theorem st_vco {d : Bool} {s t : Sg} {D : Dy} {eb er : Nat} {Z : Zt} {σ : Sg} (h : Cg d s t D eb er Z σ) {v : Int32}  : Cg d s t (up2 D 0 5 v) eb er Z (up4 σ 44 d 0 3 v) := by
  refine ⟨h.1, Fr_w (h.2.1) _ (by omega), ?_, ?_, ?_, ?_, ?_, ?_, ?_, ?_, ?_, ?_⟩
  · exact Rm_c h.m (fun k r i q => by rw [up4_nk (by omega)]) (fun i q => by rw [up2_n (by omega)])
  · exact Rp_c h.p (fun k r i q => by rw [up4_nk (by omega)]) (fun f i q => by rw [up2_n (by omega)])
  · exact Rc_c h.c (fun k r i q => by rw [up4_nk (by omega)]) (fun f i q => by rw [up2_n (by omega)])
  · exact Rw_c h.w (fun k r i q => by rw [up4_nk (by omega)]) (fun r q => by rw [up2_n (by omega)])
  · exact Rb_c h.b (fun k r i q => by rw [up4_nk (by omega)]) (fun f i q => by rw [up2_n (by omega)])
  · exact Rr_c h.r (fun k r i q => by rw [up4_nk (by omega)]) (fun f i q => by rw [up2_n (by omega)])
  · exact Rg_c h.g (fun k r i q => by rw [up4_nk (by omega)]) (fun f i q => by rw [up2_n (by omega)])
  · exact Rz_c h.z (fun k r i q => by rw [up4_nk (by omega)]) 
  · exact Rl_c h.l (fun k r i q => by rw [up4_nk (by omega)]) (fun f i q => by rw [up2_n (by omega)])
  · have h0 := h.v
    refine ⟨?_, ?_, ?_, ?_, fun i hi => ?_, fun i hi => ?_⟩
    · rw [up4_nj (by decide), up2_n (by omega)]; exact h0.1
    · rw [up4_nj (by decide), up2_n (by omega)]; exact h0.2.1
    · rw [up4_nj (by decide), up2_n (by omega)]; exact h0.2.2.1
    · rw [up4_s, up2_s]
    · rw [up2_n (by omega)] at hi
      rw [up4_nk (by decide), up2_n (by omega)]
      exact h0.2.2.2.2.1 i hi
    · rw [up2_n (by omega)] at hi
      rw [up4_nk (by decide), up4_nk (by decide), up2_n (by omega), up2_n (by omega)]
      exact h0.2.2.2.2.2 i hi
theorem st_D {d : Bool} {s t : Sg} {D D' : Dy} {eb er : Nat} {Z : Zt} {σ : Sg} (h : Cg d s t D eb er Z σ) (hD : ∀ f i, ¬ (f = 3 ∨ f = 4 ∨ f = 5 ∨ f = 6 ∨ f = 10 ∨ f = 23 ∨ f = 28) → D' f i = D f i) : Cg d s t D' eb er Z σ :=
  ⟨h.1, h.2.1, Rm_c h.m (fun _ _ _ _ => rfl) (fun i _ => hD 0 i (by omega)), Rp_c h.p (fun _ _ _ _ => rfl) (fun f i q => hD f i (by omega)), Rc_c h.c (fun _ _ _ _ => rfl) (fun f i q => hD f i (by omega)), Rw_c h.w (fun _ _ _ _ => rfl) (fun r _ => hD 16 r (by omega)), Rb_c h.b (fun _ _ _ _ => rfl) (fun f i q => hD f i (by omega)), Rr_c h.r (fun _ _ _ _ => rfl) (fun f i q => hD f i (by omega)), Rg_c h.g (fun _ _ _ _ => rfl) (fun f i q => hD f i (by omega)), Rz_c h.z (fun _ _ _ _ => rfl), Rl_c h.l (fun _ _ _ _ => rfl) (fun f i q => hD f i (by omega)), Rv_c h.v (fun _ _ _ _ => rfl) (fun f i q => hD f i (by omega))⟩
