/-! The class's riders. -/
def Zt1 (Z : Zt) (p : Nat) : Zt := (Z.1, fun q => if q = p then Z.2.1 p + nI 1 else Z.2.1 q, Z.2.2)
theorem Zt1_s (Z : Zt) (p : Nat) : (Zt1 Z p).2.1 p = Z.2.1 p + nI 1 := if_pos rfl
def Zk (Z : Zt) (p x : Nat) : Zt := (fun q y => if q = p ∧ y = x then mMax (Z.1 p x) (Z.2.1 p + nI 1) else Z.1 q y, (Zt1 Z p).2.1, Z.2.2)
theorem st_tn {d : Bool} {s t : Sg} {D : Dy} {eb er : Nat} {Z : Zt} {σ : Sg} (h : Cg d s t D eb er Z σ) {p : Nat}  : Cg d s t D eb er (Zt1 Z p) (up4 σ 43 d 0 p (Z.2.1 p + nI 1)) := by
  refine ⟨h.1, Fr_w (h.2.1) _ (by omega), ?_, ?_, ?_, ?_, ?_, ?_, ?_, ?_, ?_, ?_⟩
  · exact Rm_c (Z := Z) h.m (fun k r i q => by rw [up4_nk (by omega)]) (fun i q => rfl)
  · exact Rp_c h.p (fun k r i q => by rw [up4_nk (by omega)]) (fun f i q => rfl)
  · exact Rc_c h.c (fun k r i q => by rw [up4_nk (by omega)]) (fun f i q => rfl)
  · exact Rw_c h.w (fun k r i q => by rw [up4_nk (by omega)]) (fun r q => rfl)
  · exact Rb_c h.b (fun k r i q => by rw [up4_nk (by omega)]) (fun f i q => rfl)
  · exact Rr_c h.r (fun k r i q => by rw [up4_nk (by omega)]) (fun f i q => rfl)
  · exact Rg_c h.g (fun k r i q => by rw [up4_nk (by omega)]) (fun f i q => rfl)
  · have h0 := h.z
    refine ⟨fun q y hq hy => ?_, fun q hq => ?_⟩
    · rw [up4_nk (by decide)]
      exact h0.1 q y hq hy
    · show _ = (if q = p then Z.2.1 p + nI 1 else Z.2.1 q)
      unfold up4
      by_cases e : q = p
      · rw [if_pos ⟨rfl, rfl, rfl, e⟩, if_pos e]
      · rw [if_neg (fun z => e z.2.2.2), if_neg e]
        exact h0.2 q hq
  · exact Rl_c h.l (fun k r i q => by rw [up4_nk (by omega)]) (fun f i q => rfl)
  · exact Rv_c h.v (fun k r i q => by rw [up4_nk (by omega)]) (fun f i q => rfl)
theorem st_bz {d : Bool} {s t : Sg} {D : Dy} {eb er : Nat} {Z : Zt} {σ : Sg} {p x : Nat} (h : Cg d s t D eb er (Zt1 Z p) σ)  : Cg d s t D eb er (Zk Z p x) (up4 σ 42 d (p + 1) x (mMax (Z.1 p x) (Z.2.1 p + nI 1))) := by
  refine ⟨h.1, Fr_w (h.2.1) _ (by omega), ?_, ?_, ?_, ?_, ?_, ?_, ?_, ?_, ?_, ?_⟩
  · exact Rm_c (Z := Zt1 Z p) h.m (fun k r i q => by rw [up4_nk (by omega)]) (fun i q => rfl)
  · exact Rp_c h.p (fun k r i q => by rw [up4_nk (by omega)]) (fun f i q => rfl)
  · exact Rc_c h.c (fun k r i q => by rw [up4_nk (by omega)]) (fun f i q => rfl)
  · exact Rw_c h.w (fun k r i q => by rw [up4_nk (by omega)]) (fun r q => rfl)
  · exact Rb_c h.b (fun k r i q => by rw [up4_nk (by omega)]) (fun f i q => rfl)
  · exact Rr_c h.r (fun k r i q => by rw [up4_nk (by omega)]) (fun f i q => rfl)
  · exact Rg_c h.g (fun k r i q => by rw [up4_nk (by omega)]) (fun f i q => rfl)
  · have h0 := h.z
    refine ⟨fun q y hq hy => ?_, fun q hq => ?_⟩
    · show _ = (if q = p ∧ y = x then mMax (Z.1 p x) (Z.2.1 p + nI 1) else Z.1 q y)
      unfold up4
      by_cases e : q = p ∧ y = x
      · rw [if_pos ⟨rfl, rfl, by omega, e.2⟩, if_pos e]
      · rw [if_neg (fun z => e ⟨by omega, z.2.2.2⟩), if_neg e]
        exact h0.1 q y hq hy
    · rw [up4_nk (by decide)]
      exact h0.2 q hq
  · exact Rl_c h.l (fun k r i q => by rw [up4_nk (by omega)]) (fun f i q => rfl)
  · exact Rv_c h.v (fun k r i q => by rw [up4_nk (by omega)]) (fun f i q => rfl)
theorem cv_ct {d : Bool} {s t : Sg} {D : Dy} {eb er : Nat} {Z : Zt} {σ : Sg} (hC : Cg d s t D eb er Z σ) {y : Int32} {p x : Nat} (hp : p < 12) (hx : x < 24) : ∃ σ', Ev false 82 [.inr (.inr (37, d, 0)), .inl (nI (p)), .inl (nI (x)), .inl (y)] σ none σ' ∧ Cg d s t (up2 (up2 D 7 (24 * p + x) (D 7 (24 * p + x) + nI 1)) 0 1 (D 0 1 + y)) eb er (Zk Z p x) σ' := by
  refine EvQ_wp 62 [] rfl rfl ?_
  refine ⟨p, rfl, (by show _ < 12; omega), (show p < 12 by omega), x, rfl, (by show _ < 24; omega), ?_⟩
  rw [hC.g39 p x (by omega) (by omega)]
  refine ⟨(show p < 12 by omega), x, rfl, (by show _ < 24; omega), _, rfl, ?_⟩
  replace hC : Cg d s t (up2 D 7 (24 * p + x) (((D 7 (24 * p + x)) + (nI (1))))) eb er Z (up4 σ 39 d ((p) + 1) x ((D 7 (24 * p + x)) + (nI (1)))) := st_tak hC (by omega)
  refine ⟨p, rfl, (by show _ < 12; omega), ?_⟩
  rw [hC.z.2 p (by omega)]
  refine ⟨p, rfl, (by show _ < 12; omega), _, rfl, ?_⟩
  replace hC : Cg d s t (up2 D 7 (24 * p + x) (((D 7 (24 * p + x)) + (nI (1))))) eb er (Zt1 Z p) (up4 (up4 σ 39 d ((p) + 1) x ((D 7 (24 * p + x)) + (nI (1)))) 43 d 0 p ((Z.2.1 p) + (nI (1)))) := st_tn hC
  refine ⟨p, rfl, (by show _ < 12; omega), p, rfl, (by show _ < 12; omega), (show p < 12 by omega), x, rfl, (by show _ < 24; omega), ?_⟩
  rw [hC.z.1 p x (by omega) (by omega)]
  refine ⟨p, rfl, (by show _ < 12; omega), ?_⟩
  rw [hC.z.2 p (by omega), Zt1_s]
  refine ⟨(show p < 12 by omega), x, rfl, (by show _ < 24; omega), _, rfl, ?_⟩
  replace hC : Cg d s t (up2 D 7 (24 * p + x) (((D 7 (24 * p + x)) + (nI (1))))) eb er (Zk Z p x) (up4 (up4 (up4 σ 39 d ((p) + 1) x ((D 7 (24 * p + x)) + (nI (1)))) 43 d 0 p ((Z.2.1 p) + (nI (1)))) 42 d ((p) + 1) x (mMax ((Zt1 Z p).1 p x) (Z.2.1 p + nI 1))) := st_bz hC
  refine ⟨(((up2 D 7 (24 * p + x) (((D 7 (24 * p + x)) + (nI (1))))) 0 1) + y), (congr (congrArg HAdd.hAdd hC.m.2.2.1) rfl), ?_⟩
  replace hC : Cg d s t (up2 (up2 D 7 (24 * p + x) (((D 7 (24 * p + x)) + (nI (1))))) 0 1 ((((up2 D 7 (24 * p + x) (((D 7 (24 * p + x)) + (nI (1))))) 0 1) + y))) eb er (Zk Z p x) (up4 (up4 (up4 (up4 σ 39 d ((p) + 1) x ((D 7 (24 * p + x)) + (nI (1)))) 43 d 0 p ((Z.2.1 p) + (nI (1)))) 42 d ((p) + 1) x (mMax ((Zt1 Z p).1 p x) (Z.2.1 p + nI 1))) 37 d 0 2 (((up2 D 7 (24 * p + x) (((D 7 (24 * p + x)) + (nI (1))))) 0 1) + y)) := st_paid hC
  exact ⟨rfl, hC⟩
theorem cv_lose4 {d : Bool} {s t : Sg} {D : Dy} {Z : Zt} {σ : Sg} {r p : Nat} (hC : Cg d s t D 60 r Z σ) (hT : WN t) {x y : Int32} (hx : x = nI r) (hr : r < nR t) (hy : y = nI p) (hp : p < nP t) (h7 : Is (D 0 7) 4000) (hm : D 0 0 = nI (nN (D 0 0))) (hm2 : nN (D 0 0) < 1440) : ∃ σ', Ev false 77 [.inr (.inr (26, d, 0)), .inl (x), .inl (y), .inl (nI (4))] σ none σ' ∧ Cg d s t (los D r p (nI 4)) 60 200 Z σ' := by
  subst hx
  subst hy
  have hP := hT.P
  have hB := hT.B
  have hR := hT.R
  refine EvQ_wp 53 [] rfl rfl ?_
  refine ⟨0, rfl, (by show _ < 6; omega), (show 0 < 6 by omega), r, rfl, (by show _ < 200; omega), _, rfl, ?_⟩
  replace hC : Cg d s t (up2 D 16 r (nI 4)) 60 r Z (up4 σ 34 d ((0) + 1) r (nI (4))) := st_rid hC 0 (by decide) (fun _ => rfl)
  replace hC : Cg d s t (up2 D 16 r (nI 4)) 60 200 Z (up4 σ 34 d ((0) + 1) r (nI (4))) := st_out hC hr hR rfl (by rw [up2_s]; decide) (fun q => absurd (show nI 4 = nI 2 by rw [← q, up2_s]) (by decide))
  replace hC : Cg d s t (up2 (up2 D 16 r (nI 4)) 4 p (D 4 p + nI 1)) 60 200 Z (up4 σ 34 d ((0) + 1) r (nI (4))) := st_D hC (fun f i q => up2_n (by omega))
  refine ⟨p, rfl, (by show _ < 12; omega), _, _, cv_hour hC ((up2_n (by omega)).trans ((up2_n (by omega)).trans hm)) (by omega), (show p < 12 by omega), nN (D 0 0) / 60, rfl, (by show _ < 24; omega), ?_⟩
  rw [hC.g40 p (nN (D 0 0) / 60) (by omega) (by omega), up2_n (by omega), up2_n (by omega)]
  refine ⟨(show p < 12 by omega), nN (D 0 0) / 60, rfl, (by show _ < 24; omega), _, rfl, ?_⟩
  replace hC : Cg d s t (up2 (up2 (up2 D 16 r (nI 4)) 4 p (D 4 p + nI 1)) 8 (24 * p + (nN (D 0 0) / 60)) (((D 8 (24 * p + nN (D 0 0) / 60)) + (nI (1))))) 60 200 Z (up4 (up4 σ 34 d ((0) + 1) r (nI (4))) 40 d ((p) + 1) (nN (D 0 0) / 60) ((D 8 (24 * p + nN (D 0 0) / 60)) + (nI (1)))) := st_los hC (by omega)
  refine br_ne rfl rfl (by omega) (by omega) (fun h23 => ?_) (fun h23 => ?_)
  · exact absurd h23 (by omega)
  · obtain ⟨σ1, ev1, hC⟩ := cv_add hC (v0 := (nI (3))) (v2 := (nI (p))) (v3 := (nI (r))) (v4 := (-1)) (by (repeat rw [up2_n (by omega)]); exact h7) hC.m.1
    refine ⟨_, _, ev1, ?_⟩
    refine ⟨rfl, ?_⟩
    unfold los
    rw [if_pos rfl]
    exact hC
theorem cv_lose5 {d : Bool} {s t : Sg} {D : Dy} {Z : Zt} {σ : Sg} {r p : Nat} (hC : Cg d s t D 60 r Z σ) (hT : WN t) {x y : Int32} (hx : x = nI r) (hr : r < nR t) (hy : y = nI p) (hp : p < nP t) (h7 : Is (D 0 7) 4000) (hm : D 0 0 = nI (nN (D 0 0))) (hm2 : nN (D 0 0) < 1440) : ∃ σ', Ev false 77 [.inr (.inr (26, d, 0)), .inl (x), .inl (y), .inl (nI (5))] σ none σ' ∧ Cg d s t (los D r p (nI 5)) 60 200 Z σ' := by
  subst hx
  subst hy
  have hP := hT.P
  have hB := hT.B
  have hR := hT.R
  refine EvQ_wp 52 [] rfl rfl ?_
  refine ⟨0, rfl, (by show _ < 6; omega), (show 0 < 6 by omega), r, rfl, (by show _ < 200; omega), _, rfl, ?_⟩
  replace hC : Cg d s t (up2 D 16 r (nI 5)) 60 r Z (up4 σ 34 d ((0) + 1) r (nI (5))) := st_rid hC 0 (by decide) (fun _ => rfl)
  replace hC : Cg d s t (up2 D 16 r (nI 5)) 60 200 Z (up4 σ 34 d ((0) + 1) r (nI (5))) := st_out hC hr hR rfl (by rw [up2_s]; decide) (fun q => absurd (show nI 5 = nI 2 by rw [← q, up2_s]) (by decide))
  replace hC : Cg d s t (up2 (up2 D 16 r (nI 5)) 4 p (D 4 p + nI 1)) 60 200 Z (up4 σ 34 d ((0) + 1) r (nI (5))) := st_D hC (fun f i q => up2_n (by omega))
  refine ⟨p, rfl, (by show _ < 12; omega), _, _, cv_hour hC ((up2_n (by omega)).trans ((up2_n (by omega)).trans hm)) (by omega), (show p < 12 by omega), nN (D 0 0) / 60, rfl, (by show _ < 24; omega), ?_⟩
  rw [hC.g40 p (nN (D 0 0) / 60) (by omega) (by omega), up2_n (by omega), up2_n (by omega)]
  refine ⟨(show p < 12 by omega), nN (D 0 0) / 60, rfl, (by show _ < 24; omega), _, rfl, ?_⟩
  replace hC : Cg d s t (up2 (up2 (up2 D 16 r (nI 5)) 4 p (D 4 p + nI 1)) 8 (24 * p + (nN (D 0 0) / 60)) (((D 8 (24 * p + nN (D 0 0) / 60)) + (nI (1))))) 60 200 Z (up4 (up4 σ 34 d ((0) + 1) r (nI (5))) 40 d ((p) + 1) (nN (D 0 0) / 60) ((D 8 (24 * p + nN (D 0 0) / 60)) + (nI (1)))) := st_los hC (by omega)
  refine br_ne rfl rfl (by omega) (by omega) (fun h23 => ?_) (fun h23 => ?_)
  · obtain ⟨σ1, ev1, hC⟩ := cv_add hC (v0 := (nI (4))) (v2 := (nI (p))) (v3 := (nI (r))) (v4 := (-1)) (by (repeat rw [up2_n (by omega)]); exact h7) hC.m.1
    refine ⟨_, _, ev1, ?_⟩
    refine ⟨rfl, ?_⟩
    unfold los
    rw [if_neg (by decide)]
    exact hC
  · exact absurd h23 (by omega)
theorem cv_take {d : Bool} {s t : Sg} {D : Dy} {Z : Zt} {σ : Sg} {r b p q : Nat} (hC : Cg d s t D 60 r Z σ) (hT : WN t) (hr : r < nR t) (hb : b < nB t) (hp : p < nP t) (hG : t 78 false 0 r = nI q) (hq : q < nP t) (h11 : D 11 b = nI 0) (h12 : D 12 b = nI p) (h7 : Is (D 0 7) 4000) (hm : D 0 0 = nI (nN (D 0 0))) (hm2 : nN (D 0 0) < 1440) : ∃ σ', Ev false 133 [.inr (.inr (26, d, 0)), .inl (nI (r)), .inl (nI (b)), .inl (nI (p))] σ none σ' ∧ Cg d s t (tak t D r p q b) 60 200 (Zk Z p (nN (D 0 0) / 60)) σ' := by
  have hP := hT.P
  have hB := hT.B
  have hR := hT.R
  refine EvQ_wp 101 [] rfl rfl ?_
  refine ⟨r, rfl, (by show _ < 200; omega), ?_⟩
  rw [hC.c8 r (by omega)]
  refine ⟨nI (q), hG, ?_⟩
  obtain ⟨σ1, ev1, hC, e12⟩ := cv_lift hC hT (b := b) (p := p) (q := 1) rfl hb rfl hp h11 h12 (by decide) (by decide)
  refine ⟨_, _, ev1, 1, rfl, (by show _ < 4; omega), (show 1 < 4 by omega), b, rfl, (by show _ < 60; omega), _, rfl, ?_⟩
  replace hC : Cg d s t (up2 (up2 D 11 b (nI 1)) 12 b (nI q)) 60 r Z (up4 σ1 32 d ((1) + 1) b (nI (q))) := st_pos hC (by rw [up2_s]; decide) (by rw [up2_s]; decide) (fun q => by rw [up2_s] at q; exact absurd q (by decide)) (fun c _ q => q)
  refine ⟨0, rfl, (by show _ < 6; omega), (show 0 < 6 by omega), r, rfl, (by show _ < 200; omega), _, rfl, ?_⟩
  replace hC : Cg d s t (up2 (up2 (up2 D 11 b (nI 1)) 12 b (nI q)) 16 r (nI 2)) 60 r Z (up4 (up4 σ1 32 d ((1) + 1) b (nI (q))) 34 d ((0) + 1) r (nI (2))) := st_rid hC 0 (by decide) (fun _ => rfl)
  refine ⟨1, rfl, (by show _ < 6; omega), (show 1 < 6 by omega), r, rfl, (by show _ < 200; omega), _, rfl, ?_⟩
  replace hC : Cg d s t (up2 (up2 (up2 (up2 D 11 b (nI 1)) 12 b (nI q)) 16 r (nI 2)) 17 r (nI (b))) 60 r Z (up4 (up4 (up4 σ1 32 d ((1) + 1) b (nI (q))) 34 d ((0) + 1) r (nI (2))) 34 d ((1) + 1) r (nI (b))) := st_rid hC 1 (by decide) (fun q => absurd q (by decide))
  refine ⟨2, rfl, (by show _ < 6; omega), (show 2 < 6 by omega), r, rfl, (by show _ < 200; omega), (D 0 0), (hC.m.1.trans (by rw [up2_n (by omega)]; rw [up2_n (by omega)]; rw [up2_n (by omega)]; rw [up2_n (by omega)])), ?_⟩
  replace hC : Cg d s t (up2 (up2 (up2 (up2 (up2 D 11 b (nI 1)) 12 b (nI q)) 16 r (nI 2)) 17 r (nI (b))) 18 r (D 0 0)) 60 r Z (up4 (up4 (up4 (up4 σ1 32 d ((1) + 1) b (nI (q))) 34 d ((0) + 1) r (nI (2))) 34 d ((1) + 1) r (nI (b))) 34 d ((2) + 1) r (D 0 0)) := st_rid hC 2 (by decide) (fun q => absurd q (by decide))
  refine ⟨5, rfl, (by show _ < 6; omega), p, rfl, (by show _ < 12; omega), ?_⟩
  rw [(hC.p p (by omega)).1, up2_n (by omega), up2_n (by omega), up2_n (by omega), up2_n (by omega), up2_n (by omega)]
  refine ⟨(show 5 < 6 by omega), r, rfl, (by show _ < 200; omega), _, rfl, ?_⟩
  replace hC : Cg d s t (up2 (up2 (up2 (up2 (up2 (up2 D 11 b (nI 1)) 12 b (nI q)) 16 r (nI 2)) 17 r (nI (b))) 18 r (D 0 0)) 21 r (D 1 p)) 60 r Z (up4 (up4 (up4 (up4 (up4 σ1 32 d ((1) + 1) b (nI (q))) 34 d ((0) + 1) r (nI (2))) 34 d ((1) + 1) r (nI (b))) 34 d ((2) + 1) r (D 0 0)) 34 d ((5) + 1) r (D 1 p)) := st_rid hC 5 (by decide) (fun q => absurd q (by decide))
  refine ⟨_, _, cv_way hC hT (p := p) (q := q) rfl (by omega) rfl (by omega), r, rfl, (by show _ < 200; omega), ((D 0 0) + (way t p q)), (congr (congrArg HAdd.hAdd (hC.m.1.trans (by rw [up2_n (by omega)]; rw [up2_n (by omega)]; rw [up2_n (by omega)]; rw [up2_n (by omega)]; rw [up2_n (by omega)]; rw [up2_n (by omega)]))) rfl), ?_⟩
  replace hC : Cg d s t (up2 (up2 (up2 (up2 (up2 (up2 (up2 D 11 b (nI 1)) 12 b (nI q)) 16 r (nI 2)) 17 r (nI (b))) 18 r (D 0 0)) 21 r (D 1 p)) 22 r (((D 0 0) + (way t p q)))) 60 r Z (up4 (up4 (up4 (up4 (up4 (up4 σ1 32 d ((1) + 1) b (nI (q))) 34 d ((0) + 1) r (nI (2))) 34 d ((1) + 1) r (nI (b))) 34 d ((2) + 1) r (D 0 0)) 34 d ((5) + 1) r (D 1 p)) 35 d 0 r ((D 0 0) + (way t p q))) := st_end hC
  replace hC : Cg d s t (up2 (up2 (up2 (up2 (up2 (up2 (up2 D 11 b (nI 1)) 12 b (nI q)) 16 r (nI 2)) 17 r (nI (b))) 18 r (D 0 0)) 21 r (D 1 p)) 22 r (((D 0 0) + (way t p q)))) 60 200 Z (up4 (up4 (up4 (up4 (up4 (up4 σ1 32 d ((1) + 1) b (nI (q))) 34 d ((0) + 1) r (nI (2))) 34 d ((1) + 1) r (nI (b))) 34 d ((2) + 1) r (D 0 0)) 34 d ((5) + 1) r (D 1 p)) 35 d 0 r ((D 0 0) + (way t p q))) := st_out hC hr hR rfl (by (repeat rw [up2_n (by omega)]); rw [up2_s]; decide) (fun _ => by rw [up4_s, up2_s])
  refine ⟨_, _, cv_hour hC (by rw [up2_n (by omega)]; rw [up2_n (by omega)]; rw [up2_n (by omega)]; rw [up2_n (by omega)]; rw [up2_n (by omega)]; rw [up2_n (by omega)]; rw [up2_n (by omega)]; exact hm) (by omega), p, rfl, (by show _ < 12; omega), ?_⟩
  rw [(hC.p p (by omega)).1, up2_n (by omega), up2_n (by omega), up2_n (by omega), up2_n (by omega), up2_n (by omega), up2_n (by omega), up2_n (by omega)]
  obtain ⟨σ2, ev2, hC⟩ := cv_ct hC (y := D 1 p) (p := p) (x := nN (D 0 0) / 60) (by omega) (by omega)
  replace hC : Cg d s t (up2 (up2 (up2 (up2 (up2 (up2 (up2 (up2 (up2 (up2 (up2 (up2 D 16 r (nI 2)) 17 r (nI b)) 18 r (D 0 0)) 21 r (D 1 p)) 0 1 (D 0 1 + D 1 p)) 22 r (D 0 0 + way t p q)) 23 r (nI q)) 11 b (nI 1)) 12 b (nI q)) 3 p (D 3 p + nI 1)) 6 p (D 6 p + nI 1)) 7 (24 * p + nN (D 0 0) / 60) (D 7 (24 * p + nN (D 0 0) / 60) + nI 1)) 60 200 (Zk Z p (nN (D 0 0) / 60)) σ2 := st_D hC (fun g i hg => by
    rcases (show g = 0 ∨ g = 7 ∨ g = 11 ∨ g = 12 ∨ g = 16 ∨ g = 17 ∨ g = 18 ∨ g = 21 ∨ g = 22 ∨ (¬ g = 0 ∧ ¬ g = 7 ∧ ¬ g = 11 ∧ ¬ g = 12 ∧ ¬ g = 16 ∧ ¬ g = 17 ∧ ¬ g = 18 ∧ ¬ g = 21 ∧ ¬ g = 22 ∧ ¬ g = 3 ∧ ¬ g = 6 ∧ ¬ g = 23) by omega) with rfl | rfl | rfl | rfl | rfl | rfl | rfl | rfl | rfl | hg
    · by_cases e : i = 1 <;> simp [up2, e]
    · by_cases e : i = (24 * p + nN (D 0 0) / 60) <;> simp [up2, e]
    · by_cases e : i = b <;> simp [up2, e]
    · by_cases e : i = b <;> simp [up2, e]
    · by_cases e : i = r <;> simp [up2, e]
    · by_cases e : i = r <;> simp [up2, e]
    · by_cases e : i = r <;> simp [up2, e]
    · by_cases e : i = r <;> simp [up2, e]
    · by_cases e : i = r <;> simp [up2, e]
    · simp [up2, hg])
  refine ⟨_, _, ev2, ?_⟩
  obtain ⟨σ3, ev3, hC⟩ := cv_add hC (v0 := (nI (1))) (v2 := (nI (p))) (v3 := (nI (r))) (v4 := (nI (b))) (by (repeat rw [up2_n (by omega)]); exact h7) hC.m.1
  refine ⟨_, _, ev3, ?_⟩
  exact ⟨rfl, hC⟩
