/-! The class looks at the riders. -/
theorem los_w {D : Dy} {r p : Nat} {v st : Int32} : los (up2 D 16 r v) r p st = los D r p st := by
  have e : up2 (up2 D 16 r v) 16 r st = up2 D 16 r st := by
    funext g i
    by_cases h : g = 16 ∧ i = r
    · simp [up2, h]
    · unfold up2
      rw [if_neg h, if_neg h, if_neg h]
  unfold los
  rw [e, up2_n (by omega), up2_n (by omega), up2_n (by omega)]
theorem Cg_D {d : Bool} {s t : Sg} {D E : Dy} {eb er : Nat} {Z : Zt} {σ : Sg} (e : E = D) (h : Cg d s t E eb er Z σ) : Cg d s t D eb er Z σ := by
  rw [← e]
  exact h
theorem cv_look_sh1 {d : Bool} {s t : Sg} {D : Dy} {Z : Zt} {σ : Sg} {r p q k : Nat} (hC : Cg d s t D 60 200 Z σ) (hT : WN t) (hO : OI t D) (hr : r < nR t) (hp : p < nP t) (hq : q < nP t) (hk : k < 4) (hF : t 77 false 0 r = nI p) (hG : t 78 false 0 r = nI q) (hK : t 79 false 0 r = nI k) (h7 : Is (D 0 7) 4000) (hm : D 0 0 = nI (nN (D 0 0))) (hm2 : nN (D 0 0) < 1440) (h16 : D 16 r = nI 1) (hsh : (D 2 p = nI 0 ∨ t 80 false 0 k < D 1 p)) : ∃ σ', Ev false 178 [.inr (.inr (26, d, 0)), .inl (nI (r))] σ none σ' ∧ Cg d s t (cms t D r p q k) 60 200 Z σ' := by
  have hP := hT.P
  have hB := hT.B
  have hR := hT.R
  have e1 : (r == 200) = false := by simp; omega
  have hw1 : 1 ≤ wtx t D 200 p := ct_pos (i := r) hr (by simp [e1, h16, hF])
  refine EvQ_wp 193 [] rfl rfl ?_
  refine ⟨r, rfl, (by show _ < 200; omega), ?_⟩
  rw [hC.c7 r (by omega)]
  refine ⟨nI (p), hF, r, rfl, (by show _ < 200; omega), ?_⟩
  rw [hC.c9 r (by omega)]
  refine ⟨nI (k), hK, p, rfl, (by show _ < 12; omega), ?_⟩
  rw [(hC.p p (by omega)).2]
  refine ⟨fun h16x => ?_, fun h16x => ?_⟩
  · refine ⟨_, rfl, ?_⟩
    refine br_eq rfl rfl (by omega) (by omega) (fun h32 => ?_) (fun h32 => ?_)
    · exact absurd h32 (by omega)
    · refine ⟨_, rfl, 0, rfl, (by show _ < 6; omega), (show 0 < 6 by omega), r, rfl, (by show _ < 200; omega), ?_⟩
      rw [hC.r0 r (by omega)]
      refine br_ne h16 rfl (by omega) (by omega) (fun h46 => ?_) (fun h46 => ?_)
      · exact absurd h46 (by omega)
      · refine ⟨_, rfl, ?_⟩
        refine br_eq rfl rfl (by omega) (by omega) (fun h52 => ?_) (fun h52 => ?_)
        · exact absurd h52 (by omega)
        · refine ⟨p, rfl, (by show _ < 12; omega), ?_⟩
          rw [hC.w p (by omega)]
          refine ⟨p, rfl, (by show _ < 12; omega), nI ((wtx t D 200 p) - 1), (sub_n rfl rfl (by omega)), ?_⟩
          replace hC : Cg d s t D 60 r Z (up4 σ 31 d 0 p (nI ((wtx t D 200 p) - 1))) := st_inw hC hr hR rfl hF hp hP h16
          refine br_eq rfl rfl (by omega) (by omega) (fun h62 => ?_) (fun h62 => ?_)
          · exact absurd h62 (by omega)
          · refine br_ne rfl rfl (by omega) (by omega) (fun h64 => ?_) (fun h64 => ?_)
            · refine ⟨fun h73 => ?_, fun h73 => ?_⟩
              · refine ⟨r, rfl, (by show _ < 200; omega), ?_⟩
                rw [hC.c6 r (by omega)]
                refine ⟨k, rfl, (by show _ < 4; omega), ?_⟩
                rw [hC.c11 k (by omega)]
                refine ⟨fun h93 => ?_, fun h93 => ?_⟩
                · rw [(congr (congrArg HSub.hSub hC.m.1) rfl)] at h93
                  refine ⟨0, rfl, (by show _ < 6; omega), (show 0 < 6 by omega), r, rfl, (by show _ < 200; omega), _, rfl, ?_⟩
                  replace hC : Cg d s t (up2 D 16 r (nI 1)) 60 r Z (up4 (up4 σ 31 d 0 p (nI ((wtx t D 200 p) - 1))) 34 d ((0) + 1) r (nI (1))) := st_rid hC 0 (by decide) (fun _ => rfl)
                  refine ⟨p, rfl, (by show _ < 12; omega), ?_⟩
                  rw [hC.w p (by omega)]
                  refine ⟨p, rfl, (by show _ < 12; omega), nI ((wtx t (up2 D 16 r (nI 1)) r p) + 1), (add_n rfl rfl), ?_⟩
                  replace hC : Cg d s t (up2 D 16 r (nI 1)) 60 200 Z (up4 (up4 (up4 σ 31 d 0 p (nI ((wtx t D 200 p) - 1))) 34 d ((0) + 1) r (nI (1))) 31 d 0 p (nI ((wtx t (up2 D 16 r (nI 1)) r p) + 1))) := st_outw hC hr hR rfl hF hp hP (up2_s _ _ _ _)
                  refine ⟨rfl, ?_⟩
                  unfold cms
                  rw [if_pos hsh]
                  rw [if_neg (by rw [h16]; decide)]
                  rw [if_neg (Int32.not_le.mpr h93)]
                  exact Cg_D (up2_id h16) hC
                · rw [(congr (congrArg HSub.hSub hC.m.1) rfl)] at h93
                  obtain ⟨σ1, ev1, hC⟩ := cv_lose5 hC hT (x := nI r) (y := nI p) rfl hr rfl hp h7 hm hm2
                  refine ⟨_, _, ev1, ?_⟩
                  refine ⟨rfl, ?_⟩
                  unfold cms
                  rw [if_pos hsh]
                  rw [if_neg (by rw [h16]; decide)]
                  rw [if_pos (Int32.not_lt.mp h93)]
                  exact hC
              · exact absurd rfl h73
            · exact absurd h64 (by omega)
  · refine ⟨p, rfl, (by show _ < 12; omega), ?_⟩
    rw [(hC.p p (by omega)).1]
    refine ⟨k, rfl, (by show _ < 4; omega), ?_⟩
    rw [hC.c10 k (by omega)]
    refine ⟨fun h26 => ?_, fun h26 => ?_⟩
    · exact hsh.elim (fun z => absurd z h16x) (fun z => absurd z (Int32.not_lt.mpr h26))
    · refine ⟨_, rfl, ?_⟩
      refine br_eq rfl rfl (by omega) (by omega) (fun h32 => ?_) (fun h32 => ?_)
      · exact absurd h32 (by omega)
      · refine ⟨_, rfl, 0, rfl, (by show _ < 6; omega), (show 0 < 6 by omega), r, rfl, (by show _ < 200; omega), ?_⟩
        rw [hC.r0 r (by omega)]
        refine br_ne h16 rfl (by omega) (by omega) (fun h46 => ?_) (fun h46 => ?_)
        · exact absurd h46 (by omega)
        · refine ⟨_, rfl, ?_⟩
          refine br_eq rfl rfl (by omega) (by omega) (fun h52 => ?_) (fun h52 => ?_)
          · exact absurd h52 (by omega)
          · refine ⟨p, rfl, (by show _ < 12; omega), ?_⟩
            rw [hC.w p (by omega)]
            refine ⟨p, rfl, (by show _ < 12; omega), nI ((wtx t D 200 p) - 1), (sub_n rfl rfl (by omega)), ?_⟩
            replace hC : Cg d s t D 60 r Z (up4 σ 31 d 0 p (nI ((wtx t D 200 p) - 1))) := st_inw hC hr hR rfl hF hp hP h16
            refine br_eq rfl rfl (by omega) (by omega) (fun h62 => ?_) (fun h62 => ?_)
            · exact absurd h62 (by omega)
            · refine br_ne rfl rfl (by omega) (by omega) (fun h64 => ?_) (fun h64 => ?_)
              · refine ⟨fun h73 => ?_, fun h73 => ?_⟩
                · refine ⟨r, rfl, (by show _ < 200; omega), ?_⟩
                  rw [hC.c6 r (by omega)]
                  refine ⟨k, rfl, (by show _ < 4; omega), ?_⟩
                  rw [hC.c11 k (by omega)]
                  refine ⟨fun h93 => ?_, fun h93 => ?_⟩
                  · rw [(congr (congrArg HSub.hSub hC.m.1) rfl)] at h93
                    refine ⟨0, rfl, (by show _ < 6; omega), (show 0 < 6 by omega), r, rfl, (by show _ < 200; omega), _, rfl, ?_⟩
                    replace hC : Cg d s t (up2 D 16 r (nI 1)) 60 r Z (up4 (up4 σ 31 d 0 p (nI ((wtx t D 200 p) - 1))) 34 d ((0) + 1) r (nI (1))) := st_rid hC 0 (by decide) (fun _ => rfl)
                    refine ⟨p, rfl, (by show _ < 12; omega), ?_⟩
                    rw [hC.w p (by omega)]
                    refine ⟨p, rfl, (by show _ < 12; omega), nI ((wtx t (up2 D 16 r (nI 1)) r p) + 1), (add_n rfl rfl), ?_⟩
                    replace hC : Cg d s t (up2 D 16 r (nI 1)) 60 200 Z (up4 (up4 (up4 σ 31 d 0 p (nI ((wtx t D 200 p) - 1))) 34 d ((0) + 1) r (nI (1))) 31 d 0 p (nI ((wtx t (up2 D 16 r (nI 1)) r p) + 1))) := st_outw hC hr hR rfl hF hp hP (up2_s _ _ _ _)
                    refine ⟨rfl, ?_⟩
                    unfold cms
                    rw [if_pos hsh]
                    rw [if_neg (by rw [h16]; decide)]
                    rw [if_neg (Int32.not_le.mpr h93)]
                    exact Cg_D (up2_id h16) hC
                  · rw [(congr (congrArg HSub.hSub hC.m.1) rfl)] at h93
                    obtain ⟨σ2, ev2, hC⟩ := cv_lose5 hC hT (x := nI r) (y := nI p) rfl hr rfl hp h7 hm hm2
                    refine ⟨_, _, ev2, ?_⟩
                    refine ⟨rfl, ?_⟩
                    unfold cms
                    rw [if_pos hsh]
                    rw [if_neg (by rw [h16]; decide)]
                    rw [if_pos (Int32.not_lt.mp h93)]
                    exact hC
                · exact absurd rfl h73
              · exact absurd h64 (by omega)
theorem cv_look_sh0 {d : Bool} {s t : Sg} {D : Dy} {Z : Zt} {σ : Sg} {r p q k : Nat} (hC : Cg d s t D 60 200 Z σ) (hT : WN t) (hO : OI t D) (hr : r < nR t) (hp : p < nP t) (hq : q < nP t) (hk : k < 4) (hF : t 77 false 0 r = nI p) (hG : t 78 false 0 r = nI q) (hK : t 79 false 0 r = nI k) (h7 : Is (D 0 7) 4000) (hm : D 0 0 = nI (nN (D 0 0))) (hm2 : nN (D 0 0) < 1440) (h16 : D 16 r = nI 0) (hsh : (D 2 p = nI 0 ∨ t 80 false 0 k < D 1 p)) : ∃ σ', Ev false 178 [.inr (.inr (26, d, 0)), .inl (nI (r))] σ none σ' ∧ Cg d s t (cms t D r p q k) 60 200 Z σ' := by
  have hP := hT.P
  have hB := hT.B
  have hR := hT.R
  refine EvQ_wp 109 [] rfl rfl ?_
  refine ⟨r, rfl, (by show _ < 200; omega), ?_⟩
  rw [hC.c7 r (by omega)]
  refine ⟨nI (p), hF, r, rfl, (by show _ < 200; omega), ?_⟩
  rw [hC.c9 r (by omega)]
  refine ⟨nI (k), hK, p, rfl, (by show _ < 12; omega), ?_⟩
  rw [(hC.p p (by omega)).2]
  refine ⟨fun h16x => ?_, fun h16x => ?_⟩
  · refine ⟨_, rfl, ?_⟩
    refine br_eq rfl rfl (by omega) (by omega) (fun h32 => ?_) (fun h32 => ?_)
    · exact absurd h32 (by omega)
    · refine ⟨_, rfl, 0, rfl, (by show _ < 6; omega), (show 0 < 6 by omega), r, rfl, (by show _ < 200; omega), ?_⟩
      rw [hC.r0 r (by omega)]
      refine br_ne h16 rfl (by omega) (by omega) (fun h46 => ?_) (fun h46 => ?_)
      · refine ⟨_, rfl, ?_⟩
        refine br_eq rfl rfl (by omega) (by omega) (fun h52 => ?_) (fun h52 => ?_)
        · replace hC : Cg d s t D 60 r Z σ := st_in hC hr hR rfl (by rw [h16]; decide)
          refine br_eq rfl rfl (by omega) (by omega) (fun h62 => ?_) (fun h62 => ?_)
          · exact absurd h62 (by omega)
          · refine br_ne rfl rfl (by omega) (by omega) (fun h64 => ?_) (fun h64 => ?_)
            · exact absurd h64 (by omega)
            · obtain ⟨σ1, ev1, hC⟩ := cv_lose4 hC hT (x := nI r) (y := nI p) rfl hr rfl hp h7 hm hm2
              refine ⟨_, _, ev1, ?_⟩
              refine ⟨rfl, ?_⟩
              unfold cms
              rw [if_pos hsh]
              rw [if_pos h16]
              exact hC
        · exact absurd h52 (by omega)
      · exact absurd h46 (by omega)
  · refine ⟨p, rfl, (by show _ < 12; omega), ?_⟩
    rw [(hC.p p (by omega)).1]
    refine ⟨k, rfl, (by show _ < 4; omega), ?_⟩
    rw [hC.c10 k (by omega)]
    refine ⟨fun h26 => ?_, fun h26 => ?_⟩
    · exact hsh.elim (fun z => absurd z h16x) (fun z => absurd z (Int32.not_lt.mpr h26))
    · refine ⟨_, rfl, ?_⟩
      refine br_eq rfl rfl (by omega) (by omega) (fun h32 => ?_) (fun h32 => ?_)
      · exact absurd h32 (by omega)
      · refine ⟨_, rfl, 0, rfl, (by show _ < 6; omega), (show 0 < 6 by omega), r, rfl, (by show _ < 200; omega), ?_⟩
        rw [hC.r0 r (by omega)]
        refine br_ne h16 rfl (by omega) (by omega) (fun h46 => ?_) (fun h46 => ?_)
        · refine ⟨_, rfl, ?_⟩
          refine br_eq rfl rfl (by omega) (by omega) (fun h52 => ?_) (fun h52 => ?_)
          · replace hC : Cg d s t D 60 r Z σ := st_in hC hr hR rfl (by rw [h16]; decide)
            refine br_eq rfl rfl (by omega) (by omega) (fun h62 => ?_) (fun h62 => ?_)
            · exact absurd h62 (by omega)
            · refine br_ne rfl rfl (by omega) (by omega) (fun h64 => ?_) (fun h64 => ?_)
              · exact absurd h64 (by omega)
              · obtain ⟨σ2, ev2, hC⟩ := cv_lose4 hC hT (x := nI r) (y := nI p) rfl hr rfl hp h7 hm hm2
                refine ⟨_, _, ev2, ?_⟩
                refine ⟨rfl, ?_⟩
                unfold cms
                rw [if_pos hsh]
                rw [if_pos h16]
                exact hC
          · exact absurd h52 (by omega)
        · exact absurd h46 (by omega)
theorem cv_look_no1 {d : Bool} {s t : Sg} {D : Dy} {Z : Zt} {σ : Sg} {r p q k : Nat} (hC : Cg d s t D 60 200 Z σ) (hT : WN t) (hO : OI t D) (hr : r < nR t) (hp : p < nP t) (hq : q < nP t) (hk : k < 4) (hF : t 77 false 0 r = nI p) (hG : t 78 false 0 r = nI q) (hK : t 79 false 0 r = nI k) (h7 : Is (D 0 7) 4000) (hm : D 0 0 = nI (nN (D 0 0))) (hm2 : nN (D 0 0) < 1440) (h16 : D 16 r = nI 1) (hsh : ¬ (D 2 p = nI 0 ∨ t 80 false 0 k < D 1 p)) (hpk : pik D p (nB t) = none) : ∃ σ', Ev false 178 [.inr (.inr (26, d, 0)), .inl (nI (r))] σ none σ' ∧ Cg d s t (cms t D r p q k) 60 200 Z σ' := by
  have hP := hT.P
  have hB := hT.B
  have hR := hT.R
  have e1 : (r == 200) = false := by simp; omega
  have hw1 : 1 ≤ wtx t D 200 p := ct_pos (i := r) hr (by simp [e1, h16, hF])
  refine EvQ_wp 118 [] rfl rfl ?_
  refine ⟨r, rfl, (by show _ < 200; omega), ?_⟩
  rw [hC.c7 r (by omega)]
  refine ⟨nI (p), hF, r, rfl, (by show _ < 200; omega), ?_⟩
  rw [hC.c9 r (by omega)]
  refine ⟨nI (k), hK, p, rfl, (by show _ < 12; omega), ?_⟩
  rw [(hC.p p (by omega)).2]
  refine ⟨fun h16x => ?_, fun h16x => ?_⟩
  · exact absurd (Or.inl h16x) hsh
  · refine ⟨p, rfl, (by show _ < 12; omega), ?_⟩
    rw [(hC.p p (by omega)).1]
    refine ⟨k, rfl, (by show _ < 4; omega), ?_⟩
    rw [hC.c10 k (by omega)]
    refine ⟨fun h26 => ?_, fun h26 => ?_⟩
    · refine ⟨_, rfl, ?_⟩
      refine br_eq rfl rfl (by omega) (by omega) (fun h32 => ?_) (fun h32 => ?_)
      · have hb0 := cv_best hC hT (x := nI p) rfl hp
        rw [hpk] at hb0
        refine ⟨_, _, hb0, _, rfl, 0, rfl, (by show _ < 6; omega), (show 0 < 6 by omega), r, rfl, (by show _ < 200; omega), ?_⟩
        rw [hC.r0 r (by omega)]
        refine br_ne h16 rfl (by omega) (by omega) (fun h46 => ?_) (fun h46 => ?_)
        · exact absurd h46 (by omega)
        · refine ⟨_, rfl, ?_⟩
          refine br_eq rfl rfl (by omega) (by omega) (fun h52 => ?_) (fun h52 => ?_)
          · exact absurd h52 (by omega)
          · refine ⟨p, rfl, (by show _ < 12; omega), ?_⟩
            rw [hC.w p (by omega)]
            refine ⟨p, rfl, (by show _ < 12; omega), nI ((wtx t D 200 p) - 1), (sub_n rfl rfl (by omega)), ?_⟩
            replace hC : Cg d s t D 60 r Z (up4 σ 31 d 0 p (nI ((wtx t D 200 p) - 1))) := st_inw hC hr hR rfl hF hp hP h16
            refine br_eq rfl rfl (by omega) (by omega) (fun h62 => ?_) (fun h62 => ?_)
            · refine ⟨fun h73 => ?_, fun h73 => ?_⟩
              · refine ⟨r, rfl, (by show _ < 200; omega), ?_⟩
                rw [hC.c6 r (by omega)]
                refine ⟨k, rfl, (by show _ < 4; omega), ?_⟩
                rw [hC.c11 k (by omega)]
                refine ⟨fun h93 => ?_, fun h93 => ?_⟩
                · rw [(congr (congrArg HSub.hSub hC.m.1) rfl)] at h93
                  refine ⟨0, rfl, (by show _ < 6; omega), (show 0 < 6 by omega), r, rfl, (by show _ < 200; omega), _, rfl, ?_⟩
                  replace hC : Cg d s t (up2 D 16 r (nI 1)) 60 r Z (up4 (up4 σ 31 d 0 p (nI ((wtx t D 200 p) - 1))) 34 d ((0) + 1) r (nI (1))) := st_rid hC 0 (by decide) (fun _ => rfl)
                  refine ⟨p, rfl, (by show _ < 12; omega), ?_⟩
                  rw [hC.w p (by omega)]
                  refine ⟨p, rfl, (by show _ < 12; omega), nI ((wtx t (up2 D 16 r (nI 1)) r p) + 1), (add_n rfl rfl), ?_⟩
                  replace hC : Cg d s t (up2 D 16 r (nI 1)) 60 200 Z (up4 (up4 (up4 σ 31 d 0 p (nI ((wtx t D 200 p) - 1))) 34 d ((0) + 1) r (nI (1))) 31 d 0 p (nI ((wtx t (up2 D 16 r (nI 1)) r p) + 1))) := st_outw hC hr hR rfl hF hp hP (up2_s _ _ _ _)
                  refine ⟨rfl, ?_⟩
                  unfold cms
                  rw [if_neg hsh, hpk]
                  dsimp only
                  rw [if_neg (Int32.not_le.mpr h93)]
                  exact hC
                · rw [(congr (congrArg HSub.hSub hC.m.1) rfl)] at h93
                  obtain ⟨σ1, ev1, hC⟩ := cv_lose5 hC hT (x := nI r) (y := nI p) rfl hr rfl hp h7 hm hm2
                  refine ⟨_, _, ev1, ?_⟩
                  refine ⟨rfl, ?_⟩
                  unfold cms
                  rw [if_neg hsh, hpk]
                  dsimp only
                  rw [if_pos (Int32.not_lt.mp h93), los_w]
                  exact hC
              · exact absurd rfl h73
            · exact absurd h62 (by omega)
      · exact absurd h32 (by omega)
    · exact absurd (Or.inr (i_nle h26)) hsh
theorem cv_look_no0 {d : Bool} {s t : Sg} {D : Dy} {Z : Zt} {σ : Sg} {r p q k : Nat} (hC : Cg d s t D 60 200 Z σ) (hT : WN t) (hO : OI t D) (hr : r < nR t) (hp : p < nP t) (hq : q < nP t) (hk : k < 4) (hF : t 77 false 0 r = nI p) (hG : t 78 false 0 r = nI q) (hK : t 79 false 0 r = nI k) (h7 : Is (D 0 7) 4000) (hm : D 0 0 = nI (nN (D 0 0))) (hm2 : nN (D 0 0) < 1440) (h16 : D 16 r = nI 0) (hsh : ¬ (D 2 p = nI 0 ∨ t 80 false 0 k < D 1 p)) (hpk : pik D p (nB t) = none) : ∃ σ', Ev false 178 [.inr (.inr (26, d, 0)), .inl (nI (r))] σ none σ' ∧ Cg d s t (cms t D r p q k) 60 200 Z σ' := by
  have hP := hT.P
  have hB := hT.B
  have hR := hT.R
  refine EvQ_wp 109 [] rfl rfl ?_
  refine ⟨r, rfl, (by show _ < 200; omega), ?_⟩
  rw [hC.c7 r (by omega)]
  refine ⟨nI (p), hF, r, rfl, (by show _ < 200; omega), ?_⟩
  rw [hC.c9 r (by omega)]
  refine ⟨nI (k), hK, p, rfl, (by show _ < 12; omega), ?_⟩
  rw [(hC.p p (by omega)).2]
  refine ⟨fun h16x => ?_, fun h16x => ?_⟩
  · exact absurd (Or.inl h16x) hsh
  · refine ⟨p, rfl, (by show _ < 12; omega), ?_⟩
    rw [(hC.p p (by omega)).1]
    refine ⟨k, rfl, (by show _ < 4; omega), ?_⟩
    rw [hC.c10 k (by omega)]
    refine ⟨fun h26 => ?_, fun h26 => ?_⟩
    · refine ⟨_, rfl, ?_⟩
      refine br_eq rfl rfl (by omega) (by omega) (fun h32 => ?_) (fun h32 => ?_)
      · have hb0 := cv_best hC hT (x := nI p) rfl hp
        rw [hpk] at hb0
        refine ⟨_, _, hb0, _, rfl, 0, rfl, (by show _ < 6; omega), (show 0 < 6 by omega), r, rfl, (by show _ < 200; omega), ?_⟩
        rw [hC.r0 r (by omega)]
        refine br_ne h16 rfl (by omega) (by omega) (fun h46 => ?_) (fun h46 => ?_)
        · refine ⟨_, rfl, ?_⟩
          refine br_eq rfl rfl (by omega) (by omega) (fun h52 => ?_) (fun h52 => ?_)
          · replace hC : Cg d s t D 60 r Z σ := st_in hC hr hR rfl (by rw [h16]; decide)
            refine br_eq rfl rfl (by omega) (by omega) (fun h62 => ?_) (fun h62 => ?_)
            · refine ⟨fun h73 => ?_, fun h73 => ?_⟩
              · refine ⟨r, rfl, (by show _ < 200; omega), ?_⟩
                rw [hC.c6 r (by omega)]
                refine ⟨k, rfl, (by show _ < 4; omega), ?_⟩
                rw [hC.c11 k (by omega)]
                refine ⟨fun h93 => ?_, fun h93 => ?_⟩
                · rw [(congr (congrArg HSub.hSub hC.m.1) rfl)] at h93
                  refine ⟨0, rfl, (by show _ < 6; omega), (show 0 < 6 by omega), r, rfl, (by show _ < 200; omega), _, rfl, ?_⟩
                  replace hC : Cg d s t (up2 D 16 r (nI 1)) 60 r Z (up4 σ 34 d ((0) + 1) r (nI (1))) := st_rid hC 0 (by decide) (fun _ => rfl)
                  refine ⟨p, rfl, (by show _ < 12; omega), ?_⟩
                  rw [hC.w p (by omega)]
                  refine ⟨p, rfl, (by show _ < 12; omega), nI ((wtx t (up2 D 16 r (nI 1)) r p) + 1), (add_n rfl rfl), ?_⟩
                  replace hC : Cg d s t (up2 D 16 r (nI 1)) 60 200 Z (up4 (up4 σ 34 d ((0) + 1) r (nI (1))) 31 d 0 p (nI ((wtx t (up2 D 16 r (nI 1)) r p) + 1))) := st_outw hC hr hR rfl hF hp hP (up2_s _ _ _ _)
                  refine ⟨rfl, ?_⟩
                  unfold cms
                  rw [if_neg hsh, hpk]
                  dsimp only
                  rw [if_neg (Int32.not_le.mpr h93)]
                  exact hC
                · rw [(congr (congrArg HSub.hSub hC.m.1) rfl)] at h93
                  obtain ⟨σ1, ev1, hC⟩ := cv_lose5 hC hT (x := nI r) (y := nI p) rfl hr rfl hp h7 hm hm2
                  refine ⟨_, _, ev1, ?_⟩
                  refine ⟨rfl, ?_⟩
                  unfold cms
                  rw [if_neg hsh, hpk]
                  dsimp only
                  rw [if_pos (Int32.not_lt.mp h93), los_w]
                  exact hC
              · exact absurd rfl h73
            · exact absurd h62 (by omega)
          · exact absurd h52 (by omega)
        · exact absurd h46 (by omega)
      · exact absurd h32 (by omega)
    · exact absurd (Or.inr (i_nle h26)) hsh
theorem cv_look_so1 {d : Bool} {s t : Sg} {D : Dy} {Z : Zt} {σ : Sg} {r p q k b : Nat} (hC : Cg d s t D 60 200 Z σ) (hT : WN t) (hO : OI t D) (hr : r < nR t) (hp : p < nP t) (hq : q < nP t) (hk : k < 4) (hF : t 77 false 0 r = nI p) (hG : t 78 false 0 r = nI q) (hK : t 79 false 0 r = nI k) (h7 : Is (D 0 7) 4000) (hm : D 0 0 = nI (nN (D 0 0))) (hm2 : nN (D 0 0) < 1440) (h16 : D 16 r = nI 1) (hsh : ¬ (D 2 p = nI 0 ∨ t 80 false 0 k < D 1 p)) (hpk : pik D p (nB t) = some b) : ∃ σ', Ev false 178 [.inr (.inr (26, d, 0)), .inl (nI (r))] σ none σ' ∧ Cg d s t (cms t D r p q k) 60 200 (Zk Z p (nN (D 0 0) / 60)) σ' := by
  have hP := hT.P
  have hB := hT.B
  have hR := hT.R
  have hb := pik_at hpk
  have hb1 := hb.1
  have e1 : (r == 200) = false := by simp; omega
  have hw1 : 1 ≤ wtx t D 200 p := ct_pos (i := r) hr (by simp [e1, h16, hF])
  refine EvQ_wp 88 [] rfl rfl ?_
  refine ⟨r, rfl, (by show _ < 200; omega), ?_⟩
  rw [hC.c7 r (by omega)]
  refine ⟨nI (p), hF, r, rfl, (by show _ < 200; omega), ?_⟩
  rw [hC.c9 r (by omega)]
  refine ⟨nI (k), hK, p, rfl, (by show _ < 12; omega), ?_⟩
  rw [(hC.p p (by omega)).2]
  refine ⟨fun h16x => ?_, fun h16x => ?_⟩
  · exact absurd (Or.inl h16x) hsh
  · refine ⟨p, rfl, (by show _ < 12; omega), ?_⟩
    rw [(hC.p p (by omega)).1]
    refine ⟨k, rfl, (by show _ < 4; omega), ?_⟩
    rw [hC.c10 k (by omega)]
    refine ⟨fun h26 => ?_, fun h26 => ?_⟩
    · refine ⟨_, rfl, ?_⟩
      refine br_eq rfl rfl (by omega) (by omega) (fun h32 => ?_) (fun h32 => ?_)
      · have hb0 := cv_best hC hT (x := nI p) rfl hp
        rw [hpk] at hb0
        refine ⟨_, _, hb0, _, rfl, 0, rfl, (by show _ < 6; omega), (show 0 < 6 by omega), r, rfl, (by show _ < 200; omega), ?_⟩
        rw [hC.r0 r (by omega)]
        refine br_ne h16 rfl (by omega) (by omega) (fun h46 => ?_) (fun h46 => ?_)
        · exact absurd h46 (by omega)
        · refine ⟨_, rfl, ?_⟩
          refine br_eq rfl rfl (by omega) (by omega) (fun h52 => ?_) (fun h52 => ?_)
          · exact absurd h52 (by omega)
          · refine ⟨p, rfl, (by show _ < 12; omega), ?_⟩
            rw [hC.w p (by omega)]
            refine ⟨p, rfl, (by show _ < 12; omega), nI ((wtx t D 200 p) - 1), (sub_n rfl rfl (by omega)), ?_⟩
            replace hC : Cg d s t D 60 r Z (up4 σ 31 d 0 p (nI ((wtx t D 200 p) - 1))) := st_inw hC hr hR rfl hF hp hP h16
            refine br_eq rfl rfl (by omega) (by omega) (fun h62 => ?_) (fun h62 => ?_)
            · refine ⟨fun h73 => ?_, fun h73 => ?_⟩
              · exact absurd h73 (nI_m1 (by omega))
              · obtain ⟨σ1, ev1, hC⟩ := cv_take hC hT hr hb.1 hp hG hq hb.2.1 hb.2.2.1 h7 hm hm2
                refine ⟨_, _, ev1, ?_⟩
                refine ⟨rfl, ?_⟩
                unfold cms
                rw [if_neg hsh, hpk]
                exact hC
            · exact absurd h62 (by omega)
      · exact absurd h32 (by omega)
    · exact absurd (Or.inr (i_nle h26)) hsh
theorem cv_look_so0 {d : Bool} {s t : Sg} {D : Dy} {Z : Zt} {σ : Sg} {r p q k b : Nat} (hC : Cg d s t D 60 200 Z σ) (hT : WN t) (hO : OI t D) (hr : r < nR t) (hp : p < nP t) (hq : q < nP t) (hk : k < 4) (hF : t 77 false 0 r = nI p) (hG : t 78 false 0 r = nI q) (hK : t 79 false 0 r = nI k) (h7 : Is (D 0 7) 4000) (hm : D 0 0 = nI (nN (D 0 0))) (hm2 : nN (D 0 0) < 1440) (h16 : D 16 r = nI 0) (hsh : ¬ (D 2 p = nI 0 ∨ t 80 false 0 k < D 1 p)) (hpk : pik D p (nB t) = some b) : ∃ σ', Ev false 178 [.inr (.inr (26, d, 0)), .inl (nI (r))] σ none σ' ∧ Cg d s t (cms t D r p q k) 60 200 (Zk Z p (nN (D 0 0) / 60)) σ' := by
  have hP := hT.P
  have hB := hT.B
  have hR := hT.R
  have hb := pik_at hpk
  have hb1 := hb.1
  refine EvQ_wp 79 [] rfl rfl ?_
  refine ⟨r, rfl, (by show _ < 200; omega), ?_⟩
  rw [hC.c7 r (by omega)]
  refine ⟨nI (p), hF, r, rfl, (by show _ < 200; omega), ?_⟩
  rw [hC.c9 r (by omega)]
  refine ⟨nI (k), hK, p, rfl, (by show _ < 12; omega), ?_⟩
  rw [(hC.p p (by omega)).2]
  refine ⟨fun h16x => ?_, fun h16x => ?_⟩
  · exact absurd (Or.inl h16x) hsh
  · refine ⟨p, rfl, (by show _ < 12; omega), ?_⟩
    rw [(hC.p p (by omega)).1]
    refine ⟨k, rfl, (by show _ < 4; omega), ?_⟩
    rw [hC.c10 k (by omega)]
    refine ⟨fun h26 => ?_, fun h26 => ?_⟩
    · refine ⟨_, rfl, ?_⟩
      refine br_eq rfl rfl (by omega) (by omega) (fun h32 => ?_) (fun h32 => ?_)
      · have hb0 := cv_best hC hT (x := nI p) rfl hp
        rw [hpk] at hb0
        refine ⟨_, _, hb0, _, rfl, 0, rfl, (by show _ < 6; omega), (show 0 < 6 by omega), r, rfl, (by show _ < 200; omega), ?_⟩
        rw [hC.r0 r (by omega)]
        refine br_ne h16 rfl (by omega) (by omega) (fun h46 => ?_) (fun h46 => ?_)
        · refine ⟨_, rfl, ?_⟩
          refine br_eq rfl rfl (by omega) (by omega) (fun h52 => ?_) (fun h52 => ?_)
          · replace hC : Cg d s t D 60 r Z σ := st_in hC hr hR rfl (by rw [h16]; decide)
            refine br_eq rfl rfl (by omega) (by omega) (fun h62 => ?_) (fun h62 => ?_)
            · refine ⟨fun h73 => ?_, fun h73 => ?_⟩
              · exact absurd h73 (nI_m1 (by omega))
              · obtain ⟨σ1, ev1, hC⟩ := cv_take hC hT hr hb.1 hp hG hq hb.2.1 hb.2.2.1 h7 hm hm2
                refine ⟨_, _, ev1, ?_⟩
                refine ⟨rfl, ?_⟩
                unfold cms
                rw [if_neg hsh, hpk]
                exact hC
            · exact absurd h62 (by omega)
          · exact absurd h52 (by omega)
        · exact absurd h46 (by omega)
      · exact absurd h32 (by omega)
    · exact absurd (Or.inr (i_nle h26)) hsh
