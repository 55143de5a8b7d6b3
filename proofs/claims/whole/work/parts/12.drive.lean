/-! The van drives, on the model's state. -/
def dif (a b : Nat) : Nat := (a - b) + (b - a)
theorem mAbs_dif {a b : Nat} (ha : a < 1073741824) (hb : b < 1073741824) : mAbs (nI a - nI b) = nI (dif a b) := by
  unfold mAbs dif
  rcases Nat.le_total b a with h | h
  · rw [pk_sub h, show a - b + (b - a) = a - b by omega]
    rw [if_pos]
    rw [← nI_0]
    exact nI_le (Nat.zero_le _) (by omega)
  · rw [show a - b + (b - a) = b - a by omega]
    have e : nI a - nI b = -(nI (b - a)) := by
      rw [← pk_sub h]
      exact Int32.neg_sub.symm
    rw [e]
    split
    next hc =>
      have h0 : b - a = 0 := by
        rw [Int32.le_iff_toInt_le, nI_neg (by omega)] at hc
        have : (0 : Int32).toInt = 0 := by decide
        omega
      rw [h0]
      decide
    next => rw [← neg_sub, Int32.neg_neg]
def WT (t : Sg) : Prop := ∀ p, p < nP t → Is (t 72 false 0 p) 100 ∧ Is (t 73 false 0 p) 100
def wayN (t : Sg) (p q : Nat) : Nat := 1 + (dif (nN (t 72 false 0 p)) (nN (t 72 false 0 q)) + dif (nN (t 73 false 0 p)) (nN (t 73 false 0 q))) / 10
theorem wayN_le {t : Sg} (h : WT t) {p q : Nat} (hp : p < nP t) (hq : q < nP t) : 1 ≤ wayN t p q ∧ wayN t p q ≤ 21 := by
  have h1 := (h p hp).1.2
  have h2 := (h p hp).2.2
  have h3 := (h q hq).1.2
  have h4 := (h q hq).2.2
  unfold wayN dif
  omega
theorem way_n {t : Sg} (h : WT t) {p q : Nat} (hp : p < nP t) (hq : q < nP t) : way t p q = nI (wayN t p q) := by
  have h1 := (h p hp).1
  have h2 := (h p hp).2
  have h3 := (h q hq).1
  have h4 := (h q hq).2
  unfold way wayN
  rw [h1.1, h3.1, mAbs_dif (by have := h1.2; omega) (by have := h3.2; omega)]
  rw [h2.1, h4.1, mAbs_dif (by have := h2.2; omega) (by have := h4.2; omega)]
  have e1 := h1.2; have e2 := h2.2; have e3 := h3.2; have e4 := h4.2
  rw [nN_nI (by omega), nN_nI (by omega), nN_nI (by omega), nN_nI (by omega), nI_add, pk_div (by unfold dif; omega) (by omega) (by omega), nI_add]
theorem tk1_o {t : Sg} {p g i : Nat} (h : ¬ (g = 0 ∧ (i = 3 ∨ i = 7)) ∧ ¬ g = 11 ∧ ¬ g = 24 ∧ ¬ g = 27) (D : Dy) : tk1 t p D g i = D g i := by
  unfold tk1
  split
  · cases pik D p (nB t) with
    | none => rfl
    | some b =>
      show lgs _ _ _ _ _ g i = _
      rw [lgs_o (by omega) (by omega), up2_n (by omega), up2_n (by omega), up2_n (by omega)]
  · rfl
theorem lv1_o {t : Sg} {p g i : Nat} (h : ¬ (g = 0 ∧ (i = 3 ∨ i = 7)) ∧ ¬ g = 11 ∧ ¬ g = 12 ∧ ¬ g = 24 ∧ ¬ g = 27) (D : Dy) : lv1 t p D g i = D g i := by
  unfold lv1
  split
  · rw [lgs_o (by omega) (by omega), up2_n (by omega), up2_n (by omega), shf_o (by omega), up2_n (by omega)]
  · rfl
theorem tk1_CG {t : Sg} {p : Nat} {D : Dy} (h : CG t D) (h3 : Is (D 0 3) 12) : CG t (tk1 t p D) := by
  unfold tk1
  split
  next hc =>
    cases hb : pik D p (nB t) with
    | none => exact h
    | some b =>
      have hb2 := (pik_lt D p (nB t) b hb).1
      intro i hi
      change i < nN (lgs _ _ _ _ _ 0 3) at hi
      show ∃ b, b < nB t ∧ lgs _ _ _ _ _ 24 i = nI b
      rw [lgs_o (by decide) (by decide), up2_s, nN_nI (by omega)] at hi
      rw [lgs_o (by decide) (by omega), up2_n (by omega)]
      by_cases e : i = nN (D 0 3)
      · rw [e, up2_s]
        exact ⟨b, hb2, rfl⟩
      · rw [up2_n (by omega), up2_n (by omega)]
        exact h i (by omega)
  next => exact h
def SI (t : Sg) (X : Dy) : Prop := ∀ i, i < nN (X 0 6) → (∃ p, p < nP t ∧ X 25 i = nI p) ∧ ∃ m, m ≤ 12 ∧ (X 26 i = nI m ∨ X 26 i = -(nI m))
theorem SI_of {t : Sg} {X Y : Dy} (h : SI t X) (h6 : Y 0 6 = X 0 6) (h25 : ∀ i, Y 25 i = X 25 i) (h26 : ∀ i, Y 26 i = X 26 i) : SI t Y := by
  intro i hi
  rw [h6] at hi
  rw [h25, h26]
  exact h i hi
def VI (t : Sg) (X : Dy) : Prop := Is (X 0 3) 12 ∧ Is (X 0 7) 4000 ∧ Is (X 0 6) 20 ∧ SI t X ∧ CG t X ∧ ∃ p, (p = 0 ∨ p < nP t) ∧ X 0 2 = nI p
theorem tk1_VI {t : Sg} {p : Nat} {X : Dy} (h : VI t X) : VI t (tk1 t p X) := by
  obtain ⟨h3, h7, h6, hS, hC, hv⟩ := h
  refine ⟨tk1_3 h3, tk1_7 h7, ?_, SI_of hS (tk1_6 _) (fun i => tk1_o (by omega) _) (fun i => tk1_o (by omega) _), tk1_CG hC h3, ?_⟩
  · rw [tk1_6]; exact h6
  · rw [tk1_o (by omega)]; exact hv
theorem lv1_VI {t : Sg} {p : Nat} {X : Dy} (h : VI t X) : VI t (lv1 t p X) := by
  obtain ⟨h3, h7, h6, hS, hC, hv⟩ := h
  refine ⟨lv1_3 h3, lv1_7 h7, ?_, SI_of hS (lv1_6 _) (fun i => lv1_o (by omega) _) (fun i => lv1_o (by omega) _), lv1_CG hC h3, ?_⟩
  · rw [lv1_6]; exact h6
  · rw [lv1_o (by omega)]; exact hv
theorem itr_I {P : Dy → Prop} {f : Dy → Dy} (h : ∀ D, P D → P (f D)) (n : Nat) {D : Dy} (hD : P D) : P (itr f n D) := by
  induction n with
  | zero => exact hD
  | succ n ih => exact h _ ih
theorem drp_o {X : Dy} {g i : Nat} (h : ¬ (g = 0 ∧ i = 6) ∧ ¬ g = 25 ∧ ¬ g = 26) : drp X g i = X g i := by
  unfold drp
  rw [shf_o (by omega), shf_o (by omega), up2_n (by omega)]
theorem drp_6 (X : Dy) : drp X 0 6 = nI (nN (X 0 6) - 1) := by
  unfold drp
  rw [shf_o (by omega), shf_o (by omega), up2_s]
theorem drp_VI {t : Sg} {X : Dy} (h : VI t X) : VI t (drp X) := by
  obtain ⟨h3, h7, h6, hS, hC, hv⟩ := h
  have h62 := h6.2
  refine ⟨by rw [drp_o (by omega)]; exact h3, by rw [drp_o (by omega)]; exact h7, by rw [drp_6]; exact Is_of (by omega) (by omega), ?_, ?_, by rw [drp_o (by omega)]; exact hv⟩
  · intro i hi
    rw [drp_6, nN_nI (by omega)] at hi
    have e1 : drp X 25 i = X 25 (i + 1) := by
      unfold drp
      rw [shf_o (by omega)]
      unfold shf
      rw [if_pos ⟨rfl, hi⟩, up2_n (by omega)]
    have e2 : drp X 26 i = X 26 (i + 1) := by
      unfold drp
      show (if 26 = 26 ∧ i < _ then _ else _) = _
      rw [if_pos ⟨rfl, hi⟩, shf_o (by omega), up2_n (by omega)]
    rw [e1, e2]
    exact hS (i + 1) (by omega)
  · intro i hi
    rw [drp_o (by omega)] at hi ⊢
    exact hC i hi
def stp (t : Sg) (D : Dy) : Dy := if D 26 0 < nI 0 then stpB t D (nN (D 25 0)) (nN (-(D 26 0))) else stpA t D (nN (D 25 0)) (nN (D 26 0))
theorem van_VI {t : Sg} {D : Dy} {p : Nat} (hp : p < nP t) (h : VI t D) : VI t (up2 D 0 2 (nI p)) := by
  obtain ⟨h3, h7, h6, hS, hC, hv⟩ := h
  refine ⟨by rw [up2_n (by omega)]; exact h3, by rw [up2_n (by omega)]; exact h7, by rw [up2_n (by omega)]; exact h6, SI_of hS (up2_n (by omega)) (fun i => up2_n (by omega)) (fun i => up2_n (by omega)), ?_, p, Or.inr hp, up2_s _ _ _ _⟩
  intro i hi
  rw [up2_n (by omega)] at hi ⊢
  exact hC i hi
theorem stp_VI {t : Sg} {D : Dy} (hT : WN t) (h : VI t D) (h1 : 1 ≤ nN (D 0 6)) : VI t (stp t D) := by
  obtain ⟨p, hp, e⟩ := (h.2.2.2.1 0 (by omega)).1
  have hP := hT.P
  have e2 : nN (D 25 0) < nP t := by rw [e, nN_nI (by omega)]; exact hp
  unfold stp
  split
  · exact drp_VI (itr_I (fun D h => lv1_VI h) _ (van_VI e2 h))
  · exact drp_VI (itr_I (fun D h => tk1_VI h) _ (van_VI e2 h))
theorem stp_6 {t : Sg} {D : Dy} : stp t D 0 6 = nI (nN (D 0 6) - 1) := by
  unfold stp
  split
  · unfold stpB
    rw [drp_6, itr_e lv1_6, up2_n (by omega)]
  · unfold stpA
    rw [drp_6, itr_e tk1_6, up2_n (by omega)]
theorem stp_o {t : Sg} {D : Dy} {g i : Nat} (h : ¬ (g = 0 ∧ (i = 2 ∨ i = 3 ∨ i = 6 ∨ i = 7)) ∧ ¬ g = 11 ∧ ¬ g = 12 ∧ ¬ g = 24 ∧ ¬ g = 25 ∧ ¬ g = 26 ∧ ¬ g = 27) : stp t D g i = D g i := by
  unfold stp
  split
  · unfold stpB
    rw [drp_o (by omega), itr_e (fun D => lv1_o (by omega) D), up2_n (by omega)]
  · unfold stpA
    rw [drp_o (by omega), itr_e (fun D => tk1_o (by omega) D), up2_n (by omega)]
theorem neg_lt0 {m : Nat} (h : m < 2147483648) (h0 : 0 < m) : -(nI m) < nI 0 := by
  rw [Int32.lt_iff_toInt_lt, nI_neg h, nI_toInt (by omega)]
  omega
theorem mv_stp {t : Sg} {D : Dy} {τ : Sg} (hA : Ag t D τ) (hT : WN t) (hV : VI t D) (h1 : 1 ≤ nN (D 0 6)) : ∃ τ', Ev true 157 [.inr (.inr (69, false, 0))] τ none τ' ∧ Ag t (stp t D) τ' := by
  obtain ⟨⟨p, hp, e⟩, m, hm, e2⟩ := hV.2.2.2.1 0 (by omega)
  have hP := hT.P
  obtain ⟨h3, h7, h6, hS, hC, hv⟩ := hV
  have hA1 : ∀ m, m ≤ 12 → D 26 0 = nI m → ∃ τ', Ev true 157 [.inr (.inr (69, false, 0))] τ none τ' ∧ Ag t (stp t D) τ' := by
    intro m hm e2
    have q : stp t D = stpA t D p m := by
      unfold stp
      rw [e2, e, nN_nI (by omega), nN_nI (by omega), if_neg]
      intro q
      rw [Int32.lt_iff_toInt_lt, nI_toInt (by omega), nI_toInt (by omega)] at q
      omega
    rw [q]
    exact mv_stopsA hA hT hp hm e e2 h3 h7 h6 h1
  rcases e2 with e2 | e2
  · exact hA1 m hm e2
  · rcases Nat.eq_zero_or_pos m with rfl | h0
    · exact hA1 0 (by omega) (by rw [e2]; decide)
    · have q : stp t D = stpB t D p m := by
        unfold stp
        rw [e2, e, nN_nI (by omega), if_pos (neg_lt0 (by omega) h0), neg_neg, nN_nI (by omega)]
      rw [q]
      exact mv_stopsB hA hT hp hm e e2 h3 h7 h6 h1 hC
def drv (t : Sg) : Nat → Dy → Dy
  | 0, D => D
  | n + 1, D => if D 0 5 = -1 then (if D 25 0 = D 0 2 then drv t n (stp t D) else up2 D 0 5 (D 0 0 + way t (nN (D 0 2)) (nN (D 25 0)))) else D
theorem drv_S (t : Sg) (n : Nat) (D : Dy) : drv t (n + 1) D = if D 0 5 = -1 then (if D 25 0 = D 0 2 then drv t n (stp t D) else up2 D 0 5 (D 0 0 + way t (nN (D 0 2)) (nN (D 25 0)))) else D := rfl
def drs (t : Sg) (D : Dy) : Dy := let E := if D 0 5 = D 0 0 then stp t (up2 D 0 5 (-1)) else D
  drv t (nN (E 0 6)) E
theorem mv_drives_l {t : Sg} (hT : WN t) (hW : WT t) : ∀ (n : Nat) (X : Dy) (τ : Sg), nN (X 0 6) = n → VI t X → Ag t X τ → X 0 0 = nI (nN (X 0 0)) → nN (X 0 0) < 1440 → G true 191 (fun r' s' => r' = none ∧ Ag t (drv t n X) s') 16 [some (.inr (.inr (69, false, 0)))] [] τ := by
  have hP := hT.P
  intro n
  induction n with
  | zero =>
    intro X τ hn hV hA hm hm2
    have h6 := hV.2.2.1
    have h62 := h6.2
    refine G_wp 100 [16] rfl ?_
    obtain ⟨v, hv, hv0⟩ := hV.2.2.2.2.2
    have hp0 : X 25 0 = X 25 0 := rfl
    refine ⟨5, rfl, (by show _ < 23184; omega), ?_⟩
    rw [hA.r0 5 (by decide)]
    refine ⟨fun h21 => ?_, fun h21 => ?_⟩
    · exact ⟨rfl, hA⟩
    · refine ⟨6, rfl, (by show _ < 23184; omega), ?_⟩
      rw [hA.r0 6 (by decide)]
      refine br_le (by exact h6.1) rfl (by omega) (by omega) (fun h26 => ?_) (fun h26 => ?_)
      · exact ⟨rfl, hA⟩
      · exact absurd h26 (by omega)
  | succ n ih =>
    intro X τ hn hV hA hm hm2
    have h6 := hV.2.2.1
    have h62 := h6.2
    refine G_wp 100 [16] rfl ?_
    obtain ⟨v, hv, hv0⟩ := hV.2.2.2.2.2
    obtain ⟨p, hp, hp0⟩ := (hV.2.2.2.1 0 (by omega)).1
    have hv' : v < nP t := hv.elim (fun q => by omega) (fun q => q)
    refine ⟨5, rfl, (by show _ < 23184; omega), ?_⟩
    rw [hA.r0 5 (by decide)]
    refine ⟨fun h21 => ?_, fun h21 => ?_⟩
    · refine ⟨rfl, ?_⟩
      rw [drv_S, if_neg h21]
      exact hA
    · refine ⟨6, rfl, (by show _ < 23184; omega), ?_⟩
      rw [hA.r0 6 (by decide)]
      refine br_le (by exact h6.1) rfl (by omega) (by omega) (fun h26 => ?_) (fun h26 => ?_)
      · exact absurd h26 (by omega)
      · refine ⟨3144, rfl, (by show _ < 23184; omega), ?_⟩
        rw [hA.r25 0 (by decide)]
        refine ⟨2, rfl, (by show _ < 23184; omega), ?_⟩
        rw [hA.r0 2 (by decide)]
        refine br_ne hp0 hv0 (by omega) (by omega) (fun h35 => ?_) (fun h35 => ?_)
        · refine ⟨0, rfl, (by show _ < 23184; omega), ?_⟩
          rw [hA.r0 0 (by decide)]
          refine ⟨2, rfl, (by show _ < 23184; omega), ?_⟩
          rw [hA.r0 2 (by decide)]
          refine ⟨3144, rfl, (by show _ < 23184; omega), ?_⟩
          rw [hA.r25 0 (by decide)]
          refine ⟨_, _, mv_way hA hT hv0 (by omega) hp0 (by omega), 5, rfl, (by show _ < 23184; omega), _, rfl, ?_⟩
          replace hA := hA.w0 5 (by decide) (((X 0 0) + (way t v p)))
          have e : drv t (n + 1) X = (up2 X 0 5 (((X 0 0) + (way t v p)))) := by
            rw [drv_S, if_pos h21, if_neg (by rw [hp0, hv0]; exact fun q => h35 (nI_inj q (by omega) (by omega))), hp0, hv0, nN_nI (by omega), nN_nI (by omega)]
          rw [e]
          refine G_wp 100 [] rfl ?_
          refine ⟨5, rfl, (by show _ < 23184; omega), ?_⟩
          rw [hA.r0 5 (by decide), up2_s]
          refine ⟨fun h21 => ?_, fun h21 => ?_⟩
          · exact ⟨rfl, hA⟩
          · exact absurd h21 (by rw [hm, way_n hW (by omega) (by omega), nI_add]; exact nI_m1 (by have := (wayN_le hW (p := v) (q := p) (by omega) (by omega)).2; omega))
        · obtain ⟨τ1, ev1, hA⟩ := mv_stp hA hT hV (by omega)
          refine ⟨_, _, ev1, ?_⟩
          have e : drv t (n + 1) X = drv t n (stp t X) := by
            rw [drv_S, if_pos h21, if_pos (by rw [hp0, hv0, h35])]
          rw [e]
          exact ih _ _ (by rw [stp_6, nN_nI (by omega)]; omega) (stp_VI hT hV (by omega)) hA (by rw [stp_o (by omega)]; exact hm) (by rw [stp_o (by omega)]; exact hm2)
theorem mv_drives {t : Sg} {D : Dy} {τ : Sg} (hA : Ag t D τ) (hT : WN t) (hW : WT t) (hV : VI t D) (hm : D 0 0 = nI (nN (D 0 0))) (hm2 : nN (D 0 0) < 1440) (hc : D 0 5 = D 0 0 → 1 ≤ nN (D 0 6)) : ∃ τ', Ev true 191 [.inr (.inr (69, false, 0))] τ none τ' ∧ Ag t (drs t D) τ' := by
  have hV5 : VI t (up2 D 0 5 (-1)) := by
    obtain ⟨h3, h7, h6, hS, hC, hv⟩ := hV
    refine ⟨by rw [up2_n (by omega)]; exact h3, by rw [up2_n (by omega)]; exact h7, by rw [up2_n (by omega)]; exact h6, SI_of hS (up2_n (by omega)) (fun i => up2_n (by omega)) (fun i => up2_n (by omega)), ?_, by rw [up2_n (by omega)]; exact hv⟩
    intro i hi
    rw [up2_n (by omega)] at hi ⊢
    exact hC i hi
  refine EvQ_wp 100 [16] rfl rfl ?_
  refine ⟨5, rfl, (by show _ < 23184; omega), ?_⟩
  rw [hA.r0 5 (by decide)]
  refine ⟨0, rfl, (by show _ < 23184; omega), ?_⟩
  rw [hA.r0 0 (by decide)]
  refine ⟨fun h8 => ?_, fun h8 => ?_⟩
  · have e : drs t D = drv t (nN (D 0 6)) D := by unfold drs; rw [if_neg h8]
    rw [e]
    exact mv_drives_l hT hW _ _ _ rfl hV hA hm hm2
  · refine ⟨5, rfl, (by show _ < 23184; omega), _, rfl, ?_⟩
    replace hA := hA.w0 5 (by decide) (-1)
    obtain ⟨τ1, ev1, hA⟩ := mv_stp hA hT hV5 (by rw [up2_n (by omega)]; exact hc h8)
    refine ⟨_, _, ev1, ?_⟩
    have e : drs t D = drv t (nN (stp t (up2 D 0 5 (-1)) 0 6)) (stp t (up2 D 0 5 (-1))) := by unfold drs; rw [if_pos h8]
    rw [e]
    exact mv_drives_l hT hW _ _ _ rfl (stp_VI hT hV5 (by rw [up2_n (by omega)]; exact hc h8)) hA (by rw [stp_o (by omega), up2_n (by omega)]; exact hm) (by rw [stp_o (by omega), up2_n (by omega)]; exact hm2)
