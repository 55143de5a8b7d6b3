/-! A rule's test, on the model's state: the whole. -/
def cmpB (s : Nat) (a b : Int32) : Bool := if s = 12 then decide (a < b) else if s = 13 then decide (a = b) else decide (b < a)
theorem cmpV_B (s : Nat) (a b : Int32) : cmpV s a b = b2 (cmpB s a b) := by
  unfold cmpV cmpB b2
  split
  · simp
  · split
    · simp
    · simp
def cm1 (f : Nat → Nat) (ev : Nat → Int32) (i : Nat) : Int32 × Nat := sumE f ev (41 - i) i (nI 0) (nI 1)
def cmE (f : Nat → Nat) (ev : Nat → Int32) (i : Nat) : Bool × Nat := (cmpB (f (cm1 f ev i).2) (cm1 f ev i).1 (cm1 f ev ((cm1 f ev i).2 + 1)).1, (cm1 f ev ((cm1 f ev i).2 + 1)).2)
def tst (f : Nat → Nat) (ev : Nat → Int32) : Nat → Nat → Lv → List Lv → Option Bool → Bool × Nat
  | 0, i, _, _, _ => (false, i)
  | m + 1, i, (o, a, n), r, none => if f i = 19 then tst f ev m (i + 1) (o, a, n + 1) r none else if f i = 15 then tst f ev m (i + 1) (none, none, 0) ((o, a, n) :: r) none else tst f ev m (cmE f ev i).2 (o, a, 0) r (some (flB n (cmE f ev i).1))
  | m + 1, i, (o, a, n), r, some v => if f i = 17 then tst f ev m (i + 1) (o, some (a.getD true && v), 0) r none else if f i = 18 then tst f ev m (i + 1) (some (o.getD false || (a.getD true && v)), none, 0) r none else if f i = 16 then (match r with
      | [] => (false, i)
      | (o2, a2, n2) :: r2 => tst f ev m (i + 1) (o2, a2, 0) r2 (some (flB n2 (o.getD false || (a.getD true && v))))) else ((o.getD false || (a.getD true && v)), i)
theorem cm_au {f : Nat → Nat} {ev : Nat → Int32} {n i op dg : Nat} (h : okT f n) (hs : au f i = some (0, op, dg)) (hi : i < n) (hu : isU (f i)) : ∃ dg', au f (cmE f ev i).2 = some (5, op, dg') ∧ i < (cmE f ev i).2 ∧ (cmE f ev i).2 ≤ n ∧ ¬ (f (cmE f ev i).2 < 10 ∧ 0 < dg') ∧ ¬ f (cmE f ev i).2 = 10 ∧ ¬ f (cmE f ev i).2 = 11 ∧ (cm1 f ev i).2 + 1 ≤ 40 := by
  have h40 := h.1
  obtain ⟨d1, a1, a2, a3, a4, a5, a6⟩ := sm_au (ev := ev) h (41 - i) i 0 dg (nI 0) (nI 1) (by omega) hs (by omega) hi hu
  change au f (cm1 f ev i).2 = some (4, op, d1) at a1
  change i < (cm1 f ev i).2 at a2
  change (cm1 f ev i).2 ≤ n at a3
  change ¬ (f (cm1 f ev i).2 < 10 ∧ 0 < d1) at a4
  change ¬ f (cm1 f ev i).2 = 10 at a5
  change ¬ f (cm1 f ev i).2 = 11 at a6
  have b1 := okT_lt h a3 a1 (by omega) (by omega)
  obtain ⟨r, hr, h2⟩ := okT_nx h b1 a1
  unfold nxs at hr
  rw [if_neg (by omega), if_neg (by omega), if_pos (by omega), if_neg a4, if_neg (by omega), if_pos rfl] at hr
  by_cases hc : 12 ≤ f (cm1 f ev i).2 ∧ f (cm1 f ev i).2 ≤ 14
  · rw [if_pos hc] at hr
    cases hr
    rw [if_neg (by omega)] at h2
    have b2 := okT_lt h (by omega) h2 (by omega) (by omega)
    obtain ⟨r2, hr2, -⟩ := okT_nx h b2 h2
    have hu2 : isU (f ((cm1 f ev i).2 + 1)) := by
      unfold nxs at hr2
      rw [if_neg (by omega), if_pos (by omega)] at hr2
      by_cases q : isU (f ((cm1 f ev i).2 + 1))
      · exact q
      · rw [if_neg q] at hr2
        cases hr2
    obtain ⟨d2, c1, c2, c3, c4, c5, c6⟩ := sm_au (ev := ev) h (41 - ((cm1 f ev i).2 + 1)) ((cm1 f ev i).2 + 1) 2 0 (nI 0) (nI 1) (by omega) h2 (by omega) b2 hu2
    refine ⟨d2, c1, ?_, c3, c4, c5, c6, by omega⟩
    have c2 : (cm1 f ev i).2 + 1 < (cmE f ev i).2 := c2
    omega
  · rw [if_neg hc] at hr
    cases hr
theorem top_hd {a o : Option Bool} {r : List Lv} : ∀ c l, (oN a 17 ++ (oN o 18 ++ bel r)) = c :: l → ¬ c = 19 ∧ c ≤ 99 := by
  intro c l h
  cases a with
  | none =>
    have := oN_hd h
    omega
  | some b =>
    have := (List.cons.inj h).1
    omega
theorem mv_isSo_l {t : Sg} {D : Dy} (hT : WN t) (hX : XT t) {k p n : Nat} (hk : k < 10) (hp : p < nP t) (hok : okT (sy t k) n) : ∀ (m i : Nat) (o a : Option Bool) (nn : Nat) (r : List Lv) (v : Option Bool) (st dg : Nat) (τ : Sg), 41 ≤ i + m → i ≤ n → au (sy t k) i = some (st, r.length, dg) → (v = none → st = 0) → (∀ b, v = some b → nn = 0 ∧ ((st = 5 ∧ ¬ sy t k i = 10 ∧ ¬ sy t k i = 11 ∧ ¬ (sy t k i < 10 ∧ 0 < dg)) ∨ st = 7)) → (List.replicate nn 19 ++ (oN a 17 ++ (oN o 18 ++ bel r))).length ≤ i → (oV v ++ (oV a ++ (oV o ++ vls r))).length ≤ i → SR t D τ i (List.replicate nn 19 ++ (oN a 17 ++ (oN o 18 ++ bel r))) (oV v ++ (oV a ++ (oV o ++ vls r))) → G true 189 (fun r' s' => r' = some (.inl (if (tst (sy t k) (envV t D p) m i (o, a, nn) r v).1 then nI 1 else nI 0)) ∧ SR t D s' ((tst (sy t k) (envV t D p) m i (o, a, nn) r v).2 + 1) [] []) 7 [some (.inr (.inr (69, false, 0))), some (.inl (nI k)), some (.inl (nI p)), some (.inl (nI (oV v ++ (oV a ++ (oV o ++ vls r))).length)), some (.inl (nI (List.replicate nn 19 ++ (oN a 17 ++ (oN o 18 ++ bel r))).length)), none, none, none, none] [] τ := by
  have h40 := hok.1
  intro m
  induction m with
  | zero =>
    intro i o a nn r v st dg τ h1 h2
    omega
  | succ m ih =>
    intro i o a nn r v st dg τ hm hi hau hv0 hv1 hls hlv hS
    cases v with
    | none =>
      have h0 := hv0 rfl
      subst h0
      have hin := okT_lt hok hi hau (by omega) (by omega)
      obtain ⟨r0, hr0, h2⟩ := okT_nx hok hin hau
      unfold nxs at hr0
      rw [if_pos rfl] at hr0
      refine so_7 hX hk (by omega) (by omega) hS (fun h => ?_) (fun h τ' hS' => ?_) (fun h => ?_) (fun h => ?_) (fun q1 q2 q3 q4 q5 q6 => ?_)
      · rw [if_neg (by omega), if_neg (by omega), if_neg (by omega)] at hr0
        cases hr0
      · by_cases q : sy t k i = 19
        · rw [if_pos q] at hr0
          cases hr0
          rw [if_neg (by omega)] at h2
          rw [q] at hS'
          unfold tst
          rw [if_pos q]
          exact ih (i + 1) o a (nn + 1) r none 0 0 τ' (by omega) (by omega) h2 (fun _ => rfl) (fun b e => by cases e) (Nat.succ_le_succ hls) (by omega) hS'
        · have q2 : sy t k i = 15 := by omega
          by_cases q3 : r.length < 8
          · rw [if_neg q, if_pos ⟨q2, q3⟩] at hr0
            cases hr0
            rw [if_neg (by omega)] at h2
            rw [q2] at hS'
            unfold tst
            rw [if_neg q, if_pos q2]
            exact ih (i + 1) none none 0 ((o, a, nn) :: r) none 0 0 τ' (by omega) (by omega) h2 (fun _ => rfl) (fun b e => by cases e) (Nat.succ_le_succ hls) (Nat.le_succ_of_le hlv) hS'
          · rw [if_neg q, if_neg (fun z => q3 z.2), if_neg (by omega)] at hr0
            cases hr0
      · rw [if_neg (by omega), if_neg (by omega), if_neg (by omega)] at hr0
        cases hr0
      · rw [if_neg (by omega), if_neg (by omega), if_neg (by omega)] at hr0
        cases hr0
      · have hu : isU (sy t k i) := by
          by_cases q : isU (sy t k i)
          · exact q
          · rw [if_neg q2, if_neg (fun z => q3 z.1), if_neg q] at hr0
            cases hr0
        obtain ⟨d2, c1, c2, c3, c4, c5, c6, c7⟩ := cm_au (ev := envV t D p) hok hau hin hu
        refine so_148 (m := nn) (rest := oN a 17 ++ (oN o 18 ++ bel r)) (vs := oV a ++ (oV o ++ vls r)) hT hX hk hp (by omega) (r1 := cm1 (sy t k) (envV t D p) i) (r2 := cm1 (sy t k) (envV t D p) ((cm1 (sy t k) (envV t D p) i).2 + 1)) rfl c7 rfl top_hd (by change (oV a ++ (oV o ++ vls r)).length ≤ i at hlv; omega) (by omega) hS (fun τ' hS' => ?_)
        rw [cmpV_B, flp_b] at hS'
        unfold tst
        rw [if_neg q2, if_neg q3]
        refine ih _ o a 0 r (some (flB nn (cmE (sy t k) (envV t D p) i).1)) 5 d2 τ' (by omega) c3 c1 (fun e => by cases e) (fun b e => ⟨rfl, Or.inl ⟨rfl, c5, c6, c4⟩⟩) ?_ ?_ hS'
        · rw [List.length_append, List.length_replicate] at hls
          show (oN a 17 ++ (oN o 18 ++ bel r)).length ≤ _
          omega
        · show (oV a ++ (oV o ++ vls r)).length + 1 ≤ _
          change (oV a ++ (oV o ++ vls r)).length ≤ i at hlv
          omega
    | some v =>
      obtain ⟨hn0, hst⟩ := hv1 v rfl
      subst hn0
      have hin := okT_lt hok hi hau (by omega) (by omega)
      obtain ⟨r0, hr0, h2⟩ := okT_nx hok hin hau
      have hb : beh r.length (sy t k i) = some r0 := by
        unfold nxs at hr0
        rw [if_neg (by omega), if_neg (by omega)] at hr0
        rcases hst with ⟨e, g1, g2, g3⟩ | e
        · rw [if_pos (by omega), if_neg g3, if_neg (by omega), if_neg (by omega), if_pos e] at hr0
          exact hr0
        · rw [if_neg (by omega), if_pos e] at hr0
          exact hr0
      unfold beh at hb
      change (oN a 17 ++ (oN o 18 ++ bel r)).length ≤ i at hls
      change (oV a ++ (oV o ++ vls r)).length + 1 ≤ i at hlv
      rw [List.length_append] at hls hlv
      have eb := List.length_append (as := oN o 18) (bs := bel r)
      have ev := List.length_append (as := oV o) (bs := vls r)
      have hsy := sy_le hX hk (i := i)
      refine so_7 hX hk (by omega) (by show (oN a 17 ++ (oN o 18 ++ bel r)).length ≤ 50; rw [List.length_append]; omega) hS (fun h => ?_) (fun h τ' hS' => ?_) (fun h => ?_) (fun h => ?_) (fun q1 q2 q3 q4 q5 q6 => ?_)
      · rw [if_neg (by omega), if_neg (by omega)] at hb
        cases r with
        | cons L2 r2 =>
          rw [if_neg (fun z => by cases z.2)] at hb
          cases hb
        | nil =>
          refine lv_a199 (a := a) (v := v) (l := oN o 18 ++ bel []) (vs := oV o ++ vls []) (by omega) (by omega) hS (fun τ1 hS1 => ?_)
          refine lv_o199 (a := o) (v := a.getD true && v) (l := bel []) (vs := vls []) (by decide) (by decide) hS1 (fun τ2 hS2 => ?_)
          refine so_e199 (t := t) (D := D) (i := i) (ss := []) (vs := []) (c := 0) ?_
          have et : tst (sy t k) (envV t D p) (m + 1) i (o, a, 0) [] (some v) = ((o.getD false || (a.getD true && v)), i) := by
            unfold tst
            rw [if_neg (show ¬ sy t k i = 17 by omega), if_neg (show ¬ sy t k i = 18 by omega), if_neg (show ¬ sy t k i = 16 by omega)]
          rw [et]
          have q := so_225 (k := k) (p := p) (b2_le _) hS2
          have e9 : (if b2 (o.getD false || (a.getD true && v)) = 1 then nI 1 else nI 0) = (if (o.getD false || (a.getD true && v)) = true then nI 1 else nI 0) := by
            cases (o.getD false || (a.getD true && v)) <;> rfl
          rw [e9] at q
          exact G_fg 5 q
      · rw [if_neg (by omega), if_neg (by omega), if_neg (by omega)] at hb
        cases hb
      · rw [if_pos h] at hb
        cases hb
        rw [if_neg (by omega)] at h2
        refine lv_a41 (a := a) (v := v) (l := oN o 18 ++ bel r) (vs := oV o ++ vls r) (by omega) (by omega) (by omega) hS (fun τ1 hS1 => ?_)
        by_cases q : sy t k i = 17
        · refine so_n41 (by omega) (fun c l' e => ?_) (by omega) hS1 (so_86 (by omega) hS1 (fun τ2 hS2 => ?_))
          · have := oN_hd e
            omega
          · rw [q] at hS2
            unfold tst
            rw [if_pos q]
            exact ih (i + 1) o (some (a.getD true && v)) 0 r none 0 0 τ2 (by omega) (by omega) h2 (fun _ => rfl) (fun b e => by cases e) (by show (oN o 18 ++ bel r).length + 1 ≤ i + 1; omega) (by show (oV o ++ vls r).length + 1 ≤ i + 1; omega) hS2
        · have q8 : sy t k i = 18 := by omega
          refine lv_o41 (a := o) (v := a.getD true && v) (l := bel r) (vs := vls r) (by omega) q8 (by omega) (by omega) hS1 (fun τ2 hS2 => ?_)
          refine so_n41 (by omega) (fun c l' e => ?_) (by omega) hS2 (so_86 (by omega) hS2 (fun τ3 hS3 => ?_))
          · have := bel_hd e
            omega
          · rw [q8] at hS3
            unfold tst
            rw [if_neg q, if_pos q8]
            exact ih (i + 1) (some (o.getD false || (a.getD true && v))) none 0 r none 0 0 τ3 (by omega) (by omega) h2 (fun _ => rfl) (fun b e => by cases e) (by show (bel r).length + 1 ≤ i + 1; omega) (by show (vls r).length + 1 ≤ i + 1; omega) hS3
      · rw [if_neg (by omega)] at hb
        cases r with
        | nil =>
          rw [if_neg (fun z => absurd z.2 (by decide)), if_neg (by omega)] at hb
          cases hb
        | cons L2 r2 =>
          obtain ⟨o2, a2, n2⟩ := L2
          rw [if_pos ⟨h, Nat.succ_pos _⟩] at hb
          cases hb
          rw [if_neg (by omega)] at h2
          have ec : (bel ((o2, a2, n2) :: r2)).length = (List.replicate n2 19 ++ (oN a2 17 ++ (oN o2 18 ++ bel r2))).length + 1 := rfl
          have ew : (vls ((o2, a2, n2) :: r2)).length = (oV a2 ++ (oV o2 ++ vls r2)).length := rfl
          refine lv_a102 (a := a) (v := v) (l := oN o 18 ++ bel ((o2, a2, n2) :: r2)) (vs := oV o ++ vls ((o2, a2, n2) :: r2)) (by omega) (by omega) hS (fun τ1 hS1 => ?_)
          refine lv_o102 (a := o) (v := a.getD true && v) (l := bel ((o2, a2, n2) :: r2)) (vs := vls ((o2, a2, n2) :: r2)) (by omega) (by omega) hS1 (fun τ2 hS2 => ?_)
          refine so_s102 (c := 15) (ss := List.replicate n2 19 ++ (oN a2 17 ++ (oN o2 18 ++ bel r2))) (by decide) (by omega) hS2 rfl ?_
          refine so_134 (m := n2) (rest := oN a2 17 ++ (oN o2 18 ++ bel r2)) (vs := oV a2 ++ (oV o2 ++ vls r2)) top_hd (by omega) (b2_le _) (by omega) hS2 (fun τ3 hS3 => ?_)
          rw [flp_b] at hS3
          have et : tst (sy t k) (envV t D p) (m + 1) i (o, a, 0) ((o2, a2, n2) :: r2) (some v) = tst (sy t k) (envV t D p) m (i + 1) (o2, a2, 0) r2 (some (flB n2 (o.getD false || (a.getD true && v)))) := by
            unfold tst
            rw [if_neg (show ¬ sy t k i = 17 by omega), if_neg (show ¬ sy t k i = 18 by omega), if_pos h]
            cases m <;> rfl
          rw [et]
          have er := List.length_append (as := List.replicate n2 19) (bs := oN a2 17 ++ (oN o2 18 ++ bel r2))
          exact ih (i + 1) o2 a2 0 r2 (some (flB n2 (o.getD false || (a.getD true && v)))) 7 0 τ3 (by omega) (by omega) h2 (fun e => by cases e) (fun b e => ⟨rfl, Or.inr rfl⟩) (by show (oN a2 17 ++ (oN o2 18 ++ bel r2)).length ≤ i + 1; omega) (by show (oV a2 ++ (oV o2 ++ vls r2)).length + 1 ≤ i + 1; omega) hS3
      · rw [if_neg (by omega), if_neg (by omega), if_neg (by omega)] at hb
        cases hb
