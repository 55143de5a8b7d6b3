/-! The best round, on the model's state. -/
def RS (t : Sg) (D : Dy) (τ : Sg) (n : Nat) : Prop := Ag t D τ ∧ τ 69 false 0 49 = nI n ∧ ∀ j, j < n → τ 101 false 0 j = nI (chF t j)
def TB (t : Sg) (D : Dy) (n : Nat) (τ : Sg) (s : Nat) : Prop := ∀ set last, s ≤ set → set < 2 ^ n → last ≤ n → τ 102 false 0 (9 * set + last) = nI (cs t D n set last)
/-- the van's post, and what is wanted -/
def RV (t : Sg) (D : Dy) : Prop := (∃ p, (p = 0 ∨ p < nP t) ∧ D 0 2 = nI p) ∧ ∀ p, p < 12 → ¬ t 89 false 0 p = nI 0 → p < nP t
theorem mv_rway {t : Sg} {D : Dy} {τ : Sg} (hA : Ag t D τ) (hT : WN t) (hW : WT t) {p q : Nat} (hp : p < nP t) (hq : q < nP t) : Ev true 167 [.inr (.inr (69, false, 0)), .inl (nI (p)), .inl (nI (q))] τ (some (.inl (nI (rwy t p q)))) τ := by
  have hP := hT.P
  refine Ev_wp 31 [] rfl rfl ?_
  refine br_ne rfl rfl (by omega) (by omega) (fun h2 => ?_) (fun h2 => ?_)
  · have ev := mv_way hA hT (x := nI p) (y := nI q) rfl (by omega) rfl (by omega)
    rw [way_n hW hp hq] at ev
    refine ⟨_, _, ev, ?_⟩
    exact ⟨by unfold rwy; rw [if_neg h2], rfl⟩
  · exact ⟨by unfold rwy; rw [if_pos h2], rfl⟩
theorem mr_gather {t : Sg} {D : Dy} {P : Option AV → Sg → Prop} (hT : WN t) (hK : cn t (nP t) ≤ 8 → ∀ τ, RS t D τ (cn t (nP t)) → G true 192 P 34 [some (.inr (.inr (69, false, 0))), none, none, none, none, none, none, none, none] [] τ) (hN : 8 < cn t (nP t) → ∀ τ, Ag t D τ → P (some (.inl (-3))) τ) : ∀ (j p : Nat), p + j = nP t → cn t p ≤ 8 → ∀ τ, RS t D τ (cn t p) → G true 192 P 5 [some (.inr (.inr (69, false, 0))), some (.inl (nI p)), none, none, none, none, none, none, none] [] τ := by
  have hP := hT.P
  intro j
  induction j with
  | zero =>
    intro p hp hc8 τ hS
    have hA := hS.1
    have eP := hA.P hT
    refine G_wp 90 [5, 34] rfl ?_
    refine br_ge rfl eP (by omega) (by omega) (fun h8 => ?_) (fun h8 => ?_)
    · rw [show p = nP t by omega] at hS hc8
      exact G_fg 1 (hK hc8 _ hS)
    · exact absurd h8 (by omega)
  | succ j ih =>
    intro p hp hc8 τ hS
    have hA := hS.1
    have eP := hA.P hT
    refine G_wp 90 [5, 34] rfl ?_
    refine br_ge rfl eP (by omega) (by omega) (fun h8 => ?_) (fun h8 => ?_)
    · exact absurd h8 (by omega)
    · refine ⟨p, rfl, (by show _ < 12; omega), ?_⟩
      rw [hA.2 89 _ _ _ (by decide) rfl]
      refine ⟨fun h13 => ?_, fun h13 => ?_⟩
      · refine ⟨nI (p + 1), nI_add _ _, ?_⟩
        have e : cn t (p + 1) = cn t p := by rw [cn_S, if_neg (by simp [h13])]; rfl
        refine ih (p + 1) (by omega) (by omega) _ ?_
        rw [e]
        exact hS
      · refine br_ne hS.2.1 rfl (by omega) (by omega) (fun h17 => ?_) (fun h17 => ?_)
        · refine ⟨cn t p, hS.2.1, (by show _ < 8; omega), _, rfl, ?_⟩
          replace hA := Ag_scr hA (k := 101) (d := false) (i := 0) (j := (cn t p)) (v := (nI (p))) (by decide) rfl
          refine ⟨nI ((cn t p) + 1), (add_n hS.2.1 rfl), ?_⟩
          replace hA := Ag_scr hA (k := 69) (d := false) (i := 0) (j := 49) (v := (nI ((cn t p) + 1))) (by decide) rfl
          refine ⟨nI (p + 1), nI_add _ _, ?_⟩
          have e : cn t (p + 1) = cn t p + 1 := by rw [cn_S, if_pos (by simp [h13])]
          refine ih (p + 1) (by omega) (by omega) _ ⟨hA, ?_, fun j hj => ?_⟩
          · rw [e]
            exact up4_s _ _ _ _ _ _
          · rw [up4_nk (by decide)]
            rw [e] at hj
            unfold up4
            by_cases q : j = cn t p
            · rw [if_pos ⟨rfl, rfl, rfl, q⟩, q, chF_at (by omega) h13]
            · rw [if_neg (fun z => q z.2.2.2)]
              exact hS.2.2 j (by omega)
        · refine hN ?_ _ hA
          have h9 : cn t (p + 1) = 9 := by rw [cn_S, if_pos (by simp [h13]), h17]
          have := cn_mono t (show p + 1 ≤ nP t by omega)
          omega
theorem mr_load {t : Sg} {D : Dy} {τ : Sg} {P : Option AV → Sg → Prop} {n : Nat} (hS : RS t D τ n) (h8 : n ≤ 8) (hch : ∀ j, j < n → chF t j < nP t) (hP : nP t ≤ 12) {a : Nat} {set : Nat} (hset : set < 2 ^ n) (hK : G true 192 P 77 [some (.inr (.inr (69, false, 0))), some (.inl (nI a)), some (.inl (nI set)), some (.inl (ldS t D set n)), none, none, none, none, none] [] τ) : ∀ (j i : Nat), i + j = n → ∀ z, z = ldS t D set i → G true 192 P 52 [some (.inr (.inr (69, false, 0))), some (.inl (nI a)), some (.inl (nI set)), some (.inl (z)), some (.inl (nI i)), none, none, none, none] [] τ := by
  have hA := hS.1
  have h256 : 2 ^ n ≤ 256 := Nat.pow_le_pow_right (n := 2) (by decide) h8
  intro j
  induction j with
  | zero =>
    intro i hi z hz
    refine G_wp 90 [52, 77] rfl ?_
    refine br_ge rfl hS.2.1 (by omega) (by omega) (fun h55 => ?_) (fun h55 => ?_)
    · rw [hz, show i = n by omega]
      exact G_fg 4 hK
    · exact absurd h55 (by omega)
  | succ j ih =>
    intro i hi z hz
    refine G_wp 90 [52, 77] rfl ?_
    refine br_ge rfl hS.2.1 (by omega) (by omega) (fun h55 => ?_) (fun h55 => ?_)
    · exact absurd h55 (by omega)
    · refine br_ne (b_and1 (b_shr rfl rfl (by omega) (by omega)) (Nat.lt_of_le_of_lt (Nat.div_le_self _ _) (by omega))) rfl (Nat.lt_of_lt_of_le (Nat.mod_lt _ (by decide)) (by decide)) (by omega) (fun h63 => ?_) (fun h63 => ?_)
      · refine ⟨_, rfl, nI (i + 1), nI_add _ _, ?_⟩
        refine ih (i + 1) (by omega) _ ?_
        rw [ldS_S, hz, if_neg (fun q => h63 ((tb_1 _ _).mp q))]
      · refine ⟨i, rfl, (show i < 8 by omega), chF t i, (hS.2.2 _ (by omega)), (show chF t i < 12 from Nat.lt_of_lt_of_le (hch i (by omega)) hP), ?_⟩
        rw [hA.2 89 _ _ _ (by decide) rfl]
        refine ⟨_, rfl, nI (i + 1), nI_add _ _, ?_⟩
        refine ih (i + 1) (by omega) _ ?_
        rw [ldS_S, hz, if_pos ((tb_1 _ _).mpr h63)]
theorem rwy_le {t : Sg} (hT : WN t) (hW : WT t) {p q : Nat} (hp : p < nP t) (hq : q < nP t) : rwy t p q ≤ 21 := by
  unfold rwy
  split
  · omega
  · exact (wayN_le hW hp hq).2
theorem mr_least {t : Sg} {D : Dy} {τ : Sg} {P : Option AV → Sg → Prop} {n : Nat} (hS : RS t D τ n) (h8 : n ≤ 8) (hch : ∀ j, j < n → chF t j < nP t) (hP : nP t ≤ 12) {a : Nat} {set : Nat} (hset : set < 2 ^ n) (hT : WN t) (hW : WT t) (hTB : TB t D n τ (set + 1)) {last h b0 : Nat} {z3 : Int32} (hb0 : b0 ≤ 1000000) (hh0 : h < nP t ∨ n = 0) (hK : G true 192 P 146 [some (.inr (.inr (69, false, 0))), some (.inl (nI a)), some (.inl (nI set)), some (.inl (z3)), some (.inl (nI last)), some (.inl (nI h)), some (.inl (nI (mnL (fun i => cs t D n (set ||| 2 ^ i) i + rwy t h (chF t i)) set b0 n))), none, none] [] τ) : ∀ (j i : Nat), i + j = n → ∀ z, z = mnL (fun i => cs t D n (set ||| 2 ^ i) i + rwy t h (chF t i)) set b0 i → G true 192 P 106 [some (.inr (.inr (69, false, 0))), some (.inl (nI a)), some (.inl (nI set)), some (.inl (z3)), some (.inl (nI last)), some (.inl (nI h)), some (.inl (nI z)), some (.inl (nI i)), none] [] τ := by
  have hA := hS.1
  have h256 : 2 ^ n ≤ 256 := Nat.pow_le_pow_right (n := 2) (by decide) h8
  intro j
  induction j with
  | zero =>
    intro i hi z hz
    have hzl : z ≤ 1000000 := by rw [hz]; exact Nat.le_trans (mnL_le i) hb0
    refine G_wp 90 [106, 146] rfl ?_
    refine br_ge rfl hS.2.1 (by omega) (by omega) (fun h109 => ?_) (fun h109 => ?_)
    · rw [hz, show i = n by omega]
      exact G_fg 7 (G_fg 8 hK)
    · exact absurd h109 (by omega)
  | succ j ih =>
    intro i hi z hz
    have hzl : z ≤ 1000000 := by rw [hz]; exact Nat.le_trans (mnL_le i) hb0
    have hh : h < nP t := hh0.resolve_right (by omega)
    refine G_wp 90 [106, 146] rfl ?_
    refine br_ge rfl hS.2.1 (by omega) (by omega) (fun h109 => ?_) (fun h109 => ?_)
    · exact absurd h109 (by omega)
    · refine br_ne (b_and1 (b_shr rfl rfl (by omega) (by omega)) (Nat.lt_of_le_of_lt (Nat.div_le_self _ _) (by omega))) rfl (Nat.lt_of_lt_of_le (Nat.mod_lt _ (by decide)) (by decide)) (by omega) (fun h115 => ?_) (fun h115 => ?_)
      · refine ⟨nI (i + 1), nI_add _ _, ?_⟩
        refine G_fg 8 (ih (i + 1) (by omega) _ ?_)
        rw [mnL_S]
        rw [if_neg (fun q => h115 ((tb_0 _ _).mp q.1)), hz]
      · have hor := or_lt hset (show i < n by omega)
        have hcl := cs_le (t := t) (D := D) (last := i) hor
        refine ⟨(9 * (set ||| 2 ^ i)) + i, (add_n (mul_n rfl (b_or rfl (b_shl1 rfl rfl (by omega)))) rfl), (show 9 * (set ||| 2 ^ i) + i < 2304 by omega), i, rfl, (show i < 8 by omega), ?_⟩
        have hrl := rwy_le hT hW hh (hch i (by omega))
        have ec : τ 101 false 0 i = nI (chF t i) := hS.2.2 _ (by omega)
        have evr := mv_rway hA hT hW hh (hch i (by omega))
        rw [← ec] at evr
        refine ⟨_, _, evr, nI ((cs t D n (set ||| 2 ^ i) i) + (rwy t h (chF t i))), (add_n (hTB (set ||| 2 ^ i) i (or_gt ((tb_0 _ _).mpr h115)) hor (by omega)) rfl), ?_⟩
        refine br_ge rfl rfl (by omega) (by omega) (fun h139 => ?_) (fun h139 => ?_)
        · refine ⟨_, rfl, nI (i + 1), nI_add _ _, ?_⟩
          refine G_fg 8 (ih (i + 1) (by omega) _ ?_)
          rw [mnL_S]
          rw [if_neg (fun q => absurd q.2 (by rw [← hz]; exact Nat.not_lt.mpr h139)), hz]
        · refine ⟨_, rfl, nI (i + 1), nI_add _ _, ?_⟩
          refine G_fg 8 (ih (i + 1) (by omega) _ ?_)
          rw [mnL_S]
          rw [if_pos ⟨(tb_0 _ _).mpr h115, by rw [← hz]; exact h139⟩]
theorem mr_cell {t : Sg} {D : Dy} {τ : Sg} {P : Option AV → Sg → Prop} {n : Nat} (hS : RS t D τ n) (h8 : n ≤ 8) {a set last h m : Nat} (hset : set < 2 ^ n) (hl : last ≤ n) (hm : m = mnL (fun i => cs t D n (set ||| 2 ^ i) i + rwy t (hr t D n last) (chF t i)) set (if set = 2 ^ n - 1 then 0 else 1000000) n) (hK : ∀ τ', RS t D τ' n → τ' = up4 τ 102 false 0 (9 * set + last) (nI (cs t D n set last)) → G true 192 P 79 [some (.inr (.inr (69, false, 0))), some (.inl (nI a)), some (.inl (nI set)), some (.inl (ldS t D set n)), some (.inl (nI (last + 1))), none, none, none, none] [] τ') : G true 192 P 146 [some (.inr (.inr (69, false, 0))), some (.inl (nI a)), some (.inl (nI set)), some (.inl (ldS t D set n)), some (.inl (nI last)), some (.inl (nI h)), some (.inl (nI m)), none, none] [] τ := by
  have hA := hS.1
  have h256 : 2 ^ n ≤ 256 := Nat.pow_le_pow_right (n := 2) (by decide) h8
  refine G_wp 60 [79] rfl ?_
  refine ⟨_, _, mv_in2, ?_⟩
  refine brd_eq (fun h157 => ?_) (fun h157 => ?_)
  · refine ⟨(9 * set) + last, (add_n (mul_n rfl rfl) rfl), (show 9 * set + last < 2304 by omega), _, rfl, ?_⟩
    replace hA := Ag_scr hA (k := 102) (d := false) (i := 0) (j := ((9 * set) + last)) (v := (nI (1000000))) (by decide) rfl
    refine ⟨nI (last + 1), nI_add _ _, ?_⟩
    have ecs : cs t D n set last = 1000000 := by rw [cs_eq hset, ifC_f (show ¬ okL t D n set from h157)]
    exact G_fg 5 (G_fg 6 (hK _ ⟨hA, (up4_nk (by decide)).trans hS.2.1, fun j hj => (up4_nk (by decide)).trans (hS.2.2 j hj)⟩ (by rw [ecs])))
  · refine ⟨(9 * set) + last, (add_n (mul_n rfl rfl) rfl), (show 9 * set + last < 2304 by omega), _, rfl, ?_⟩
    replace hA := Ag_scr hA (k := 102) (d := false) (i := 0) (j := ((9 * set) + last)) (v := (nI (m))) (by decide) rfl
    refine ⟨nI (last + 1), nI_add _ _, ?_⟩
    have ecs : cs t D n set last = m := by rw [cs_eq hset, ifC_t (show okL t D n set from h157)]; exact hm.symm
    exact G_fg 5 (G_fg 6 (hK _ ⟨hA, (up4_nk (by decide)).trans hS.2.1, fun j hj => (up4_nk (by decide)).trans (hS.2.2 j hj)⟩ (by rw [ecs])))
theorem mr_lasts {t : Sg} {D : Dy} {P : Option AV → Sg → Prop} {n : Nat} (h8 : n ≤ 8) (hch : ∀ j, j < n → chF t j < nP t) (hP : nP t ≤ 12) {set : Nat} (hset : set < 2 ^ n) (hT : WN t) (hW : WT t) {v : Nat} (hv : D 0 2 = nI v) (hv2 : v < nP t ∨ n = 0) (hvb : v < 12) (hK : ∀ τ, RS t D τ n → TB t D n τ set → G true 192 P 164 [some (.inr (.inr (69, false, 0))), some (.inl (nI (2 ^ n - 1))), some (.inl (nI set)), some (.inl (ldS t D set n)), none, none, none, none, none] [] τ) : ∀ (j last : Nat), last + j = n + 1 → ∀ τ, RS t D τ n → TB t D n τ (set + 1) → (∀ l, l < last → τ 102 false 0 (9 * set + l) = nI (cs t D n set l)) → G true 192 P 79 [some (.inr (.inr (69, false, 0))), some (.inl (nI (2 ^ n - 1))), some (.inl (nI set)), some (.inl (ldS t D set n)), some (.inl (nI last)), none, none, none, none] [] τ := by
  have h256 : 2 ^ n ≤ 256 := Nat.pow_le_pow_right (n := 2) (by decide) h8
  intro j
  induction j with
  | zero =>
    intro last hl τ hS hTB hr1
    have hA := hS.1
    refine G_wp 90 [79, 106, 164] rfl ?_
    refine br_gt rfl hS.2.1 (by omega) (by omega) (fun h82 => ?_) (fun h82 => ?_)
    · refine G_fg 4 (hK _ hS (fun set2 last2 h1 h2 h3 => ?_))
      by_cases e : set2 = set
      · rw [e]; exact hr1 last2 (by omega)
      · exact hTB set2 last2 (by omega) h2 h3
    · exact absurd h82 (by omega)
  | succ j ih =>
    intro last hl τ hS hTB hr1
    have hA := hS.1
    refine G_wp 90 [79, 106, 164] rfl ?_
    refine br_gt rfl hS.2.1 (by omega) (by omega) (fun h82 => ?_) (fun h82 => ?_)
    · exact absurd h82 (by omega)
    · refine br_ne rfl hS.2.1 (by omega) (by omega) (fun h86 => ?_) (fun h86 => ?_)
      · refine ⟨last, rfl, (show last < 8 by omega), nI (chF t last), (hS.2.2 _ (by omega)), ?_⟩
        refine br_ne rfl rfl (by omega) (by omega) (fun h99 => ?_) (fun h99 => ?_)
        · refine ⟨_, rfl, _, rfl, ?_⟩
          have eh : hr t D n last = chF t last := by unfold hr; rw [if_neg h86]
          refine mr_least hS h8 hch hP hset hT hW hTB (b0 := 1000000) (by omega) (Or.inl (hch last (by omega))) ?_ n 0 (by omega) _ rfl
          refine mr_cell hS h8 hset (by omega) (by rw [eh, if_neg h99]) (fun τ1 hS1 e1 => ?_)
          refine ih (last + 1) (by omega) _ hS1 ?_ ?_
          · intro set2 last2 g1 g2 g3
            rw [e1, up4_nj (by omega)]
            exact hTB set2 last2 g1 g2 g3
          · intro l2 hl2
            rw [e1]
            unfold up4
            by_cases e : l2 = last
            · rw [e, if_pos ⟨rfl, rfl, rfl, rfl⟩]
            · rw [if_neg (fun q => e (by have := q.2.2.2; omega))]
              exact hr1 l2 (by omega)
        · refine ⟨_, rfl, _, rfl, ?_⟩
          have eh : hr t D n last = chF t last := by unfold hr; rw [if_neg h86]
          refine mr_least hS h8 hch hP hset hT hW hTB (b0 := 0) (by omega) (Or.inl (hch last (by omega))) ?_ n 0 (by omega) _ rfl
          refine mr_cell hS h8 hset (by omega) (by rw [eh, if_pos h99]) (fun τ1 hS1 e1 => ?_)
          refine ih (last + 1) (by omega) _ hS1 ?_ ?_
          · intro set2 last2 g1 g2 g3
            rw [e1, up4_nj (by omega)]
            exact hTB set2 last2 g1 g2 g3
          · intro l2 hl2
            rw [e1]
            unfold up4
            by_cases e : l2 = last
            · rw [e, if_pos ⟨rfl, rfl, rfl, rfl⟩]
            · rw [if_neg (fun q => e (by have := q.2.2.2; omega))]
              exact hr1 l2 (by omega)
      · refine ⟨2, rfl, (by show _ < 23184; omega), ?_⟩
        rw [hA.r0 2 (by decide)]
        refine ⟨nI (v), hv, ?_⟩
        refine br_ne rfl rfl (by omega) (by omega) (fun h99 => ?_) (fun h99 => ?_)
        · refine ⟨_, rfl, _, rfl, ?_⟩
          have eh : hr t D n last = v := by unfold hr; rw [if_pos h86]; exact nN_of hv (by omega)
          refine mr_least hS h8 hch hP hset hT hW hTB (b0 := 1000000) (by omega) (hv2) ?_ n 0 (by omega) _ rfl
          refine mr_cell hS h8 hset (by omega) (by rw [eh, if_neg h99]) (fun τ1 hS1 e1 => ?_)
          refine ih (last + 1) (by omega) _ hS1 ?_ ?_
          · intro set2 last2 g1 g2 g3
            rw [e1, up4_nj (by omega)]
            exact hTB set2 last2 g1 g2 g3
          · intro l2 hl2
            rw [e1]
            unfold up4
            by_cases e : l2 = last
            · rw [e, if_pos ⟨rfl, rfl, rfl, rfl⟩]
            · rw [if_neg (fun q => e (by have := q.2.2.2; omega))]
              exact hr1 l2 (by omega)
        · refine ⟨_, rfl, _, rfl, ?_⟩
          have eh : hr t D n last = v := by unfold hr; rw [if_pos h86]; exact nN_of hv (by omega)
          refine mr_least hS h8 hch hP hset hT hW hTB (b0 := 0) (by omega) (hv2) ?_ n 0 (by omega) _ rfl
          refine mr_cell hS h8 hset (by omega) (by rw [eh, if_pos h99]) (fun τ1 hS1 e1 => ?_)
          refine ih (last + 1) (by omega) _ hS1 ?_ ?_
          · intro set2 last2 g1 g2 g3
            rw [e1, up4_nj (by omega)]
            exact hTB set2 last2 g1 g2 g3
          · intro l2 hl2
            rw [e1]
            unfold up4
            by_cases e : l2 = last
            · rw [e, if_pos ⟨rfl, rfl, rfl, rfl⟩]
            · rw [if_neg (fun q => e (by have := q.2.2.2; omega))]
              exact hr1 l2 (by omega)
def prI : Nat → Int32
  | 0 => -1
  | s + 1 => nI s
theorem prI_S (s : Nat) : nI s + -1 = prI s := by
  cases s with
  | zero => decide
  | succ s => exact nI_dec s
theorem mr_sets {t : Sg} {D : Dy} {P : Option AV → Sg → Prop} {n : Nat} (h8 : n ≤ 8) (hch : ∀ j, j < n → chF t j < nP t) (hP : nP t ≤ 12) (hT : WN t) (hW : WT t) {v : Nat} (hv : D 0 2 = nI v) (hv2 : v < nP t ∨ n = 0) (hvb : v < 12) (hK : ∀ τ, RS t D τ n → TB t D n τ 0 → G true 192 P 166 [some (.inr (.inr (69, false, 0))), some (.inl (nI (2 ^ n - 1))), none, none, none, none, none, none, none] [] τ) : ∀ (s : Nat), s ≤ 2 ^ n → ∀ τ, RS t D τ n → TB t D n τ s → G true 192 P 43 [some (.inr (.inr (69, false, 0))), some (.inl (nI (2 ^ n - 1))), some (.inl (prI s)), none, none, none, none, none, none] [] τ := by
  have h256 : 2 ^ n ≤ 256 := Nat.pow_le_pow_right (n := 2) (by decide) h8
  intro s
  induction s with
  | zero =>
    intro hs τ hS hTB
    refine G_wp 30 [166] rfl ?_
    refine ⟨fun h44 => ?_, fun h44 => ?_⟩
    · exact G_fg 2 (hK _ hS hTB)
    · exact absurd (show (-1 : Int32) < nI 0 by decide) h44
  | succ s ih =>
    intro hs τ hS hTB
    have hA := hS.1
    refine G_wp 30 [52] rfl ?_
    refine br_lt rfl rfl (by omega) (by omega) (fun h44 => ?_) (fun h44 => ?_)
    · exact absurd h44 (by omega)
    · refine ⟨3, rfl, (by show _ < 23184; omega), ?_⟩
      rw [hA.r0 3 (by decide)]
      refine ⟨_, rfl, _, rfl, ?_⟩
      refine mr_load hS h8 hch hP (show s < 2 ^ n by omega) ?_ n 0 (by omega) _ rfl
      refine G_wp 20 [79] rfl ?_
      refine ⟨_, rfl, ?_⟩
      refine mr_lasts h8 hch hP (show s < 2 ^ n by omega) hT hW hv hv2 hvb (fun τ1 hS1 hTB1 => ?_) (n + 1) 0 (by omega) _ hS hTB (fun l hl => absurd hl (Nat.not_lt_zero _))
      refine G_wp 20 [43] rfl ?_
      refine ⟨_, rfl, ?_⟩
      have e9 : nI s + -1 = prI s := prI_S s
      rw [e9]
      exact G_fg 3 (ih (by omega) _ hS1 hTB1)
theorem mr_next {t : Sg} {D : Dy} {τ : Sg} {P : Option AV → Sg → Prop} {n : Nat} (hS : RS t D τ n) (h8 : n ≤ 8) (hch : ∀ j, j < n → chF t j < nP t) (hP : nP t ≤ 12) {set : Nat} (hset : set < 2 ^ n) (hT : WN t) (hW : WT t) (hTB : TB t D n τ 0) {last h k : Nat} {z1 z2 : Int32} (hl : last ≤ n) (hhr : hr t D n last = h) (hh : h < nP t) (hx : nxI t D n set last < n) (hK : G true 192 P 242 [some (.inr (.inr (69, false, 0))), some (.inl (z1)), some (.inl (z2)), some (.inl (nI set)), some (.inl (nI last)), some (.inl (nI k)), some (.inl (nI h)), some (.inl (nI (nxI t D n set last))), none] [] τ) : ∀ (j i : Nat), i + j = n → fst1 (nxB t D n set last) j i = nxI t D n set last → G true 192 P 204 [some (.inr (.inr (69, false, 0))), some (.inl (z1)), some (.inl (z2)), some (.inl (nI set)), some (.inl (nI last)), some (.inl (nI k)), some (.inl (nI h)), some (.inl (nI i)), none] [] τ := by
  have hA := hS.1
  have h256 : 2 ^ n ≤ 256 := Nat.pow_le_pow_right (n := 2) (by decide) h8
  intro j
  induction j with
  | zero =>
    intro i hi hf
    exfalso
    have h9 : i = nxI t D n set last := hf
    omega
  | succ j ih =>
    intro i hi hf
    refine G_wp 90 [204, 242] rfl ?_
    refine br_eq (b_and1 (b_shr rfl rfl (by omega) (by omega)) (Nat.lt_of_le_of_lt (Nat.div_le_self _ _) (by omega))) rfl (Nat.lt_of_lt_of_le (Nat.mod_lt _ (by decide)) (by decide)) (by omega) (fun h210 => ?_) (fun h210 => ?_)
    · refine ⟨nI (i + 1), nI_add _ _, ?_⟩
      have hp : ¬ nxB t D n set last i = true := by
        unfold nxB
        rw [(tb_1 _ _).mpr h210]
        simp
      rw [fst1_S, if_neg hp] at hf
      exact ih (i + 1) (by omega) hf
    · have hor := or_lt hset (show i < n by omega)
      have hcl := cs_le (t := t) (D := D) (last := i) hor
      have hcl2 := cs_le (t := t) (D := D) (last := last) hset
      refine ⟨(9 * (set ||| 2 ^ i)) + i, (add_n (mul_n rfl (b_or rfl (b_shl1 rfl rfl (by omega)))) rfl), (show 9 * (set ||| 2 ^ i) + i < 2304 by omega), i, rfl, (show i < 8 by omega), ?_⟩
      have hrl := rwy_le hT hW hh (hch i (by omega))
      have ec : τ 101 false 0 i = nI (chF t i) := hS.2.2 _ (by omega)
      have evr := mv_rway hA hT hW hh (hch i (by omega))
      rw [← ec] at evr
      refine ⟨_, _, evr, (9 * set) + last, (add_n (mul_n rfl rfl) rfl), (show 9 * set + last < 2304 by omega), ?_⟩
      refine br_eq (add_n (hTB (set ||| 2 ^ i) i (Nat.zero_le _) hor (by omega)) rfl) (hTB set last (Nat.zero_le _) hset hl) (by omega) (by omega) (fun h239 => ?_) (fun h239 => ?_)
      · have hp : nxB t D n set last i = true := by
          unfold nxB
          rw [hhr, (show set.testBit i = false from Bool.eq_false_iff.mpr (fun z => h210 ((tb_1 _ _).mp z)))]
          simp [h239]
        rw [fst1_S, if_pos hp] at hf
        rw [hf]
        exact hK
      · refine ⟨nI (i + 1), nI_add _ _, ?_⟩
        have hp : ¬ nxB t D n set last i = true := by
          unfold nxB
          rw [hhr]
          simp [h239]
        rw [fst1_S, if_neg hp] at hf
        exact ih (i + 1) (by omega) hf
theorem mr_order {t : Sg} {D : Dy} {n : Nat} (h8 : n ≤ 8) (hch : ∀ j, j < n → chF t j < nP t) (hP : nP t ≤ 12) (hT : WN t) (hW : WT t) {v : Nat} (hv : D 0 2 = nI v) (hv2 : v < nP t ∨ n = 0) (hc : cs t D n 0 n < 1000000) {z1 z2 : Int32} : ∀ (j k : Nat), k + j = n → ∀ τ, RS t D τ n → TB t D n τ 0 → (∀ j, j < k → τ 104 false 0 j = nI (odr t D n j)) → G true 192 (fun r' s' => r' = some (.inl z2) ∧ RS t D s' n ∧ ∀ j, j < n → s' 104 false 0 j = nI (odr t D n j)) 184 [some (.inr (.inr (69, false, 0))), some (.inl (z1)), some (.inl (z2)), some (.inl (nI (sq t D n k).1)), some (.inl (nI (sq t D n k).2)), some (.inl (nI k)), none, none, none] [] τ := by
  have h256 : 2 ^ n ≤ 256 := Nat.pow_le_pow_right (n := 2) (by decide) h8
  intro j
  induction j with
  | zero =>
    intro k hk τ hS hTB hod
    have hA := hS.1
    obtain ⟨q1, q2, q3, q4, q5⟩ := sq_ok hc k (by omega)
    refine G_wp 90 [184, 204] rfl ?_
    refine br_ge rfl hS.2.1 (by omega) (by omega) (fun h187 => ?_) (fun h187 => ?_)
    · exact ⟨rfl, hS, fun j hj => hod j (by omega)⟩
    · exact absurd h187 (by omega)
  | succ j ih =>
    intro k hk τ hS hTB hod
    have hA := hS.1
    obtain ⟨q1, q2, q3, q4, q5⟩ := sq_ok hc k (by omega)
    refine G_wp 90 [184, 204] rfl ?_
    refine br_ge rfl hS.2.1 (by omega) (by omega) (fun h187 => ?_) (fun h187 => ?_)
    · exact absurd h187 (by omega)
    · refine br_ne rfl hS.2.1 (by omega) (by omega) (fun h191 => ?_) (fun h191 => ?_)
      · refine ⟨(sq t D n k).2, rfl, (show (sq t D n k).2 < 8 by omega), nI (chF t ((sq t D n k).2)), (hS.2.2 _ (by omega)), _, rfl, ?_⟩
        have eh : hr t D n (sq t D n k).2 = chF t ((sq t D n k).2) := by unfold hr; rw [if_neg h191]
        obtain ⟨n1, n2, n3⟩ := nxI_ok q1 (by omega) q3
        refine mr_next hS h8 hch hP q1 hT hW hTB q4 eh (by exact hch _ (by omega)) n1 ?_ n 0 (by omega) rfl
        obtain ⟨i, hi⟩ : ∃ i, i = nxI t D n (sq t D n k).1 (sq t D n k).2 := ⟨_, rfl⟩
        rw [← hi] at n1 ⊢
        refine G_wp 60 [184] rfl ?_
        refine ⟨i, rfl, (show i < 8 by omega), k, rfl, (show k < 8 by omega), nI (chF t i), (hS.2.2 i (by omega)), ?_⟩
        replace hA := Ag_scr hA (k := 104) (d := false) (i := 0) (j := k) (v := (nI (chF t i))) (by decide) rfl
        refine ⟨nI ((sq t D n k).1 ||| 2 ^ i), (b_or rfl (b_shl1 rfl rfl (by omega))), _, rfl, nI (k + 1), nI_add _ _, ?_⟩
        have h9 := ih (k + 1) (by omega) _ ⟨hA, (up4_nk (by decide)).trans hS.2.1, fun j hj => (up4_nk (by decide)).trans (hS.2.2 j hj)⟩ (fun set2 last2 g1 g2 g3 => (up4_nk (by decide)).trans (hTB set2 last2 g1 g2 g3)) (fun j hj => ?_)
        rw [sq_S, ← hi] at h9
        exact G_fg 6 (G_fg 7 h9)
        unfold up4
        by_cases e : j = k
        · rw [if_pos ⟨rfl, rfl, rfl, e⟩, e]
          show nI (chF t i) = nI (chF t (sq t D n (k + 1)).2)
          rw [sq_S, ← hi]
        · rw [if_neg (fun q => e q.2.2.2)]
          exact hod j (by omega)
      · refine ⟨2, rfl, (by show _ < 23184; omega), ?_⟩
        rw [hA.r0 2 (by decide)]
        refine ⟨nI (v), hv, _, rfl, ?_⟩
        have eh : hr t D n (sq t D n k).2 = v := by unfold hr; rw [if_pos h191]; exact nN_of hv (by omega)
        obtain ⟨n1, n2, n3⟩ := nxI_ok q1 (by omega) q3
        refine mr_next hS h8 hch hP q1 hT hW hTB q4 eh (by omega) n1 ?_ n 0 (by omega) rfl
        obtain ⟨i, hi⟩ : ∃ i, i = nxI t D n (sq t D n k).1 (sq t D n k).2 := ⟨_, rfl⟩
        rw [← hi] at n1 ⊢
        refine G_wp 60 [184] rfl ?_
        refine ⟨i, rfl, (show i < 8 by omega), k, rfl, (show k < 8 by omega), nI (chF t i), (hS.2.2 i (by omega)), ?_⟩
        replace hA := Ag_scr hA (k := 104) (d := false) (i := 0) (j := k) (v := (nI (chF t i))) (by decide) rfl
        refine ⟨nI ((sq t D n k).1 ||| 2 ^ i), (b_or rfl (b_shl1 rfl rfl (by omega))), _, rfl, nI (k + 1), nI_add _ _, ?_⟩
        have h9 := ih (k + 1) (by omega) _ ⟨hA, (up4_nk (by decide)).trans hS.2.1, fun j hj => (up4_nk (by decide)).trans (hS.2.2 j hj)⟩ (fun set2 last2 g1 g2 g3 => (up4_nk (by decide)).trans (hTB set2 last2 g1 g2 g3)) (fun j hj => ?_)
        rw [sq_S, ← hi] at h9
        exact G_fg 6 (G_fg 7 h9)
        unfold up4
        by_cases e : j = k
        · rw [if_pos ⟨rfl, rfl, rfl, e⟩, e]
          show nI (chF t i) = nI (chF t (sq t D n (k + 1)).2)
          rw [sq_S, ← hi]
        · rw [if_neg (fun q => e q.2.2.2)]
          exact hod j (by omega)
noncomputable def rndR (t : Sg) (D : Dy) : Int32 := ifC (cn t (nP t) ≤ 8) (ifC (cs t D (cn t (nP t)) 0 (cn t (nP t)) < 1000000) (nI (cs t D (cn t (nP t)) 0 (cn t (nP t)))) (-1)) (-3)
theorem mr_end {t : Sg} {D : Dy} {τ : Sg} {n : Nat} (hn : n = cn t (nP t)) (h8 : n ≤ 8) (hch : ∀ j, j < n → chF t j < nP t) (hP : nP t ≤ 12) (hT : WN t) (hW : WT t) {v : Nat} (hv : D 0 2 = nI v) (hv2 : v < nP t ∨ n = 0) (hS : RS t D τ n) (hTB : TB t D n τ 0) {z1 : Int32} : G true 192 (fun r' s' => r' = some (.inl (rndR t D)) ∧ Ag t D s' ∧ (n ≤ 8 → cs t D (n) 0 (n) < 1000000 → s' 69 false 0 49 = nI (n) ∧ ∀ j, j < n → s' 104 false 0 j = nI (odr t D (n) j))) 166 [some (.inr (.inr (69, false, 0))), some (.inl (z1)), none, none, none, none, none, none, none] [] τ := by
  have hA := hS.1
  have hcl := cs_le (t := t) (D := D) (last := n) (Nat.two_pow_pos n)
  refine G_wp 60 [184] rfl ?_
  refine ⟨n, hS.2.1, (show n < 2304 by omega), nI (cs t D n 0 n), (by have h9 := hTB 0 n (Nat.le_refl _) (Nat.two_pow_pos n) (Nat.le_refl _); rwa [Nat.mul_zero, Nat.zero_add] at h9), ?_⟩
  refine br_lt rfl rfl (by omega) (by omega) (fun h174 => ?_) (fun h174 => ?_)
  · refine ⟨_, rfl, nI (n), hS.2.1, _, rfl, ?_⟩
    have h9 := mr_order h8 hch hP hT hW hv hv2 h174 (z1 := z1) (z2 := nI (cs t D n 0 n)) n 0 (by omega) _ hS hTB (fun j hj => absurd hj (Nat.not_lt_zero _))
    obtain ⟨r0, s0, ⟨e1, e2, e3⟩, hg⟩ := h9
    exact ⟨r0, s0, ⟨by rw [e1]; unfold rndR; rw [← hn, ifC_t h8, ifC_t h174], e2.1, fun _ _ => ⟨e2.2.1, e3⟩⟩, hg⟩
  · refine ⟨?_, hA, fun _ q => absurd q (by omega)⟩
    unfold rndR
    rw [← hn, ifC_t h8, ifC_f (by omega)]
theorem mr_all {t : Sg} {D : Dy} {τ : Sg} {n : Nat} (hn : n = cn t (nP t)) (h8 : n ≤ 8) (hch : ∀ j, j < n → chF t j < nP t) (hP : nP t ≤ 12) (hT : WN t) (hW : WT t) {v : Nat} (hv : D 0 2 = nI v) (hv2 : v < nP t ∨ n = 0) (hvb : v < 12) (hS : RS t D τ n) : G true 192 (fun r' s' => r' = some (.inl (rndR t D)) ∧ Ag t D s' ∧ (n ≤ 8 → cs t D (n) 0 (n) < 1000000 → s' 69 false 0 49 = nI (n) ∧ ∀ j, j < n → s' 104 false 0 j = nI (odr t D (n) j))) 34 [some (.inr (.inr (69, false, 0))), none, none, none, none, none, none, none, none] [] τ := by
  have hA := hS.1
  have h1 : 1 ≤ 2 ^ n := Nat.two_pow_pos n
  have SETS : G true 192 (fun r' s' => r' = some (.inl (rndR t D)) ∧ Ag t D s' ∧ (n ≤ 8 → cs t D (n) 0 (n) < 1000000 → s' 69 false 0 49 = nI (n) ∧ ∀ j, j < n → s' 104 false 0 j = nI (odr t D (n) j))) 43 [some (.inr (.inr (69, false, 0))), some (.inl (nI (2 ^ n - 1))), some (.inl (nI (2 ^ n - 1))), none, none, none, none, none, none] [] τ := by
    have h9 := mr_sets h8 hch hP hT hW hv hv2 hvb (fun τ1 hS1 hTB1 => mr_end hn h8 hch hP hT hW hv hv2 hS1 hTB1 (z1 := nI (2 ^ n - 1))) (2 ^ n) (Nat.le_refl _) τ hS (fun set last q1 q2 q3 => absurd q2 (by omega))
    rw [show prI (2 ^ n) = nI (2 ^ n - 1) by
      obtain ⟨m, hm⟩ : ∃ m, 2 ^ n = m + 1 := ⟨2 ^ n - 1, by omega⟩
      rw [hm]
      rfl] at h9
    exact h9
  refine G_wp 60 [43] rfl ?_
  refine ⟨nI ((2 ^ n) - 1), (sub_n (b_shl1 rfl hS.2.1 (by omega)) rfl h1), _, rfl, ?_⟩
  exact SETS
theorem mv_rounds {t : Sg} {D : Dy} {τ : Sg} (hA : Ag t D τ) (hT : WN t) (hW : WT t) (hV : VI t D) : ∃ τ', Ev true 192 [.inr (.inr (69, false, 0))] τ (some (.inl (rndR t D))) τ' ∧ (Ag t D τ' ∧ (cn t (nP t) ≤ 8 → cs t D (cn t (nP t)) 0 (cn t (nP t)) < 1000000 → τ' 69 false 0 49 = nI (cn t (nP t)) ∧ ∀ j, j < cn t (nP t) → τ' 104 false 0 j = nI (odr t D (cn t (nP t)) j))) := by
  have hP := hT.P
  obtain ⟨v, hv1, hv⟩ := hV.2.2.2.2.2
  have hv2 : v < nP t ∨ cn t (nP t) = 0 := by
    rcases Nat.eq_zero_or_pos (nP t) with q | q
    · right
      rw [q]
      rfl
    · left
      omega
  refine EvQ_wp 60 [5] rfl rfl ?_
  refine ⟨_, rfl, ?_⟩
  replace hA := Ag_scr hA (k := 69) (d := false) (i := 0) (j := 49) (v := (nI (0))) (by decide) rfl
  refine ⟨_, rfl, ?_⟩
  refine mr_gather hT (fun h8 τ1 hS1 => ?_) (fun h9 τ1 hA1 => ⟨by unfold rndR; rw [ifC_f (by omega)], hA1, fun q => absurd q (by omega)⟩) (nP t) 0 (by omega) (Nat.zero_le _) _ ⟨hA, up4_s _ _ _ _ _ _, fun j hj => absurd hj (Nat.not_lt_zero _)⟩
  exact mr_all rfl h8 (fun j hj => chF_lt hP hj) hP hT hW hv hv2 (by omega) hS1
theorem mp_round {t : Sg} {D : Dy} {τ : Sg} (hA : Ag t D τ) (hT : WN t) (hW : WT t) (hV : VI t D) : ∃ τ', Ev true 218 [.inr (.inr (69, false, 0))] τ (some (.inl (rndR t D))) τ' ∧ Ag (t) (D) τ' := by
  refine EvQ_wp 26 [] rfl rfl ?_
  refine ⟨_, rfl, ?_⟩
  replace hA := Ag_scr hA (k := 69) (d := false) (i := 0) (j := 0) (v := (nI (0))) (by decide) rfl
  obtain ⟨τ1, ev1, hA, hO⟩ := mv_rounds hA hT hW hV
  refine ⟨_, _, ev1, ?_⟩
  exact ⟨rfl, hA⟩
noncomputable def rnaR (t : Sg) (D : Dy) (x : Int32) : Int32 := ifC (nI 0 ≤ x) (ifC (rndR t D = -3) (-3) (ifC (¬ rndR t D < nI 0 ∧ ¬ nI (cn t (nP t)) ≤ x) (nI (odr t D (cn t (nP t)) (nN x))) (-1))) (-2)
theorem rnd_ok {t : Sg} {D : Dy} (h1 : ¬ rndR t D = -3) (h2 : nI 0 ≤ rndR t D) : cn t (nP t) ≤ 8 ∧ cs t D (cn t (nP t)) 0 (cn t (nP t)) < 1000000 := by
  unfold rndR at h1 h2
  by_cases q : cn t (nP t) ≤ 8
  · rw [ifC_t q] at h2
    by_cases z : cs t D (cn t (nP t)) 0 (cn t (nP t)) < 1000000
    · exact ⟨q, z⟩
    · rw [ifC_f z] at h2
      exact absurd h2 (by decide)
  · rw [ifC_f q] at h1
    exact absurd rfl h1
theorem mp_roundAt {t : Sg} {D : Dy} {τ : Sg} (hA : Ag t D τ) (hT : WN t) {x : Int32} (hW : WT t) (hV : VI t D) : ∃ τ', Ev true 219 [.inr (.inr (69, false, 0)), .inl (x)] τ (some (.inl (rnaR t D x))) τ' ∧ Ag (t) (D) τ' := by
  refine EvQ_wp 52 [] rfl rfl ?_
  refine ⟨_, rfl, ?_⟩
  replace hA := Ag_scr hA (k := 69) (d := false) (i := 0) (j := 0) (v := (nI (0))) (by decide) rfl
  refine ⟨fun h4 => ?_, fun h4 => ?_⟩
  · obtain ⟨τ1, ev1, hA, hO⟩ := mv_rounds hA hT hW hV
    refine ⟨_, _, ev1, _, rfl, ?_⟩
    refine ⟨fun h12 => ?_, fun h12 => ?_⟩
    · refine ⟨fun h16 => ?_, fun h16 => ?_⟩
      · have eR : rnaR t D x = (-1) := by
          simp only [rnaR, h4, h12, h16, eq_self, ifC_T, ifC_F, and_true, true_and, and_false, false_and, or_true, true_or, or_false, false_or, not_true_eq_false, not_false_eq_true, and_self, or_self, if_true, if_false, reduceIte, reduceCtorEq, Nat.add_sub_cancel]
        refine ⟨congrArg (fun z => some (Sum.inl z)) (Eq.trans rfl eR.symm), ?_⟩
        exact hA
      · obtain ⟨hc8, hc9⟩ := rnd_ok h12 (Int32.not_lt.mp h16)
        obtain ⟨eO, eD⟩ := hO hc8 hc9
        have hx : x = nI (nN x) := by
          obtain ⟨j, hj, e⟩ := nI_of (x := x) (fun q => absurd h4 (Int32.not_le.mpr (by rw [nI_0]; exact q)))
          rw [nN_of e hj]
          exact e
        refine ⟨fun h20 => ?_, fun h20 => ?_⟩
        · have h20x : nI (cn t (nP t)) ≤ x := by rw [← eO]; exact h20
          have eR : rnaR t D x = (-1) := by
            simp only [rnaR, h4, h12, h16, h20x, eq_self, ifC_T, ifC_F, and_true, true_and, and_false, false_and, or_true, true_or, or_false, false_or, not_true_eq_false, not_false_eq_true, and_self, or_self, if_true, if_false, reduceIte, reduceCtorEq, Nat.add_sub_cancel]
          refine ⟨congrArg (fun z => some (Sum.inl z)) (Eq.trans rfl eR.symm), ?_⟩
          exact hA
        · have h20x : ¬ nI (cn t (nP t)) ≤ x := by rw [← eO]; exact h20
          have hxl : nN x < cn t (nP t) := by
            have h5 := h20x
            rw [hx] at h5
            have := (nI_leI (a := cn t (nP t)) (b := nN x) (by omega) (nN_lt x))
            rcases Nat.lt_or_ge (nN x) (cn t (nP t)) with q | q
            · exact q
            · exact absurd (this.mpr q) h5
          refine ⟨nN x, hx, (by show _ < 8; omega), ?_⟩
          have eR : rnaR t D x = nI (odr t D (cn t (nP t)) (nN x)) := by
            simp only [rnaR, h4, h12, h16, h20x, eq_self, ifC_T, ifC_F, and_true, true_and, and_false, false_and, or_true, true_or, or_false, false_or, not_true_eq_false, not_false_eq_true, and_self, or_self, if_true, if_false, reduceIte, reduceCtorEq, Nat.add_sub_cancel]
          refine ⟨congrArg (fun z => some (Sum.inl z)) (Eq.trans (eD _ hxl) eR.symm), ?_⟩
          exact hA
    · have eR : rnaR t D x = (-3) := by
        simp only [rnaR, h4, eq_true h12, eq_self, ifC_T, ifC_F, and_true, true_and, and_false, false_and, or_true, true_or, or_false, false_or, not_true_eq_false, not_false_eq_true, and_self, or_self, if_true, if_false, reduceIte, reduceCtorEq, Nat.add_sub_cancel]
      refine ⟨congrArg (fun z => some (Sum.inl z)) (Eq.trans rfl eR.symm), ?_⟩
      exact hA
  · have eR : rnaR t D x = (-2) := by
      simp only [rnaR, h4, eq_self, ifC_T, ifC_F, and_true, true_and, and_false, false_and, or_true, true_or, or_false, false_or, not_true_eq_false, not_false_eq_true, and_self, or_self, if_true, if_false, reduceIte, reduceCtorEq, Nat.add_sub_cancel]
    refine ⟨congrArg (fun z => some (Sum.inl z)) (Eq.trans rfl eR.symm), ?_⟩
    exact hA
