/-! Rounds: asked. -/
theorem cn_12 {t : Sg} {D : Dy} (hP : nP t ≤ 12) (h : RV t D) : cn t 12 = cn t (nP t) := by
  have e : ∀ d, nP t + d ≤ 12 → cn t (nP t + d) = cn t (nP t) := fun d => by
    induction d with
    | zero => intro _; rfl
    | succ d ih =>
      intro hd
      have h0 : t 89 false 0 (nP t + d) = nI 0 := by
        by_cases q : t 89 false 0 (nP t + d) = nI 0
        · exact q
        · exact absurd (h.2 (nP t + d) (by omega) q) (by omega)
      rw [show nP t + (d + 1) = (nP t + d) + 1 by omega, cn_0 h0, ih (by omega)]
  have := e (12 - nP t) (by omega)
  rw [show nP t + (12 - nP t) = 12 by omega] at this
  exact this
theorem chF_P {t : Sg} {D : Dy} (hP : nP t ≤ 12) (h : RV t D) : ∀ j, j < cn t 12 → chF t j < nP t := fun j hj => chF_lt hP (by rw [← cn_12 hP h]; exact hj)
theorem fst1_is {p : Nat → Bool} {k : Nat} (h2 : p k = true) : ∀ m i, (∀ j, i ≤ j → j < k → p j = false) → i ≤ k → k < i + m → fst1 p m i = k
  | 0, i, _, h3, h4 => by omega
  | m + 1, i, h1, h3, h4 => by
    rw [fst1_S]
    by_cases e : i = k
    · subst e; rw [if_pos h2]
    · rw [if_neg (by rw [h1 i (Nat.le_refl _) (by omega)]; decide)]
      exact fst1_is h2 m (i + 1) (fun j q1 q2 => h1 j (by omega) q2) (by omega) (by omega)
theorem cv_round {t : Sg} {D : Dy} {Z : Zt} {σ : Sg} (hK : CK t D Z σ) (hT : WN t) (hW : WT t) (hV : RV t D) : ∃ σ', Ev false 221 [.inr (.inr (0, false, 0))] σ (some (.inl (rndR t D))) σ' ∧ CK t D Z σ' := by
  have hC := hK.1.1
  have hP := hT.P
  have hB := hT.B
  have hR := hT.R
  have e12 := cn_12 hP hV
  have hch := chF_P hP hV
  have hle := ct_le (fun q => !decide (t 89 false 0 q = nI 0)) 12
  change cn t 12 ≤ 12 at hle
  have h3 : Is (D 0 3) 12 := hK.1.2.1.1.1.1
  refine EvQ_wp 36 [] rfl rfl ?_
  refine ⟨_, _, cv_cwn hC, ?_⟩
  refine br_le rfl rfl (by omega) (by omega) (fun h4 => ?_) (fun h4 => ?_)
  · obtain ⟨σ1, ev1, hK1, _, _⟩ := cv_lw hK hT hW (by omega) hch hV.1 h3
    refine ⟨_, _, ev1, ?_⟩
    exact ⟨by unfold rndR lwR; rw [← e12, ifC_t (show cn t 12 ≤ 8 by omega)], hK1⟩
  · exact ⟨by unfold rndR; rw [← e12, ifC_f (by omega)], hK⟩
theorem cv_nob_l {t : Sg} {D : Dy} {Z : Zt} {σ : Sg} {n : Nat} (hC : Cg false σ t D 60 200 Z σ) (hT : WN t) (hW : WT t) (hG : WG t n σ) (hn : n ≤ 8) (hn12 : n ≤ cn t 12) (hch : ∀ j, j < n → chF t j < nP t) (hTB : TBc t D n 1 σ) {set last : Nat} (hs : set < 2 ^ n) (hs1 : 1 ≤ set) (hl : last < n) (hb : set.testBit last = true) (hx0 : nxI t D n set last < n) : ∀ (m i : Nat), i + m = n → fst1 (nxB t D n set last) m i = nxI t D n set last → G false 183 (fun r' s' => r' = some (.inl (nI (nxI t D n set last))) ∧ s' = σ) 2 [some (.inr (.inr (51, false, 0))), some (.inr (.inr (1, false, 0))), some (.inl (nI set)), some (.inl (nI last)), some (.inl (nI i))] [] σ := by
  have hP := hT.P
  have hpn : 2 ^ n ≤ 256 := Nat.pow_le_pow_right (by decide) hn
  have hcl := cs_le (t := t) (D := D) (last := last) hs
  intro m
  induction m with
  | zero =>
    intro i hj hx
    refine G_wp 80 [2] rfl ?_
    refine br_ge rfl hG.1 (by omega) (by omega) (fun h5 => ?_) (fun h5 => ?_)
    · exact absurd (hx.symm.trans (show fst1 (nxB t D n set last) 0 i = i from rfl)) (by omega)
    · exact absurd h5 (by omega)
  | succ m ih =>
    intro i hj hx
    refine G_wp 80 [2] rfl ?_
    refine br_ge rfl hG.1 (by omega) (by omega) (fun h5 => ?_) (fun h5 => ?_)
    · exact absurd h5 (by omega)
    · refine br_ne (b_and1 (b_shr rfl rfl (by omega) (by omega)) (Nat.lt_of_le_of_lt (Nat.div_le_self _ _) (by omega))) rfl (by omega) (by omega) (fun h11 => ?_) (fun h11 => ?_)
      · refine ⟨nI (i + 1), nI_add _ _, ?_⟩
        have h1 : set.testBit i = true := (tb_1 set i).mpr (by omega)
        exact ih (i + 1) (by omega) (by rw [← hx, fst1_S, if_neg (by unfold nxB; rw [h1]; simp)])
      · have h0 : set.testBit i = false := (tb_0 set i).mpr (by omega)
        have hlt : set ||| 2 ^ i < 2 ^ n := or_lt hs (by omega)
        have hgt := or_gt h0
        have hf := fvw_le (D := D) (last := last) hW (hch last hl) (hch i (by omega)) hlt
        have hq : nxB t D n set last i = decide (fvw t D n set last i = cs t D n set last) := by
          unfold nxB fvw hr rwy
          rw [h0, if_neg (show ¬ last = n by omega), if_neg (chF_ne (by omega) (by omega) (fun q => by rw [q, h0] at hb; cases hb)), Nat.add_comm, Bool.not_false, Bool.true_and]
        refine ⟨_, _, cv_via hC hT hW hG hn hch hTB hl (by omega) hlt (by omega), _, _, cv_spot rfl rfl, 8 * set + last, rfl, (by show _ < 2048; omega), ?_⟩
        refine br_ne rfl (hTB set last hs1 hs hl hb) (by omega) (by omega) (fun h24 => ?_) (fun h24 => ?_)
        · refine ⟨nI (i + 1), nI_add _ _, ?_⟩
          exact ih (i + 1) (by omega) (by rw [← hx, fst1_S, if_neg (by rw [hq, decide_eq_false h24]; decide)])
        · exact ⟨by rw [← hx, fst1_S, if_pos (by rw [hq]; exact decide_eq_true h24)], rfl⟩
theorem cv_nob {t : Sg} {D : Dy} {Z : Zt} {σ : Sg} {n : Nat} (hC : Cg false σ t D 60 200 Z σ) (hT : WN t) (hW : WT t) (hG : WG t n σ) (hn : n ≤ 8) (hn12 : n ≤ cn t 12) (hch : ∀ j, j < n → chF t j < nP t) (hTB : TBc t D n 1 σ) {set last : Nat} (hs : set < 2 ^ n) (hs1 : 1 ≤ set) (hl : last < n) (hb : set.testBit last = true) (hx0 : nxI t D n set last < n) : Ev false 183 [.inr (.inr (51, false, 0)), .inr (.inr (1, false, 0)), .inl (nI set), .inl (nI last)] σ (some (.inl (nI (nxI t D n set last)))) σ := by
  refine Ev_wp 40 [2] rfl rfl ?_
  refine ⟨_, rfl, ?_⟩
  exact cv_nob_l hC hT hW hG hn hn12 hch hTB hs hs1 hl hb hx0 n 0 (by omega) rfl
theorem sq_bit {t : Sg} {D : Dy} {n j : Nat} : (sq t D n (j + 1)).1.testBit (sq t D n (j + 1)).2 = true := by
  rw [sq_S]
  show ((sq t D n j).1 ||| 2 ^ nxI t D n (sq t D n j).1 (sq t D n j).2).testBit (nxI t D n (sq t D n j).1 (sq t D n j).2) = true
  rw [or_bit, decide_eq_true rfl, Bool.or_true]
theorem bit_1 {s i : Nat} (h : s.testBit i = true) : 1 ≤ s := by
  by_cases e : s = 0
  · subst e
    rw [Nat.zero_testBit] at h
    cases h
  · omega
theorem cv_poo_l {t : Sg} {D : Dy} {Z : Zt} {σ : Sg} {n : Nat} (hC : Cg false σ t D 60 200 Z σ) (hT : WN t) (hW : WT t) (hG : WG t n σ) (hn : n ≤ 8) (hn12 : n ≤ cn t 12) (hch : ∀ j, j < n → chF t j < nP t) (hTB : TBc t D n 1 σ) (hc : cs t D n 0 n < 1000000) {k : Nat} (hk : k < n) {x : Int32} (hxk : x = nI k) : ∀ (m j st l : Nat) (o : Option AV), j + m = k → st = (sq t D n (j + 1)).1 → l = (sq t D n (j + 1)).2 → st < 2 ^ n → l < n → st.testBit l = true → G false 201 (fun r' s' => r' = some (.inl (nI (odr t D n k))) ∧ s' = σ) 24 [some (.inr (.inr (51, false, 0))), some (.inr (.inr (1, false, 0))), some (.inr (.inr (44, false, 0))), some (.inl x), some (.inl (nI l)), some (.inl (nI st)), some (.inl (nI j)), o] [] σ := by
  have hP := hT.P
  have hpn : 2 ^ n ≤ 256 := Nat.pow_le_pow_right (by decide) hn
  intro m
  induction m with
  | zero =>
    intro j st l o hj hst hlq hs hl hbt
    have hc9 := hch l hl
    refine G_wp 80 [24] rfl ?_
    refine br_ge rfl hxk (by omega) (by omega) (fun h26 => ?_) (fun h26 => ?_)
    · refine ⟨l, rfl, (by show _ < 8; omega), ?_⟩
      exact ⟨by rw [(hG.2 l hl)]; unfold odr; rw [hlq, show j = k by omega], rfl⟩
    · exact absurd h26 (by omega)
  | succ m ih =>
    intro j st l o hj hst hlq hs hl hbt
    refine G_wp 80 [24] rfl ?_
    refine br_ge rfl hxk (by omega) (by omega) (fun h26 => ?_) (fun h26 => ?_)
    · exact absurd h26 (by omega)
    · obtain ⟨o1, o2, o3, o4, o5⟩ := sq_ok hc (j + 1) (by omega)
      obtain ⟨x1, x2, x3⟩ := nxI_ok (t := t) (D := D) (n := n) (set := st) (last := l) (by rw [hst]; exact o1) (by rw [hst]; omega) (by rw [hst, hlq]; exact o3)
      refine ⟨_, _, cv_nob hC hT hW hG hn hn12 hch hTB hs (bit_1 hbt) hl hbt x1, _, rfl, ?_⟩
      refine ⟨fun h35 => ?_, fun h35 => ?_⟩
      · refine ⟨_, rfl, nI (st ||| 2 ^ nxI t D n st l), (b_or rfl (b_shl1 rfl rfl (by omega))), nI (j + 1), nI_add _ _, ?_⟩
        have e2 : (sq t D n (j + 1 + 1)).2 = nxI t D n st l := by rw [sq_S, ← hst, ← hlq]
        have e1 : (sq t D n (j + 1 + 1)).1 = st ||| 2 ^ nxI t D n st l := by rw [sq_S, ← hst, ← hlq]
        exact ih (j + 1) _ _ _ (by omega) e1.symm e2.symm (or_lt hs x1) x1 (by rw [or_bit, decide_eq_true rfl, Bool.or_true])
      · exact absurd h35 (nI_m1 (by omega))
theorem cv_poo {t : Sg} {D : Dy} {Z : Zt} {σ : Sg} {n : Nat} (hC : Cg false σ t D 60 200 Z σ) (hT : WN t) (hW : WT t) (hG : WG t n σ) (hn : n ≤ 8) (hn12 : n ≤ cn t 12) (hch : ∀ j, j < n → chF t j < nP t) (hTB : TBc t D n 1 σ) (hc : cs t D n 0 n < 1000000) {k : Nat} (hk : k < n) {x : Int32} (hxk : x = nI k) {v : Nat} (hv : v < nP t) (hvD : D 0 2 = nI v) (h3 : Is (D 0 3) 12) : Ev false 201 [.inr (.inr (51, false, 0)), .inr (.inr (1, false, 0)), .inr (.inr (44, false, 0)), .inl x] σ (some (.inl (nI (odr t D n k)))) σ := by
  refine Ev_wp 80 [24] rfl rfl ?_
  refine br_lt hxk rfl (by omega) (by omega) (fun h1 => ?_) (fun h1 => ?_)
  · exact absurd h1 (by omega)
  · refine br_lt hxk hG.1 (by omega) (by omega) (fun h5 => ?_) (fun h5 => ?_)
    · obtain ⟨b, ev3, hb⟩ := cv_fob hC hT hW hG hn hch hTB hv hvD
      refine ⟨_, _, ev3, _, rfl, ?_⟩
      refine ⟨fun h15 => ?_, fun h15 => ?_⟩
      · obtain ⟨k0, k1, k2, k3, k4, k5⟩ := FB_n hn hb h15
        refine ⟨nI (2 ^ k0), (b_shl1 rfl k2 (by omega)), _, rfl, ?_⟩
        have ec := cs_0 (t := t) (D := D) (n := n) h3 (by omega)
        have e0 : nxI t D n 0 n = k0 := by
          unfold nxI
          refine fst1_is ?_ n 0 (fun j _ q => ?_) (by omega) (by omega)
          · unfold nxB
            rw [Nat.zero_testBit, Bool.not_false, Bool.true_and]
            exact decide_eq_true (show ovN t D n k0 = cs t D n 0 n by rw [ec]; exact k3)
          · unfold nxB
            rw [Nat.zero_testBit, Bool.not_false, Bool.true_and]
            exact decide_eq_false (show ¬ ovN t D n j = cs t D n 0 n by rw [ec]; have := k5 j q; omega)
        rw [k2]
        refine cv_poo_l hC hT hW hG hn hn12 hch hTB hc hk hxk k 0 (2 ^ k0) k0 none (by omega) ?_ ?_ (Nat.pow_lt_pow_right (by decide) k1) k1 Nat.testBit_two_pow_self
        · rw [sq_S]; show 2 ^ k0 = 0 ||| 2 ^ nxI t D n 0 n; rw [e0, Nat.zero_or]
        · rw [sq_S]; exact e0.symm
      · exact absurd (FB_m hn (by rw [h15] at hb; exact hb)) (by rw [← cs_0 h3 (by omega)]; omega)
    · exact absurd hk (by omega)
theorem cv_poo_big {t : Sg} {σ : Sg} {n k : Nat} (hG : WG t n σ) (hn : n ≤ 8) {x : Int32} (hxk : x = nI k) (hk2 : k < 2147483648) (hk : n ≤ k) : Ev false 201 [.inr (.inr (51, false, 0)), .inr (.inr (1, false, 0)), .inr (.inr (44, false, 0)), .inl x] σ (some (.inl (-1))) σ := by
  refine Ev_wp 80 [] rfl rfl ?_
  refine br_lt hxk rfl (by omega) (by omega) (fun h1 => ?_) (fun h1 => ?_)
  · exact absurd h1 (by omega)
  · refine br_lt hxk hG.1 (by omega) (by omega) (fun h5 => ?_) (fun h5 => ?_)
    · exact absurd h5 (by omega)
    · exact ⟨rfl, rfl⟩
theorem nI_m3 {n : Nat} (h : n < 2147483648) : ¬ nI n = -3 := fun q => by
  have e := congrArg Int32.toInt q
  rw [nI_toInt h, show (-3 : Int32).toInt = -3 from rfl] at e
  omega
theorem cv_roundAt {t : Sg} {D : Dy} {Z : Zt} {σ : Sg} (hK : CK t D Z σ) (hT : WN t) (hW : WT t) (hV : RV t D) {x : Int32} : ∃ σ', Ev false 222 [.inr (.inr (0, false, 0)), .inl (x)] σ (some (.inl (rnaR t D x))) σ' ∧ CK t D Z σ' := by
  have hC := hK.1.1
  have hP := hT.P
  have hB := hT.B
  have hR := hT.R
  have e12 := cn_12 hP hV
  have hch := chF_P hP hV
  have hle := ct_le (fun q => !decide (t 89 false 0 q = nI 0)) 12
  change cn t 12 ≤ 12 at hle
  have h3 : Is (D 0 3) 12 := hK.1.2.1.1.1.1
  refine EvQ_wp 54 [] rfl rfl ?_
  refine ⟨fun h1 => ?_, fun h1 => ?_⟩
  · refine ⟨_, _, cv_cwn hC, ?_⟩
    refine br_le rfl rfl (by omega) (by omega) (fun h8 => ?_) (fun h8 => ?_)
    · have h8 : cn t 12 ≤ 8 := by omega
      obtain ⟨σ1, ev1, hK1, hG, hTB⟩ := cv_lw hK hT hW h8 hch hV.1 h3
      refine ⟨_, _, ev1, ?_⟩
      refine ⟨fun h20 => ?_, fun h20 => ?_⟩
      · have hcs : cs t D (cn t 12) 0 (cn t 12) < 1000000 := by
          by_cases q : cs t D (cn t 12) 0 (cn t 12) < 1000000
          · exact q
          · exact absurd (by unfold lwR; rw [ifC_f q]) h20
        obtain ⟨kx, hkx2, hkx⟩ := nI_of (x := x) (fun q => absurd h1 (Int32.not_le.mpr (by rw [nI_0]; exact q)))
        have ev9 : Ev false 201 [.inr (.inr (51, false, 0)), .inr (.inr (1, false, 0)), .inr (.inr (44, false, 0)), .inl x] σ1 (some (.inl (if kx < cn t 12 then nI (odr t D (cn t 12) kx) else -1))) σ1 := by
          by_cases q : kx < cn t 12
          · rw [if_pos q]
            obtain ⟨v, hv0, hvD⟩ := hV.1
            have := hch 0 (by omega)
            exact cv_poo hK1.1.1 hT hW hG h8 (Nat.le_refl _) hch hTB hcs q hkx (v := v) (by omega) hvD h3
          · rw [if_neg q]
            exact cv_poo_big hG h8 hkx hkx2 (by omega)
        refine ⟨_, _, ev9, ?_⟩
        have er : rndR t D = nI (cs t D (cn t 12) 0 (cn t 12)) := by unfold rndR; rw [← e12, ifC_t h8, ifC_t hcs]
        refine ⟨?_, hK1⟩
        unfold rnaR
        rw [er, ifC_t h1, ifC_f (nI_m3 (by omega)), ← e12, hkx, nN_nI hkx2]
        by_cases q : kx < cn t 12
        · rw [if_pos q, ifC_t ⟨fun z => absurd ((nI_ltI (by omega) (by omega)).mp z) (by omega), fun z => absurd ((nI_leI (by omega) (by omega)).mp z) (by omega)⟩]
        · rw [if_neg q, ifC_f (fun z => z.2 ((nI_leI (by omega) (by omega)).mpr (by omega)))]
      · have hcs : ¬ cs t D (cn t 12) 0 (cn t 12) < 1000000 := fun q => absurd h20 (by unfold lwR; rw [ifC_t q]; exact nI_m1 (by omega))
        have er : rndR t D = -1 := by unfold rndR; rw [← e12, ifC_t h8, ifC_f hcs]
        exact ⟨by unfold rnaR; rw [er, ifC_t h1, ifC_f (by decide), ifC_f (fun q => q.1 (by decide))], hK1⟩
    · have er : rndR t D = -3 := by unfold rndR; rw [← e12, ifC_f (show ¬ cn t 12 ≤ 8 by omega)]
      exact ⟨by unfold rnaR; rw [er, ifC_t h1, ifC_t rfl], hK⟩
  · exact ⟨by unfold rnaR; rw [ifC_f h1], hK⟩
