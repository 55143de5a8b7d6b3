/-! Rounds: ways from a set. -/
theorem chF_cn {t : Sg} {j : Nat} (h : j < cn t 12) : cn t (chF t j) = j := by
  obtain ⟨q, q1, q2, q3⟩ := cn_ex h
  rw [← q3, chF_at q1 q2]
theorem chF_ne {t : Sg} {i j : Nat} (hi : i < cn t 12) (hj : j < cn t 12) (h : ¬ i = j) : ¬ chF t i = chF t j := fun q => h (by rw [← chF_cn hi, ← chF_cn hj, q])
noncomputable def fvw (t : Sg) (D : Dy) (n set last i : Nat) : Nat := wayN t (chF t last) (chF t i) + cs t D n (set ||| 2 ^ i) i
noncomputable def wfN (t : Sg) (D : Dy) (n set last : Nat) : Nat := ifC (okL t D n set) (mnL (fvw t D n set last) set (if set = 2 ^ n - 1 then 0 else 1000000) n) 1000000
theorem wf_cs {t : Sg} {D : Dy} {n set last : Nat} (hn : n ≤ cn t 12) (hs : set < 2 ^ n) (hl : last < n) (hb : set.testBit last = true) : wfN t D n set last = cs t D n set last := by
  unfold wfN
  rw [cs_eq hs]
  congr 1
  refine mnL_cong (fun i hi h0 => ?_)
  unfold fvw hr rwy
  rw [if_neg (show ¬ last = n by omega), if_neg (chF_ne (by omega) (by omega) (fun q => by rw [q, h0] at hb; cases hb)), Nat.add_comm]
theorem cv_spot {σ : Sg} {x y : Int32} {a b : Nat} (hx : x = nI a) (hy : y = nI b) : Ev false 14 [.inl x, .inl y] σ (some (.inl (nI (8 * a + b)))) σ := by
  refine Ev_wp 40 [] rfl rfl ?_
  exact ⟨congrArg (fun z => some (Sum.inl z)) ((add_n (mul_n hx rfl) hy).trans (by rw [Nat.mul_comm])), rfl⟩
theorem cv_via {t : Sg} {D : Dy} {Z : Zt} {σ : Sg} {n : Nat} (hC : Cg false σ t D 60 200 Z σ) (hT : WN t) (hW : WT t) (hG : WG t n σ) (hn : n ≤ 8) (hch : ∀ j, j < n → chF t j < nP t) {s set last i : Nat} (hTB : TBc t D n s σ) (hl : last < n) (hi : i < n) (hlt : set ||| 2 ^ i < 2 ^ n) (hgt : s ≤ set ||| 2 ^ i) : Ev false 136 [.inr (.inr (51, false, 0)), .inr (.inr (1, false, 0)), .inl (nI set), .inl (nI last), .inl (nI i)] σ (some (.inl (nI (fvw t D n set last i)))) σ := by
  have hP := hT.P
  have hpn : 2 ^ n ≤ 256 := Nat.pow_le_pow_right (by decide) hn
  refine Ev_wp 60 [] rfl rfl ?_
  refine ⟨last, rfl, (by show _ < 8; omega), i, rfl, (by show _ < 8; omega), ?_⟩
  have hc1 := hch last hl
  have hc2 := hch i hi
  refine ⟨_, _, cv_way hC hT (hG.2 last (by omega)) (by omega) (hG.2 i (by omega)) (by omega), _, _, cv_spot (b_or rfl (b_shl1 rfl rfl (by omega))) rfl, 8 * (set ||| 2 ^ i) + i, rfl, (by show _ < 2048; omega), ?_⟩
  exact ⟨congrArg (fun z => some (Sum.inl z)) (add_n (way_n hW hc1 hc2) (hTB (set ||| 2 ^ i) i hgt hlt hi (by rw [or_bit]; simp))), rfl⟩
theorem fvw_le {t : Sg} {D : Dy} {n set last i : Nat} (hW : WT t) (h1 : chF t last < nP t) (h2 : chF t i < nP t) (hlt : set ||| 2 ^ i < 2 ^ n) : fvw t D n set last i ≤ 1000021 := by
  have a := wayN_le hW h1 h2
  have b := cs_le (t := t) (D := D) (last := i) hlt
  unfold fvw
  omega
theorem cv_from_l {t : Sg} {D : Dy} {Z : Zt} {σ : Sg} {n : Nat} (hC : Cg false σ t D 60 200 Z σ) (hT : WN t) (hW : WT t) (hG : WG t n σ) (hn : n ≤ 8) (hch : ∀ j, j < n → chF t j < nP t) {set last : Nat} (hL : LDw t D n (2 ^ n) σ) (hTB : TBc t D n (set + 1) σ) (hs : set < 2 ^ n) (hl : last < n) {whl : Int32} : ∀ (q i m : Nat), i + q = n → m = mnL (fvw t D n set last) set 1000000 i → G false 181 (fun r' s' => r' = some (.inl (nI (mnL (fvw t D n set last) set 1000000 n))) ∧ s' = σ) 22 [some (.inr (.inr (51, false, 0))), some (.inr (.inr (1, false, 0))), some (.inl (nI set)), some (.inl (nI last)), some (.inl whl), some (.inl (nI m)), some (.inl (nI i))] [] σ := by
  have hP := hT.P
  have hpn : 2 ^ n ≤ 256 := Nat.pow_le_pow_right (by decide) hn
  intro q
  induction q with
  | zero =>
    intro i m hj hm
    have hm2 : m ≤ 1000000 := by rw [hm]; exact mnL_le _
    refine G_wp 80 [22] rfl ?_
    refine br_ge rfl hG.1 (by omega) (by omega) (fun h25 => ?_) (fun h25 => ?_)
    · exact ⟨by rw [hm, show i = n by omega], rfl⟩
    · exact absurd h25 (by omega)
  | succ q ih =>
    intro i m hj hm
    have hm2 : m ≤ 1000000 := by rw [hm]; exact mnL_le _
    refine G_wp 80 [22] rfl ?_
    refine br_ge rfl hG.1 (by omega) (by omega) (fun h25 => ?_) (fun h25 => ?_)
    · exact absurd h25 (by omega)
    · refine br_ne (b_and1 (b_shr rfl rfl (by omega) (by omega)) (Nat.lt_of_le_of_lt (Nat.div_le_self _ _) (by omega))) rfl (by omega) (by omega) (fun h31 => ?_) (fun h31 => ?_)
      · refine ⟨nI (i + 1), nI_add _ _, ?_⟩
        have h1 : set.testBit i = true := (tb_1 set i).mpr (by omega)
        exact ih (i + 1) m (by omega) (by rw [mnL_S, if_neg (fun q => by rw [h1] at q; cases q.1), hm])
      · have h0 : set.testBit i = false := (tb_0 set i).mpr (by omega)
        have hlt : set ||| 2 ^ i < 2 ^ n := or_lt hs (by omega)
        have hgt := or_gt h0
        have hf := fvw_le (D := D) (last := last) hW (hch last hl) (hch i (by omega)) hlt
        refine ⟨_, _, cv_via hC hT hW hG hn hch hTB hl (by omega) hlt (by omega), nI (min m (fvw t D n set last i)), (mMin_n (by omega) (by omega)), nI (i + 1), nI_add _ _, ?_⟩
        exact ih (i + 1) _ (by omega) (by
                  rw [mnL_S, ← hm]
                  by_cases c : fvw t D n set last i < m
                  · rw [if_pos ⟨h0, c⟩, Nat.min_def, if_neg (by omega)]
                  · rw [if_neg (fun q => c q.2), Nat.min_def, if_pos (by omega)])
theorem cv_from {t : Sg} {D : Dy} {Z : Zt} {σ : Sg} {n : Nat} (hC : Cg false σ t D 60 200 Z σ) (hT : WN t) (hW : WT t) (hG : WG t n σ) (hn : n ≤ 8) (hch : ∀ j, j < n → chF t j < nP t) {set last : Nat} (hL : LDw t D n (2 ^ n) σ) (hTB : TBc t D n (set + 1) σ) (hs : set < 2 ^ n) (hl : last < n) {whl : Int32} (hwh : whl = nI (2 ^ n - 1)) : Ev false 181 [.inr (.inr (51, false, 0)), .inr (.inr (1, false, 0)), .inl (nI set), .inl (nI last), .inl whl] σ (some (.inl (nI (wfN t D n set last)))) σ := by
  have hP := hT.P
  have hpn : 2 ^ n ≤ 256 := Nat.pow_le_pow_right (by decide) hn
  refine Ev_wp 80 [22] rfl rfl ?_
  refine ⟨set, rfl, (by show _ < 256; omega), ?_⟩
  refine ⟨fun h4 => ?_, fun h4 => ?_⟩
  · rw [(hL set (by omega))] at h4
    exact ⟨by unfold wfN; rw [ifC_f (fun q => absurd h4 (Int32.not_lt.mpr q.1))], rfl⟩
  · rw [(hL set (by omega))] at h4
    refine ⟨set, rfl, (by show _ < 256; omega), ?_⟩
    refine ⟨fun h10 => ?_, fun h10 => ?_⟩
    · rw [(hL set (by omega))] at h10
      refine br_ne rfl hwh (by omega) (by omega) (fun h15 => ?_) (fun h15 => ?_)
      · refine ⟨_, rfl, _, rfl, ?_⟩
        have e : wfN t D n set last = mnL (fvw t D n set last) set 1000000 n := by unfold wfN; rw [ifC_t (show okL t D n set from ⟨Int32.not_lt.mp h4, h10⟩), if_neg h15]
        rw [e]
        exact cv_from_l hC hT hW hG hn hch hL hTB hs hl n 0 1000000 (by omega) rfl
      · exact ⟨by unfold wfN; rw [ifC_t (show okL t D n set from ⟨Int32.not_lt.mp h4, h10⟩), if_pos h15, mnL_all (fun i hi => by rw [h15, Nat.testBit_two_pow_sub_one]; exact decide_eq_true hi)], rfl⟩
    · rw [(hL set (by omega))] at h10
      exact ⟨by unfold wfN; rw [ifC_f (fun q => h10 q.2)], rfl⟩
