/-! The class looks at all riders, counts what is empty, begins a minute. -/
def ZI (t : Sg) (D : Dy) (Z : Zt) (x : Nat) : Prop := ∀ p, p < 12 → (p < nP t → Z.2.1 p = D 6 p ∧ ∀ y, y < 24 → Z.1 p y = if y = x then mMax (D 10 (24 * p + y)) (D 6 p) else D 10 (24 * p + y)) ∧ (¬ p < nP t → ∀ y, y < 24 → Z.1 p y = D 10 (24 * p + y))
def ZB (D : Dy) (Z : Zt) : Prop := ∀ p y, p < 12 → y < 24 → Z.1 p y = D 10 (24 * p + y)
def S6 (t : Sg) (D : Dy) (j : Nat) : Prop := ∀ p, p < nP t → ∃ k, k ≤ j ∧ D 6 p = nI k
def N10 (D : Dy) : Prop := ∀ p y, p < 12 → y < 24 → Is (D 10 (24 * p + y)) 200
theorem mMax_n {a b : Nat} (ha : a < 2147483648) (hb : b < 2147483648) : mMax (nI a) (nI b) = nI (max a b) := by
  unfold mMax
  by_cases h : a < b
  · rw [if_pos (by rw [Int32.lt_iff_toInt_lt, nI_toInt ha, nI_toInt hb]; omega), Nat.max_def, if_pos (by omega)]
  · rw [if_neg (by rw [Int32.lt_iff_toInt_lt, nI_toInt ha, nI_toInt hb]; omega), Nat.max_def]
    by_cases e : a = b
    · rw [e, if_pos (Nat.le_refl _)]
    · rw [if_neg (by omega)]
theorem mMax_up {a b : Nat} (ha : a ≤ 200) (hb : b ≤ 200) : mMax (mMax (nI a) (nI b)) (nI b + nI 1) = mMax (nI a) (nI b + nI 1) := by
  rw [nI_add, mMax_n (by omega) (by omega), mMax_n (by omega) (by omega), mMax_n (by omega) (by omega)]
  congr 1
  omega
theorem los_6 {D : Dy} {r p : Nat} {st : Int32} {i : Nat} : los D r p st 6 i = D 6 i := by
  unfold los
  rw [lgs_o (by omega) (by omega), up2_n (by omega), up2_n (by omega), up2_n (by omega)]
theorem cms_6 {t : Sg} {D : Dy} {r p q k i : Nat} (h : (D 2 p = nI 0 ∨ t 80 false 0 k < D 1 p) ∨ pik D p (nB t) = none) : cms t D r p q k 6 i = D 6 i := by
  unfold cms
  by_cases hs : D 2 p = nI 0 ∨ t 80 false 0 k < D 1 p
  · rw [if_pos hs]
    split
    next => exact los_6
    next =>
      split
      next => exact los_6
      next => rfl
  · rw [if_neg hs, h.resolve_left hs]
    dsimp only
    split
    next => exact los_6.trans (up2_n (by omega))
    next => exact up2_n (by omega)
theorem tak_6 {t : Sg} {D : Dy} {r p q b i : Nat} : tak t D r p q b 6 i = up2 D 6 p (D 6 p + nI 1) 6 i := by
  unfold tak
  rw [lgs_o (by omega) (by omega), up2_n (by omega)]
  by_cases e : i = p
  · rw [e, up2_s, up2_s]
  · rw [up2_n (by omega), up2_n (by omega)]
    repeat rw [up2_n (by omega)]
theorem tak_10 {t : Sg} {D : Dy} {r p q b i : Nat} : tak t D r p q b 10 i = D 10 i := by
  unfold tak
  rw [lgs_o (by omega) (by omega)]
  repeat rw [up2_n (by omega)]
theorem cms_10 {t : Sg} {D : Dy} {r p q k i : Nat} : cms t D r p q k 10 i = D 10 i := by
  have e : ∀ E st, los E r p st 10 i = E 10 i := fun E st => by
    unfold los
    rw [lgs_o (by omega) (by omega), up2_n (by omega), up2_n (by omega), up2_n (by omega)]
  unfold cms
  by_cases hs : D 2 p = nI 0 ∨ t 80 false 0 k < D 1 p
  · rw [if_pos hs]
    split
    next => exact e _ _
    next =>
      split
      next => exact e _ _
      next => rfl
  · rw [if_neg hs]
    cases hpk : pik D p (nB t) with
    | none =>
      dsimp only
      split
      next => exact (e _ _).trans (up2_n (by omega))
      next => exact up2_n (by omega)
    | some b => exact tak_10
theorem ZI_same {t : Sg} {D E : Dy} {Z : Zt} {x : Nat} (h : ZI t D Z x) (e6 : ∀ i, E 6 i = D 6 i) (e10 : ∀ i, E 10 i = D 10 i) : ZI t E Z x := by
  intro p hp
  obtain ⟨a, b⟩ := h p hp
  refine ⟨fun q => ⟨by rw [e6]; exact (a q).1, fun y hy => by rw [e6, e10]; exact (a q).2 y hy⟩, fun q y hy => by rw [e10]; exact b q y hy⟩
theorem ZI_take {t : Sg} {D E : Dy} {Z : Zt} {x p : Nat} (h : ZI t D Z x) (hp : p < nP t) (hP : nP t ≤ 12) (hx : x < 24) (hN : N10 D) {j : Nat} (hj : j ≤ 200) (hS : S6 t D j) (e6 : ∀ i, E 6 i = up2 D 6 p (D 6 p + nI 1) 6 i) (e10 : ∀ i, E 10 i = D 10 i) : ZI t E (Zk Z p x) x := by
  intro q hq
  obtain ⟨a, b⟩ := h q hq
  refine ⟨fun hqn => ?_, fun hqn y hy => ?_⟩
  · obtain ⟨a1, a2⟩ := a hqn
    refine ⟨?_, fun y hy => ?_⟩
    · show (if q = p then Z.2.1 p + nI 1 else Z.2.1 q) = _
      rw [e6]
      by_cases e : q = p
      · rw [if_pos e, e, up2_s, ← e, a1]
      · rw [if_neg e, up2_n (by omega), a1]
    · show (if q = p ∧ y = x then mMax (Z.1 p x) (Z.2.1 p + nI 1) else Z.1 q y) = _
      rw [e6, e10]
      by_cases e : q = p
      · subst e
        by_cases e2 : y = x
        · subst e2
          rw [if_pos ⟨rfl, rfl⟩, if_pos rfl, up2_s, a2 y hy, if_pos rfl, a1]
          obtain ⟨k, hk, ek⟩ := hS q hqn
          obtain ⟨c1, c2⟩ := hN q y hq hy
          rw [ek, c1]
          exact mMax_up c2 (by omega)
        · rw [if_neg (fun z => e2 z.2), if_neg e2, a2 y hy, if_neg e2]
      · rw [if_neg (fun z => e z.1), up2_n (by omega)]
        exact a2 y hy
  · show (if q = p ∧ y = x then mMax (Z.1 p x) (Z.2.1 p + nI 1) else Z.1 q y) = _
    rw [e10, if_neg (fun z => by omega)]
    exact b hqn y hy
theorem S6_same {t : Sg} {D E : Dy} {j : Nat} (h : S6 t D j) (e6 : ∀ i, E 6 i = D 6 i) : S6 t E (j + 1) := fun p hp => by
  obtain ⟨k, hk, e⟩ := h p hp
  exact ⟨k, by omega, by rw [e6]; exact e⟩
theorem S6_take {t : Sg} {D E : Dy} {j p : Nat} (h : S6 t D j) (e6 : ∀ i, E 6 i = up2 D 6 p (D 6 p + nI 1) 6 i) : S6 t E (j + 1) := fun q hq => by
  obtain ⟨k, hk, e⟩ := h q hq
  by_cases z : q = p
  · subst z
    exact ⟨k + 1, by omega, by rw [e6, up2_s, e, nI_add]⟩
  · exact ⟨k, by omega, by rw [e6, up2_n (by omega)]; exact e⟩
theorem cv_look {d : Bool} {s t : Sg} {D : Dy} {Z : Zt} {σ : Sg} {r p q k j : Nat} (hC : Cg d s t D 60 200 Z σ) (hT : WN t) (hO : OI t D) (hr : r < nR t) (hp : p < nP t) (hq : q < nP t) (hk : k < 4) (hF : t 77 false 0 r = nI p) (hG : t 78 false 0 r = nI q) (hK : t 79 false 0 r = nI k) (h7 : Is (D 0 7) 4000) (hm : D 0 0 = nI (nN (D 0 0))) (hm2 : nN (D 0 0) < 1440) (h16 : D 16 r = nI 1 ∨ D 16 r = nI 0) (hZ : ZI t D Z (nN (D 0 0) / 60)) (hN : N10 D) (hj : j ≤ 200) (hS : S6 t D j) : ∃ σ' Z', Ev false 178 [.inr (.inr (26, d, 0)), .inl (nI r)] σ none σ' ∧ Cg d s t (cms t D r p q k) 60 200 Z' σ' ∧ ZI t (cms t D r p q k) Z' (nN (D 0 0) / 60) ∧ S6 t (cms t D r p q k) (j + 1) ∧ Z'.2.2 = Z.2.2 := by
  have hP := hT.P
  by_cases hsh : D 2 p = nI 0 ∨ t 80 false 0 k < D 1 p
  · rcases h16 with h16 | h16
    · obtain ⟨σ1, ev1, hC1⟩ := cv_look_sh1 hC hT hO hr hp hq hk hF hG hK h7 hm hm2 h16 hsh
      exact ⟨σ1, Z, ev1, hC1, ZI_same hZ (fun i => cms_6 (Or.inl hsh)) (fun i => cms_10), S6_same hS (fun i => cms_6 (Or.inl hsh)), rfl⟩
    · obtain ⟨σ1, ev1, hC1⟩ := cv_look_sh0 hC hT hO hr hp hq hk hF hG hK h7 hm hm2 h16 hsh
      exact ⟨σ1, Z, ev1, hC1, ZI_same hZ (fun i => cms_6 (Or.inl hsh)) (fun i => cms_10), S6_same hS (fun i => cms_6 (Or.inl hsh)), rfl⟩
  · cases hpk : pik D p (nB t) with
    | none =>
      rcases h16 with h16 | h16
      · obtain ⟨σ1, ev1, hC1⟩ := cv_look_no1 hC hT hO hr hp hq hk hF hG hK h7 hm hm2 h16 hsh hpk
        exact ⟨σ1, Z, ev1, hC1, ZI_same hZ (fun i => cms_6 (Or.inr hpk)) (fun i => cms_10), S6_same hS (fun i => cms_6 (Or.inr hpk)), rfl⟩
      · obtain ⟨σ1, ev1, hC1⟩ := cv_look_no0 hC hT hO hr hp hq hk hF hG hK h7 hm hm2 h16 hsh hpk
        exact ⟨σ1, Z, ev1, hC1, ZI_same hZ (fun i => cms_6 (Or.inr hpk)) (fun i => cms_10), S6_same hS (fun i => cms_6 (Or.inr hpk)), rfl⟩
    | some b =>
      have ec : cms t D r p q k = tak t D r p q b := by
        unfold cms
        rw [if_neg hsh, hpk]
      rcases h16 with h16 | h16
      · obtain ⟨σ1, ev1, hC1⟩ := cv_look_so1 hC hT hO hr hp hq hk hF hG hK h7 hm hm2 h16 hsh hpk
        exact ⟨σ1, _, ev1, hC1, ZI_take hZ hp hP (by omega) hN hj hS (fun i => by rw [ec]; exact tak_6) (fun i => by rw [ec]; exact tak_10), S6_take hS (fun i => by rw [ec]; exact tak_6), rfl⟩
      · obtain ⟨σ1, ev1, hC1⟩ := cv_look_so0 hC hT hO hr hp hq hk hF hG hK h7 hm hm2 h16 hsh hpk
        exact ⟨σ1, _, ev1, hC1, ZI_take hZ hp hP (by omega) hN hj hS (fun i => by rw [ec]; exact tak_6) (fun i => by rw [ec]; exact tak_10), S6_take hS (fun i => by rw [ec]; exact tak_6), rfl⟩
theorem cv_looks_l {d : Bool} {s t : Sg} {D : Dy} {c : Int32} (hT : WN t) (hRT : RT t) (hW : WI t D) (hO : OI t D) (hm : D 0 0 = nI (nN (D 0 0))) (hm2 : nN (D 0 0) < 1440) (hN : N10 D) : ∀ (k j : Nat) (σ : Sg) (Z : Zt) (o : Option AV), j + k = nR t → Cg d s t (fr (gc t) j D) 60 200 Z σ → ZI t (fr (gc t) j D) Z (nN (D 0 0) / 60) → S6 t (fr (gc t) j D) j → Z.2.2 = c → G false 197 (fun r' s' => r' = none ∧ ∃ Z', Cg d s t (fr (gc t) (nR t) D) 60 200 Z' s' ∧ ZI t (fr (gc t) (nR t) D) Z' (nN (D 0 0) / 60) ∧ S6 t (fr (gc t) (nR t) D) (nR t) ∧ Z'.2.2 = c) 2 [some (.inr (.inr (26, d, 0))), some (.inl (nI j)), o] [] σ := by
  have hP := hT.P
  have hB := hT.B
  have hR := hT.R
  intro k
  induction k with
  | zero =>
    intro j σ Z o hj hC hZ hS hc
    refine G_wp 100 [2] rfl ?_
    refine br_ge rfl (hC.c1_2.trans hT.eR) (by omega) (by omega) (fun h6 => ?_) (fun h6 => ?_)
    · exact ⟨rfl, Z, by rw [show nR t = j by omega]; exact ⟨hC, hZ, hS, hc⟩⟩
    · exact absurd h6 (by omega)
  | succ k ih =>
    intro j σ Z o hj hC hZ hS hc
    obtain ⟨X, hX⟩ : ∃ X, X = fr (gc t) j D := ⟨_, rfl⟩
    rw [← hX] at hC hZ hS
    have hWX : WI t X := by rw [hX]; exact fr_I (P := WI t) (fun n E hn hE => gc_WI hT hRT hE hn) hW j (by omega)
    have hOX : OI t X := by rw [hX]; exact OI_of hO (fun i => fr_e (fun _ _ => gc_o (by omega)) _ _)
    have e0 : X 0 0 = D 0 0 := by rw [hX]; exact fr_e (fun _ _ => gc_o (by omega)) _ _
    have hNX : N10 X := by rw [hX]; exact fun p y hp hy => by rw [fr_e (fun _ _ => gc_o (by omega)) _ _]; exact hN p y hp hy
    obtain ⟨-, ⟨p, hp, hF⟩, ⟨q, hq, hG⟩, k, hk, hK⟩ := hRT j (by omega)
    refine G_wp 100 [2] rfl ?_
    refine br_ge rfl (hC.c1_2.trans hT.eR) (by omega) (by omega) (fun h6 => ?_) (fun h6 => ?_)
    · exact absurd h6 (by omega)
    · refine ⟨0, rfl, (by show _ < 6; omega), (show 0 < 6 by omega), j, rfl, (by show _ < 200; omega), ?_⟩
      rw [hC.r0 j (by omega)]
      refine ⟨_, rfl, ?_⟩
      refine ⟨fun h16 => ?_, fun h16 => ?_⟩
      · obtain ⟨σ1, Z1, ev1, hC, hZ, hS, hz⟩ := cv_look hC hT hOX (by omega) hp hq hk hF hG hK hWX.1.2.1 (by rw [e0]; exact hm) (by rw [e0]; exact hm2) (Or.inl h16) (by rw [e0]; exact hZ) hNX (by omega) hS
        rw [e0] at hZ
        refine ⟨_, _, ev1, nI (j + 1), nI_add _ _, ?_⟩
        have eg : fr (gc t) (j + 1) D = cms t X j p q k := by
          rw [fr_S, ← hX]
          unfold gc
          rw [if_pos (Or.inl h16), hF, hG, hK, nN_nI (by omega), nN_nI (by omega), nN_nI (by omega)]
        rw [← eg] at hC hZ hS
        exact ih (j + 1) _ _ _ (by omega) hC hZ hS (hz.trans hc)
      · refine ⟨fun h18 => ?_, fun h18 => ?_⟩
        · refine ⟨nI (j + 1), nI_add _ _, ?_⟩
          have eg : fr (gc t) (j + 1) D = X := by
            rw [fr_S, ← hX]
            unfold gc
            rw [if_neg (fun q => q.elim h16 (fun z => h18 z.1))]
          rw [← eg] at hC hZ hS
          exact ih (j + 1) _ _ _ (by omega) hC hZ (fun p hp => by obtain ⟨k, hk, e⟩ := hS p hp; exact ⟨k, by omega, e⟩) hc
        · refine ⟨j, rfl, (by show _ < 200; omega), ?_⟩
          rw [hC.c6 j (by omega)]
          refine ⟨fun h26 => ?_, fun h26 => ?_⟩
          · rw [hC.m.1] at h26
            refine ⟨nI (j + 1), nI_add _ _, ?_⟩
            have eg : fr (gc t) (j + 1) D = X := by
              rw [fr_S, ← hX]
              unfold gc
              rw [if_neg (fun q => q.elim h16 (fun z => h26 z.2))]
            rw [← eg] at hC hZ hS
            exact ih (j + 1) _ _ _ (by omega) hC hZ (fun p hp => by obtain ⟨k, hk, e⟩ := hS p hp; exact ⟨k, by omega, e⟩) hc
          · rw [hC.m.1] at h26
            obtain ⟨σ2, Z2, ev2, hC, hZ, hS, hz⟩ := cv_look hC hT hOX (by omega) hp hq hk hF hG hK hWX.1.2.1 (by rw [e0]; exact hm) (by rw [e0]; exact hm2) (Or.inr h18) (by rw [e0]; exact hZ) hNX (by omega) hS
            rw [e0] at hZ
            refine ⟨_, _, ev2, nI (j + 1), nI_add _ _, ?_⟩
            have eg : fr (gc t) (j + 1) D = cms t X j p q k := by
              rw [fr_S, ← hX]
              unfold gc
              rw [if_pos (Or.inr ⟨h18, h26⟩), hF, hG, hK, nN_nI (by omega), nN_nI (by omega), nN_nI (by omega)]
            rw [← eg] at hC hZ hS
            exact ih (j + 1) _ _ _ (by omega) hC hZ hS (hz.trans hc)
theorem cv_looks {d : Bool} {s t : Sg} {D : Dy} {Z : Zt} {σ : Sg} (hC : Cg d s t D 60 200 Z σ) (hT : WN t) (hRT : RT t) (hW : WI t D) (hO : OI t D) (hm : D 0 0 = nI (nN (D 0 0))) (hm2 : nN (D 0 0) < 1440) (hN : N10 D) (hZ : ZI t D Z (nN (D 0 0) / 60)) (hS : S6 t D 0) : ∃ σ', Ev false 197 [.inr (.inr (26, d, 0))] σ none σ' ∧ ∃ Z', Cg d s t (fr (gc t) (nR t) D) 60 200 Z' σ' ∧ ZI t (fr (gc t) (nR t) D) Z' (nN (D 0 0) / 60) ∧ S6 t (fr (gc t) (nR t) D) (nR t) ∧ Z'.2.2 = Z.2.2 := by
  refine EvQ_wp 60 [2] rfl rfl ?_
  refine ⟨_, rfl, ?_⟩
  exact cv_looks_l hT hRT hW hO hm hm2 hN (nR t) 0 σ Z none (by omega) hC hZ hS rfl
