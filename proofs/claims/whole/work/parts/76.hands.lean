/-! By hand: the class. -/
theorem dos_f {D : Dy} {w a : Nat} {b : Int32} {g i : Nat} (e : g = 3 ∨ g = 4 ∨ g = 5 ∨ (6 ≤ g ∧ g ≤ 10)) : dos D w a b g i = D g i := by
  unfold dos
  split
  · rw [up2_n (by omega)]
  · rw [lgs_o (by omega) (by omega), up2_n (by omega)]
  · rw [up2_n (by omega)]
  · rw [lgs_o (by omega) (by omega), up2_n (by omega)]
  · rw [lgs_o (by omega) (by omega), up2_n (by omega), up2_n (by omega)]
  · rw [up2_n (by omega), up2_n (by omega), up2_n (by omega)]
theorem dos_OI {t : Sg} {D : Dy} {w a : Nat} {b : Int32} (h : OI t D) (hk : hOk t w a b) : OI t (dos D w a b) := by
  intro p hp
  have h1 := h p hp
  unfold dos
  split
  · rw [up2_n (by omega)]; exact h1
  · have hb := hk.2
    rw [lgs_o (by omega) (by omega)]
    by_cases e : p = a
    · subst e; rw [up2_s]; exact hb
    · rw [up2_n (by omega)]; exact h1
  · rw [up2_n (by omega)]; exact h1
  · rw [lgs_o (by omega) (by omega), up2_n (by omega)]; exact h1
  · rw [lgs_o (by omega) (by omega), up2_n (by omega), up2_n (by omega)]; exact h1
  · rw [up2_n (by omega), up2_n (by omega), up2_n (by omega)]; exact h1
theorem dos_DK {d : Bool} {s t : Sg} {D : Dy} {Z : Zt} {σ σ' : Sg} {w a : Nat} {b : Int32} (h : DK d s t D Z σ) (hT : WN t) (hk : hOk t w a b) (hn : nOk w b) (hc : canB t D w a b) (hC : Cg d s t (dos D w a b) 60 200 Z σ') : DK d s t (dos D w a b) Z σ' :=
  ⟨hC, dos_MI hT h.2.1 hk hn hc, dos_OI h.2.2.1 hk, h.2.2.2.1, fun p y hp hy => by rw [dos_f (by omega)]; exact h.2.2.2.2.1 p y hp hy, fun p y hp hy => by rw [dos_f (by omega)]; exact h.2.2.2.2.2 p y hp hy⟩
theorem cv_addH {t : Sg} {D : Dy} {Z : Zt} {σ : Sg} (hK : CK t D Z σ) (hH : Is (t 69 false 0 18) 200) (h2 : nH t < 200) {m w a b : Int32} : ∃ σ', Ev false 11 [.inr (.inr (21, false, 0)), .inl m, .inl w, .inl a, .inl b] σ none σ' ∧ CK (hnd t m w a b) D Z σ' := by
  have hC := hK.1.1
  have eH : σ 21 false 0 0 = nI (nH t) := hC.c21_0.trans hH.1
  refine EvQ_wp 60 [] rfl rfl ?_
  refine ⟨nH t, eH, (by show _ < 200; omega), _, rfl, ?_⟩
  replace hK := CK_w hK (k := 22) (r := 0) (i := nH t) (k' := 82) (j := 4 * (nH t)) m (if_pos ⟨rfl, by omega⟩) (by omega)
  refine ⟨nH t, eH, (by show _ < 200; omega), _, rfl, ?_⟩
  replace hK := CK_w hK (k := 23) (r := 0) (i := nH t) (k' := 82) (j := 4 * (nH t) + 1) w (if_pos ⟨rfl, by omega⟩) (by omega)
  refine ⟨nH t, eH, (by show _ < 200; omega), _, rfl, ?_⟩
  replace hK := CK_w hK (k := 24) (r := 0) (i := nH t) (k' := 82) (j := 4 * (nH t) + 2) a (if_pos ⟨rfl, by omega⟩) (by omega)
  refine ⟨nH t, eH, (by show _ < 200; omega), _, rfl, ?_⟩
  replace hK := CK_w hK (k := 25) (r := 0) (i := nH t) (k' := 82) (j := 4 * (nH t) + 3) b (if_pos ⟨rfl, by omega⟩) (by omega)
  refine ⟨nI ((nH t) + 1), (add_n eH rfl), ?_⟩
  replace hK := CK_w hK (k := 21) (r := 0) (i := 0) (k' := 69) (j := 18) (nI ((nH t) + 1)) rfl (by omega)
  exact ⟨rfl, hK⟩
theorem cv_byHand {t : Sg} {D : Dy} {Z : Zt} {σ : Sg} (hK : CK t D Z σ) (hT : WN t) (hH : Is (t 69 false 0 18) 200) {w a : Nat} {b : Int32} (hk : hOk t w a b) (hn : nOk w b) : ∃ σ', Ev false 185 [.inr (.inr (0, false, 0)), .inl (nI w), .inl (nI a), .inl b] σ (some (.inl (hdR t D w a b))) σ' ∧ CK (hdT t D w a b) (hdD t D w a b) Z σ' := by
  have hC := hK.1.1
  have hO := hK.1.2.2.1
  have h6 : Is (D 0 6) 20 := hK.1.2.1.1.1.2.2.1
  have hH2 : nH t ≤ 200 := hH.2
  have eH : σ 21 false 0 0 = nI (nH t) := hC.c21_0.trans hH.1
  have h18 : 200 ≤ nH t → t 69 false 0 18 = nI 200 := fun q => hH.1.trans (congrArg nI (show nH t = 200 by omega))
  have h18n : t 69 false 0 18 = nI 200 → nH t = 200 := fun q => by show nN (t 69 false 0 18) = 200; rw [q]; exact nN_nI (by omega)
  refine EvQ_wp 60 [] rfl rfl ?_
  refine ⟨_, _, cv_can hC hT hO h6 hk, ?_⟩
  refine brd_ne (fun h6b => ?_) (fun h6b => ?_)
  · refine br_lt eH rfl (by omega) (by omega) (fun h13 => ?_) (fun h13 => ?_)
    · obtain ⟨σ1, ev1, hK1⟩ := cv_addH (m := D 0 0) (w := nI w) (a := nI a) (b := b) hK hH (by omega)
      rw [← hC.m.1] at ev1
      have hT1 : WN (hnd t (D 0 0) (nI w) (nI a) b) := hnd_WN hT
      have hk1 : hOk (hnd t (D 0 0) (nI w) (nI a) b) w a b := by rw [hnd_ok]; exact hk
      have hc1 : canB (hnd t (D 0 0) (nI w) (nI a) b) D w a b := by rw [hnd_can]; exact h6b
      obtain ⟨σ2, ev2, hC2⟩ := cv_do hK1.1.1 hT1 hK1.1.2.1.1 hk1 hc1
      refine ⟨_, _, ev1, _, _, ev2, ?_⟩
      exact ⟨by unfold hdR; rw [ifC_t h6b, ifC_f (fun q => absurd (h18n q) (by omega))], by unfold hdT hdD; rw [ifC_t h6b, ifC_f (fun q => absurd (h18n q) (by omega)), ifC_t h6b, ifC_f (fun q => absurd (h18n q) (by omega))]; exact CK_of (dos_DK hK1.1 hT1 hk1 hn hc1 hC2) hK1.2.1 hK1.2.2.1 hK1.2.2.2⟩
    · exact ⟨by unfold hdR; rw [ifC_t h6b, ifC_t (h18 (by omega))], by unfold hdT hdD; rw [ifC_t h6b, ifC_t (h18 (by omega)), ifC_t h6b, ifC_t (h18 (by omega))]; exact hK⟩
  · exact ⟨by unfold hdR; rw [ifC_f h6b], by unfold hdT hdD; rw [ifC_f h6b, ifC_f h6b]; exact hK⟩
theorem cv_faulty {t : Sg} {D : Dy} {Z : Zt} {σ : Sg} (hK : CK t D Z σ) (hT : WN t) (hH : Is (t 69 false 0 18) 200) {x : Int32} : ∃ σ', Ev false 204 [.inr (.inr (0, false, 0)), .inl (x)] σ (some (.inl (ftyR t D x))) σ' ∧ CK (ftyT t D x) (ftyD t D x) Z σ' := by
  have hC := hK.1.1
  have hP := hT.P
  have hB := hT.B
  refine EvQ_wp 34 [] rfl rfl ?_
  refine ⟨_, _, cv_isBike (hC.c1_1.trans hT.2.1.1) (by omega), ?_⟩
  refine brd_eq (fun h4 => ?_) (fun h4 => ?_)
  · exact ⟨by unfold ftyR; rw [ifC_f h4], by unfold ftyT ftyD; rw [ifC_f h4, ifC_f h4]; exact hK⟩
  · have hx := isBk_n hT h4
    obtain ⟨σ1, ev1, hK1⟩ := cv_byHand hK hT hH (w := 2) (a := nN x) (b := nI 0) (show nN x < nB t from hx.2) (fun q => absurd q (by decide))
    rw [← hx.1] at ev1
    refine ⟨_, _, ev1, ?_⟩
    exact ⟨by unfold ftyR; rw [ifC_t h4], by unfold ftyT ftyD; rw [ifC_t h4, ifC_t h4]; exact hK1⟩
theorem cv_steal {t : Sg} {D : Dy} {Z : Zt} {σ : Sg} (hK : CK t D Z σ) (hT : WN t) (hH : Is (t 69 false 0 18) 200) {x : Int32} : ∃ σ', Ev false 205 [.inr (.inr (0, false, 0)), .inl (x)] σ (some (.inl (stlR t D x))) σ' ∧ CK (stlT t D x) (stlD t D x) Z σ' := by
  have hC := hK.1.1
  have hP := hT.P
  have hB := hT.B
  refine EvQ_wp 34 [] rfl rfl ?_
  refine ⟨_, _, cv_isBike (hC.c1_1.trans hT.2.1.1) (by omega), ?_⟩
  refine brd_eq (fun h4 => ?_) (fun h4 => ?_)
  · exact ⟨by unfold stlR; rw [ifC_f h4], by unfold stlT stlD; rw [ifC_f h4, ifC_f h4]; exact hK⟩
  · have hx := isBk_n hT h4
    obtain ⟨σ1, ev1, hK1⟩ := cv_byHand hK hT hH (w := 3) (a := nN x) (b := nI 0) (show nN x < nB t from hx.2) (fun q => absurd q (by decide))
    rw [← hx.1] at ev1
    refine ⟨_, _, ev1, ?_⟩
    exact ⟨by unfold stlR; rw [ifC_t h4], by unfold stlT stlD; rw [ifC_t h4, ifC_t h4]; exact hK1⟩
theorem cv_find {t : Sg} {D : Dy} {Z : Zt} {σ : Sg} (hK : CK t D Z σ) (hT : WN t) (hH : Is (t 69 false 0 18) 200) {x v : Int32} : ∃ σ', Ev false 206 [.inr (.inr (0, false, 0)), .inl (x), .inl (v)] σ (some (.inl (fndR t D x v))) σ' ∧ CK (fndT t D x v) (fndD t D x v) Z σ' := by
  have hC := hK.1.1
  have hP := hT.P
  have hB := hT.B
  refine EvQ_wp 41 [] rfl rfl ?_
  refine ⟨_, _, cv_isBike (hC.c1_1.trans hT.2.1.1) (by omega), ?_⟩
  refine brd_eq (fun h4 => ?_) (fun h4 => ?_)
  · exact ⟨by unfold fndR; rw [ifC_f (fun q => h4 q.1)], by unfold fndT fndD; rw [ifC_f (fun q => h4 q.1), ifC_f (fun q => h4 q.1)]; exact hK⟩
  · refine ⟨_, _, cv_isPost (hC.c1_0.trans hT.1.1) (by omega), ?_⟩
    refine brd_eq (fun h9 => ?_) (fun h9 => ?_)
    · exact ⟨by unfold fndR; rw [ifC_f (fun q => h9 q.2)], by unfold fndT fndD; rw [ifC_f (fun q => h9 q.2), ifC_f (fun q => h9 q.2)]; exact hK⟩
    · have hv := isPo_n hT h9
      have hx := isBk_n hT h4
      obtain ⟨σ1, ev1, hK1⟩ := cv_byHand hK hT hH (w := 4) (a := nN x) (b := v) (⟨hx.2, nN v, hv.1, hv.2⟩) (fun q => absurd q (by decide))
      rw [← hx.1] at ev1
      refine ⟨_, _, ev1, ?_⟩
      exact ⟨by unfold fndR; rw [ifC_t ⟨h4, h9⟩], by unfold fndT fndD; rw [ifC_t ⟨h4, h9⟩, ifC_t ⟨h4, h9⟩]; exact hK1⟩
theorem cv_price_p {t : Sg} {D : Dy} {Z : Zt} {σ : Sg} (hK : CK t D Z σ) (hT : WN t) (hH : Is (t 69 false 0 18) 200) {x v : Int32} : ∃ σ', Ev false 202 [.inr (.inr (0, false, 0)), .inl (x), .inl (v)] σ (some (.inl (prcR t D x v))) σ' ∧ CK (prcT t D x v) (prcD t D x v) Z σ' := by
  have hC := hK.1.1
  have hP := hT.P
  have hB := hT.B
  refine EvQ_wp 54 [] rfl rfl ?_
  refine ⟨_, _, cv_isPost (hC.c1_0.trans hT.1.1) (by omega), ?_⟩
  refine brd_eq (fun h4 => ?_) (fun h4 => ?_)
  · exact ⟨by unfold prcR; rw [ifC_f (fun q => h4 q.1)], by unfold prcT prcD; rw [ifC_f (fun q => h4 q.1), ifC_f (fun q => h4 q.1)]; exact hK⟩
  · refine ⟨_, _, cv_in, ?_⟩
    refine brd_ne (fun h9 => ?_) (fun h9 => ?_)
    · have hx0 := isPo_n hT h4
      refine ⟨nN x, hx0.1, (by show _ < 12; omega), (D 1 (nN x)), (hC.p (nN x) hx0.2).1, ?_⟩
      have hx := isPo_n hT h4
      obtain ⟨σ1, ev1, hK1⟩ := cv_byHand hK hT hH (w := 0) (a := nN x) (b := v) (show nN x < nP t from hx.2) (fun q => absurd q (by decide))
      rw [← hx.1] at ev1
      refine ⟨_, _, ev1, _, rfl, ?_⟩
      refine ⟨fun h26 => ?_, fun h26 => ?_⟩
      · exact ⟨by unfold prcR; rw [ifC_t ⟨h4, h9⟩, ifC_f h26], by unfold prcT prcD; rw [ifC_t ⟨h4, h9⟩, ifC_t ⟨h4, h9⟩]; exact hK1⟩
      · exact ⟨by unfold prcR; rw [ifC_t ⟨h4, h9⟩, ifC_t h26], by unfold prcT prcD; rw [ifC_t ⟨h4, h9⟩, ifC_t ⟨h4, h9⟩]; exact hK1⟩
    · exact ⟨by unfold prcR; rw [ifC_f (fun q => h9 q.2)], by unfold prcT prcD; rw [ifC_f (fun q => h9 q.2), ifC_f (fun q => h9 q.2)]; exact hK⟩
theorem cv_bit {σ : Sg} {v : Int32} (hv : v = nI 0 ∨ v = nI 1) : Ev false 40 [.inl v] σ (some (.inl v)) σ := by
  refine Ev_wp 30 [] rfl rfl ?_
  refine ⟨fun h1 => ?_, fun h1 => ?_⟩
  · rcases hv with q | q
    · exact ⟨by rw [q], rfl⟩
    · exact absurd (q.symm.trans h1) (by decide)
  · rcases hv with q | q
    · exact absurd q h1
    · exact ⟨by rw [q], rfl⟩
theorem cv_open_p {t : Sg} {D : Dy} {Z : Zt} {σ : Sg} (hK : CK t D Z σ) (hT : WN t) (hH : Is (t 69 false 0 18) 200) {x v : Int32} (hv : v = nI 0 ∨ v = nI 1) : ∃ σ', Ev false 203 [.inr (.inr (0, false, 0)), .inl (x), .inl (v)] σ (some (.inl (opn1R t D x v))) σ' ∧ CK (opn1T t D x v) (opn1D t D x v) Z σ' := by
  have hC := hK.1.1
  have hP := hT.P
  have hB := hT.B
  refine EvQ_wp 35 [] rfl rfl ?_
  refine ⟨_, _, cv_isPost (hC.c1_0.trans hT.1.1) (by omega), ?_⟩
  refine brd_eq (fun h4 => ?_) (fun h4 => ?_)
  · exact ⟨by unfold opn1R; rw [ifC_f h4], by unfold opn1T opn1D; rw [ifC_f h4, ifC_f h4]; exact hK⟩
  · refine ⟨_, _, cv_bit hv, ?_⟩
    have hx := isPo_n hT h4
    obtain ⟨σ1, ev1, hK1⟩ := cv_byHand hK hT hH (w := 1) (a := nN x) (b := v) (⟨hx.2, hv⟩) (fun q => absurd q (by decide))
    rw [← hx.1] at ev1
    refine ⟨_, _, ev1, ?_⟩
    exact ⟨by unfold opn1R; rw [ifC_t h4], by unfold opn1T opn1D; rw [ifC_t h4, ifC_t h4]; exact hK1⟩
theorem nOk_v {v : Int32} (h : inI (-12) v (nI 12)) : ∃ m, m ≤ 12 ∧ (v = nI m ∨ v = -(nI m)) := by
  obtain ⟨h1, h2⟩ := h
  rw [Int32.le_iff_toInt_le, nI_toInt (by omega)] at h2
  rw [Int32.le_iff_toInt_le, show (-12 : Int32).toInt = -12 from rfl] at h1
  by_cases q : 0 ≤ v.toInt
  · refine ⟨v.toInt.toNat, by omega, Or.inl ?_⟩
    exact Int32.toInt_inj.mp (by rw [nI_toInt (by omega)]; omega)
  · refine ⟨(-v.toInt).toNat, by omega, Or.inr ?_⟩
    exact Int32.toInt_inj.mp (by rw [nI_neg (by omega)]; omega)
theorem hd5_full {t : Sg} {D : Dy} {a : Nat} {v : Int32} (hc : nN (D 0 6) < 20) (h : ¬ hdR t D 5 a v = nI 1) : hdR t D 5 a v = -4 := by
  unfold hdR at h ⊢
  rw [ifC_t (show canB t D 5 a v from hc)] at h ⊢
  by_cases q : t 69 false 0 18 = nI 200
  · rw [ifC_t q]
  · rw [ifC_f q] at h
    exact absurd rfl h
theorem hd5_no {t : Sg} {D : Dy} {a : Nat} {v : Int32} (hc : ¬ nN (D 0 6) < 20) : hdR t D 5 a v = -3 ∧ hdT t D 5 a v = t ∧ hdD t D 5 a v = D := by
  unfold hdR hdT hdD
  rw [ifC_f (show ¬ canB t D 5 a v from hc), ifC_f (show ¬ canB t D 5 a v from hc), ifC_f (show ¬ canB t D 5 a v from hc)]
  exact ⟨rfl, rfl, rfl⟩
theorem cv_stop_p {t : Sg} {D : Dy} {Z : Zt} {σ : Sg} (hK : CK t D Z σ) (hT : WN t) (hH : Is (t 69 false 0 18) 200) {x v : Int32} : ∃ σ', Ev false 207 [.inr (.inr (0, false, 0)), .inl (x), .inl (v)] σ (some (.inl (stp1R t D x v))) σ' ∧ CK (stp1T t D x v) (stp1D t D x v) Z σ' := by
  have hC := hK.1.1
  have hP := hT.P
  have hB := hT.B
  have h6 : Is (D 0 6) 20 := hK.1.2.1.1.1.2.2.1
  have h62 := h6.2
  refine EvQ_wp 59 [] rfl rfl ?_
  refine ⟨_, _, cv_isPost (hC.c1_0.trans hT.1.1) (by omega), ?_⟩
  refine brd_eq (fun h4 => ?_) (fun h4 => ?_)
  · exact ⟨by unfold stp1R; rw [ifC_f (fun q => h4 q.1)], by unfold stp1T stp1D; rw [ifC_f (fun q => h4 q.1), ifC_f (fun q => h4 q.1)]; exact hK⟩
  · refine ⟨_, _, cv_in, ?_⟩
    refine brd_ne (fun h9 => ?_) (fun h9 => ?_)
    · refine br_lt (hC.v.2.2.1.trans h6.1) rfl (by omega) (by omega) (fun h17 => ?_) (fun h17 => ?_)
      · have hx := isPo_n hT h4
        obtain ⟨σ1, ev1, hK1⟩ := cv_byHand hK hT hH (w := 5) (a := nN x) (b := v) (show nN x < nP t from hx.2) (fun _ => nOk_v h9)
        rw [← hx.1] at ev1
        have hv6 := hK1.1.1.v.2.2.1
        refine ⟨_, _, ev1, _, rfl, ?_⟩
        refine ⟨fun h28 => ?_, fun h28 => ?_⟩
        · exact ⟨by unfold stp1R; rw [ifC_t ⟨h4, h9⟩, ifC_f h28, hd5_full (by omega) h28], by unfold stp1T stp1D; rw [ifC_t ⟨h4, h9⟩, ifC_t ⟨h4, h9⟩]; exact hK1⟩
        · exact ⟨by unfold stp1R; rw [ifC_t ⟨h4, h9⟩, ifC_t h28]; exact congrArg (fun z => some (Sum.inl z)) hv6, by unfold stp1T stp1D; rw [ifC_t ⟨h4, h9⟩, ifC_t ⟨h4, h9⟩]; exact hK1⟩
      · obtain ⟨q1, q2, q3⟩ := hd5_no (t := t) (a := nN x) (v := v) (show ¬ nN (D 0 6) < 20 by omega)
        exact ⟨by unfold stp1R; rw [ifC_t ⟨h4, h9⟩, q1, ifC_f (by decide)], by unfold stp1T stp1D; rw [ifC_t ⟨h4, h9⟩, ifC_t ⟨h4, h9⟩, q2, q3]; exact hK⟩
    · exact ⟨by unfold stp1R; rw [ifC_f (fun q => h9 q.2)], by unfold stp1T stp1D; rw [ifC_f (fun q => h9 q.2), ifC_f (fun q => h9 q.2)]; exact hK⟩
