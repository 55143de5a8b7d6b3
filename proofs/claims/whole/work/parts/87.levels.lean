/-! Two houses: the class's answers. -/
/-- the first of the levels that gain most, of those below l -/
def bmx (g : Nat → Int32) (who a b : Nat) : Nat → Nat
  | 0 => 0
  | l + 1 => if gv g who a b (bmx g who a b l) < gv g who a b l then l else bmx g who a b l
theorem bmx_S (g : Nat → Int32) (who a b l : Nat) : bmx g who a b (l + 1) = if gv g who a b (bmx g who a b l) < gv g who a b l then l else bmx g who a b l := rfl
def ownL (who a b : Nat) : Nat := if who = 0 then a else b
theorem i_le_of {x y : Int32} (h : ¬ x < y) : y ≤ x := Int32.not_lt.mp h
theorem i_tr {x y z : Int32} (h1 : x ≤ y) (h2 : y ≤ z) : x ≤ z := by
  rw [Int32.le_iff_toInt_le] at h1 h2 ⊢
  omega
theorem i_ltle {x y z : Int32} (h1 : x < y) (h2 : y ≤ z) : x < z := by
  rw [Int32.le_iff_toInt_le] at h2
  rw [Int32.lt_iff_toInt_lt] at h1 ⊢
  omega
theorem i_lelt {x y z : Int32} (h1 : x ≤ y) (h2 : y < z) : x < z := by
  rw [Int32.le_iff_toInt_le] at h1
  rw [Int32.lt_iff_toInt_lt] at h2 ⊢
  omega
theorem i_ltl {x y : Int32} (h1 : x < y) : x ≤ y := by
  rw [Int32.lt_iff_toInt_lt] at h1
  rw [Int32.le_iff_toInt_le]
  omega
theorem bmx_max {g : Nat → Int32} {who a b : Nat} : ∀ l j, j < l → gv g who a b j ≤ gv g who a b (bmx g who a b l)
  | l + 1, j, h => by
    rw [bmx_S]
    by_cases c : gv g who a b (bmx g who a b l) < gv g who a b l
    · rw [if_pos c]
      by_cases e : j = l
      · subst e; exact Int32.le_refl _
      · exact i_tr (bmx_max l j (by omega)) (i_ltl c)
    · rw [if_neg c]
      by_cases e : j = l
      · subst e; exact i_le_of c
      · exact bmx_max l j (by omega)
theorem bmx_lt {g : Nat → Int32} {who a b : Nat} : ∀ l, bmx g who a b (l + 1) ≤ l
  | 0 => by
    rw [bmx_S]
    split <;> exact Nat.le_refl _
  | l + 1 => by
    rw [bmx_S]
    split
    · exact Nat.le_refl _
    · have := bmx_lt (g := g) (who := who) (a := a) (b := b) l
      omega
theorem ownG {g : Nat → Int32} {who a b : Nat} (hw : who ≤ 1) : g (25 * who + 5 * a + b) = gv g who a b (ownL who a b) := by
  unfold gv ownL
  by_cases h : who = 0
  · subst h
    rw [if_pos rfl, if_pos rfl, Nat.mul_zero, Nat.zero_add]
  · rw [if_neg h, if_neg h, show who = 1 by omega]
    congr 1
    omega
theorem bmx_ansL {g : Nat → Int32} {who a b : Nat} (hw : who ≤ 1) : ∀ l, ansL g who a b (l + 1) = if gv g who a b (ownL who a b) < gv g who a b (bmx g who a b (l + 1)) then (bmx g who a b (l + 1), gv g who a b (bmx g who a b (l + 1))) else (ownL who a b, gv g who a b (ownL who a b))
  | 0 => by
    have e0 : ansL g who a b 0 = (ownL who a b, gv g who a b (ownL who a b)) := by
      rw [← ownG hw]
      rfl
    have e1 : bmx g who a b (0 + 1) = 0 := by
      rw [bmx_S]
      split <;> rfl
    rw [ansL_S, e0, e1]
  | l + 1 => by
    rw [ansL_S, bmx_ansL hw l, bmx_S g who a b (l + 1)]
    by_cases c : gv g who a b (ownL who a b) < gv g who a b (bmx g who a b (l + 1))
    · rw [if_pos c]
      by_cases c2 : gv g who a b (bmx g who a b (l + 1)) < gv g who a b (l + 1)
      · rw [if_pos c2, if_pos c2, if_pos (i_lelt (i_ltl c) c2)]
      · rw [if_neg c2, if_neg c2, if_pos c]
    · rw [if_neg c]
      by_cases c3 : gv g who a b (ownL who a b) < gv g who a b (l + 1)
      · rw [if_pos c3, if_pos (i_lelt (i_le_of c) c3), if_pos c3]
      · rw [if_neg c3]
        by_cases c2 : gv g who a b (bmx g who a b (l + 1)) < gv g who a b (l + 1)
        · rw [if_pos c2, if_neg c3]
        · rw [if_neg c2, if_neg c]
theorem bmx_ans {g : Nat → Int32} {who a b : Nat} (hw : who ≤ 1) (ha : a < 5) (hb : b < 5) : (if gv g who a b (ownL who a b) = gv g who a b (bmx g who a b 5) then ownL who a b else bmx g who a b 5) = ans g who a b := by
  unfold ans
  rw [bmx_ansL hw 4]
  by_cases c : gv g who a b (ownL who a b) < gv g who a b (bmx g who a b 5)
  · rw [if_pos c, if_neg (fun q => by rw [q] at c; exact absurd (Int32.le_refl _) (Int32.not_le.mpr c))]
  · rw [if_neg c]
    have h1 := bmx_max (g := g) (who := who) (a := a) (b := b) 5 (ownL who a b) (by unfold ownL; split <;> assumption)
    have h2 := i_le_of c
    rw [if_pos (Int32.toInt_inj.mp (by rw [Int32.le_iff_toInt_le] at h1 h2; omega))]
theorem cv_ga0 {t : Sg} {D : Dy} {Z : Zt} {σ : Sg} (hC : Cg false σ t D 60 200 Z σ) {a b : Nat} (ha : a < 5) (hb : b < 5) {l : Nat} (hl : l < 5) : Ev false 84 [.inr (.inr (56, false, 0)), .inl (nI 0), .inl (nI a), .inl (nI b), .inl (nI l)] σ (some (.inl (gv (gns t) 0 a b l))) σ := by
  refine Ev_wp 40 [] rfl rfl ?_
  refine br_ne rfl rfl (by omega) (by omega) (fun h1 => ?_) (fun h1 => ?_)
  · exact absurd h1 (by omega)
  · refine ⟨0, rfl, (by show _ < 2; omega), _, _, cv_pair, (show 0 < 2 by omega), 5 * l + b, (add_n (mul_n rfl rfl) rfl), (by show _ < 25; omega), ?_⟩
    exact ⟨congrArg (fun z => some (Sum.inl z)) (show _ = gv (gns t) 0 a b l from ((hC.tr.c57 0 (by omega) (5 * l + b) (by omega)).trans (by rw [Nat.mul_zero, Nat.zero_add]; rfl))), rfl⟩
theorem cv_bl0_l {t : Sg} {D : Dy} {Z : Zt} {σ : Sg} (hC : Cg false σ t D 60 200 Z σ) {a b : Nat} (ha : a < 5) (hb : b < 5) : ∀ (n j bl : Nat), j + n = 5 → 1 ≤ j → bl = bmx (gns t) 0 a b j → bl < 5 → G false 135 (fun r' s' => r' = some (.inl (nI (ans (gns t) 0 a b))) ∧ s' = σ) 10 [some (.inr (.inr (56, false, 0))), some (.inl (nI 0)), some (.inl (nI a)), some (.inl (nI b)), some (.inl (nI a)), some (.inl (nI bl)), some (.inl (nI j))] [] σ := by
  intro n
  induction n with
  | zero =>
    intro j bl hj h1 hbl hbl2
    refine G_wp 80 [10] rfl ?_
    refine br_ge rfl rfl (by omega) (by omega) (fun h12 => ?_) (fun h12 => ?_)
    · have h5 : bl = bmx (gns t) 0 a b 5 := by rw [hbl, show j = 5 by omega]
      refine ⟨_, _, cv_ga0 hC ha hb (l := a) (by omega), _, _, cv_ga0 hC ha hb (l := bl) (by omega), ?_⟩
      refine ⟨fun h42 => ?_, fun h42 => ?_⟩
      · have e : (if gv (gns t) 0 a b a = gv (gns t) 0 a b bl then a else bl) = ans (gns t) 0 a b := by rw [← bmx_ans (g := gns t) (who := 0) (by omega) ha hb, ← h5]; rfl
        rw [if_neg h42] at e
        exact ⟨by rw [← e], rfl⟩
      · have e : (if gv (gns t) 0 a b a = gv (gns t) 0 a b bl then a else bl) = ans (gns t) 0 a b := by rw [← bmx_ans (g := gns t) (who := 0) (by omega) ha hb, ← h5]; rfl
        rw [if_pos h42] at e
        exact ⟨by rw [← e], rfl⟩
    · exact absurd h12 (by omega)
  | succ n ih =>
    intro j bl hj h1 hbl hbl2
    refine G_wp 80 [10] rfl ?_
    refine br_ge rfl rfl (by omega) (by omega) (fun h12 => ?_) (fun h12 => ?_)
    · exact absurd h12 (by omega)
    · refine ⟨_, _, cv_ga0 hC ha hb (l := j) (by omega), _, _, cv_ga0 hC ha hb (l := bl) (by omega), ?_⟩
      refine ⟨fun h25 => ?_, fun h25 => ?_⟩
      · refine ⟨nI (j + 1), nI_add _ _, ?_⟩
        exact ih (j + 1) bl (by omega) (by omega) (by rw [bmx_S, ← hbl, if_neg (Int32.not_lt.mpr h25)]) (by omega)
      · refine ⟨_, rfl, nI (j + 1), nI_add _ _, ?_⟩
        exact ih (j + 1) j (by omega) (by omega) (by rw [bmx_S, ← hbl, if_pos (Int32.not_le.mp h25)]) (by omega)
theorem cv_bl0 {t : Sg} {D : Dy} {Z : Zt} {σ : Sg} (hC : Cg false σ t D 60 200 Z σ) {a b : Nat} (ha : a < 5) (hb : b < 5) : Ev false 135 [.inr (.inr (56, false, 0)), .inl (nI 0), .inl (nI a), .inl (nI b)] σ (some (.inl (nI (ans (gns t) 0 a b)))) σ := by
  refine Ev_wp 40 [10] rfl rfl ?_
  refine br_ne rfl rfl (by omega) (by omega) (fun h1 => ?_) (fun h1 => ?_)
  · exact absurd h1 (by omega)
  · refine ⟨_, rfl, _, rfl, _, rfl, ?_⟩
    exact cv_bl0_l hC ha hb 4 1 0 (by omega) (by omega) (by rw [bmx_S]; split <;> rfl) (by omega)
theorem cv_ga1 {t : Sg} {D : Dy} {Z : Zt} {σ : Sg} (hC : Cg false σ t D 60 200 Z σ) {a b : Nat} (ha : a < 5) (hb : b < 5) {l : Nat} (hl : l < 5) : Ev false 84 [.inr (.inr (56, false, 0)), .inl (nI 1), .inl (nI a), .inl (nI b), .inl (nI l)] σ (some (.inl (gv (gns t) 1 a b l))) σ := by
  refine Ev_wp 40 [] rfl rfl ?_
  refine br_ne rfl rfl (by omega) (by omega) (fun h1 => ?_) (fun h1 => ?_)
  · refine ⟨1, rfl, (by show _ < 2; omega), _, _, cv_pair, (show 1 < 2 by omega), 5 * a + l, (add_n (mul_n rfl rfl) rfl), (by show _ < 25; omega), ?_⟩
    exact ⟨congrArg (fun z => some (Sum.inl z)) (show _ = gv (gns t) 1 a b l from ((hC.tr.c57 1 (by omega) (5 * a + l) (by omega)))), rfl⟩
  · exact absurd h1 (by omega)
theorem cv_bl1_l {t : Sg} {D : Dy} {Z : Zt} {σ : Sg} (hC : Cg false σ t D 60 200 Z σ) {a b : Nat} (ha : a < 5) (hb : b < 5) : ∀ (n j bl : Nat), j + n = 5 → 1 ≤ j → bl = bmx (gns t) 1 a b j → bl < 5 → G false 135 (fun r' s' => r' = some (.inl (nI (ans (gns t) 1 a b))) ∧ s' = σ) 10 [some (.inr (.inr (56, false, 0))), some (.inl (nI 1)), some (.inl (nI a)), some (.inl (nI b)), some (.inl (nI b)), some (.inl (nI bl)), some (.inl (nI j))] [] σ := by
  intro n
  induction n with
  | zero =>
    intro j bl hj h1 hbl hbl2
    refine G_wp 80 [10] rfl ?_
    refine br_ge rfl rfl (by omega) (by omega) (fun h12 => ?_) (fun h12 => ?_)
    · have h5 : bl = bmx (gns t) 1 a b 5 := by rw [hbl, show j = 5 by omega]
      refine ⟨_, _, cv_ga1 hC ha hb (l := b) (by omega), _, _, cv_ga1 hC ha hb (l := bl) (by omega), ?_⟩
      refine ⟨fun h42 => ?_, fun h42 => ?_⟩
      · have e : (if gv (gns t) 1 a b b = gv (gns t) 1 a b bl then b else bl) = ans (gns t) 1 a b := by rw [← bmx_ans (g := gns t) (who := 1) (by omega) ha hb, ← h5]; rfl
        rw [if_neg h42] at e
        exact ⟨by rw [← e], rfl⟩
      · have e : (if gv (gns t) 1 a b b = gv (gns t) 1 a b bl then b else bl) = ans (gns t) 1 a b := by rw [← bmx_ans (g := gns t) (who := 1) (by omega) ha hb, ← h5]; rfl
        rw [if_pos h42] at e
        exact ⟨by rw [← e], rfl⟩
    · exact absurd h12 (by omega)
  | succ n ih =>
    intro j bl hj h1 hbl hbl2
    refine G_wp 80 [10] rfl ?_
    refine br_ge rfl rfl (by omega) (by omega) (fun h12 => ?_) (fun h12 => ?_)
    · exact absurd h12 (by omega)
    · refine ⟨_, _, cv_ga1 hC ha hb (l := j) (by omega), _, _, cv_ga1 hC ha hb (l := bl) (by omega), ?_⟩
      refine ⟨fun h25 => ?_, fun h25 => ?_⟩
      · refine ⟨nI (j + 1), nI_add _ _, ?_⟩
        exact ih (j + 1) bl (by omega) (by omega) (by rw [bmx_S, ← hbl, if_neg (Int32.not_lt.mpr h25)]) (by omega)
      · refine ⟨_, rfl, nI (j + 1), nI_add _ _, ?_⟩
        exact ih (j + 1) j (by omega) (by omega) (by rw [bmx_S, ← hbl, if_pos (Int32.not_le.mp h25)]) (by omega)
theorem cv_bl1 {t : Sg} {D : Dy} {Z : Zt} {σ : Sg} (hC : Cg false σ t D 60 200 Z σ) {a b : Nat} (ha : a < 5) (hb : b < 5) : Ev false 135 [.inr (.inr (56, false, 0)), .inl (nI 1), .inl (nI a), .inl (nI b)] σ (some (.inl (nI (ans (gns t) 1 a b)))) σ := by
  refine Ev_wp 40 [10] rfl rfl ?_
  refine br_ne rfl rfl (by omega) (by omega) (fun h1 => ?_) (fun h1 => ?_)
  · refine ⟨_, rfl, _, rfl, _, rfl, ?_⟩
    exact cv_bl1_l hC ha hb 4 1 0 (by omega) (by omega) (by rw [bmx_S]; split <;> rfl) (by omega)
  · exact absurd h1 (by omega)
theorem cv_isStill {t : Sg} {D : Dy} {Z : Zt} {σ : Sg} (hC : Cg false σ t D 60 200 Z σ) {a b : Nat} (ha : a < 5) (hb : b < 5) : Ev false 179 [.inr (.inr (56, false, 0)), .inl (nI a), .inl (nI b)] σ (some (.inl (bD (isS (gns t) a b)))) σ := by
  have l0 := ans_lt (g := gns t) (who := 0) ha hb
  have l1 := ans_lt (g := gns t) (who := 1) ha hb
  refine Ev_wp 40 [] rfl rfl ?_
  refine ⟨_, _, cv_bl0 hC ha hb, ?_⟩
  refine br_ne rfl rfl (by omega) (by omega) (fun h6 => ?_) (fun h6 => ?_)
  · refine ⟨Or.inl rfl, ?_⟩
    exact ⟨by rw [bD_f (show ¬ isS (gns t) a b from fun q => h6 q.1)], rfl⟩
  · refine ⟨_, _, cv_bl1 hC ha hb, ?_⟩
    refine br_ne rfl rfl (by omega) (by omega) (fun h13 => ?_) (fun h13 => ?_)
    · refine ⟨Or.inl rfl, ?_⟩
      exact ⟨by rw [bD_f (show ¬ isS (gns t) a b from fun q => h13 q.2)], rfl⟩
    · refine ⟨Or.inr rfl, ?_⟩
      exact ⟨by rw [bD_t (show isS (gns t) a b from ⟨h6, h13⟩)], rfl⟩
theorem cv_isStill_x {t : Sg} {D : Dy} {Z : Zt} {σ : Sg} (hC : Cg false σ t D 60 200 Z σ) {a b : Nat} (ha : a < 5) (hb : b < 5) {x y : Int32} (hx : x = nI a) (hy : y = nI b) : Ev false 179 [.inr (.inr (56, false, 0)), .inl x, .inl y] σ (some (.inl (bD (isS (gns t) a b)))) σ := by
  subst hx hy
  exact cv_isStill hC ha hb
theorem isB_S {g : Nat → Int32} {k : Nat} : isB g k = true ↔ isS g (k / 5) (k % 5) := by
  unfold isB isS
  rw [Bool.and_eq_true, decide_eq_true_iff, decide_eq_true_iff]
theorem cv_cst_l {t : Sg} {D : Dy} {Z : Zt} {σ : Sg} (hC : Cg false σ t D 60 200 Z σ) : ∀ (n j c : Nat), j + n = 25 → c = ct (isB (gns t)) j → G false 198 (fun r' s' => r' = some (.inl (nI (ct (isB (gns t)) 25))) ∧ s' = σ) 4 [some (.inr (.inr (56, false, 0))), some (.inl (nI c)), some (.inl (nI j))] [] σ := by
  intro n
  induction n with
  | zero =>
    intro j c hj hc
    refine G_wp 60 [4] rfl ?_
    refine br_ge rfl rfl (by omega) (by omega) (fun h6 => ?_) (fun h6 => ?_)
    · exact ⟨by rw [hc, show 25 = j by omega], rfl⟩
    · exact absurd h6 (by omega)
  | succ n ih =>
    intro j c hj hc
    refine G_wp 60 [4] rfl ?_
    refine br_ge rfl rfl (by omega) (by omega) (fun h6 => ?_) (fun h6 => ?_)
    · exact absurd h6 (by omega)
    · refine ⟨(by decide), (by decide), _, _, cv_isStill_x hC (a := j / 5) (b := j % 5) (by omega) (by omega) (div_n rfl rfl ⟨by omega, by omega, by omega⟩) (rem_n rfl rfl ⟨by omega, by omega, by omega⟩), ?_⟩
      refine brd_eq (fun h15 => ?_) (fun h15 => ?_)
      · refine ⟨nI (j + 1), nI_add _ _, ?_⟩
        exact ih (j + 1) c (by omega) (by rw [ct_S, if_neg (fun q => h15 (isB_S.mp q)), hc, Nat.add_zero])
      · refine ⟨nI (c + 1), nI_add _ _, nI (j + 1), nI_add _ _, ?_⟩
        exact ih (j + 1) (c + 1) (by omega) (by rw [ct_S, if_pos (isB_S.mpr h15), hc])
theorem cv_cst {t : Sg} {D : Dy} {Z : Zt} {σ : Sg} (hC : Cg false σ t D 60 200 Z σ) : Ev false 198 [.inr (.inr (56, false, 0))] σ (some (.inl (nI (ct (isB (gns t)) 25)))) σ := by
  refine Ev_wp 40 [4] rfl rfl ?_
  refine ⟨_, rfl, _, rfl, ?_⟩
  exact cv_cst_l hC 25 0 0 (by omega) rfl
theorem cv_still {t : Sg} {D : Dy} {Z : Zt} {σ : Sg} (hK : CK t D Z σ) (hT : WN t)  : Ev false 223 [.inr (.inr (0, false, 0))] σ (some (.inl (nI (ct (isB (gns t)) 25)))) σ := by
  have hC := hK.1.1
  have hP := hT.P
  have hB := hT.B
  have hR := hT.R
  refine Ev_wp 24 [] rfl rfl ?_
  refine ⟨_, _, cv_cst hC, ?_⟩
  exact ⟨rfl, rfl⟩
theorem cv_spr_l {t : Sg} {D : Dy} {Z : Zt} {σ : Sg} (hC : Cg false σ t D 60 200 Z σ) {x : Int32} : ∀ (n j c : Nat) (o4 o5 : Option AV), j + n = 25 → c ≤ j → G false 199 (fun r' s' => r' = some (.inl (stA (gns t) x n j c)) ∧ s' = σ) 4 [some (.inr (.inr (56, false, 0))), some (.inl x), some (.inl (nI c)), some (.inl (nI j)), o4, o5] [] σ := by
  intro n
  induction n with
  | zero =>
    intro j c o4 o5 hj hc
    refine G_wp 60 [4] rfl ?_
    refine br_ge rfl rfl (by omega) (by omega) (fun h6 => ?_) (fun h6 => ?_)
    · exact ⟨rfl, rfl⟩
    · exact absurd h6 (by omega)
  | succ n ih =>
    intro j c o4 o5 hj hc
    refine G_wp 60 [4] rfl ?_
    refine br_ge rfl rfl (by omega) (by omega) (fun h6 => ?_) (fun h6 => ?_)
    · exact absurd h6 (by omega)
    · refine ⟨(by decide), nI (j / 5), (div_n rfl rfl ⟨by omega, by omega, by omega⟩), (by decide), nI (j % 5), (rem_n rfl rfl ⟨by omega, by omega, by omega⟩), _, _, cv_isStill hC (a := j / 5) (b := j % 5) (by omega) (by omega), ?_⟩
      refine brd_ne (fun h19 => ?_) (fun h19 => ?_)
      · refine ⟨fun h23 => ?_, fun h23 => ?_⟩
        · refine ⟨nI (c + 1), nI_add _ _, nI (j + 1), nI_add _ _, ?_⟩
          rw [stA_S, if_pos (isB_S.mpr h19), if_neg h23]
          exact ih (j + 1) (c + 1) _ _ (by omega) (by omega)
        · exact ⟨by rw [stA_S, if_pos (isB_S.mpr h19), if_pos h23]; exact congrArg (fun z => some (Sum.inl z)) (add_n (mul_n rfl rfl) rfl), rfl⟩
      · refine ⟨nI (j + 1), nI_add _ _, ?_⟩
        rw [stA_S, if_neg (fun q => h19 (isB_S.mp q))]
        exact ih (j + 1) c _ _ (by omega) (by omega)
theorem cv_spr {t : Sg} {D : Dy} {Z : Zt} {σ : Sg} (hC : Cg false σ t D 60 200 Z σ) {x : Int32} : Ev false 199 [.inr (.inr (56, false, 0)), .inl x] σ (some (.inl (stA (gns t) x 25 0 0))) σ := by
  refine Ev_wp 40 [4] rfl rfl ?_
  refine ⟨_, rfl, _, rfl, ?_⟩
  exact cv_spr_l hC 25 0 0 none none (by omega) (by omega)
theorem cv_stillAt {t : Sg} {D : Dy} {Z : Zt} {σ : Sg} (hK : CK t D Z σ) (hT : WN t) {x : Int32} : Ev false 224 [.inr (.inr (0, false, 0)), .inl (x)] σ (some (.inl (stAR t x))) σ := by
  have hC := hK.1.1
  have hP := hT.P
  have hB := hT.B
  have hR := hT.R
  refine Ev_wp 30 [] rfl rfl ?_
  refine ⟨fun h1 => ?_, fun h1 => ?_⟩
  · refine ⟨_, _, cv_spr hC, ?_⟩
    exact ⟨by unfold stAR; rw [ifC_t h1], rfl⟩
  · exact ⟨by unfold stAR; rw [ifC_f h1], rfl⟩
