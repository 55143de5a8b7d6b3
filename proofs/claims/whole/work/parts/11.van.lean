/-! The van, on the model's state. -/
def itr (f : Dy → Dy) : Nat → Dy → Dy
  | 0, D => D
  | n + 1, D => f (itr f n D)
theorem itr_S (f : Dy → Dy) (n : Nat) (D : Dy) : itr f (n + 1) D = f (itr f n D) := rfl
theorem itr_stop {f : Dy → Dy} {k : Nat} {D : Dy} (h : f (itr f k D) = itr f k D) : ∀ {m : Nat}, k ≤ m → itr f m D = itr f k D := by
  intro m hm
  induction m with
  | zero => rw [show k = 0 by omega]
  | succ m ih =>
    by_cases e : k = m + 1
    · rw [e]
    · rw [itr_S, ih (by omega), h]
def tk1 (t : Sg) (p : Nat) (D : Dy) : Dy := if nN (D 0 3) < 12 then (match pik D p (nB t) with
    | none => D
    | some b => lgs (up2 (up2 (up2 D 11 b (nI 2)) 24 (nN (D 0 3)) (nI b)) 0 3 (nI (nN (D 0 3) + 1))) (nI 5) (nI p) (-1) (nI b)) else D
def shf (D : Dy) (f c : Nat) : Dy := fun g i => if g = f ∧ i < c then D f (i + 1) else D g i
theorem shf_0 (D : Dy) (f : Nat) : shf D f 0 = D := by
  funext g i
  unfold shf
  rw [if_neg (by omega)]
theorem shf_S (D : Dy) (f c : Nat) : shf D f (c + 1) = up2 (shf D f c) f c (D f (c + 1)) := by
  funext g i
  show (if g = f ∧ i < c + 1 then D f (i + 1) else D g i) = (if g = f ∧ i = c then D f (c + 1) else if g = f ∧ i < c then D f (i + 1) else D g i)
  by_cases h : g = f
  · subst h
    by_cases e : i = c
    · subst e
      rw [if_pos ⟨rfl, by omega⟩, if_pos ⟨rfl, rfl⟩]
    · by_cases e2 : i < c
      · rw [if_pos ⟨rfl, by omega⟩, if_neg (fun q => e q.2), if_pos ⟨rfl, e2⟩]
      · rw [if_neg (by omega), if_neg (fun q => e q.2), if_neg (by omega)]
  · rw [if_neg (fun q => h q.1), if_neg (fun q => h q.1), if_neg (fun q => h q.1)]
theorem shf_o {D : Dy} {f c g i : Nat} (h : ¬ (g = f ∧ i < c)) : shf D f c g i = D g i := if_neg h
def lv1 (t : Sg) (p : Nat) (D : Dy) : Dy := if 0 < nN (D 0 3) ∧ nI 0 < fre t D p then lgs (up2 (up2 (shf (up2 D 0 3 (nI (nN (D 0 3) - 1))) 24 (nN (D 0 3) - 1)) 11 (nN (D 24 0)) (nI 0)) 12 (nN (D 24 0)) (nI p)) (nI 6) (nI p) (-1) (D 24 0) else D
def drp (D : Dy) : Dy := shf (shf (up2 D 0 6 (nI (nN (D 0 6) - 1))) 25 (nN (D 0 6) - 1)) 26 (nN (D 0 6) - 1)
def stpA (t : Sg) (D : Dy) (p m : Nat) : Dy := drp (itr (tk1 t p) m (up2 D 0 2 (nI p)))
def stpB (t : Sg) (D : Dy) (p m : Nat) : Dy := drp (itr (lv1 t p) m (up2 D 0 2 (nI p)))
theorem tk1_7 {t : Sg} {p : Nat} {D : Dy} (h : Is (D 0 7) 4000) : Is (tk1 t p D 0 7) 4000 := by
  unfold tk1
  split
  · cases pik D p (nB t) with
    | none => exact h
    | some b => exact lgs_7 (by simpa [up2] using h) _ _ _ _
  · exact h
theorem tk1_3 {t : Sg} {p : Nat} {D : Dy} (h : Is (D 0 3) 12) : Is (tk1 t p D 0 3) 12 := by
  unfold tk1
  split
  · cases pik D p (nB t) with
    | none => exact h
    | some b =>
      show Is (lgs _ _ _ _ _ 0 3) 12
      rw [lgs_o (by decide) (by decide), up2_s]
      exact Is_of (by omega) (by omega)
  · exact h
theorem lv1_7 {t : Sg} {p : Nat} {D : Dy} (h : Is (D 0 7) 4000) : Is (lv1 t p D 0 7) 4000 := by
  unfold lv1
  split
  · exact lgs_7 (by rw [up2_n (by omega), up2_n (by omega), shf_o (by omega), up2_n (by omega)]; exact h) _ _ _ _
  · exact h
theorem lv1_3 {t : Sg} {p : Nat} {D : Dy} (h : Is (D 0 3) 12) : Is (lv1 t p D 0 3) 12 := by
  unfold lv1
  split
  · rw [lgs_o (by decide) (by decide), up2_n (by omega), up2_n (by omega), shf_o (by omega), up2_s]
    have := h.2
    exact Is_of (by omega) (by omega)
  · exact h
theorem neg_neg (x : Int32) : - -x = x := Int32.neg_neg
theorem fb_negI0 {x : Int32} (h : x.toInt ≠ -2147483648) : (-x).toInt = -x.toInt := by
  have h1 := Int32.le_toInt x
  have h2 := Int32.toInt_lt x
  rw [Int32.toInt_neg, Int.bmod_eq_of_le (by omega) (by omega)]
theorem nI_neg {m : Nat} (h : m < 2147483648) : (-(nI m)).toInt = -(m : Int) := by
  rw [fb_negI0]
  · rw [nI_toInt h]
  · rw [nI_toInt h]; omega
theorem nlt_neg {k m : Nat} (hk : k < 2147483648) (hm : m < 2147483648) : ¬ nI k < -(nI m) := by
  intro q
  have := Int32.lt_iff_toInt_lt.mp q
  rw [nI_neg hm, nI_toInt hk] at this
  omega
theorem mv_stops_t {t : Sg} {D0 : Dy} {P : Option AV → Sg → Prop} (hT : WN t) {p m : Nat} (hp : p < nP t) (hm : m ≤ 12) (hK : ∀ τ, Ag t (itr (tk1 t p) m D0) τ → G true 157 P 68 [some (.inr (.inr (69, false, 0))), some (.inl (nI p)), some (.inl (nI m)), some (.inl (nI 0)), none, none] [] τ) : ∀ (j k : Nat), k + j = m → ∀ (X : Dy) (τ : Sg), X = itr (tk1 t p) k D0 → Ag t X τ → Is (X 0 3) 12 → Is (X 0 7) 4000 → G true 157 P 17 [some (.inr (.inr (69, false, 0))), some (.inl (nI p)), some (.inl (nI m)), some (.inl (nI k)), none, none] [] τ := by
  have hB := hT.B
  intro j
  induction j with
  | zero =>
    intro k hk X τ hX hA h3 h7
    have h32' := h3.2
    refine G_wp 200 [17, 68] rfl ?_
    cases hpk : pik X p (nB t) with
    | none =>
      refine br_ge rfl rfl (by omega) (by omega) (fun h19 => ?_) (fun h19 => ?_)
      · refine ⟨_, rfl, ?_⟩
        refine G_fg 4 (hK _ ?_)
        rw [hX, show k = m by omega] at hA
        exact hA
      · exact absurd h19 (by omega)
    | some b =>
      have hb := (pik_lt X p (nB t) b hpk).1
      refine br_ge rfl rfl (by omega) (by omega) (fun h19 => ?_) (fun h19 => ?_)
      · refine ⟨_, rfl, ?_⟩
        refine G_fg 4 (hK _ ?_)
        rw [hX, show k = m by omega] at hA
        exact hA
      · exact absurd h19 (by omega)
  | succ j ih =>
    intro k hk X τ hX hA h3 h7
    have h32' := h3.2
    refine G_wp 200 [17, 68] rfl ?_
    cases hpk : pik X p (nB t) with
    | none =>
      refine br_ge rfl rfl (by omega) (by omega) (fun h19 => ?_) (fun h19 => ?_)
      · exact absurd h19 (by omega)
      · refine ⟨3, rfl, (by show _ < 23184; omega), ?_⟩
        rw [hA.r0 3 (by decide)]
        refine br_ge (by first | exact h3.1 | (simp [up2]; exact h3.1)) rfl (by omega) (by omega) (fun h25 => ?_) (fun h25 => ?_)
        · refine ⟨_, rfl, ?_⟩
          refine G_fg 4 (hK _ ?_)
          have e : itr (tk1 t p) m D0 = X := by
            rw [hX]
            refine itr_stop ?_ (by omega)
            rw [← hX]
            unfold tk1
            rw [if_neg (by omega)]
          rw [e]
          exact hA
        · have q9 := mv_pick hA hT (x := nI p) rfl
          rw [hpk] at q9
          refine ⟨_, _, q9, _, rfl, ?_⟩
          refine ⟨fun h32 => ?_, fun h32 => ?_⟩
          · refine ⟨nI (k + 1), nI_add _ _, ?_⟩
            refine G_fg 4 (ih (k + 1) (by omega) _ _ ?_ hA h3 h7)
            rw [itr_S, ← hX]
            unfold tk1
            rw [if_pos h25, hpk]
          · exact absurd h32 (by simp [oI])
    | some b =>
      have hb := (pik_lt X p (nB t) b hpk).1
      refine br_ge rfl rfl (by omega) (by omega) (fun h19 => ?_) (fun h19 => ?_)
      · exact absurd h19 (by omega)
      · refine ⟨3, rfl, (by show _ < 23184; omega), ?_⟩
        rw [hA.r0 3 (by decide)]
        refine br_ge (by first | exact h3.1 | (simp [up2]; exact h3.1)) rfl (by omega) (by omega) (fun h25 => ?_) (fun h25 => ?_)
        · refine ⟨_, rfl, ?_⟩
          refine G_fg 4 (hK _ ?_)
          have e : itr (tk1 t p) m D0 = X := by
            rw [hX]
            refine itr_stop ?_ (by omega)
            rw [← hX]
            unfold tk1
            rw [if_neg (by omega)]
          rw [e]
          exact hA
        · have q9 := mv_pick hA hT (x := nI p) rfl
          rw [hpk] at q9
          change Ev _ _ _ _ (some (.inl (nI b))) _ at q9
          refine ⟨_, _, q9, _, rfl, ?_⟩
          refine ⟨fun h32 => ?_, fun h32 => ?_⟩
          · exact absurd h32 (nI_m1 (by omega))
          · refine ⟨1232 + b, (add_n rfl rfl), (by show _ < 23184; omega), _, rfl, ?_⟩
            replace hA := hA.w11 b (by omega) (nI (2))
            refine ⟨3, rfl, (by show _ < 23184; omega), ?_⟩
            rw [hA.r0 3 (by decide)]
            refine ⟨3132 + (nN (X 0 3)), (add_n rfl (by first | exact h3.1 | (simp [up2]; exact h3.1))), (by show _ < 23184; omega), _, rfl, ?_⟩
            replace hA := hA.w24 (nN (X 0 3)) (by omega) (nI (b))
            refine ⟨3, rfl, (by show _ < 23184; omega), ?_⟩
            rw [hA.r0 3 (by decide)]
            refine ⟨3, rfl, (by show _ < 23184; omega), nI ((nN (X 0 3)) + 1), (add_n (by first | exact h3.1 | (simp [up2]; exact h3.1)) rfl), ?_⟩
            replace hA := hA.w0 3 (by decide) (nI ((nN (X 0 3)) + 1))
            have h7 : Is ((up2 (up2 (up2 X 11 b (nI (2))) 24 (nN (X 0 3)) (nI (b))) 0 3 (nI ((nN (X 0 3)) + 1))) 0 7) 4000 := by simp [up2]; exact h7
            obtain ⟨τ1, ev1, hA⟩ := mv_logs hA h7 (v1 := (nI (5))) (v2 := (nI (p))) (v3 := (-1)) (v4 := (nI (b)))
            refine ⟨_, _, ev1, nI (k + 1), nI_add _ _, ?_⟩
            refine G_fg 4 (ih (k + 1) (by omega) _ _ ?_ hA ?_ ?_)
            · rw [itr_S, ← hX]
              unfold tk1
              rw [if_pos h25, hpk]
            · rw [lgs_o (by decide) (by decide)]
              first | (rw [up2_s]; exact Is_of (by omega) (by omega))
            · exact lgs_7 h7 _ _ _ _
theorem mv_stops_c {t : Sg} {X : Dy} {P : Option AV → Sg → Prop} {p k b n : Nat} {y : Int32} (hn : n ≤ 11) (h3 : X 0 3 = nI n) (hK : ∀ τ, Ag t (shf X 24 n) τ → G true 157 P 118 [some (.inr (.inr (69, false, 0))), some (.inl (nI p)), some (.inl y), some (.inl (nI k)), some (.inl (nI b)), some (.inl (nI n))] [] τ) : ∀ (j c : Nat), c + j = n → ∀ (τ : Sg), Ag t (shf X 24 c) τ → G true 157 P 96 [some (.inr (.inr (69, false, 0))), some (.inl (nI p)), some (.inl y), some (.inl (nI k)), some (.inl (nI b)), some (.inl (nI c))] [] τ := by
  intro j
  induction j with
  | zero =>
    intro c hc τ hA
    refine G_wp 100 [96, 118] rfl ?_
    refine ⟨3, rfl, (by show _ < 23184; omega), ?_⟩
    rw [hA.r0 3 (by decide)]
    refine br_ge rfl (by rw [shf_o (by omega)]; exact h3) (by omega) (by omega) (fun h101 => ?_) (fun h101 => ?_)
    · rw [show c = n by omega] at hA ⊢
      exact hK _ hA
    · exact absurd h101 (by omega)
  | succ j ih =>
    intro c hc τ hA
    refine G_wp 100 [96, 118] rfl ?_
    refine ⟨3, rfl, (by show _ < 23184; omega), ?_⟩
    rw [hA.r0 3 (by decide)]
    refine br_ge rfl (by rw [shf_o (by omega)]; exact h3) (by omega) (by omega) (fun h101 => ?_) (fun h101 => ?_)
    · exact absurd h101 (by omega)
    · refine ⟨3132 + (c + 1), (add_nr (add_n rfl rfl) rfl), (by show _ < 23184; omega), ?_⟩
      rw [hA.r24 (c + 1) (by omega)]
      refine ⟨3132 + c, (add_n rfl rfl), (by show _ < 23184; omega), _, rfl, ?_⟩
      replace hA := hA.w24 c (by omega) (((shf X 24 c) 24 (c + 1)))
      refine ⟨nI (c + 1), nI_add _ _, ?_⟩
      refine ih (c + 1) (by omega) _ ?_
      have e : shf X 24 (c + 1) = (up2 (shf X 24 c) 24 c (((shf X 24 c) 24 (c + 1)))) := by
        rw [shf_S, shf_o (f := 24) (g := 24) (i := c + 1) (by omega)]
      rw [e]
      exact hA
theorem mv_stops_d {t : Sg} {X : Dy} {P : Option AV → Sg → Prop} {p k b n : Nat} {y : Int32} {τ : Sg} (hb : b < 60) (h7 : Is (up2 (up2 X 11 b (nI 0)) 12 b (nI p) 0 7) 4000) (hA : Ag t X τ) (hK : ∀ τ, Ag t (lgs (up2 (up2 X 11 b (nI 0)) 12 b (nI p)) (nI 6) (nI p) (-1) (nI b)) τ → G true 157 P 68 [some (.inr (.inr (69, false, 0))), some (.inl (nI p)), some (.inl y), some (.inl (nI (k + 1))), none, none] [] τ) : G true 157 P 118 [some (.inr (.inr (69, false, 0))), some (.inl (nI p)), some (.inl y), some (.inl (nI k)), some (.inl (nI b)), some (.inl (nI n))] [] τ := by
  refine G_wp 100 [68] rfl ?_
  refine ⟨1232 + b, (add_n rfl rfl), (by show _ < 23184; omega), _, rfl, ?_⟩
  replace hA := hA.w11 b (by omega) (nI (0))
  refine ⟨1292 + b, (add_n rfl rfl), (by show _ < 23184; omega), _, rfl, ?_⟩
  replace hA := hA.w12 b (by omega) (nI (p))
  obtain ⟨τ1, ev1, hA⟩ := mv_logs hA h7 (v1 := (nI (6))) (v2 := (nI (p))) (v3 := (-1)) (v4 := (nI (b)))
  refine ⟨_, _, ev1, nI (k + 1), nI_add _ _, ?_⟩
  exact G_fg 4 (G_fg 5 (hK _ hA))
def CG (t : Sg) (X : Dy) : Prop := ∀ i, i < nN (X 0 3) → ∃ b, b < nB t ∧ X 24 i = nI b
theorem lv1_CG {t : Sg} {p : Nat} {D : Dy} (h : CG t D) (h3 : Is (D 0 3) 12) : CG t (lv1 t p D) := by
  unfold lv1
  split
  next hc =>
    intro i hi
    rw [lgs_o (by decide) (by decide), up2_n (by omega), up2_n (by omega), shf_o (by omega), up2_s, nN_nI (by have := h3.2; omega)] at hi
    rw [lgs_o (by decide) (by omega), up2_n (by omega), up2_n (by omega)]
    unfold shf
    rw [if_pos ⟨rfl, hi⟩, up2_n (by omega)]
    exact h (i + 1) (by omega)
  next => exact h
theorem mv_stops_l {t : Sg} {D0 : Dy} {P : Option AV → Sg → Prop} (hT : WN t) {p m : Nat} (hp : p < nP t) (hm : m ≤ 12) {y : Int32} (hy : -y = nI m) (hK : ∀ τ, Ag t (itr (lv1 t p) m D0) τ → G true 157 P 140 [some (.inr (.inr (69, false, 0))), some (.inl (nI p)), some (.inl y), none, none, none] [] τ) : ∀ (j k : Nat), k + j = m → ∀ (X : Dy) (τ : Sg), X = itr (lv1 t p) k D0 → Ag t X τ → Is (X 0 3) 12 → Is (X 0 7) 4000 → CG t X → G true 157 P 68 [some (.inr (.inr (69, false, 0))), some (.inl (nI p)), some (.inl y), some (.inl (nI k)), none, none] [] τ := by
  have hB := hT.B
  have hP := hT.P
  intro j
  induction j with
  | zero =>
    intro k hk X τ hX hA h3 h7 hC
    have h32' := h3.2
    refine G_wp 200 [96, 140] rfl ?_
    by_cases h0 : nN (X 0 3) = 0
    · have hbx : X 24 0 = X 24 0 := rfl
      refine br_ge rfl hy (by omega) (by omega) (fun h71 => ?_) (fun h71 => ?_)
      · refine G_fg 3 (G_fg 4 (hK _ ?_))
        rw [hX, show k = m by omega] at hA
        exact hA
      · exact absurd h71 (by omega)
    · obtain ⟨b, hb, hbx⟩ := hC 0 (by omega)
      refine br_ge rfl hy (by omega) (by omega) (fun h71 => ?_) (fun h71 => ?_)
      · refine G_fg 3 (G_fg 4 (hK _ ?_))
        rw [hX, show k = m by omega] at hA
        exact hA
      · exact absurd h71 (by omega)
  | succ j ih =>
    intro k hk X τ hX hA h3 h7 hC
    have h32' := h3.2
    refine G_wp 200 [96, 140] rfl ?_
    by_cases h0 : nN (X 0 3) = 0
    · have hbx : X 24 0 = X 24 0 := rfl
      refine br_ge rfl hy (by omega) (by omega) (fun h71 => ?_) (fun h71 => ?_)
      · exact absurd h71 (by omega)
      · refine ⟨3, rfl, (by show _ < 23184; omega), ?_⟩
        rw [hA.r0 3 (by decide)]
        refine br_le (by exact h3.1) rfl (by omega) (by omega) (fun h76 => ?_) (fun h76 => ?_)
        · refine G_fg 3 (G_fg 4 (hK _ ?_))
          have e : itr (lv1 t p) m D0 = X := by
            rw [hX]
            refine itr_stop ?_ (by omega)
            rw [← hX]
            unfold lv1
            rw [if_neg (fun q => absurd q.1 (by omega))]
          rw [e]
          exact hA
        · exact absurd h76 (by omega)
    · obtain ⟨b, hb, hbx⟩ := hC 0 (by omega)
      refine br_ge rfl hy (by omega) (by omega) (fun h71 => ?_) (fun h71 => ?_)
      · exact absurd h71 (by omega)
      · refine ⟨3, rfl, (by show _ < 23184; omega), ?_⟩
        rw [hA.r0 3 (by decide)]
        refine br_le (by exact h3.1) rfl (by omega) (by omega) (fun h76 => ?_) (fun h76 => ?_)
        · exact absurd h76 (by omega)
        · refine ⟨_, _, mv_free hA hT rfl hp, ?_⟩
          refine ⟨fun h80 => ?_, fun h80 => ?_⟩
          · refine G_fg 3 (G_fg 4 (hK _ ?_))
            have e : itr (lv1 t p) m D0 = X := by
              rw [hX]
              refine itr_stop ?_ (by omega)
              rw [← hX]
              unfold lv1
              rw [if_neg (fun q => absurd q.2 (Int32.not_lt.mpr h80))]
            rw [e]
            exact hA
          · refine ⟨3132, rfl, (by show _ < 23184; omega), ?_⟩
            rw [hA.r24 0 (by decide)]
            refine ⟨nI (b), hbx, 3, rfl, (by show _ < 23184; omega), ?_⟩
            rw [hA.r0 3 (by decide)]
            refine ⟨3, rfl, (by show _ < 23184; omega), nI ((nN (X 0 3)) - 1), (sub_n (by exact h3.1) rfl (by omega)), ?_⟩
            replace hA := hA.w0 3 (by decide) (nI ((nN (X 0 3)) - 1))
            refine ⟨_, rfl, ?_⟩
            have h3n : up2 X 0 3 (nI (nN (X 0 3) - 1)) 0 3 = nI (nN (X 0 3) - 1) := up2_s _ _ _ _
            have h7n : Is (up2 (up2 (shf (up2 X 0 3 (nI (nN (X 0 3) - 1))) 24 (nN (X 0 3) - 1)) 11 b (nI 0)) 12 b (nI p) 0 7) 4000 := by rw [up2_n (by omega), up2_n (by omega), shf_o (by omega), up2_n (by omega)]; exact h7
            have e : lv1 t p X = lgs (up2 (up2 (shf (up2 X 0 3 (nI (nN (X 0 3) - 1))) 24 (nN (X 0 3) - 1)) 11 b (nI 0)) 12 b (nI p)) (nI 6) (nI p) (-1) (nI b) := by
              unfold lv1
              rw [if_pos ⟨by omega, i_nle h80⟩, hbx, nN_nI (by omega)]
            refine mv_stops_c (by omega) h3n (fun τ2 hA2 => mv_stops_d (by omega) h7n hA2 (fun τ3 hA3 => ?_)) (nN (X 0 3) - 1) 0 (by omega) _ (by rw [shf_0]; exact hA)
            rw [← e] at hA3
            exact ih (k + 1) (by omega) _ _ (by rw [itr_S, ← hX]) hA3 (lv1_3 h3) (lv1_7 h7) (lv1_CG hC h3)
theorem shf_2 (X : Dy) (c : Nat) : shf (shf X 25 (c + 1)) 26 (c + 1) = up2 (up2 (shf (shf X 25 c) 26 c) 25 c (X 25 (c + 1))) 26 c (X 26 (c + 1)) := by
  funext g i
  unfold shf up2
  by_cases h1 : g = 26
  · subst h1
    by_cases h2 : i = c
    · subst h2
      simp
    · by_cases h3 : i < c
      · simp [h2, h3, Nat.lt_succ_of_lt h3]
      · have : ¬ i < c + 1 := by omega
        simp [h2, h3, this]
  · by_cases h4 : g = 25
    · subst h4
      by_cases h2 : i = c
      · subst h2
        simp
      · by_cases h3 : i < c
        · simp [h2, h3, Nat.lt_succ_of_lt h3]
        · have : ¬ i < c + 1 := by omega
          simp [h2, h3, this]
    · simp [h1, h4]
theorem mv_stops_s {t : Sg} {X : Dy} {n : Nat} (hn : n ≤ 19) (h6 : X 0 6 = nI n) : ∀ (j c : Nat), c + j = n → ∀ (τ : Sg), Ag t (shf (shf X 25 c) 26 c) τ → G true 157 (fun r' s' => r' = none ∧ Ag t (shf (shf X 25 n) 26 n) s') 150 [some (.inr (.inr (69, false, 0))), none, none, some (.inl (nI c)), none, none] [] τ := by
  intro j
  induction j with
  | zero =>
    intro c hc τ hA
    refine G_wp 100 [150] rfl ?_
    refine ⟨6, rfl, (by show _ < 23184; omega), ?_⟩
    rw [hA.r0 6 (by decide)]
    refine br_ge rfl (by rw [shf_o (by omega), shf_o (by omega)]; exact h6) (by omega) (by omega) (fun h155 => ?_) (fun h155 => ?_)
    · rw [show c = n by omega] at hA
      exact ⟨rfl, hA⟩
    · exact absurd h155 (by omega)
  | succ j ih =>
    intro c hc τ hA
    refine G_wp 100 [150] rfl ?_
    refine ⟨6, rfl, (by show _ < 23184; omega), ?_⟩
    rw [hA.r0 6 (by decide)]
    refine br_ge rfl (by rw [shf_o (by omega), shf_o (by omega)]; exact h6) (by omega) (by omega) (fun h155 => ?_) (fun h155 => ?_)
    · exact absurd h155 (by omega)
    · refine ⟨3144 + (c + 1), (add_nr (add_n rfl rfl) rfl), (by show _ < 23184; omega), ?_⟩
      rw [hA.r25 (c + 1) (by omega)]
      refine ⟨3144 + c, (add_n rfl rfl), (by show _ < 23184; omega), _, rfl, ?_⟩
      replace hA := hA.w25 c (by omega) (((shf (shf X 25 c) 26 c) 25 (c + 1)))
      refine ⟨3164 + (c + 1), (add_nr (add_n rfl rfl) rfl), (by show _ < 23184; omega), ?_⟩
      rw [hA.r26 (c + 1) (by omega)]
      refine ⟨3164 + c, (add_n rfl rfl), (by show _ < 23184; omega), _, rfl, ?_⟩
      replace hA := hA.w26 c (by omega) (((up2 (shf (shf X 25 c) 26 c) 25 c (((shf (shf X 25 c) 26 c) 25 (c + 1)))) 26 (c + 1)))
      refine ⟨nI (c + 1), nI_add _ _, ?_⟩
      refine ih (c + 1) (by omega) _ ?_
      have e : shf (shf X 25 (c + 1)) 26 (c + 1) = (up2 (up2 (shf (shf X 25 c) 26 c) 25 c (((shf (shf X 25 c) 26 c) 25 (c + 1)))) 26 c (((up2 (shf (shf X 25 c) 26 c) 25 c (((shf (shf X 25 c) 26 c) 25 (c + 1)))) 26 (c + 1)))) := by
        rw [shf_2]
        rw [up2_n (f := 25) (g := 26) (by omega)]
        rw [shf_o (f := 26) (g := 25) (by omega), shf_o (f := 25) (g := 25) (by omega), shf_o (f := 26) (g := 26) (by omega), shf_o (f := 25) (g := 26) (by omega)]
      rw [e]
      exact hA
theorem mv_stops_e {t : Sg} {X : Dy} {τ : Sg} {x y : Int32} (h6 : Is (X 0 6) 20) (h60 : 1 ≤ nN (X 0 6)) (hA : Ag t X τ) : G true 157 (fun r' s' => r' = none ∧ Ag t (drp X) s') 140 [some (.inr (.inr (69, false, 0))), some (.inl x), some (.inl y), none, none, none] [] τ := by
  have h62 := h6.2
  refine G_wp 100 [150] rfl ?_
  refine ⟨6, rfl, (by show _ < 23184; omega), ?_⟩
  rw [hA.r0 6 (by decide)]
  refine ⟨6, rfl, (by show _ < 23184; omega), nI ((nN (X 0 6)) - 1), (sub_n (by exact h6.1) rfl (by omega)), ?_⟩
  replace hA := hA.w0 6 (by decide) (nI ((nN (X 0 6)) - 1))
  refine ⟨_, rfl, ?_⟩
  exact G_fg 1 (G_fg 2 (mv_stops_s (X := up2 X 0 6 (nI (nN (X 0 6) - 1))) (by omega) (up2_s _ _ _ _) (nN (X 0 6) - 1) 0 (by omega) _ (by rw [shf_0, shf_0]; exact hA)))
theorem tk1_6 {t : Sg} {p : Nat} (D : Dy) : tk1 t p D 0 6 = D 0 6 := by
  unfold tk1
  split
  · cases pik D p (nB t) with
    | none => rfl
    | some b =>
      show lgs _ _ _ _ _ 0 6 = _
      rw [lgs_o (by decide) (by decide), up2_n (by omega), up2_n (by omega), up2_n (by omega)]
  · rfl
theorem lv1_6 {t : Sg} {p : Nat} (D : Dy) : lv1 t p D 0 6 = D 0 6 := by
  unfold lv1
  split
  · rw [lgs_o (by decide) (by decide), up2_n (by omega), up2_n (by omega), shf_o (by omega), up2_n (by omega)]
  · rfl
theorem itr_e {f : Dy → Dy} {g i : Nat} (h : ∀ D, f D g i = D g i) (n : Nat) (D : Dy) : itr f n D g i = D g i := by
  induction n with
  | zero => rfl
  | succ n ih => rw [itr_S, h, ih]
theorem mv_stopsA {t : Sg} {D : Dy} {τ : Sg} (hA : Ag t D τ) (hT : WN t) {p m : Nat} (hp : p < nP t) (hm : m ≤ 12) (hp0 : D 25 0 = nI p) (hm0 : D 26 0 = nI m) (h3 : Is (D 0 3) 12) (h7 : Is (D 0 7) 4000) (h6 : Is (D 0 6) 20) (h61 : 1 ≤ nN (D 0 6)) : ∃ τ', Ev true 157 [.inr (.inr (69, false, 0))] τ none τ' ∧ Ag t (stpA t D p m) τ' := by
  have hP := hT.P
  refine EvQ_wp 200 [17] rfl rfl ?_
  refine ⟨3144, rfl, (by show _ < 23184; omega), ?_⟩
  rw [hA.r25 0 (by decide)]
  refine ⟨nI (p), hp0, 3164, rfl, (by show _ < 23184; omega), ?_⟩
  rw [hA.r26 0 (by decide)]
  refine ⟨nI (m), hm0, 2, rfl, (by show _ < 23184; omega), _, rfl, ?_⟩
  replace hA := hA.w0 2 (by decide) (nI (p))
  refine ⟨_, rfl, ?_⟩
  have h6n : itr (tk1 t p) m (up2 D 0 2 (nI p)) 0 6 = D 0 6 := by rw [itr_e tk1_6, up2_n (by omega)]
  refine mv_stops_t (D0 := (up2 D 0 2 (nI p))) hT hp hm (fun τ hA => ?_) m 0 (by omega) (up2 D 0 2 (nI p)) _ rfl hA (by rw [up2_n (by omega)]; exact h3) (by rw [up2_n (by omega)]; exact h7)
  refine G_wp 100 [140] rfl ?_
  refine ⟨fun h71 => ?_, fun h71 => ?_⟩
  · exact G_fg 3 (mv_stops_e (by rw [h6n]; exact h6) (by rw [h6n]; exact h61) hA)
  · exact absurd h71 (fun q => nlt_neg (by omega) (by omega) (Int32.not_le.mp q))
theorem mv_stopsB {t : Sg} {D : Dy} {τ : Sg} (hA : Ag t D τ) (hT : WN t) {p m : Nat} (hp : p < nP t) (hm : m ≤ 12) (hp0 : D 25 0 = nI p) (hm0 : D 26 0 = -(nI m)) (h3 : Is (D 0 3) 12) (h7 : Is (D 0 7) 4000) (h6 : Is (D 0 6) 20) (h61 : 1 ≤ nN (D 0 6)) (hC : CG t D) : ∃ τ', Ev true 157 [.inr (.inr (69, false, 0))] τ none τ' ∧ Ag t (stpB t D p m) τ' := by
  have hP := hT.P
  have hC : CG t (up2 D 0 2 (nI p)) := by
    intro i hi
    rw [up2_n (by omega)] at hi ⊢
    exact hC i hi
  refine EvQ_wp 200 [68] rfl rfl ?_
  refine ⟨3144, rfl, (by show _ < 23184; omega), ?_⟩
  rw [hA.r25 0 (by decide)]
  refine ⟨nI (p), hp0, 3164, rfl, (by show _ < 23184; omega), ?_⟩
  rw [hA.r26 0 (by decide)]
  refine ⟨-(nI m), hm0, 2, rfl, (by show _ < 23184; omega), _, rfl, ?_⟩
  replace hA := hA.w0 2 (by decide) (nI (p))
  refine ⟨_, rfl, ?_⟩
  refine ⟨fun h19 => ?_, fun h19 => ?_⟩
  · refine ⟨_, rfl, ?_⟩
    have h6n : itr (lv1 t p) m (up2 D 0 2 (nI p)) 0 6 = D 0 6 := by rw [itr_e lv1_6, up2_n (by omega)]
    refine mv_stops_l (D0 := (up2 D 0 2 (nI p))) hT hp hm (neg_neg _) (fun τ hA => ?_) m 0 (by omega) (up2 D 0 2 (nI p)) _ rfl hA (by rw [up2_n (by omega)]; exact h3) (by rw [up2_n (by omega)]; exact h7) hC
    exact mv_stops_e (by rw [h6n]; exact h6) (by rw [h6n]; exact h61) hA
  · exact absurd h19 (fun q => nlt_neg (by omega) (by omega) (Int32.not_le.mp q))
