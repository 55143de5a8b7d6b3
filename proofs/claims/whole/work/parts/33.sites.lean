/-! New posts, on the model's state. -/
theorem b_shl1 {x y : Int32} {k : Nat} (hx : x = nI 1) (hy : y = nI k) (hk : k < 32) : x <<< (y &&& 31) = nI (2 ^ k) := by
  rw [b_shl hx hy hk (by rw [Nat.one_mul]; exact Nat.pow_lt_pow_right (by decide) hk), Nat.one_mul]
/-- the told sites and wishes -/
def SI2 (t : Sg) : Prop := Is (t 69 false 0 31) 12 ∧ Is (t 69 false 0 34) 40
def msP (t : Sg) (p w : Nat) : Int32 := mAbs (t 72 false 0 p - t 93 false 0 w) + mAbs (t 73 false 0 p - t 94 false 0 w)
def msS (t : Sg) (i w : Nat) : Int32 := mAbs (t 91 false 0 i - t 93 false 0 w) + mAbs (t 92 false 0 i - t 94 false 0 w)
def nrP (t : Sg) (D : Dy) (w : Nat) : Nat → Int32
  | 0 => nI 1000
  | p + 1 => if D 2 p = nI 1 ∧ msP t p w < nrP t D w p then msP t p w else nrP t D w p
theorem nrP_S (t : Sg) (D : Dy) (w p : Nat) : nrP t D w (p + 1) = if D 2 p = nI 1 ∧ msP t p w < nrP t D w p then msP t p w else nrP t D w p := rfl
def nrS (t : Sg) (z : Int32) (set w : Nat) : Nat → Int32
  | 0 => z
  | i + 1 => if set / 2 ^ i % 2 = 1 ∧ msS t i w < nrS t z set w i then msS t i w else nrS t z set w i
theorem nrS_S (t : Sg) (z : Int32) (set w i : Nat) : nrS t z set w (i + 1) = if set / 2 ^ i % 2 = 1 ∧ msS t i w < nrS t z set w i then msS t i w else nrS t z set w i := rfl
def nea (t : Sg) (D : Dy) (set w : Nat) : Int32 := nrS t (nrP t D w (nP t)) set w (nSi t)
theorem mv_near_p {t : Sg} {D : Dy} {τ : Sg} {P : Option AV → Sg → Prop} (hA : Ag t D τ) (hT : WN t) {w set : Nat} (hw : w < 40) (hK : G true 126 P 47 [some (.inr (.inr (69, false, 0))), some (.inl (nI w)), some (.inl (nI set)), some (.inl (nrP t D w (nP t))), none, none] [] τ) : ∀ (j p : Nat), p + j = nP t → ∀ z, z = nrP t D w p → G true 126 P 4 [some (.inr (.inr (69, false, 0))), some (.inl (nI w)), some (.inl (nI set)), some (.inl (z)), some (.inl (nI p)), none] [] τ := by
  have eP := hA.P hT
  have hP := hT.P
  intro j
  induction j with
  | zero =>
    intro p hp z hz
    refine G_wp 90 [4, 47] rfl ?_
    refine br_ge rfl eP (by omega) (by omega) (fun h7 => ?_) (fun h7 => ?_)
    · rw [hz, show p = nP t by omega]
      exact G_fg 4 (G_fg 5 hK)
    · exact absurd h7 (by omega)
  | succ j ih =>
    intro p hp z hz
    refine G_wp 90 [4, 47] rfl ?_
    refine br_ge rfl eP (by omega) (by omega) (fun h7 => ?_) (fun h7 => ?_)
    · exact absurd h7 (by omega)
    · refine ⟨p, rfl, (by show _ < 12; omega), ?_⟩
      rw [hA.2 72 _ _ _ (by decide) rfl]
      refine ⟨w, rfl, (by show _ < 40; omega), ?_⟩
      rw [hA.2 93 _ _ _ (by decide) rfl]
      refine ⟨_, _, mv_size, p, rfl, (by show _ < 12; omega), ?_⟩
      rw [hA.2 73 _ _ _ (by decide) rfl]
      refine ⟨w, rfl, (by show _ < 40; omega), ?_⟩
      rw [hA.2 94 _ _ _ (by decide) rfl]
      refine ⟨_, _, mv_size, _, rfl, 20 + p, (add_n rfl rfl), (by show _ < 23184; omega), ?_⟩
      rw [hA.r2 p (by omega)]
      refine ⟨fun h37 => ?_, fun h37 => ?_⟩
      · refine ⟨_, rfl, nI (p + 1), nI_add _ _, ?_⟩
        refine G_fg 5 (ih (p + 1) (by omega) _ ?_)
        rw [nrP_S]
        rw [if_neg (fun q => h37 q.1), hz]
      · refine ⟨fun h40 => ?_, fun h40 => ?_⟩
        · refine ⟨_, rfl, nI (p + 1), nI_add _ _, ?_⟩
          refine G_fg 5 (ih (p + 1) (by omega) _ ?_)
          rw [nrP_S]
          rw [if_neg (fun q => absurd q.2 (Int32.not_lt.mpr (by rw [← hz]; exact h40))), hz]
        · refine ⟨_, rfl, nI (p + 1), nI_add _ _, ?_⟩
          refine G_fg 5 (ih (p + 1) (by omega) _ ?_)
          rw [nrP_S]
          rw [if_pos ⟨h37, by rw [← hz]; exact Int32.not_le.mp h40⟩]
          rfl
theorem mv_near_s {t : Sg} {D : Dy} {τ : Sg} (hA : Ag t D τ) (hS : SI2 t) {w set : Nat} (hw : w < 40) (hs : set < 4096) : ∀ (j i : Nat), i + j = nSi t → ∀ z, z = nrS t (nrP t D w (nP t)) set w i → G true 126 (fun r' s' => r' = some (.inl (nea t D set w)) ∧ s' = τ) 49 [some (.inr (.inr (69, false, 0))), some (.inl (nI w)), some (.inl (nI set)), some (.inl (z)), some (.inl (nI i)), none] [] τ := by
  have eSi : τ 69 false 0 31 = nI (nSi t) := (hA.2 69 _ _ _ (by decide) rfl).trans hS.1.1
  have hS2 : nSi t ≤ 12 := hS.1.2
  intro j
  induction j with
  | zero =>
    intro i hi z hz
    refine G_wp 90 [49] rfl ?_
    refine br_ge rfl eSi (by omega) (by omega) (fun h52 => ?_) (fun h52 => ?_)
    · exact ⟨by rw [hz, show i = nSi t by omega]; rfl, rfl⟩
    · exact absurd h52 (by omega)
  | succ j ih =>
    intro i hi z hz
    refine G_wp 90 [49] rfl ?_
    refine br_ge rfl eSi (by omega) (by omega) (fun h52 => ?_) (fun h52 => ?_)
    · exact absurd h52 (by omega)
    · refine ⟨i, rfl, (by show _ < 12; omega), ?_⟩
      rw [hA.2 91 _ _ _ (by decide) rfl]
      refine ⟨w, rfl, (by show _ < 40; omega), ?_⟩
      rw [hA.2 93 _ _ _ (by decide) rfl]
      refine ⟨_, _, mv_size, i, rfl, (by show _ < 12; omega), ?_⟩
      rw [hA.2 92 _ _ _ (by decide) rfl]
      refine ⟨w, rfl, (by show _ < 40; omega), ?_⟩
      rw [hA.2 94 _ _ _ (by decide) rfl]
      refine ⟨_, _, mv_size, _, rfl, ?_⟩
      refine br_ne (b_and1 (b_shr rfl rfl (by omega) (by omega)) (Nat.lt_of_le_of_lt (Nat.div_le_self _ _) (by omega))) rfl (Nat.lt_of_lt_of_le (Nat.mod_lt _ (by decide)) (by decide)) (by omega) (fun h81 => ?_) (fun h81 => ?_)
      · refine ⟨_, rfl, nI (i + 1), nI_add _ _, ?_⟩
        refine G_fg 5 (ih (i + 1) (by omega) _ ?_)
        rw [nrS_S]
        rw [if_neg (fun q => h81 q.1), hz]
      · refine ⟨fun h84 => ?_, fun h84 => ?_⟩
        · refine ⟨_, rfl, nI (i + 1), nI_add _ _, ?_⟩
          refine G_fg 5 (ih (i + 1) (by omega) _ ?_)
          rw [nrS_S]
          rw [if_neg (fun q => absurd q.2 (Int32.not_lt.mpr (by rw [← hz]; exact h84))), hz]
        · refine ⟨_, rfl, nI (i + 1), nI_add _ _, ?_⟩
          refine G_fg 5 (ih (i + 1) (by omega) _ ?_)
          rw [nrS_S]
          rw [if_pos ⟨h81, by rw [← hz]; exact Int32.not_le.mp h84⟩]
          rfl
theorem mv_nearest {t : Sg} {D : Dy} {τ : Sg} (hA : Ag t D τ) (hT : WN t) (hS : SI2 t) {w set : Nat} (hw : w < 40) (hs : set < 4096) : Ev true 126 [.inr (.inr (69, false, 0)), .inl (nI (w)), .inl (nI (set))] τ (some (.inl (nea t D set w))) τ := by
  refine Ev_wp 24 [4] rfl rfl ?_
  refine ⟨_, rfl, _, rfl, ?_⟩
  refine mv_near_p hA hT hw ?_ (nP t) 0 (by omega) _ rfl
  refine G_wp 20 [49] rfl ?_
  refine ⟨_, rfl, ?_⟩
  exact mv_near_s hA hS hw hs (nSi t) 0 (by omega) _ rfl
def popN (set : Nat) : Nat → Nat
  | 0 => 0
  | i + 1 => popN set i + set / 2 ^ i % 2
theorem popN_S (set i : Nat) : popN set (i + 1) = popN set i + set / 2 ^ i % 2 := rfl
theorem popN_le (set : Nat) : ∀ i, popN set i ≤ i
  | 0 => Nat.le_refl _
  | i + 1 => by
    have h1 := popN_le set i
    have h2 := Nat.mod_lt (set / 2 ^ i) (show 0 < 2 by decide)
    rw [popN_S]
    omega
def smW (t : Sg) (D : Dy) (set : Nat) : Nat → Int32
  | 0 => nI 0
  | w + 1 => smW t D set w + t 95 false 0 w * nea t D set w
theorem smW_S (t : Sg) (D : Dy) (set w : Nat) : smW t D set (w + 1) = smW t D set w + t 95 false 0 w * nea t D set w := rfl
def bst (t : Sg) (D : Dy) (k : Nat) : Nat → Option Nat × Int32
  | 0 => (none, nI 0)
  | s + 1 => if popN s (nSi t) = k ∧ ((bst t D k s).1 = none ∨ smW t D s (nWi t) < (bst t D k s).2) then (some s, smW t D s (nWi t)) else bst t D k s
theorem bst_S (t : Sg) (D : Dy) (k s : Nat) : bst t D k (s + 1) = if popN s (nSi t) = k ∧ ((bst t D k s).1 = none ∨ smW t D s (nWi t) < (bst t D k s).2) then (some s, smW t D s (nWi t)) else bst t D k s := rfl
theorem bst_lt {t : Sg} {D : Dy} {k : Nat} : ∀ {s m : Nat}, (bst t D k s).1 = some m → m < s
  | 0, m, h => by cases h
  | s + 1, m, h => by
    rw [bst_S] at h
    split at h
    · cases h; omega
    · have := bst_lt h; omega
theorem mv_pop {t : Sg} {D : Dy} {τ : Sg} {P : Option AV → Sg → Prop} (hA : Ag t D τ) (hS : SI2 t) {x w z3 z4 : Int32} {set : Nat} (hs : set < 4096) (hK : G true 172 P 49 [some (.inr (.inr (69, false, 0))), some (.inl x), some (.inl w), some (.inl (z3)), some (.inl (z4)), some (.inl (nI set)), some (.inl (nI (popN set (nSi t)))), none, none] [] τ) : ∀ (j i : Nat), i + j = nSi t → ∀ n, n = popN set i → G true 172 P 35 [some (.inr (.inr (69, false, 0))), some (.inl x), some (.inl w), some (.inl (z3)), some (.inl (z4)), some (.inl (nI set)), some (.inl (nI n)), some (.inl (nI i)), none] [] τ := by
  have eSi : τ 69 false 0 31 = nI (nSi t) := (hA.2 69 _ _ _ (by decide) rfl).trans hS.1.1
  have hS2 : nSi t ≤ 12 := hS.1.2
  have eWi : τ 69 false 0 34 = nI (nWi t) := (hA.2 69 _ _ _ (by decide) rfl).trans hS.2.1
  have hS3 : nWi t ≤ 40 := hS.2.2
  intro j
  induction j with
  | zero =>
    intro i hi n hn
    refine G_wp 90 [35, 49] rfl ?_
    refine br_ge rfl eSi (by omega) (by omega) (fun h38 => ?_) (fun h38 => ?_)
    · rw [hn, show i = nSi t by omega]
      exact G_fg 7 hK
    · exact absurd h38 (by omega)
  | succ j ih =>
    intro i hi n hn
    refine G_wp 90 [35, 49] rfl ?_
    refine br_ge rfl eSi (by omega) (by omega) (fun h38 => ?_) (fun h38 => ?_)
    · exact absurd h38 (by omega)
    · refine ⟨nI (n + (set / 2 ^ i % 2)), (add_n rfl (b_and1 (b_shr rfl rfl (by omega) (by omega)) (Nat.lt_of_le_of_lt (Nat.div_le_self _ _) (by omega)))), nI (i + 1), nI_add _ _, ?_⟩
      exact ih (i + 1) (by omega) _ (by rw [popN_S, hn])
theorem mv_sumw {t : Sg} {D : Dy} {τ : Sg} {P : Option AV → Sg → Prop} (hA : Ag t D τ) (hT : WN t) (hS : SI2 t) {x w z3 z4 : Int32} {set n : Nat} (hs : set < 4096) (hK : G true 172 P 74 [some (.inr (.inr (69, false, 0))), some (.inl x), some (.inl w), some (.inl (z3)), some (.inl (z4)), some (.inl (nI set)), some (.inl (nI n)), some (.inl (smW t D set (nWi t))), none] [] τ) : ∀ (j v : Nat), v + j = nWi t → ∀ z, z = smW t D set v → G true 172 P 56 [some (.inr (.inr (69, false, 0))), some (.inl x), some (.inl w), some (.inl (z3)), some (.inl (z4)), some (.inl (nI set)), some (.inl (nI n)), some (.inl z), some (.inl (nI v))] [] τ := by
  have eSi : τ 69 false 0 31 = nI (nSi t) := (hA.2 69 _ _ _ (by decide) rfl).trans hS.1.1
  have hS2 : nSi t ≤ 12 := hS.1.2
  have eWi : τ 69 false 0 34 = nI (nWi t) := (hA.2 69 _ _ _ (by decide) rfl).trans hS.2.1
  have hS3 : nWi t ≤ 40 := hS.2.2
  intro j
  induction j with
  | zero =>
    intro v hv z hz
    refine G_wp 90 [56, 74] rfl ?_
    refine br_ge rfl eWi (by omega) (by omega) (fun h59 => ?_) (fun h59 => ?_)
    · rw [hz, show v = nWi t by omega]
      exact G_fg 8 hK
    · exact absurd h59 (by omega)
  | succ j ih =>
    intro v hv z hz
    refine G_wp 90 [56, 74] rfl ?_
    refine br_ge rfl eWi (by omega) (by omega) (fun h59 => ?_) (fun h59 => ?_)
    · exact absurd h59 (by omega)
    · refine ⟨v, rfl, (by show _ < 40; omega), ?_⟩
      rw [hA.2 95 _ _ _ (by decide) rfl]
      refine ⟨_, _, mv_nearest hA hT hS (show v < 40 by omega) hs, _, rfl, nI (v + 1), nI_add _ _, ?_⟩
      exact ih (v + 1) (by omega) _ (by rw [smW_S, hz])
theorem oI_m1 {o : Option Nat} (h : ∀ m, o = some m → m < 2147483648) : oI o = -1 ↔ o = none := by
  cases o with
  | none => exact ⟨fun _ => rfl, fun _ => rfl⟩
  | some m => exact ⟨fun q => absurd q (nI_m1 (h m rfl)), fun q => by cases q⟩
theorem mv_sites_l {t : Sg} {D : Dy} {τ : Sg} {P : Option AV → Sg → Prop} (hA : Ag t D τ) (hT : WN t) (hS : SI2 t) {x w : Int32} {k : Nat} (hx : x = nI k) (hk : k ≤ 4) (hK : G true 172 P 86 [some (.inr (.inr (69, false, 0))), some (.inl x), some (.inl w), some (.inl (oI (bst t D k (2 ^ nSi t)).1)), some (.inl (bst t D k (2 ^ nSi t)).2), none, none, none, none] [] τ) : ∀ (j set : Nat), set + j = 2 ^ nSi t → G true 172 P 25 [some (.inr (.inr (69, false, 0))), some (.inl x), some (.inl w), some (.inl (oI (bst t D k set).1)), some (.inl ((bst t D k set).2)), some (.inl (nI set)), none, none, none] [] τ := by
  have eSi : τ 69 false 0 31 = nI (nSi t) := (hA.2 69 _ _ _ (by decide) rfl).trans hS.1.1
  have hS2 : nSi t ≤ 12 := hS.1.2
  have eWi : τ 69 false 0 34 = nI (nWi t) := (hA.2 69 _ _ _ (by decide) rfl).trans hS.2.1
  have hS3 : nWi t ≤ 40 := hS.2.2
  have h12 : 2 ^ nSi t ≤ 4096 := Nat.pow_le_pow_right (n := 2) (by decide) hS2
  intro j
  induction j with
  | zero =>
    intro set hset
    refine G_wp 60 [25, 35, 86] rfl ?_
    refine br_ge rfl (b_shl1 rfl eSi (by omega)) (by omega) (by omega) (fun h30 => ?_) (fun h30 => ?_)
    · have e9 : set = 2 ^ nSi t := by omega
      rw [e9]
      exact G_fg 5 (G_fg 6 (G_fg 7 (G_fg 8 hK)))
    · exact absurd h30 (by omega)
  | succ j ih =>
    intro set hset
    refine G_wp 60 [25, 35, 86] rfl ?_
    refine br_ge rfl (b_shl1 rfl eSi (by omega)) (by omega) (by omega) (fun h30 => ?_) (fun h30 => ?_)
    · exact absurd h30 (by omega)
    · refine ⟨_, rfl, _, rfl, ?_⟩
      refine mv_pop hA hS (show set < 4096 by omega) ?_ (nSi t) 0 (by omega) 0 rfl
      refine G_wp 40 [25, 56] rfl ?_
      refine br_ne rfl hx (by have := popN_le set (nSi t); omega) (by omega) (fun h51 => ?_) (fun h51 => ?_)
      · refine ⟨nI (set + 1), nI_add _ _, ?_⟩
        have e : bst t D k (set + 1) = bst t D k set := by rw [bst_S, if_neg (fun q => h51 q.1)]
        have h9 := ih (set + 1) (by omega)
        rw [e] at h9
        exact G_fg 6 (G_fg 7 (G_fg 8 h9))
      · refine ⟨_, rfl, _, rfl, ?_⟩
        refine mv_sumw hA hT hS (show set < 4096 by omega) ?_ (nWi t) 0 (by omega) _ rfl
        refine G_wp 40 [25] rfl ?_
        refine ⟨fun h76 => ?_, fun h76 => ?_⟩
        · refine ⟨_, rfl, _, rfl, nI (set + 1), nI_add _ _, ?_⟩
          have e : bst t D k (set + 1) = (some set, smW t D set (nWi t)) := by rw [bst_S, if_pos ⟨h51, Or.inl ((oI_m1 (fun m hm => by have := bst_lt hm; omega)).mp h76)⟩]
          have h9 := ih (set + 1) (by omega)
          rw [e] at h9
          exact G_fg 6 (G_fg 7 (G_fg 8 h9))
        · refine ⟨fun h79 => ?_, fun h79 => ?_⟩
          · refine ⟨nI (set + 1), nI_add _ _, ?_⟩
            have e : bst t D k (set + 1) = bst t D k set := by rw [bst_S, if_neg (fun q => q.2.elim (fun z => h76 ((oI_m1 (fun m hm => by have := bst_lt hm; omega)).mpr z)) (fun z => absurd z (Int32.not_lt.mpr h79)))]
            have h9 := ih (set + 1) (by omega)
            rw [e] at h9
            exact G_fg 6 (G_fg 7 (G_fg 8 h9))
          · refine ⟨_, rfl, _, rfl, nI (set + 1), nI_add _ _, ?_⟩
            have e : bst t D k (set + 1) = (some set, smW t D set (nWi t)) := by rw [bst_S, if_pos ⟨h51, Or.inr (Int32.not_le.mp h79)⟩]
            have h9 := ih (set + 1) (by omega)
            rw [e] at h9
            exact G_fg 6 (G_fg 7 (G_fg 8 h9))
noncomputable def sitR (t : Sg) (D : Dy) (x w : Int32) : Int32 := ifC (inI (nI 1) x (nI 4) ∧ x ≤ t 69 false 0 31 ∧ inI (nI 0) w (nI 1)) (ifC (w = nI 0) (oI (bst t D (nN x) (2 ^ nSi t)).1) (bst t D (nN x) (2 ^ nSi t)).2) (-2)
theorem mp_sites {t : Sg} {D : Dy} {τ : Sg} (hA : Ag t D τ) (hT : WN t) {x w : Int32} (hS : SI2 t) : ∃ τ', Ev true 172 [.inr (.inr (69, false, 0)), .inl (x), .inl (w)] τ (some (.inl (sitR t D x w))) τ' ∧ Ag (t) (D) τ' := by
  refine EvQ_wp 49 [25] rfl rfl ?_
  refine ⟨_, rfl, ?_⟩
  replace hA := Ag_scr hA (k := 69) (d := false) (i := 0) (j := 0) (v := (nI (0))) (by decide) rfl
  refine ⟨_, _, mv_in2, ?_⟩
  refine brd_eq (fun h7 => ?_) (fun h7 => ?_)
  · have eR : sitR t D x w = (-2) := by
      simp only [sitR, h7, eq_self, ifC_T, ifC_F, and_true, true_and, and_false, false_and, or_true, true_or, or_false, false_or, not_true_eq_false, not_false_eq_true, and_self, or_self, if_true, if_false, reduceIte, reduceCtorEq, Nat.add_sub_cancel]
    refine ⟨congrArg (fun z => some (Sum.inl z)) (Eq.trans rfl eR.symm), ?_⟩
    exact hA
  · refine ⟨fun h11 => ?_, fun h11 => ?_⟩
    · have h11x : ¬ x ≤ t 69 false 0 31 := by
        rw [← hA.2 69 false 0 31 (by decide) rfl]
        exact Int32.not_le.mpr h11
      have eR : sitR t D x w = (-2) := by
        simp only [sitR, h7, h11x, eq_self, ifC_T, ifC_F, and_true, true_and, and_false, false_and, or_true, true_or, or_false, false_or, not_true_eq_false, not_false_eq_true, and_self, or_self, if_true, if_false, reduceIte, reduceCtorEq, Nat.add_sub_cancel]
      refine ⟨congrArg (fun z => some (Sum.inl z)) (Eq.trans rfl eR.symm), ?_⟩
      exact hA
    · have h11x : x ≤ t 69 false 0 31 := by
        rw [← hA.2 69 false 0 31 (by decide) rfl]
        exact Int32.not_lt.mp h11
      refine ⟨_, _, mv_in2, ?_⟩
      refine brd_ne (fun h16 => ?_) (fun h16 => ?_)
      · refine ⟨_, rfl, _, rfl, _, rfl, ?_⟩
        have hx := inI_n (by omega) (by omega) h7
        refine mv_sites_l hA hT hS hx.1 hx.2.2 ?_ (2 ^ nSi t) 0 (by omega)
        refine G_wp 30 [] rfl ?_
        refine ⟨fun h87 => ?_, fun h87 => ?_⟩
        · have eR : sitR t D x w = (bst t D (nN x) (2 ^ nSi t)).2 := by
            simp only [sitR, h7, h11x, h16, h87, eq_self, ifC_T, ifC_F, and_true, true_and, and_false, false_and, or_true, true_or, or_false, false_or, not_true_eq_false, not_false_eq_true, and_self, or_self, if_true, if_false, reduceIte, reduceCtorEq, Nat.add_sub_cancel]
          refine ⟨congrArg (fun z => some (Sum.inl z)) (Eq.trans rfl eR.symm), ?_⟩
          exact hA
        · have eR : sitR t D x w = (oI (bst t D (nN x) (2 ^ nSi t)).1) := by
            simp only [sitR, h7, h11x, h16, eq_true h87, eq_self, ifC_T, ifC_F, and_true, true_and, and_false, false_and, or_true, true_or, or_false, false_or, not_true_eq_false, not_false_eq_true, and_self, or_self, if_true, if_false, reduceIte, reduceCtorEq, Nat.add_sub_cancel]
          refine ⟨congrArg (fun z => some (Sum.inl z)) (Eq.trans rfl eR.symm), ?_⟩
          exact hA
      · have eR : sitR t D x w = (-2) := by
          simp only [sitR, h7, h11x, h16, eq_self, ifC_T, ifC_F, and_true, true_and, and_false, false_and, or_true, true_or, or_false, false_or, not_true_eq_false, not_false_eq_true, and_self, or_self, if_true, if_false, reduceIte, reduceCtorEq, Nat.add_sub_cancel]
        refine ⟨congrArg (fun z => some (Sum.inl z)) (Eq.trans rfl eR.symm), ?_⟩
        exact hA
