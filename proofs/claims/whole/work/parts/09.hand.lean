/-! What is done by hand, on the model's state. -/
def canB (t : Sg) (D : Dy) (w a : Nat) (b : Int32) : Prop := match w with
  | 0 => True
  | 1 => ¬ D 2 a = b
  | 2 => D 11 a = nI 0 ∧ D 14 a = nI 0
  | 3 => D 11 a = nI 0
  | 4 => D 11 a = nI 4 ∧ nI 0 < fre t D (nN b)
  | _ => nN (D 0 6) < 20
/-- a thing by hand, as it may be told -/
def hOk (t : Sg) (w a : Nat) (b : Int32) : Prop := match w with
  | 0 => a < nP t
  | 1 => a < nP t ∧ (b = nI 0 ∨ b = nI 1)
  | 2 => a < nB t
  | 3 => a < nB t
  | 4 => a < nB t ∧ ∃ p, b = nI p ∧ p < nP t
  | 5 => a < nP t
  | _ => False
def dos (D : Dy) (w a : Nat) (b : Int32) : Dy := match w with
  | 0 => up2 D 1 a b
  | 1 => lgs (up2 D 2 a b) (if b = nI 1 then nI 12 else nI 11) (nI a) (-1) (-1)
  | 2 => up2 D 14 a (nI 1)
  | 3 => lgs (up2 D 11 a (nI 4)) (nI 9) (D 12 a) (-1) (nI a)
  | 4 => lgs (up2 (up2 D 11 a (nI 0)) 12 a b) (nI 10) b (-1) (nI a)
  | _ => up2 (up2 (up2 D 25 (nN (D 0 6)) (nI a)) 26 (nN (D 0 6)) b) 0 6 (nI (nN (D 0 6) + 1))
noncomputable def bD (c : Prop) : Int32 := @ite _ c (Classical.propDecidable c) (nI 1) (nI 0)
theorem bD_t {c : Prop} (h : c) : bD c = nI 1 := if_pos h
theorem bD_f {c : Prop} (h : ¬ c) : bD c = nI 0 := if_neg h
theorem bD_01 (c : Prop) : bD c = nI 0 ∨ bD c = nI 1 := by
  rcases Classical.em c with h | h
  · exact Or.inr (bD_t h)
  · exact Or.inl (bD_f h)
theorem bD_0 {c : Prop} : bD c = nI 0 ↔ ¬ c := by
  rcases Classical.em c with h | h
  · rw [bD_t h]
    exact ⟨fun q => absurd q (by decide), fun q => absurd h q⟩
  · rw [bD_f h]
    exact ⟨fun _ => h, fun _ => rfl⟩
theorem brd_eq {c A B : Prop} (f : ¬ c → A) (g : c → B) : (bD c = nI 0 → A) ∧ (¬ bD c = nI 0 → B) :=
  ⟨fun h => f (bD_0.mp h), fun h => g (Classical.not_not.mp fun q => h (bD_0.mpr q))⟩
theorem brd_ne {c A B : Prop} (f : c → A) (g : ¬ c → B) : (¬ bD c = nI 0 → A) ∧ (bD c = nI 0 → B) :=
  ⟨fun h => f (Classical.not_not.mp fun q => h (bD_0.mpr q)), fun h => g (bD_0.mp h)⟩
theorem lgs_7 {D : Dy} (h : Is (D 0 7) 4000) (w p r b : Int32) : Is (lgs D w p r b 0 7) 4000 := by
  unfold lgs
  split
  next hc =>
    rw [up2_s]
    exact Is_of (by omega) (by omega)
  next => exact h
theorem lgs_o {D : Dy} {w p r b : Int32} {f i : Nat} (h1 : ¬ f = 27) (h2 : ¬ (f = 0 ∧ i = 7)) : lgs D w p r b f i = D f i := by
  unfold lgs
  split
  · simp only [up2]
    rw [if_neg h2, if_neg (fun q => h1 q.1), if_neg (fun q => h1 q.1), if_neg (fun q => h1 q.1), if_neg (fun q => h1 q.1), if_neg (fun q => h1 q.1)]
  · rfl
theorem up2_n {D : Dy} {f i : Nat} {v : Int32} {g j : Nat} (h : ¬ (g = f ∧ j = i)) : up2 D f i v g j = D g j := if_neg h
theorem mv_can0 {t : Sg} {D : Dy} {τ : Sg} (hA : Ag t D τ) (hT : WN t) {a : Nat} {x b : Int32} (hx : x = nI a)  : Ev true 151 [.inr (.inr (69, false, 0)), .inl (nI (0)), .inl (x), .inl (b)] τ (some (.inl (bD (canB t D 0 a b)))) τ := by
  have hP := hT.P
  have hB := hT.B
  refine Ev_wp 24 [] rfl rfl ?_
  refine ⟨fun h1 => ?_, fun h1 => ?_, fun h1 => ?_, fun h1 => ?_, fun h1 => ?_, ?_⟩
  · refine ⟨Or.inr rfl, ?_⟩
    exact ⟨by simp_all [bD, canB], rfl⟩
  · exact absurd h1 (by decide)
  · exact absurd h1 (by decide)
  · exact absurd h1 (by decide)
  · exact absurd h1 (by decide)
  · intro h1; exact absurd rfl h1.1
theorem mv_can1 {t : Sg} {D : Dy} {τ : Sg} (hA : Ag t D τ) (hT : WN t) {a : Nat} {x b : Int32} (hx : x = nI a) (ha : a < nP t) : Ev true 151 [.inr (.inr (69, false, 0)), .inl (nI (1)), .inl (x), .inl (b)] τ (some (.inl (bD (canB t D 1 a b)))) τ := by
  have hP := hT.P
  have hB := hT.B
  refine Ev_wp 35 [] rfl rfl ?_
  refine ⟨fun h1 => ?_, fun h1 => ?_, fun h1 => ?_, fun h1 => ?_, fun h1 => ?_, ?_⟩
  · exact absurd h1 (by decide)
  · refine ⟨20 + a, (add_n rfl hx), (by show _ < 23184; omega), ?_⟩
    rw [hA.r2 a (by omega)]
    refine ⟨fun h11 => ?_, fun h11 => ?_⟩
    · refine ⟨Or.inl rfl, ?_⟩
      exact ⟨by simp_all [bD, canB], rfl⟩
    · refine ⟨Or.inr rfl, ?_⟩
      exact ⟨by simp_all [bD, canB], rfl⟩
  · exact absurd h1 (by decide)
  · exact absurd h1 (by decide)
  · exact absurd h1 (by decide)
  · intro h1; exact absurd rfl h1.2.1
theorem mv_can2 {t : Sg} {D : Dy} {τ : Sg} (hA : Ag t D τ) (hT : WN t) {a : Nat} {x b : Int32} (hx : x = nI a) (ha : a < nB t) : Ev true 151 [.inr (.inr (69, false, 0)), .inl (nI (2)), .inl (x), .inl (b)] τ (some (.inl (bD (canB t D 2 a b)))) τ := by
  have hP := hT.P
  have hB := hT.B
  refine Ev_wp 43 [] rfl rfl ?_
  refine ⟨fun h1 => ?_, fun h1 => ?_, fun h1 => ?_, fun h1 => ?_, fun h1 => ?_, ?_⟩
  · exact absurd h1 (by decide)
  · exact absurd h1 (by decide)
  · refine ⟨1232 + a, (add_n rfl hx), (by show _ < 23184; omega), ?_⟩
    rw [hA.r11 a (by omega)]
    refine ⟨fun h22 => ?_, fun h22 => ?_⟩
    · refine ⟨Or.inl rfl, ?_⟩
      exact ⟨by simp_all [bD, canB], rfl⟩
    · refine ⟨1412 + a, (add_n rfl hx), (by show _ < 23184; omega), ?_⟩
      rw [hA.r14 a (by omega)]
      refine ⟨fun h29 => ?_, fun h29 => ?_⟩
      · refine ⟨Or.inl rfl, ?_⟩
        exact ⟨by simp_all [bD, canB], rfl⟩
      · refine ⟨Or.inr rfl, ?_⟩
        exact ⟨by simp_all [bD, canB], rfl⟩
  · exact absurd h1 (by decide)
  · exact absurd h1 (by decide)
  · intro h1; exact absurd rfl h1.2.2.1
theorem mv_can3 {t : Sg} {D : Dy} {τ : Sg} (hA : Ag t D τ) (hT : WN t) {a : Nat} {x b : Int32} (hx : x = nI a) (ha : a < nB t) : Ev true 151 [.inr (.inr (69, false, 0)), .inl (nI (3)), .inl (x), .inl (b)] τ (some (.inl (bD (canB t D 3 a b)))) τ := by
  have hP := hT.P
  have hB := hT.B
  refine Ev_wp 34 [] rfl rfl ?_
  refine ⟨fun h1 => ?_, fun h1 => ?_, fun h1 => ?_, fun h1 => ?_, fun h1 => ?_, ?_⟩
  · exact absurd h1 (by decide)
  · exact absurd h1 (by decide)
  · exact absurd h1 (by decide)
  · refine ⟨1232 + a, (add_n rfl hx), (by show _ < 23184; omega), ?_⟩
    rw [hA.r11 a (by omega)]
    refine ⟨fun h40 => ?_, fun h40 => ?_⟩
    · refine ⟨Or.inl rfl, ?_⟩
      exact ⟨by simp_all [bD, canB], rfl⟩
    · refine ⟨Or.inr rfl, ?_⟩
      exact ⟨by simp_all [bD, canB], rfl⟩
  · exact absurd h1 (by decide)
  · intro h1; exact absurd rfl h1.2.2.2.1
theorem mv_can4 {t : Sg} {D : Dy} {τ : Sg} (hA : Ag t D τ) (hT : WN t) {a : Nat} {x b : Int32} (hx : x = nI a) (ha : a < nB t) {p : Nat} (hp : b = nI p) (hp2 : p < nP t) : Ev true 151 [.inr (.inr (69, false, 0)), .inl (nI (4)), .inl (x), .inl (b)] τ (some (.inl (bD (canB t D 4 a b)))) τ := by
  have hP := hT.P
  have hB := hT.B
  have en : nN b = p := by rw [hp]; exact nN_nI (by omega)
  refine Ev_wp 41 [] rfl rfl ?_
  refine ⟨fun h1 => ?_, fun h1 => ?_, fun h1 => ?_, fun h1 => ?_, fun h1 => ?_, ?_⟩
  · exact absurd h1 (by decide)
  · exact absurd h1 (by decide)
  · exact absurd h1 (by decide)
  · exact absurd h1 (by decide)
  · refine ⟨1232 + a, (add_n rfl hx), (by show _ < 23184; omega), ?_⟩
    rw [hA.r11 a (by omega)]
    refine ⟨fun h52 => ?_, fun h52 => ?_⟩
    · refine ⟨Or.inl rfl, ?_⟩
      exact ⟨by simp_all [bD, canB] <;> (intro q; exact absurd q (Int32.not_lt.mpr h56)), rfl⟩
    · refine ⟨_, _, mv_free hA hT hp hp2, ?_⟩
      refine ⟨fun h56 => ?_, fun h56 => ?_⟩
      · refine ⟨Or.inl rfl, ?_⟩
        exact ⟨by simp_all [bD, canB] <;> (intro q; exact absurd q (Int32.not_lt.mpr h56)), rfl⟩
      · refine ⟨Or.inr rfl, ?_⟩
        exact ⟨by simp_all [bD, canB] <;> (intro q; exact absurd q (Int32.not_lt.mpr h56)), rfl⟩
  · intro h1; exact absurd rfl h1.2.2.2.2.1
theorem mv_can5 {t : Sg} {D : Dy} {τ : Sg} (hA : Ag t D τ) (hT : WN t) {a : Nat} {x b : Int32} (hx : x = nI a) (h6 : Is (D 0 6) 20) : Ev true 151 [.inr (.inr (69, false, 0)), .inl (nI (5)), .inl (x), .inl (b)] τ (some (.inl (bD (canB t D 5 a b)))) τ := by
  have hP := hT.P
  have hB := hT.B
  have h62 := h6.2
  refine Ev_wp 33 [] rfl rfl ?_
  refine ⟨fun h1 => ?_, fun h1 => ?_, fun h1 => ?_, fun h1 => ?_, fun h1 => ?_, ?_⟩
  · exact absurd h1 (by decide)
  · exact absurd h1 (by decide)
  · exact absurd h1 (by decide)
  · exact absurd h1 (by decide)
  · exact absurd h1 (by decide)
  · intro h1
    refine ⟨6, rfl, (by show _ < 23184; omega), ?_⟩
    rw [hA.r0 6 (by decide)]
    refine br_ge h6.1 rfl (by omega) (by omega) (fun h66 => ?_) (fun h66 => ?_)
    · refine ⟨Or.inl rfl, ?_⟩
      exact ⟨by simp_all [bD, canB] <;> (intro q; omega), rfl⟩
    · refine ⟨Or.inr rfl, ?_⟩
      exact ⟨by simp_all [bD, canB] <;> (intro q; omega), rfl⟩
theorem mv_does0 {t : Sg} {D : Dy} {τ : Sg} (hA : Ag t D τ) (hT : WN t) {a : Nat} {x b : Int32} (hx : x = nI a) (ha : a < nP t) : ∃ τ', Ev true 114 [.inr (.inr (69, false, 0)), .inl (nI (0)), .inl (x), .inl (b)] τ none τ' ∧ Ag t (dos D 0 a b) τ' := by
  have hP := hT.P
  have hB := hT.B
  refine EvQ_wp 30 [] rfl rfl ?_
  refine ⟨fun h1 => ?_, fun h1 => ?_, fun h1 => ?_, fun h1 => ?_, fun h1 => ?_, ?_⟩
  · refine ⟨8 + a, (add_n rfl hx), (by show _ < 23184; omega), _, rfl, ?_⟩
    replace hA := hA.w1 a (by omega) b
    refine ⟨rfl, ?_⟩
    have e : dos D 0 a b = (up2 D 1 a b) := by
      first | rfl | (unfold dos; simp_all [up2]) 
    rw [e]
    exact hA
  · exact absurd h1 (by decide)
  · exact absurd h1 (by decide)
  · exact absurd h1 (by decide)
  · exact absurd h1 (by decide)
  · intro h1; exact absurd rfl h1.1
theorem mv_does1 {t : Sg} {D : Dy} {τ : Sg} (hA : Ag t D τ) (hT : WN t) {a : Nat} {x b : Int32} (hx : x = nI a) (ha : a < nP t) (h7 : Is (D 0 7) 4000) : ∃ τ', Ev true 114 [.inr (.inr (69, false, 0)), .inl (nI (1)), .inl (x), .inl (b)] τ none τ' ∧ Ag t (dos D 1 a b) τ' := by
  have hP := hT.P
  have hB := hT.B
  refine EvQ_wp 46 [] rfl rfl ?_
  refine ⟨fun h1 => ?_, fun h1 => ?_, fun h1 => ?_, fun h1 => ?_, fun h1 => ?_, ?_⟩
  · exact absurd h1 (by decide)
  · refine ⟨20 + a, (add_n rfl hx), (by show _ < 23184; omega), _, rfl, ?_⟩
    replace hA := hA.w2 a (by omega) b
    refine ⟨fun h20 => ?_, fun h20 => ?_⟩
    · have h7 : Is ((up2 D 2 a b) 0 7) 4000 := by simp [up2]; exact h7
      obtain ⟨τ1, ev1, hA⟩ := mv_logs hA h7 (v1 := (nI (11))) (v2 := x) (v3 := (-1)) (v4 := (-1))
      refine ⟨_, _, ev1, ?_⟩
      refine ⟨rfl, ?_⟩
      have e : dos D 1 a b = (lgs (up2 D 2 a b) (nI (11)) x (-1) (-1)) := by
        first | rfl | (unfold dos; simp_all [up2]) 
      rw [e]
      exact hA
    · have h7 : Is ((up2 D 2 a b) 0 7) 4000 := by simp [up2]; exact h7
      obtain ⟨τ1, ev1, hA⟩ := mv_logs hA h7 (v1 := (nI (12))) (v2 := x) (v3 := (-1)) (v4 := (-1))
      refine ⟨_, _, ev1, ?_⟩
      refine ⟨rfl, ?_⟩
      have e : dos D 1 a b = (lgs (up2 D 2 a b) (nI (12)) x (-1) (-1)) := by
        first | rfl | (unfold dos; simp_all [up2]) 
      rw [e]
      exact hA
  · exact absurd h1 (by decide)
  · exact absurd h1 (by decide)
  · exact absurd h1 (by decide)
  · intro h1; exact absurd rfl h1.2.1
theorem mv_does2 {t : Sg} {D : Dy} {τ : Sg} (hA : Ag t D τ) (hT : WN t) {a : Nat} {x b : Int32} (hx : x = nI a) (ha : a < nB t) : ∃ τ', Ev true 114 [.inr (.inr (69, false, 0)), .inl (nI (2)), .inl (x), .inl (b)] τ none τ' ∧ Ag t (dos D 2 a b) τ' := by
  have hP := hT.P
  have hB := hT.B
  refine EvQ_wp 30 [] rfl rfl ?_
  refine ⟨fun h1 => ?_, fun h1 => ?_, fun h1 => ?_, fun h1 => ?_, fun h1 => ?_, ?_⟩
  · exact absurd h1 (by decide)
  · exact absurd h1 (by decide)
  · refine ⟨1412 + a, (add_n rfl hx), (by show _ < 23184; omega), _, rfl, ?_⟩
    replace hA := hA.w14 a (by omega) (nI (1))
    refine ⟨rfl, ?_⟩
    have e : dos D 2 a b = (up2 D 14 a (nI (1))) := by
      first | rfl | (unfold dos; simp_all [up2]) 
    rw [e]
    exact hA
  · exact absurd h1 (by decide)
  · exact absurd h1 (by decide)
  · intro h1; exact absurd rfl h1.2.2.1
theorem mv_does3 {t : Sg} {D : Dy} {τ : Sg} (hA : Ag t D τ) (hT : WN t) {a : Nat} {x b : Int32} (hx : x = nI a) (ha : a < nB t) (h7 : Is (D 0 7) 4000) : ∃ τ', Ev true 114 [.inr (.inr (69, false, 0)), .inl (nI (3)), .inl (x), .inl (b)] τ none τ' ∧ Ag t (dos D 3 a b) τ' := by
  have hP := hT.P
  have hB := hT.B
  refine EvQ_wp 41 [] rfl rfl ?_
  refine ⟨fun h1 => ?_, fun h1 => ?_, fun h1 => ?_, fun h1 => ?_, fun h1 => ?_, ?_⟩
  · exact absurd h1 (by decide)
  · exact absurd h1 (by decide)
  · exact absurd h1 (by decide)
  · refine ⟨1232 + a, (add_n rfl hx), (by show _ < 23184; omega), _, rfl, ?_⟩
    replace hA := hA.w11 a (by omega) (nI (4))
    refine ⟨1292 + a, (add_n rfl hx), (by show _ < 23184; omega), ?_⟩
    rw [hA.r12 a (by omega)]
    have h7 : Is ((up2 D 11 a (nI (4))) 0 7) 4000 := by simp [up2]; exact h7
    obtain ⟨τ1, ev1, hA⟩ := mv_logs hA h7 (v1 := (nI (9))) (v2 := ((up2 D 11 a (nI (4))) 12 a)) (v3 := (-1)) (v4 := x)
    refine ⟨_, _, ev1, ?_⟩
    refine ⟨rfl, ?_⟩
    have e : dos D 3 a b = (lgs (up2 D 11 a (nI (4))) (nI (9)) ((up2 D 11 a (nI (4))) 12 a) (-1) x) := by
      first | rfl | (unfold dos; simp_all [up2]) 
    rw [e]
    exact hA
  · exact absurd h1 (by decide)
  · intro h1; exact absurd rfl h1.2.2.2.1
theorem mv_does4 {t : Sg} {D : Dy} {τ : Sg} (hA : Ag t D τ) (hT : WN t) {a : Nat} {x b : Int32} (hx : x = nI a) (ha : a < nB t) (h7 : Is (D 0 7) 4000) : ∃ τ', Ev true 114 [.inr (.inr (69, false, 0)), .inl (nI (4)), .inl (x), .inl (b)] τ none τ' ∧ Ag t (dos D 4 a b) τ' := by
  have hP := hT.P
  have hB := hT.B
  refine EvQ_wp 43 [] rfl rfl ?_
  refine ⟨fun h1 => ?_, fun h1 => ?_, fun h1 => ?_, fun h1 => ?_, fun h1 => ?_, ?_⟩
  · exact absurd h1 (by decide)
  · exact absurd h1 (by decide)
  · exact absurd h1 (by decide)
  · exact absurd h1 (by decide)
  · refine ⟨1232 + a, (add_n rfl hx), (by show _ < 23184; omega), _, rfl, ?_⟩
    replace hA := hA.w11 a (by omega) (nI (0))
    refine ⟨1292 + a, (add_n rfl hx), (by show _ < 23184; omega), _, rfl, ?_⟩
    replace hA := hA.w12 a (by omega) b
    have h7 : Is ((up2 (up2 D 11 a (nI (0))) 12 a b) 0 7) 4000 := by simp [up2]; exact h7
    obtain ⟨τ1, ev1, hA⟩ := mv_logs hA h7 (v1 := (nI (10))) (v2 := b) (v3 := (-1)) (v4 := x)
    refine ⟨_, _, ev1, ?_⟩
    refine ⟨rfl, ?_⟩
    have e : dos D 4 a b = (lgs (up2 (up2 D 11 a (nI (0))) 12 a b) (nI (10)) b (-1) x) := by
      first | rfl | (unfold dos; simp_all [up2]) 
    rw [e]
    exact hA
  · intro h1; exact absurd rfl h1.2.2.2.2.1
theorem mv_does5 {t : Sg} {D : Dy} {τ : Sg} (hA : Ag t D τ) (hT : WN t) {a : Nat} {x b : Int32} (hx : x = nI a) (h6 : Is (D 0 6) 20) (h62 : nN (D 0 6) < 20) : ∃ τ', Ev true 114 [.inr (.inr (69, false, 0)), .inl (nI (5)), .inl (x), .inl (b)] τ none τ' ∧ Ag t (dos D 5 a b) τ' := by
  have hP := hT.P
  have hB := hT.B
  refine EvQ_wp 51 [] rfl rfl ?_
  refine ⟨fun h1 => ?_, fun h1 => ?_, fun h1 => ?_, fun h1 => ?_, fun h1 => ?_, ?_⟩
  · exact absurd h1 (by decide)
  · exact absurd h1 (by decide)
  · exact absurd h1 (by decide)
  · exact absurd h1 (by decide)
  · exact absurd h1 (by decide)
  · intro h1
    refine ⟨6, rfl, (by show _ < 23184; omega), ?_⟩
    rw [hA.r0 6 (by decide)]
    refine ⟨3144 + (nN (D 0 6)), (add_n rfl (by first | exact h6.1 | (simp [up2]; exact h6.1))), (by show _ < 23184; omega), nI (a), hx, ?_⟩
    replace hA := hA.w25 (nN (D 0 6)) (by omega) (nI (a))
    refine ⟨6, rfl, (by show _ < 23184; omega), ?_⟩
    rw [hA.r0 6 (by decide)]
    refine ⟨3164 + (nN (D 0 6)), (add_n rfl (by first | exact h6.1 | (simp [up2]; exact h6.1))), (by show _ < 23184; omega), _, rfl, ?_⟩
    replace hA := hA.w26 (nN (D 0 6)) (by omega) b
    refine ⟨6, rfl, (by show _ < 23184; omega), ?_⟩
    rw [hA.r0 6 (by decide)]
    refine ⟨6, rfl, (by show _ < 23184; omega), nI ((nN (D 0 6)) + 1), (add_n (by first | exact h6.1 | (simp [up2]; exact h6.1)) rfl), ?_⟩
    replace hA := hA.w0 6 (by decide) (nI ((nN (D 0 6)) + 1))
    refine ⟨rfl, ?_⟩
    have e : dos D 5 a b = (up2 (up2 (up2 D 25 (nN (D 0 6)) (nI (a))) 26 (nN (D 0 6)) b) 0 6 (nI ((nN (D 0 6)) + 1))) := by
      first | rfl | (unfold dos; simp_all [up2]) 
    rw [e]
    exact hA
theorem mv_can {t : Sg} {D : Dy} {τ : Sg} (hA : Ag t D τ) (hT : WN t) (h6 : Is (D 0 6) 20) {w a : Nat} {y x b : Int32} (hy : y = nI w) (hx : x = nI a) (hk : hOk t w a b) : Ev true 151 [.inr (.inr (69, false, 0)), .inl y, .inl x, .inl b] τ (some (.inl (bD (canB t D w a b)))) τ := by
  subst hy
  match w, hk with
  | 0, hk => exact mv_can0 hA hT hx
  | 1, hk => exact mv_can1 hA hT hx hk.1
  | 2, hk => exact mv_can2 hA hT hx hk
  | 3, hk => exact mv_can3 hA hT hx hk
  | 4, hk =>
    obtain ⟨h1, p, h2, h3⟩ := hk
    exact mv_can4 hA hT hx h1 h2 h3
  | 5, hk => exact mv_can5 hA hT hx h6
  | w + 6, hk => exact hk.elim
theorem mv_does {t : Sg} {D : Dy} {τ : Sg} (hA : Ag t D τ) (hT : WN t) (h6 : Is (D 0 6) 20) (h7 : Is (D 0 7) 4000) {w a : Nat} {y x b : Int32} (hy : y = nI w) (hx : x = nI a) (hk : hOk t w a b) (hc : canB t D w a b) : ∃ τ', Ev true 114 [.inr (.inr (69, false, 0)), .inl y, .inl x, .inl b] τ none τ' ∧ Ag t (dos D w a b) τ' := by
  subst hy
  match w, hk, hc with
  | 0, hk, hc => exact mv_does0 hA hT hx hk
  | 1, hk, hc => exact mv_does1 hA hT hx hk.1 h7
  | 2, hk, hc => exact mv_does2 hA hT hx hk
  | 3, hk, hc => exact mv_does3 hA hT hx hk h7
  | 4, hk, hc => exact mv_does4 hA hT hx hk.1 h7
  | 5, hk, hc => exact mv_does5 hA hT hx h6 hc
  | w + 6, hk, hc => exact hk.elim
def hnd (t : Sg) (m w a b : Int32) : Sg := up4 (up4 (up4 (up4 (up4 t 82 false 0 (4 * nH t) m) 82 false 0 (4 * nH t + 1) w) 82 false 0 (4 * nH t + 2) a) 82 false 0 (4 * nH t + 3) b) 69 false 0 18 (nI (nH t + 1))
theorem hnd_WN {t : Sg} {m w a b : Int32} (h : WN t) : WN (hnd t m w a b) := by simpa [WN, hnd, up4] using h
theorem hnd_ok {t : Sg} {m w' a' b' : Int32} {w a : Nat} {b : Int32} : hOk (hnd t m w' a' b') w a b = hOk t w a b := by
  have h1 : nP (hnd t m w' a' b') = nP t := by simp [nP, hnd, up4]
  have h2 : nB (hnd t m w' a' b') = nB t := by simp [nB, hnd, up4]
  unfold hOk
  rw [h1, h2]
theorem hnd_thr {t : Sg} {m w a b : Int32} {D : Dy} {p : Nat} : thr (hnd t m w a b) D p = thr t D p := by
  have h2 : nB (hnd t m w a b) = nB t := by simp [nB, hnd, up4]
  unfold thr
  rw [h2]
theorem hnd_can {t : Sg} {m w' a' b' : Int32} {D : Dy} {w a : Nat} {b : Int32} : canB (hnd t m w' a' b') D w a b = canB t D w a b := by
  have h1 : ∀ p, fre (hnd t m w' a' b') D p = fre t D p := fun p => by
    unfold fre
    rw [hnd_thr]
    simp [hnd, up4]
  unfold canB
  simp only [h1]
theorem mv_byHand {t : Sg} {D : Dy} {τ : Sg} (hA : Ag t D τ) (hT : WN t) (h6 : Is (D 0 6) 20) (h7 : Is (D 0 7) 4000) (hH : Is (t 69 false 0 18) 199) {w a : Nat} {y x b : Int32} (hy : y = nI w) (hx : x = nI a) (hk : hOk t w a b) (hc : canB t D w a b) : ∃ τ', Ev true 152 [.inr (.inr (69, false, 0)), .inl (y), .inl (x), .inl (b)] τ none τ' ∧ Ag (hnd t (D 0 0) (nI w) (nI a) b) (dos D w a b) τ' := by
  have eH : τ 69 false 0 18 = nI (nH t) := (hA.2 69 _ _ _ (by decide) rfl).trans hH.1
  have hH2 : nH t ≤ 199 := hH.2
  refine EvQ_wp 73 [] rfl rfl ?_
  refine ⟨0, rfl, (by show _ < 23184; omega), ?_⟩
  rw [hA.r0 0 (by decide)]
  refine ⟨4 * (nH t), (mul_n rfl eH), (by show _ < 800; omega), _, rfl, ?_⟩
  replace hA := Ag_t hA 82 false 0 (4 * (nH t)) (D 0 0) (by decide)
  refine ⟨(4 * (nH t)) + 1, (add_n (mul_n rfl eH) rfl), (by show _ < 800; omega), nI (w), hy, ?_⟩
  replace hA := Ag_t hA 82 false 0 ((4 * (nH t)) + 1) (nI (w)) (by decide)
  refine ⟨(4 * (nH t)) + 2, (add_n (mul_n rfl eH) rfl), (by show _ < 800; omega), nI (a), hx, ?_⟩
  replace hA := Ag_t hA 82 false 0 ((4 * (nH t)) + 2) (nI (a)) (by decide)
  refine ⟨(4 * (nH t)) + 3, (add_n (mul_n rfl eH) rfl), (by show _ < 800; omega), _, rfl, ?_⟩
  replace hA := Ag_t hA 82 false 0 ((4 * (nH t)) + 3) b (by decide)
  refine ⟨nI ((nH t) + 1), (add_n eH rfl), ?_⟩
  replace hA := Ag_t hA 69 false 0 18 (nI ((nH t) + 1)) (by decide)
  have hA : Ag (hnd t (D 0 0) (nI w) (nI a) b) D _ := hA
  obtain ⟨τ1, ev1, hA⟩ := mv_does hA (hnd_WN hT) h6 h7 hy hx (by rw [hnd_ok]; exact hk) (by rw [hnd_can]; exact hc)
  refine ⟨_, _, ev1, ?_⟩
  exact ⟨rfl, hA⟩
theorem mv_handled_no {t : Sg} {D : Dy} {τ : Sg} (hA : Ag t D τ) (hT : WN t) (h6 : Is (D 0 6) 20) {w a : Nat} {y x b : Int32} (hy : y = nI w) (hx : x = nI a) (hk : hOk t w a b) (hc : ¬ canB t D w a b) : Ev true 188 [.inr (.inr (69, false, 0)), .inl y, .inl x, .inl b] τ (some (.inl (-3))) τ := by
  refine Ev_wp 40 [] rfl rfl ?_
  refine ⟨_, _, mv_can hA hT h6 hy hx hk, ?_⟩
  refine brd_ne (fun h => absurd h hc) (fun h => ?_)
  exact ⟨rfl, rfl⟩
theorem mv_handled_full {t : Sg} {D : Dy} {τ : Sg} (hA : Ag t D τ) (hT : WN t) (h6 : Is (D 0 6) 20) {w a : Nat} {y x b : Int32} (hy : y = nI w) (hx : x = nI a) (hk : hOk t w a b) (hc : canB t D w a b) (hH : t 69 false 0 18 = nI 200) : Ev true 188 [.inr (.inr (69, false, 0)), .inl y, .inl x, .inl b] τ (some (.inl (-4))) τ := by
  have eH : τ 69 false 0 18 = nI 200 := (hA.2 69 _ _ _ (by decide) rfl).trans hH
  refine Ev_wp 40 [] rfl rfl ?_
  refine ⟨_, _, mv_can hA hT h6 hy hx hk, ?_⟩
  refine brd_ne (fun h => ?_) (fun h => absurd hc h)
  refine br_ne eH rfl (by omega) (by omega) (fun h2 => absurd rfl h2) (fun h2 => ?_)
  exact ⟨rfl, rfl⟩
theorem mv_handled {t : Sg} {D : Dy} {τ : Sg} (hA : Ag t D τ) (hT : WN t) (h6 : Is (D 0 6) 20) (h7 : Is (D 0 7) 4000) (hH : Is (t 69 false 0 18) 199) {w a : Nat} {y x b : Int32} (hy : y = nI w) (hx : x = nI a) (hk : hOk t w a b) (hc : canB t D w a b) : ∃ τ', Ev true 188 [.inr (.inr (69, false, 0)), .inl y, .inl x, .inl b] τ (some (.inl (nI 1))) τ' ∧ Ag (hnd t (D 0 0) (nI w) (nI a) b) (dos D w a b) τ' := by
  have eH : τ 69 false 0 18 = nI (nH t) := (hA.2 69 _ _ _ (by decide) rfl).trans hH.1
  have hH2 : nH t ≤ 199 := hH.2
  refine EvQ_wp 40 [] rfl rfl ?_
  refine ⟨_, _, mv_can hA hT h6 hy hx hk, ?_⟩
  refine brd_ne (fun h => ?_) (fun h => absurd hc h)
  refine br_ne eH rfl (by omega) (by omega) (fun h2 => ?_) (fun h2 => absurd h2 (by omega))
  obtain ⟨τ1, ev1, hA⟩ := mv_byHand hA hT h6 h7 hH hy hx hk hc
  exact ⟨_, _, ev1, rfl, hA⟩
