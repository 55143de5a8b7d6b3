/-! The class's test of a rule is the model's. -/
def par (n : Nat) : Bool := decide (n % 2 = 1)
theorem flB_par (n : Nat) (b : Bool) : flB n b = (b != par n) := by
  unfold flB par
  by_cases h : n % 2 = 0
  · rw [if_pos h, decide_eq_false (by omega)]
    cases b <;> rfl
  · rw [if_neg h, decide_eq_true (by omega)]
    cases b <;> rfl
theorem par_S (n : Nat) : (!par n) = par (n + 1) := by
  unfold par
  by_cases h : n % 2 = 1
  · rw [decide_eq_true h, decide_eq_false (by omega)]
    rfl
  · rw [decide_eq_false h, decide_eq_true (by omega)]
    rfl
def Rlv : B3 → List B3 → List Lv → Prop
  | _, [], [] => True
  | c, x :: r', L :: r => c.2.2 = par L.2.2 ∧ x.1 = L.1.getD false ∧ x.2.1 = L.2.1.getD true ∧ Rlv x r' r
  | _, _, _ => False
theorem Rlv_len : ∀ {c : B3} {r' : List B3} {r : List Lv}, Rlv c r' r → r'.length = r.length
  | _, [], [], _ => rfl
  | _, x :: r', L :: r, h => congrArg (· + 1) (Rlv_len (c := x) (r' := r') (r := r) h.2.2.2)
  | _, [], _ :: _, h => h.elim
  | _, _ :: _, [], h => h.elim
theorem Rlv_c {c c2 : B3} {r' : List B3} {r : List Lv} (h : Rlv c r' r) (e : c2.2.2 = c.2.2) : Rlv c2 r' r := by
  cases r' with
  | nil => cases r with
    | nil => trivial
    | cons L r => exact h.elim
  | cons x r' => cases r with
    | nil => exact h.elim
    | cons L r => exact ⟨e.trans h.1, h.2⟩
theorem tst_n {f : Nat → Nat} {ev : Nat → Int32} {m i nn : Nat} {o a : Option Bool} {r : List Lv} : tst f ev (m + 1) i (o, a, nn) r none = if f i = 19 then tst f ev m (i + 1) (o, a, nn + 1) r none else if f i = 15 then tst f ev m (i + 1) (none, none, 0) ((o, a, nn) :: r) none else tst f ev m (cmE f ev i).2 (o, a, 0) r (some (flB nn (cmE f ev i).1)) := rfl
theorem tst_s {f : Nat → Nat} {ev : Nat → Int32} {m i nn : Nat} {o a : Option Bool} {r : List Lv} {v : Bool} : tst f ev (m + 1) i (o, a, nn) r (some v) = if f i = 17 then tst f ev m (i + 1) (o, some (a.getD true && v), 0) r none else if f i = 18 then tst f ev m (i + 1) (some (o.getD false || (a.getD true && v)), none, 0) r none else if f i = 16 then (match r with
      | [] => (false, i)
      | (o2, a2, n2) :: r2 => tst f ev m (i + 1) (o2, a2, 0) r2 (some (flB n2 (o.getD false || (a.getD true && v))))) else ((o.getD false || (a.getD true && v)), i) := rfl
/-- after THEN there is no other -/
theorem th_one {f : Nat → Nat} {n i e : Nat} (h : okT f n) (h8 : au f i = some (8, 0, 0)) (hi : i ≤ e) (he : e < n) : ¬ f e = 20 := by
  have key : ∀ k, i + k ≤ n → ∃ st op dg, au f (i + k) = some (st, op, dg) ∧ (st = 8 ∨ st = 9 ∨ st = 3 ∨ st = 6 ∨ st = 10) := by
    intro k
    induction k with
    | zero => exact fun _ => ⟨8, 0, 0, h8, Or.inl rfl⟩
    | succ k ih =>
      intro hk
      obtain ⟨st, op, dg, a1, a2⟩ := ih (by omega)
      obtain ⟨r, b1, b2⟩ := okT_nx h (by omega) a1
      refine ⟨r.1, r.2, _, b2, ?_⟩
      unfold nxs at b1
      repeat' split at b1
      all_goals first | omega | (cases b1; done) | (have z := Option.some.inj b1; subst z; dsimp only; omega)
  obtain ⟨st, op, dg, a1, a2⟩ := key (e - i) (by omega)
  rw [show i + (e - i) = e by omega] at a1
  obtain ⟨r, b1, b2⟩ := okT_nx h he a1
  intro q
  rw [q] at b1
  unfold nxs at b1
  repeat' split at b1
  all_goals first | omega | (cases b1; done)
theorem hs_T {f : Nat → Nat} {ev : Nat → Int32} {n e : Nat} (h : okT f n) (he : e < n) (h20 : f e = 20) : ∀ (m N i op dg : Nat) (o a : Option Bool) (nn : Nat) (r : List Lv) (c : B3) (r' : List B3) (q : Bool) (w : Option Bool), Rlv c r' r → r.length = op → 41 ≤ i + m → e ≤ i + N → i ≤ e → c.1 = o.getD false →
    (w = none → au f i = some (0, op, dg) ∧ c.2.1 = a.getD true ∧ q = par nn) → (∀ v, w = some v → (∃ st, (st = 5 ∨ st = 7) ∧ au f i = some (st, op, dg) ∧ ¬ (f i < 10 ∧ 0 < dg) ∧ (st = 5 → ¬ f i = 10 ∧ ¬ f i = 11)) ∧ c.2.1 = (a.getD true && v) ∧ q = false) → hsC f ev e N i c r' q = (tst f ev m i (o, a, nn) r w).1
  | 0, N, i, op, dg, o, a, nn, r, c, r', q, w, _, _, hm, _, hi, _, _, _ => by
    have := h.1
    omega
  | m + 1, N, i, op, dg, o, a, nn, r, c, r', q, none, hR, hop, hm, hN, hi, hc, h0, _ => by
    have h40 := h.1
    have hln := Rlv_len hR
    obtain ⟨h1, h2, h3⟩ := h0 rfl
    obtain ⟨r0, b1, b2⟩ := okT_nx h (by omega) h1
    have hx : (f i = 19 ∧ r0 = (0, op)) ∨ (f i = 15 ∧ op < 8 ∧ r0 = (0, op + 1)) ∨ isU (f i) := by
      unfold nxs at b1
      rw [if_pos rfl] at b1
      by_cases z : f i = 19
      · rw [if_pos z] at b1
        exact Or.inl ⟨z, (Option.some.inj b1).symm⟩
      · rw [if_neg z] at b1
        by_cases z2 : f i = 15 ∧ op < 8
        · rw [if_pos z2] at b1
          exact Or.inr (Or.inl ⟨z2.1, z2.2, (Option.some.inj b1).symm⟩)
        · rw [if_neg z2] at b1
          by_cases z3 : isU (f i)
          · exact Or.inr (Or.inr z3)
          · rw [if_neg z3] at b1
            cases b1
    have hie : i < e := by
      rcases Nat.lt_or_ge i e with z | z
      · exact z
      · have z2 : i = e := by omega
        rw [z2, h20] at hx
        rcases hx with y | y | y
        · omega
        · omega
        · rcases y with y | y <;> omega
    obtain ⟨N, rfl⟩ : ∃ N', N = N' + 1 := ⟨N - 1, by omega⟩
    rw [hsC_S, tst_n, if_neg (by omega)]
    rcases hx with ⟨y, er⟩ | ⟨y, y8, er⟩ | y
    · rw [if_pos y, if_pos y]
      rw [er, if_neg (by omega)] at b2
      exact hs_T h he h20 m N (i + 1) op 0 o a (nn + 1) r c r' _ none hR hop (by omega) (by omega) (by omega) hc (fun _ => ⟨b2, h2, by rw [h3, par_S]⟩) (fun v z => by cases z)
    · rw [if_neg (by omega), if_pos ⟨y, by omega⟩, if_neg (by omega), if_pos y]
      rw [er, if_neg (by omega)] at b2
      exact hs_T h he h20 m N (i + 1) (op + 1) 0 none none 0 ((o, a, nn) :: r) (false, true, q) (c :: r') false none ⟨h3, hc, h2, hR⟩ (by show r.length + 1 = _; omega) (by omega) (by omega) (by omega) rfl (fun _ => ⟨b2, rfl, rfl⟩) (fun v z => by cases z)
    · obtain ⟨dg', a1, a2, a3, a4, a5, a6, -⟩ := cm_au (ev := ev) h h1 (by omega) y
      obtain ⟨g1, g2⟩ := cmC_E (ev := ev) h he h20 h1 hie y
      have y2 : f i < 10 ∨ (21 ≤ f i ∧ f i ≤ 27) := y
      rw [if_neg (by omega), if_neg (by omega), if_neg (by omega), if_neg (by omega), if_neg (by omega), if_neg (by omega), if_neg (by omega), g1]
      exact hs_T h he h20 m N (cmE f ev i).2 op dg' o a 0 r _ r' false (some _) (Rlv_c hR rfl) hop (by omega) (by omega) g2 hc (fun z => by cases z) (fun v z => by
        cases z
        exact ⟨⟨5, Or.inl rfl, a1, a4, fun _ => ⟨a5, a6⟩⟩, by rw [flB_par, ← h3, ← h2], rfl⟩)
  | m + 1, N, i, op, dg, o, a, nn, r, c, r', q, some v, hR, hop, hm, hN, hi, hc, _, h1 => by
    have h40 := h.1
    have hln := Rlv_len hR
    obtain ⟨⟨st, hst, h2, h3, h4⟩, h5, h6⟩ := h1 v rfl
    obtain ⟨r0, b1, b2⟩ := okT_nx h (by omega) h2
    have hb : beh op (f i) = some r0 := by
      unfold nxs at b1
      rcases hst with z | z
      · subst z
        obtain ⟨z1, z2⟩ := h4 rfl
        rw [if_neg (by omega), if_neg (by omega), if_pos (by omega), if_neg h3, if_neg (by omega), if_neg (by omega), if_pos rfl] at b1
        exact b1
      · subst z
        rw [if_neg (by omega), if_neg (by omega), if_neg (by omega), if_pos rfl] at b1
        exact b1
    have hx : ((f i = 17 ∨ f i = 18) ∧ r0 = (0, op)) ∨ (f i = 16 ∧ 0 < op ∧ r0 = (7, op - 1)) ∨ (f i = 20 ∧ op = 0 ∧ r0 = (8, op)) := by
      unfold beh at hb
      by_cases z : f i = 17 ∨ f i = 18
      · rw [if_pos z] at hb
        exact Or.inl ⟨z, (Option.some.inj hb).symm⟩
      · rw [if_neg z] at hb
        by_cases z2 : f i = 16 ∧ 0 < op
        · rw [if_pos z2] at hb
          exact Or.inr (Or.inl ⟨z2.1, z2.2, (Option.some.inj hb).symm⟩)
        · rw [if_neg z2] at hb
          by_cases z3 : f i = 20 ∧ op = 0
          · rw [if_pos z3] at hb
            exact Or.inr (Or.inr ⟨z3.1, z3.2, (Option.some.inj hb).symm⟩)
          · rw [if_neg z3] at hb
            cases hb
    rcases Nat.lt_or_ge i e with hie | hie
    · obtain ⟨N, rfl⟩ : ∃ N', N = N' + 1 := ⟨N - 1, by omega⟩
      rw [hsC_S, tst_s, if_neg (by omega)]
      rcases hx with ⟨y, er⟩ | ⟨y, y8, er⟩ | ⟨y, y8, er⟩
      · rw [er, if_neg (by omega)] at b2
        by_cases y7 : f i = 17
        · rw [if_neg (by omega), if_neg (by omega), if_neg (by omega), if_neg (by omega), if_pos y7, if_pos y7]
          exact hs_T h he h20 m N (i + 1) op 0 o (some (a.getD true && v)) 0 r c r' q none hR hop (by omega) (by omega) (by omega) hc (fun _ => ⟨b2, h5, h6⟩) (fun v z => by cases z)
        · have y9 : f i = 18 := by omega
          rw [if_neg (by omega), if_neg (by omega), if_neg (by omega), if_pos y9, if_neg y7, if_pos y9]
          exact hs_T h he h20 m N (i + 1) op 0 (some (o.getD false || (a.getD true && v))) none 0 r (c.1 || c.2.1, true, c.2.2) r' q none (Rlv_c hR rfl) hop (by omega) (by omega) (by omega) (by show (c.1 || c.2.1) = _; rw [hc, h5]; rfl) (fun _ => ⟨b2, rfl, h6⟩) (fun v z => by cases z)
      · rw [er, if_neg (by omega)] at b2
        cases r with
        | nil => exact absurd hop (by show ¬ 0 = op; omega)
        | cons L r2 => cases r' with
          | nil => exact hR.elim
          | cons x r2' =>
            obtain ⟨o2, a2, n2⟩ := L
            rw [if_neg (by omega), if_neg (by omega), if_pos ⟨y, Nat.succ_pos _⟩, if_neg (by omega), if_neg (by omega), if_pos y]
            exact hs_T h he h20 m N (i + 1) (op - 1) 0 o2 a2 0 r2 (x.1, x.2.1 && ((c.1 || c.2.1) != c.2.2), x.2.2) r2' q (some _) (Rlv_c hR.2.2.2 rfl) (by have : r2.length + 1 = op := hop; omega) (by omega) (by omega) (by omega) hR.2.1 (fun z => by cases z) (fun v z => by
              cases z
              refine ⟨⟨7, Or.inr rfl, b2, by omega, fun z => by omega⟩, ?_, h6⟩
              show (x.2.1 && ((c.1 || c.2.1) != c.2.2)) = _
              rw [flB_par, hR.2.2.1, hc, h5, hR.1])
      · rw [er, y8, if_neg (by omega)] at b2
        exact absurd h20 (th_one h b2 hie he)
    · have ie : i = e := by omega
      subst ie
      have op0 : op = 0 := by omega
      have hr0 : r' = [] := List.eq_nil_of_length_eq_zero (by omega)
      subst hr0
      have e1 : hsC f ev i N i c [] q = botV c [] := by
        cases N with
        | zero => rfl
        | succ N => rw [hsC_S, if_pos (Nat.le_refl _)]
      rw [e1, tst_s, if_neg (by omega), if_neg (by omega), if_neg (by omega)]
      show (c.1 || c.2.1) = _
      rw [hc, h5]
/-- the whole test -/
theorem hsV_T {f : Nat → Nat} {ev : Nat → Int32} {n e : Nat} (h : okT f n) (he : e < n) (h20 : f e = 20) : hsV f ev e = (tst f ev 41 0 (none, none, 0) [] none).1 := by
  have h40 := h.1
  exact hs_T h he h20 41 40 0 0 0 none none 0 [] (false, true, false) [] false none trivial rfl (by omega) (by omega) (by omega) rfl (fun _ => ⟨rfl, rfl, rfl⟩) (fun v z => by cases z)
