/-! The phases of a minute, on the model's state. -/
def RT (t : Sg) : Prop := ∀ r, r < nR t → Is (t 76 false 0 r) 1439 ∧ (∃ p, p < nP t ∧ t 77 false 0 r = nI p) ∧ (∃ q, q < nP t ∧ t 78 false 0 r = nI q) ∧ ∃ k, k < 4 ∧ t 79 false 0 r = nI k
theorem ridA_WI {t : Sg} {D : Dy} {r b p : Nat} (hT : WN t) (h : WI t D) (hr : r < nR t) (hb : b < nB t) (hp : p < nP t) (h2 : D 16 r = nI 2) (h17 : D 17 r = nI b) : WI t (ridA t D r b p) := by
  have hB := hT.B
  have hJ1 : JI t (up2 D 16 r (nI 3)) := JI_rider (r := r) (s := 3) h.2 (by omega) (by omega) (up2_s _ _ _ _) (fun c hc => up2_n (by omega)) (fun g i h => up2_n (by omega))
  unfold ridA
  refine ⟨VI_of h.1 (fun g i h => by repeat (first | rw [up2_n (by omega)] | rw [lgs_o (by omega) (by omega)])) (lgs_7 (by rw [up2_n (by omega), up2_n (by omega), up2_n (by omega), up2_n (by omega), up2_n (by omega), up2_n (by omega), up2_n (by omega)]; exact h.1.2.1) _ _ _ _), ?_⟩
  refine JI_bike (b := b) (s := 0) (p := p) hJ1 ?_ ?_ (by omega) hp ?_ ?_ (fun c hc => ⟨?_, ?_⟩) (fun g i h => ?_)
  · intro c hc h16 q
    by_cases e : c = r
    · subst e
      rw [up2_s] at h16
      exact absurd h16 (by decide)
    · rw [up2_n (by omega)] at h16 q
      exact e (h.2.2.2.1 c r hc hr h16 h2 (q.trans h17.symm))
  · intro i hi q
    rw [up2_n (by omega)] at hi q
    obtain ⟨x, y, hx, hy, a1, a2, -⟩ := (h.2.2.1 r hr).2 h2
    have e : x = b := nI_inj (a1.symm.trans h17) (by omega) (by omega)
    subst e
    exact h.2.nk hT hb (by rw [a2]; decide) i hi q
  · repeat (first | rw [up2_n (by omega)] | rw [lgs_o (by omega) (by omega)])
    rw [up2_s]
  · repeat (first | rw [up2_n (by omega)] | rw [lgs_o (by omega) (by omega)])
    rw [up2_s]
  · repeat (first | rw [up2_n (by omega)] | rw [lgs_o (by omega) (by omega)])
  · repeat (first | rw [up2_n (by omega)] | rw [lgs_o (by omega) (by omega)])
  · by_cases e : g = 16 ∧ i = r
    · obtain ⟨rfl, rfl⟩ := e
      rw [lgs_o (by omega) (by omega), up2_n (by omega), up2_n (by omega), up2_s, up2_s]
    · repeat (first | rw [up2_n (by omega)] | rw [lgs_o (by omega) (by omega)])
theorem ridB_WI {t : Sg} {D : Dy} {r b p : Nat} (hT : WN t) (h : WI t D) (hr : r < nR t) (hb : b < nB t) (h2 : D 16 r = nI 2) (h17 : D 17 r = nI b) : WI t (ridB t D r b p) := by
  have hB := hT.B
  unfold ridB
  cases hn : nrs t D p (nP t) with
  | none =>
    show WI t (up2 D 22 r (D 0 0 + nI 1))
    exact ⟨VI_of h.1 (fun g i h => by repeat (first | rw [up2_n (by omega)] | rw [lgs_o (by omega) (by omega)])) (by rw [up2_n (by omega)]; exact h.1.2.1), JI_same h.2 (fun g i h => by repeat (first | rw [up2_n (by omega)] | rw [lgs_o (by omega) (by omega)]))⟩
  | some q =>
    have hq := (nrs_lt t D p (nP t) q hn).1
    show WI t (up2 (up2 (up2 D 22 r (D 0 0 + way t p q)) 23 r (nI q)) 12 b (nI q))
    refine ⟨VI_of h.1 (fun g i h => by repeat (first | rw [up2_n (by omega)] | rw [lgs_o (by omega) (by omega)])) (by rw [up2_n (by omega), up2_n (by omega), up2_n (by omega)]; exact h.1.2.1), ?_⟩
    obtain ⟨x, y, hx, hy, a1, a2, -⟩ := (h.2.2.1 r hr).2 h2
    have e : x = b := nI_inj (a1.symm.trans h17) (by omega) (by omega)
    subst e
    refine JI_go (r := r) (b := x) (q := q) hT h.2 hb hq ?_ (h.2.nk hT hb (by rw [a2]; decide)) ?_ ?_ ?_ ?_ (up2_s _ _ _ _) (fun c hc => ⟨?_, ?_, ?_⟩) (fun c hc => ⟨?_, ?_⟩) (fun g i h => by repeat (first | rw [up2_n (by omega)] | rw [lgs_o (by omega) (by omega)]))
    · intro c hc e h16 q
      exact e (h.2.2.2.1 c r hc hr h16 h2 (q.trans h17.symm))
    · repeat (first | rw [up2_n (by omega)] | rw [lgs_o (by omega) (by omega)])
      exact h2
    · repeat (first | rw [up2_n (by omega)] | rw [lgs_o (by omega) (by omega)])
      exact h17
    · rw [up2_n (by omega), up2_s]
    · repeat (first | rw [up2_n (by omega)] | rw [lgs_o (by omega) (by omega)])
      exact a2
    · repeat (first | rw [up2_n (by omega)] | rw [lgs_o (by omega) (by omega)])
    · repeat (first | rw [up2_n (by omega)] | rw [lgs_o (by omega) (by omega)])
    · repeat (first | rw [up2_n (by omega)] | rw [lgs_o (by omega) (by omega)])
    · repeat (first | rw [up2_n (by omega)] | rw [lgs_o (by omega) (by omega)])
    · repeat (first | rw [up2_n (by omega)] | rw [lgs_o (by omega) (by omega)])
theorem rid_WI {t : Sg} {D : Dy} {r b p : Nat} (hT : WN t) (h : WI t D) (hr : r < nR t) (hb : b < nB t) (hp : p < nP t) (h2 : D 16 r = nI 2) (h17 : D 17 r = nI b) : WI t (rid t D r b p) := by
  unfold rid
  split
  · exact ridA_WI hT h hr hb hp h2 h17
  · exact ridB_WI hT h hr hb h2 h17
theorem ridB_o {t : Sg} {D : Dy} {r b p g i : Nat} (e : ¬ g = 22 ∧ ¬ g = 23 ∧ ¬ g = 12) : ridB t D r b p g i = D g i := by
  unfold ridB
  cases nrs t D p (nP t) with
  | none => exact up2_n (by omega)
  | some q =>
    show up2 (up2 (up2 D 22 r (D 0 0 + way t p q)) 23 r (nI q)) 12 b (nI q) g i = _
    repeat (first | rw [up2_n (by omega)] | rw [lgs_o (by omega) (by omega)])
theorem rid_o {t : Sg} {D : Dy} {r b p g i : Nat} (e : ¬ g = 22 ∧ ¬ g = 23 ∧ ¬ g = 12 ∧ ¬ g = 27 ∧ ¬ (g = 0 ∧ i = 7) ∧ ¬ g = 11 ∧ ¬ g = 13 ∧ ¬ g = 14 ∧ ¬ g = 16 ∧ ¬ g = 19 ∧ ¬ g = 20) : rid t D r b p g i = D g i := by
  unfold rid
  split
  · unfold ridA
    repeat (first | rw [up2_n (by omega)] | rw [lgs_o (by omega) (by omega)])
  · exact ridB_o (by omega)
theorem rid_r {t : Sg} {D : Dy} {r b p c : Nat} (e : ¬ c = r) (g : Nat) (hg : 16 ≤ g ∧ g ≤ 23) : rid t D r b p g c = D g c := by
  unfold rid
  split
  · unfold ridA
    repeat (first | rw [up2_n (by omega)] | rw [lgs_o (by omega) (by omega)])
  · unfold ridB
    cases nrs t D p (nP t) with
    | none => exact up2_n (by omega)
    | some q =>
      show up2 (up2 (up2 D 22 r (D 0 0 + way t p q)) 23 r (nI q)) 12 b (nI q) g c = _
      repeat (first | rw [up2_n (by omega)] | rw [lgs_o (by omega) (by omega)])
theorem los_WI {t : Sg} {D : Dy} {r p s : Nat} (hs : s = 4 ∨ s = 5) (h : WI t D) : WI t (los D r p (nI s)) := by
  unfold los
  refine ⟨VI_of h.1 (fun g i h => by repeat (first | rw [up2_n (by omega)] | rw [lgs_o (by omega) (by omega)])) (lgs_7 (by repeat (first | rw [up2_n (by omega)] | rw [lgs_o (by omega) (by omega)]); exact h.1.2.1) _ _ _ _), ?_⟩
  refine JI_rider (r := r) (s := s) h.2 (by omega) (by omega) ?_ (fun c hc => ?_) (fun g i h => by repeat (first | rw [up2_n (by omega)] | rw [lgs_o (by omega) (by omega)]))
  · repeat (first | rw [up2_n (by omega)] | rw [lgs_o (by omega) (by omega)])
    rw [up2_s]
  · repeat (first | rw [up2_n (by omega)] | rw [lgs_o (by omega) (by omega)])
theorem los_o {D : Dy} {r p g i : Nat} {s : Int32} (e : ¬ g = 4 ∧ ¬ g = 8 ∧ ¬ g = 27 ∧ ¬ (g = 0 ∧ i = 7) ∧ ¬ (g = 16 ∧ i = r)) : los D r p s g i = D g i := by
  unfold los
  repeat (first | rw [up2_n (by omega)] | rw [lgs_o (by omega) (by omega)])
theorem tak_WI {t : Sg} {D : Dy} {r p q b : Nat} (hT : WN t) (h : WI t D) (hq : q < nP t) (hpk : pik D p (nB t) = some b) : WI t (tak t D r p q b) := by
  have hB := hT.B
  obtain ⟨b1, b2, b3, -⟩ := pik_at hpk
  unfold tak
  refine ⟨VI_of h.1 (fun g i h => by repeat (first | rw [up2_n (by omega)] | rw [lgs_o (by omega) (by omega)])) (lgs_7 (by repeat (first | rw [up2_n (by omega)] | rw [lgs_o (by omega) (by omega)]); exact h.1.2.1) _ _ _ _), ?_⟩
  refine JI_go (r := r) (b := b) (q := q) hT h.2 b1 hq (fun c hc e h2 => h.2.nr hT b1 (by rw [b2]; decide) c hc h2) (h.2.nk hT b1 (by rw [b2]; decide)) ?_ ?_ ?_ ?_ ?_ (fun c hc => ⟨?_, ?_, ?_⟩) (fun c hc => ⟨?_, ?_⟩) (fun g i h => by repeat (first | rw [up2_n (by omega)] | rw [lgs_o (by omega) (by omega)]))
  · repeat (first | rw [up2_n (by omega)] | rw [lgs_o (by omega) (by omega)])
    rw [up2_s]
  · repeat (first | rw [up2_n (by omega)] | rw [lgs_o (by omega) (by omega)])
    rw [up2_s]
  · repeat (first | rw [up2_n (by omega)] | rw [lgs_o (by omega) (by omega)])
    rw [up2_s]
  · repeat (first | rw [up2_n (by omega)] | rw [lgs_o (by omega) (by omega)])
    rw [up2_s]
  · repeat (first | rw [up2_n (by omega)] | rw [lgs_o (by omega) (by omega)])
    rw [up2_s]
  · repeat (first | rw [up2_n (by omega)] | rw [lgs_o (by omega) (by omega)])
  · repeat (first | rw [up2_n (by omega)] | rw [lgs_o (by omega) (by omega)])
  · repeat (first | rw [up2_n (by omega)] | rw [lgs_o (by omega) (by omega)])
  · repeat (first | rw [up2_n (by omega)] | rw [lgs_o (by omega) (by omega)])
  · repeat (first | rw [up2_n (by omega)] | rw [lgs_o (by omega) (by omega)])
theorem tak_o {t : Sg} {D : Dy} {r p q b g i : Nat} (e : ¬ (16 ≤ g ∧ g ≤ 23 ∧ i = r) ∧ ¬ (g = 0 ∧ (i = 1 ∨ i = 7)) ∧ ¬ g = 11 ∧ ¬ g = 12 ∧ ¬ g = 3 ∧ ¬ g = 6 ∧ ¬ g = 7 ∧ ¬ g = 27) : tak t D r p q b g i = D g i := by
  unfold tak
  repeat (first | rw [up2_n (by omega)] | rw [lgs_o (by omega) (by omega)])
theorem up16_WI {t : Sg} {D : Dy} {r : Nat} (h : WI t D) : WI t (up2 D 16 r (nI 1)) := ⟨VI_of h.1 (fun g i h => by repeat (first | rw [up2_n (by omega)] | rw [lgs_o (by omega) (by omega)])) (by rw [up2_n (by omega)]; exact h.1.2.1), JI_rider (r := r) (s := 1) h.2 (by omega) (by omega) (up2_s _ _ _ _) (fun c hc => up2_n (by omega)) (fun g i h => by repeat (first | rw [up2_n (by omega)] | rw [lgs_o (by omega) (by omega)]))⟩
theorem cms_WI {t : Sg} {D : Dy} {r p q k : Nat} (hT : WN t) (h : WI t D) (hq : q < nP t) : WI t (cms t D r p q k) := by
  unfold cms
  split
  · split
    · exact los_WI (Or.inl rfl) h
    · split
      · exact los_WI (Or.inr rfl) h
      · exact h
  · cases hpk : pik D p (nB t) with
    | none =>
      show WI t (if _ then _ else _)
      split
      · exact los_WI (Or.inr rfl) (up16_WI h)
      · exact up16_WI h
    | some b => exact tak_WI hT h hq hpk
theorem cms_o {t : Sg} {D : Dy} {r p q k g i : Nat} (e : ¬ (16 ≤ g ∧ g ≤ 23 ∧ i = r) ∧ ¬ (g = 0 ∧ (i = 1 ∨ i = 7)) ∧ ¬ g = 11 ∧ ¬ g = 12 ∧ ¬ g = 3 ∧ ¬ g = 4 ∧ ¬ g = 6 ∧ ¬ g = 7 ∧ ¬ g = 8 ∧ ¬ g = 27) : cms t D r p q k g i = D g i := by
  unfold cms
  split
  · split
    · exact los_o (by omega)
    · split
      · exact los_o (by omega)
      · rfl
  · cases hpk : pik D p (nB t) with
    | none =>
      show (if _ then _ else _ : Dy) g i = _
      split
      · rw [los_o (by omega), up2_n (by omega)]
      · exact up2_n (by omega)
    | some b => exact tak_o (by omega)
def mnd (t : Sg) (b : Nat) (D : Dy) : Dy := if D 11 b = nI 3 ∧ D 15 b ≤ D 0 0 ∧ nI 0 < fre t D (nN (D 12 b)) then lgs (up2 (up2 (up2 D 11 b (nI 0)) 13 b (nI 0)) 14 b (nI 0)) (nI 8) (D 12 b) (-1) (nI b) else D
theorem mnd_WI {t : Sg} {D : Dy} {b : Nat} (hT : WN t) (h : WI t D) (hb : b < nB t) : WI t (mnd t b D) := by
  unfold mnd
  split
  next hc =>
    obtain ⟨p, hp, e⟩ := (h.2.1 b hb).2
    refine ⟨VI_of h.1 (fun g i h => by repeat (first | rw [up2_n (by omega)] | rw [lgs_o (by omega) (by omega)])) (lgs_7 (by repeat (first | rw [up2_n (by omega)] | rw [lgs_o (by omega) (by omega)]); exact h.1.2.1) _ _ _ _), ?_⟩
    refine JI_bike (b := b) (s := 0) (p := p) h.2 (h.2.nr hT hb (by rw [hc.1]; decide)) (h.2.nk hT hb (by rw [hc.1]; decide)) (by omega) hp ?_ ?_ (fun c hc => ⟨?_, ?_⟩) (fun g i h => by repeat (first | rw [up2_n (by omega)] | rw [lgs_o (by omega) (by omega)]))
    · repeat (first | rw [up2_n (by omega)] | rw [lgs_o (by omega) (by omega)])
      rw [up2_s]
    · repeat (first | rw [up2_n (by omega)] | rw [lgs_o (by omega) (by omega)])
      exact e
    · repeat (first | rw [up2_n (by omega)] | rw [lgs_o (by omega) (by omega)])
    · repeat (first | rw [up2_n (by omega)] | rw [lgs_o (by omega) (by omega)])
  next => exact h
theorem mnd_o {t : Sg} {D : Dy} {b g i : Nat} (e : ¬ g = 11 ∧ ¬ g = 13 ∧ ¬ g = 14 ∧ ¬ g = 27 ∧ ¬ (g = 0 ∧ i = 7)) : mnd t b D g i = D g i := by
  unfold mnd
  split
  · repeat (first | rw [up2_n (by omega)] | rw [lgs_o (by omega) (by omega)])
  · rfl
/-- to the shop -/
def fix (t : Sg) (D : Dy) (p b : Nat) : Dy := lgs (up2 (up2 D 11 b (nI 3)) 15 b (D 0 0 + t 69 false 0 16)) (nI 7) (nI p) (-1) (nI b)
theorem fix_WI {t : Sg} {D : Dy} {p b : Nat} (hT : WN t) (h : WI t D) (hb : b < nB t) (h0 : D 11 b = nI 0) : WI t (fix t D p b) := by
  unfold fix
  obtain ⟨q, hq, e⟩ := (h.2.1 b hb).2
  refine ⟨VI_of h.1 (fun g i h => by repeat (first | rw [up2_n (by omega)] | rw [lgs_o (by omega) (by omega)])) (lgs_7 (by repeat (first | rw [up2_n (by omega)] | rw [lgs_o (by omega) (by omega)]); exact h.1.2.1) _ _ _ _), ?_⟩
  refine JI_bike (b := b) (s := 3) (p := q) h.2 (h.2.nr hT hb (by rw [h0]; decide)) (h.2.nk hT hb (by rw [h0]; decide)) (by omega) hq ?_ ?_ (fun c hc => ⟨?_, ?_⟩) (fun g i h => by repeat (first | rw [up2_n (by omega)] | rw [lgs_o (by omega) (by omega)]))
  · repeat (first | rw [up2_n (by omega)] | rw [lgs_o (by omega) (by omega)])
    rw [up2_s]
  · repeat (first | rw [up2_n (by omega)] | rw [lgs_o (by omega) (by omega)])
    exact e
  · repeat (first | rw [up2_n (by omega)] | rw [lgs_o (by omega) (by omega)])
  · repeat (first | rw [up2_n (by omega)] | rw [lgs_o (by omega) (by omega)])
theorem fix_o {t : Sg} {D : Dy} {p b g i : Nat} (e : ¬ g = 11 ∧ ¬ g = 15 ∧ ¬ g = 27 ∧ ¬ (g = 0 ∧ i = 7)) : fix t D p b g i = D g i := by
  unfold fix
  repeat (first | rw [up2_n (by omega)] | rw [lgs_o (by omega) (by omega)])
/-- the van's list keeps to what it takes -/
def nOk (w : Nat) (b : Int32) : Prop := w = 5 → ∃ m, m ≤ 12 ∧ (b = nI m ∨ b = -(nI m))
theorem dos_WI {t : Sg} {D : Dy} {w a : Nat} {b : Int32} (hT : WN t) (h : WI t D) (hk : hOk t w a b) (hn : nOk w b) (hc : canB t D w a b) : WI t (dos D w a b) := by
  have hP := hT.P
  have hB := hT.B
  match w with
  | 0 =>
    show WI t (up2 D 1 a b)
    exact ⟨VI_of h.1 (fun g i h => by repeat (first | rw [up2_n (by omega)] | rw [lgs_o (by omega) (by omega)])) (by rw [up2_n (by omega)]; exact h.1.2.1), JI_same h.2 (fun g i h => by repeat (first | rw [up2_n (by omega)] | rw [lgs_o (by omega) (by omega)]))⟩
  | 1 =>
    show WI t (lgs (up2 D 2 a b) (if b = nI 1 then nI 12 else nI 11) (nI a) (-1) (-1))
    exact ⟨VI_of h.1 (fun g i h => by repeat (first | rw [up2_n (by omega)] | rw [lgs_o (by omega) (by omega)])) (lgs_7 (by repeat (first | rw [up2_n (by omega)] | rw [lgs_o (by omega) (by omega)]); exact h.1.2.1) _ _ _ _), JI_same h.2 (fun g i h => by repeat (first | rw [up2_n (by omega)] | rw [lgs_o (by omega) (by omega)]))⟩
  | 2 =>
    show WI t (up2 D 14 a (nI 1))
    exact ⟨VI_of h.1 (fun g i h => by repeat (first | rw [up2_n (by omega)] | rw [lgs_o (by omega) (by omega)])) (by rw [up2_n (by omega)]; exact h.1.2.1), JI_same h.2 (fun g i h => by repeat (first | rw [up2_n (by omega)] | rw [lgs_o (by omega) (by omega)]))⟩
  | 3 =>
    have hb : a < nB t := hk
    have h0 : D 11 a = nI 0 := hc
    obtain ⟨q, hq, e⟩ := (h.2.1 a hb).2
    show WI t (lgs (up2 D 11 a (nI 4)) (nI 9) (D 12 a) (-1) (nI a))
    refine ⟨VI_of h.1 (fun g i h => by repeat (first | rw [up2_n (by omega)] | rw [lgs_o (by omega) (by omega)])) (lgs_7 (by repeat (first | rw [up2_n (by omega)] | rw [lgs_o (by omega) (by omega)]); exact h.1.2.1) _ _ _ _), ?_⟩
    refine JI_bike (b := a) (s := 4) (p := q) h.2 (h.2.nr hT hb (by rw [h0]; decide)) (h.2.nk hT hb (by rw [h0]; decide)) (by omega) hq ?_ ?_ (fun c hc => ⟨?_, ?_⟩) (fun g i h => by repeat (first | rw [up2_n (by omega)] | rw [lgs_o (by omega) (by omega)]))
    · show lgs _ _ _ _ _ 11 a = _
      repeat (first | rw [up2_n (by omega)] | rw [lgs_o (by omega) (by omega)])
      rw [up2_s]
    · show lgs _ _ _ _ _ 12 a = _
      repeat (first | rw [up2_n (by omega)] | rw [lgs_o (by omega) (by omega)])
      exact e
    · show lgs _ _ _ _ _ 11 c = _
      repeat (first | rw [up2_n (by omega)] | rw [lgs_o (by omega) (by omega)])
    · show lgs _ _ _ _ _ 12 c = _
      repeat (first | rw [up2_n (by omega)] | rw [lgs_o (by omega) (by omega)])
  | 4 =>
    have hb : a < nB t := hk.1
    obtain ⟨q, rfl, hq⟩ := hk.2
    have h0 : D 11 a = nI 4 := hc.1
    show WI t (lgs (up2 (up2 D 11 a (nI 0)) 12 a (nI q)) (nI 10) (nI q) (-1) (nI a))
    refine ⟨VI_of h.1 (fun g i h => by repeat (first | rw [up2_n (by omega)] | rw [lgs_o (by omega) (by omega)])) (lgs_7 (by repeat (first | rw [up2_n (by omega)] | rw [lgs_o (by omega) (by omega)]); exact h.1.2.1) _ _ _ _), ?_⟩
    refine JI_bike (b := a) (s := 0) (p := q) h.2 (h.2.nr hT hb (by rw [h0]; decide)) (h.2.nk hT hb (by rw [h0]; decide)) (by omega) hq ?_ ?_ (fun c hc => ⟨?_, ?_⟩) (fun g i h => by repeat (first | rw [up2_n (by omega)] | rw [lgs_o (by omega) (by omega)]))
    · show lgs _ _ _ _ _ 11 a = _
      repeat (first | rw [up2_n (by omega)] | rw [lgs_o (by omega) (by omega)])
      rw [up2_s]
    · show lgs _ _ _ _ _ 12 a = _
      repeat (first | rw [up2_n (by omega)] | rw [lgs_o (by omega) (by omega)])
      rw [up2_s]
    · show lgs _ _ _ _ _ 11 c = _
      repeat (first | rw [up2_n (by omega)] | rw [lgs_o (by omega) (by omega)])
    · show lgs _ _ _ _ _ 12 c = _
      repeat (first | rw [up2_n (by omega)] | rw [lgs_o (by omega) (by omega)])
  | 5 =>
    have hp : a < nP t := hk
    have h6 : nN (D 0 6) < 20 := hc
    show WI t (up2 (up2 (up2 D 25 (nN (D 0 6)) (nI a)) 26 (nN (D 0 6)) b) 0 6 (nI (nN (D 0 6) + 1)))
    refine ⟨?_, JI_same h.2 (fun g i h => by repeat (first | rw [up2_n (by omega)] | rw [lgs_o (by omega) (by omega)]))⟩
    obtain ⟨v3, v7, v6, hS, hC, hv⟩ := h.1
    refine ⟨by repeat (first | rw [up2_n (by omega)] | rw [lgs_o (by omega) (by omega)]); exact v3, by repeat (first | rw [up2_n (by omega)] | rw [lgs_o (by omega) (by omega)]); exact v7, by rw [up2_s]; exact Is_of (by omega) (by omega), ?_, ?_, by repeat (first | rw [up2_n (by omega)] | rw [lgs_o (by omega) (by omega)]); exact hv⟩
    · intro i hi
      rw [up2_s, nN_nI (by omega)] at hi
      rw [up2_n (f := 0) (g := 25) (by omega), up2_n (f := 26) (g := 25) (by omega), up2_n (f := 0) (g := 26) (by omega)]
      by_cases e : i = nN (D 0 6)
      · subst e
        rw [up2_s, up2_s]
        exact ⟨⟨a, hp, rfl⟩, hn rfl⟩
      · rw [up2_n (f := 25) (g := 25) (by omega), up2_n (f := 26) (g := 26) (by omega), up2_n (f := 25) (g := 26) (by omega)]
        exact hS i (by omega)
    · intro i hi
      rw [up2_n (by omega), up2_n (by omega), up2_n (by omega)] at hi ⊢
      exact hC i hi
  | w + 6 => exact absurd hk (fun q => q)
theorem dos_o {D : Dy} {w a : Nat} {b : Int32} {g i : Nat} (e : g = 0 ∧ (i = 0 ∨ i = 5)) : dos D w a b g i = D g i := by
  match w with
  | 0 => exact up2_n (by omega)
  | 1 =>
    show lgs _ _ _ _ _ g i = _
    repeat (first | rw [up2_n (by omega)] | rw [lgs_o (by omega) (by omega)])
  | 2 => exact up2_n (by omega)
  | 3 =>
    show lgs _ _ _ _ _ g i = _
    repeat (first | rw [up2_n (by omega)] | rw [lgs_o (by omega) (by omega)])
  | 4 =>
    show lgs _ _ _ _ _ g i = _
    repeat (first | rw [up2_n (by omega)] | rw [lgs_o (by omega) (by omega)])
  | w + 5 =>
    show up2 _ _ _ _ g i = _
    repeat (first | rw [up2_n (by omega)] | rw [lgs_o (by omega) (by omega)])
