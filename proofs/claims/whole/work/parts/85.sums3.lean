/-! What a post was counted is the sum over its hours. -/
theorem sI_cong {g g' : Nat → Int32} : ∀ n, (∀ y, y < n → g y = g' y) → sI g n = sI g' n
  | 0, _ => rfl
  | n + 1, e => by rw [sI_S, sI_S, sI_cong n (fun y hy => e y (by omega)), e n (by omega)]
theorem sI_inc {g g' : Nat → Int32} {h : Nat} {v : Int32} (e1 : g' h = g h + v) (e2 : ∀ y, ¬ y = h → g' y = g y) : ∀ n, sI g' n = if h < n then sI g n + v else sI g n
  | 0 => by rw [if_neg (Nat.not_lt_zero _)]; rfl
  | n + 1 => by
    rw [sI_S, sI_S, sI_inc e1 e2 n]
    by_cases q : n = h
    · subst q
      rw [if_neg (by omega), if_pos (by omega), e1, Int32.add_assoc]
    · rw [e2 n q]
      by_cases q2 : h < n
      · rw [if_pos q2, if_pos (by omega), Int32.add_assoc, Int32.add_assoc, Int32.add_comm v (g n)]
      · rw [if_neg q2, if_neg (by omega)]
theorem S3_of {D E : Dy} (h : S3 D) (e : ∀ g i, 3 ≤ g ∧ g ≤ 9 ∧ ¬ g = 6 → E g i = D g i) : S3 E := fun p hp => by
  rw [e 3 p (by omega), e 4 p (by omega), e 5 p (by omega)]
  have q := h p hp
  exact ⟨q.1.trans (sI_cong 24 (fun y _ => (e 7 _ (by omega)).symm)), q.2.1.trans (sI_cong 24 (fun y _ => (e 8 _ (by omega)).symm)), q.2.2.trans (sI_cong 24 (fun y _ => (e 9 _ (by omega)).symm))⟩
/-- one of the three sums -/
def PS (a b : Nat) (D : Dy) : Prop := ∀ p, p < 12 → D a p = sI (fun y => D b (24 * p + y)) 24
theorem S3_i {D : Dy} : S3 D ↔ PS 3 7 D ∧ PS 4 8 D ∧ PS 5 9 D := ⟨fun h => ⟨fun p hp => (h p hp).1, fun p hp => (h p hp).2.1, fun p hp => (h p hp).2.2⟩, fun h p hp => ⟨h.1 p hp, h.2.1 p hp, h.2.2 p hp⟩⟩
theorem PS_same {a b : Nat} {D E : Dy} (h : PS a b D) (e1 : ∀ i, E a i = D a i) (e2 : ∀ i, E b i = D b i) : PS a b E := fun p hp => by
  rw [e1]
  exact (h p hp).trans (sI_cong 24 (fun y _ => (e2 _).symm))
theorem PS_inc {a b : Nat} {D E : Dy} {p x : Nat} {v : Int32} (h : PS a b D) (hx : x < 24) (e1 : E a p = D a p + v) (e2 : ∀ i, ¬ i = p → E a i = D a i) (e3 : E b (24 * p + x) = D b (24 * p + x) + v) (e4 : ∀ i, ¬ i = 24 * p + x → E b i = D b i) : PS a b E := fun q hq => by
  by_cases e : q = p
  · subst e
    rw [e1, h q hq, sI_inc (g := fun y => D b (24 * q + y)) (g' := fun y => E b (24 * q + y)) (h := x) (v := v) e3 (fun y hy => e4 _ (by omega)) 24, if_pos hx]
  · rw [e2 q e]
    exact (h q hq).trans (sI_cong 24 (fun y hy => (e4 _ (by omega)).symm))
theorem los_S3 {D : Dy} {r p : Nat} {s : Int32} (h : S3 D) (hm : nN (D 0 0) < 1440) : S3 (los D r p s) := by
  obtain ⟨h1, h2, h3⟩ := S3_i.mp h
  refine S3_i.mpr ⟨PS_same h1 (fun i => los_o (by omega)) (fun i => los_o (by omega)), PS_inc (p := p) (x := nN (D 0 0) / 60) (v := nI 1) h2 (by omega) ?_ (fun i hi => ?_) ?_ (fun i hi => ?_), PS_same h3 (fun i => los_o (by omega)) (fun i => los_o (by omega))⟩
  · unfold los
    rw [lgs_o (by omega) (by omega), up2_n (by omega), up2_s]
  · unfold los
    rw [lgs_o (by omega) (by omega), up2_n (by omega), up2_n (by omega), up2_n (by omega)]
  · unfold los
    rw [lgs_o (by omega) (by omega), up2_s]
  · unfold los
    rw [lgs_o (by omega) (by omega), up2_n (by omega), up2_n (by omega), up2_n (by omega)]
theorem tak_S3 {t : Sg} {D : Dy} {r p q b : Nat} (h : S3 D) (hm : nN (D 0 0) < 1440) : S3 (tak t D r p q b) := by
  obtain ⟨h1, h2, h3⟩ := S3_i.mp h
  have f : ∀ g i, 4 ≤ g ∧ g ≤ 9 ∧ ¬ g = 6 ∧ ¬ g = 7 → tak t D r p q b g i = D g i := fun g i e => by
    unfold tak
    rw [lgs_o (by omega) (by omega)]
    repeat rw [up2_n (by omega)]
  refine S3_i.mpr ⟨PS_inc (p := p) (x := nN (D 0 0) / 60) (v := nI 1) h1 (by omega) ?_ (fun i hi => ?_) ?_ (fun i hi => ?_), PS_same h2 (fun i => f _ _ (by omega)) (fun i => f _ _ (by omega)), PS_same h3 (fun i => f _ _ (by omega)) (fun i => f _ _ (by omega))⟩
  · unfold tak
    rw [lgs_o (by omega) (by omega), up2_n (by omega), up2_n (by omega), up2_s]
  · unfold tak
    rw [lgs_o (by omega) (by omega)]
    repeat rw [up2_n (by omega)]
  · unfold tak
    rw [lgs_o (by omega) (by omega), up2_s]
  · unfold tak
    rw [lgs_o (by omega) (by omega)]
    repeat rw [up2_n (by omega)]
theorem ge_S3 {t : Sg} {D : Dy} {p : Nat} (h : S3 D) (hm : nN (D 0 0) < 1440) : S3 (ge t p D) := by
  obtain ⟨h1, h2, h3⟩ := S3_i.mp h
  refine S3_i.mpr ⟨PS_same h1 (fun i => ge_o (by omega)) (fun i => ge_o (by omega)), PS_same h2 (fun i => ge_o (by omega)) (fun i => ge_o (by omega)), PS_inc (p := p) (x := nN (D 0 0) / 60) (v := if gdn t D p = 0 then nI 1 else nI 0) h3 (by omega) ?_ (fun i hi => ?_) ?_ (fun i hi => ?_)⟩
  · unfold ge
    rw [up2_n (by omega), up2_n (by omega), up2_s]
  · unfold ge
    rw [up2_n (by omega), up2_n (by omega), up2_n (by omega)]
  · unfold ge
    rw [up2_n (by omega), up2_s]
  · unfold ge
    rw [up2_n (by omega), up2_n (by omega), up2_n (by omega)]
theorem cms_S3 {t : Sg} {D : Dy} {r p q k : Nat} (h : S3 D) (hm : nN (D 0 0) < 1440) : S3 (cms t D r p q k) := by
  have h2 : S3 (up2 D 16 r (nI 1)) := S3_of h (fun g i e => up2_n (by omega))
  unfold cms
  split
  · split
    · exact los_S3 h hm
    · split
      · exact los_S3 h hm
      · exact h
  · split
    · split
      · exact los_S3 h2 (by rw [up2_n (by omega)]; exact hm)
      · exact h2
    · exact tak_S3 h hm
theorem S3_gmin {t : Sg} {D : Dy} (h : S3 D) (hm : nN (D 0 0) < 1440) : S3 (gmin t D) := by
  have a1 : S3 (g1 t D) := S3_of h (fun g i e => (fr_e (fun _ _ => gr_o (by omega)) _ _).trans (gz_o (by omega)))
  have a2 : S3 (g2 t D) := S3_of a1 (fun g i e => fr_e (fun _ _ => mnd_o (by omega)) _ _)
  have a3 : S3 (g3 t D) := S3_of a2 (fun g i e => fr_e (fun _ _ => gp_o (by omega)) _ _)
  have a4 : S3 (g4 t D) := S3_of a3 (fun g i e => drs_o (by omega))
  have m4 : nN (g4 t D 0 0) < 1440 := by rw [g4_o]; exact hm
  have a5 : S3 (g5 t D) ∧ nN (g5 t D 0 0) < 1440 := fr_I (P := fun E => S3 E ∧ nN (E 0 0) < 1440) (fun n E _ hE => ⟨by
    unfold gc
    split
    · exact cms_S3 hE.1 hE.2
    · exact hE.1, by rw [gc_o (by omega)]; exact hE.2⟩) ⟨a4, m4⟩ (nR t) (Nat.le_refl _)
  have a6 : S3 (g6 t D) ∧ nN (g6 t D 0 0) < 1440 := fr_I (P := fun E => S3 E ∧ nN (E 0 0) < 1440) (fun n E _ hE => ⟨ge_S3 hE.1 hE.2, by rw [ge_o (by omega)]; exact hE.2⟩) a5 (nP t) (Nat.le_refl _)
  exact S3_of a6.1 (fun g i e => up2_n (by omega))
theorem S3_bgn {t : Sg} {D : Dy} : S3 (bgn t D) := fun p hp => by
  have z : ∀ f, 7 ≤ f ∧ f ≤ 9 → sI (fun y => bgn t D f (24 * p + y)) 24 = nI 0 := fun f hf => (sI_cong (g' := fun _ => nI 0) 24 (fun y hy => bgn_z (by omega) (by rcases (show f = 7 ∨ f = 8 ∨ f = 9 by omega) with rfl | rfl | rfl <;> (show 24 * p + y < 288; omega)))).trans (by decide)
  rw [z 7 (by omega), z 8 (by omega), z 9 (by omega)]
  exact ⟨bgn_z (by omega) (by show p < 12; omega), bgn_z (by omega) (by show p < 12; omega), bgn_z (by omega) (by show p < 12; omega)⟩
theorem S3_dos {D : Dy} {w a : Nat} {b : Int32} (h : S3 D) : S3 (dos D w a b) := S3_of h (fun g i e => dos_f (by omega))
theorem S3_itr {t : Sg} {D : Dy} (h : S3 D) (hM : MI t D) (hI : TI t) : ∀ n, nN (D 0 0) + n ≤ 1440 → S3 (itr (gmin t) n D) ∧ MI t (itr (gmin t) n D) ∧ nN (itr (gmin t) n D 0 0) = nN (D 0 0) + n
  | 0, _ => ⟨h, hM, rfl⟩
  | n + 1, hn => by
    obtain ⟨h1, h2, h3⟩ := S3_itr h hM hI n (by omega)
    rw [itr_S]
    exact ⟨S3_gmin h1 (by omega), gmin_MI hI h2 (by omega), by rw [gmin_0, nN_nI (by omega)]; omega⟩
